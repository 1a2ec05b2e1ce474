section
-- ===== PART A: goes FIRST, ahead of the names: the tables' words, and 'selects' of the private methods out of them =====
/-- a private method of a class that the tables say can be made, by its rows of tables_1 -/
def lw_okq (q : MethodName × Nat) : Prop := (q.1.cls ≠ "java/lang/invoke/MethodHandle" ∧ q.1.cls ≠ "java/lang/invoke/VarHandle") ∧ Cond.instantiable q.1.cls q.2 ∈ tables_1 ∧ Cond.privateMethod q.1 ∈ tables_1 ∧ Cond.instanceMethod q.1 ∈ tables_1
theorem lw_p0 : lw_okq (⟨"BandPace", "found", "(I)I"⟩, 11) := ⟨⟨by decide +kernel, by decide +kernel⟩, List.mem_of_getElem? (i := 13) (by decide +kernel), List.mem_of_getElem? (i := 287) (by decide +kernel), List.mem_of_getElem? (i := 288) (by decide +kernel)⟩
theorem lw_p1 : lw_okq (⟨"BandPace", "withoutFinding", "(I)I"⟩, 11) := ⟨⟨by decide +kernel, by decide +kernel⟩, List.mem_of_getElem? (i := 13) (by decide +kernel), List.mem_of_getElem? (i := 296) (by decide +kernel), List.mem_of_getElem? (i := 297) (by decide +kernel)⟩
theorem lw_p2 : lw_okq (⟨"BandPace$Tape", "readLaw", "(LBandPace$Band;)Z"⟩, 7) := ⟨⟨by decide +kernel, by decide +kernel⟩, List.mem_of_getElem? (i := 42) (by decide +kernel), List.mem_of_getElem? (i := 360) (by decide +kernel), List.mem_of_getElem? (i := 361) (by decide +kernel)⟩
theorem lw_p3 : lw_okq (⟨"BandPace$Tape", "takes", "(I)Z"⟩, 7) := ⟨⟨by decide +kernel, by decide +kernel⟩, List.mem_of_getElem? (i := 42) (by decide +kernel), List.mem_of_getElem? (i := 364) (by decide +kernel), List.mem_of_getElem? (i := 365) (by decide +kernel)⟩
theorem lw_p4 : lw_okq (⟨"BandPace$Tape", "sign", "()I"⟩, 7) := ⟨⟨by decide +kernel, by decide +kernel⟩, List.mem_of_getElem? (i := 42) (by decide +kernel), List.mem_of_getElem? (i := 368) (by decide +kernel), List.mem_of_getElem? (i := 369) (by decide +kernel)⟩
theorem lw_p5 : lw_okq (⟨"BandPace$Tape", "signAt", "(I)I"⟩, 7) := ⟨⟨by decide +kernel, by decide +kernel⟩, List.mem_of_getElem? (i := 42) (by decide +kernel), List.mem_of_getElem? (i := 372) (by decide +kernel), List.mem_of_getElem? (i := 373) (by decide +kernel)⟩
theorem lw_p6 : lw_okq (⟨"BandPace$Tape", "fails", "(I)Z"⟩, 7) := ⟨⟨by decide +kernel, by decide +kernel⟩, List.mem_of_getElem? (i := 42) (by decide +kernel), List.mem_of_getElem? (i := 376) (by decide +kernel), List.mem_of_getElem? (i := 377) (by decide +kernel)⟩
theorem lw_p7 : lw_okq (⟨"BandPace$Tape", "takesNumber", "(II)Z"⟩, 7) := ⟨⟨by decide +kernel, by decide +kernel⟩, List.mem_of_getElem? (i := 42) (by decide +kernel), List.mem_of_getElem? (i := 380) (by decide +kernel), List.mem_of_getElem? (i := 381) (by decide +kernel)⟩
theorem lw_p8 : lw_okq (⟨"BandPace$Tape", "seesNumber", "()Z"⟩, 7) := ⟨⟨by decide +kernel, by decide +kernel⟩, List.mem_of_getElem? (i := 42) (by decide +kernel), List.mem_of_getElem? (i := 384) (by decide +kernel), List.mem_of_getElem? (i := 385) (by decide +kernel)⟩
theorem lw_p9 : lw_okq (⟨"BandPace$Tape", "readSong", "(LBandPace$Band;)Z"⟩, 7) := ⟨⟨by decide +kernel, by decide +kernel⟩, List.mem_of_getElem? (i := 42) (by decide +kernel), List.mem_of_getElem? (i := 392) (by decide +kernel), List.mem_of_getElem? (i := 393) (by decide +kernel)⟩
theorem lw_p10 : lw_okq (⟨"BandPace$Tape", "readPlayers", "(LBandPace$Band;)Z"⟩, 7) := ⟨⟨by decide +kernel, by decide +kernel⟩, List.mem_of_getElem? (i := 42) (by decide +kernel), List.mem_of_getElem? (i := 399) (by decide +kernel), List.mem_of_getElem? (i := 400) (by decide +kernel)⟩
theorem lw_p11 : lw_okq (⟨"BandPace$Tape", "readPlayer", "(LBandPace$Band;)Z"⟩, 7) := ⟨⟨by decide +kernel, by decide +kernel⟩, List.mem_of_getElem? (i := 42) (by decide +kernel), List.mem_of_getElem? (i := 406) (by decide +kernel), List.mem_of_getElem? (i := 407) (by decide +kernel)⟩
theorem lw_p12 : lw_okq (⟨"BandPace$Tape", "readEars", "(LBandPace$Band;)Z"⟩, 7) := ⟨⟨by decide +kernel, by decide +kernel⟩, List.mem_of_getElem? (i := 42) (by decide +kernel), List.mem_of_getElem? (i := 410) (by decide +kernel), List.mem_of_getElem? (i := 411) (by decide +kernel)⟩
theorem lw_p13 : lw_okq (⟨"BandPace$Tape", "readEar", "(LBandPace$Band;)Z"⟩, 7) := ⟨⟨by decide +kernel, by decide +kernel⟩, List.mem_of_getElem? (i := 42) (by decide +kernel), List.mem_of_getElem? (i := 414) (by decide +kernel), List.mem_of_getElem? (i := 415) (by decide +kernel)⟩
theorem lw_p14 : lw_okq (⟨"BandPace$Tape", "takesHeard", "(LBandPace$Band;I)Z"⟩, 7) := ⟨⟨by decide +kernel, by decide +kernel⟩, List.mem_of_getElem? (i := 42) (by decide +kernel), List.mem_of_getElem? (i := 418) (by decide +kernel), List.mem_of_getElem? (i := 419) (by decide +kernel)⟩
theorem lw_p15 : lw_okq (⟨"BandPace$Band", "paceBehind", "(II)I"⟩, 14) := ⟨⟨by decide +kernel, by decide +kernel⟩, List.mem_of_getElem? (i := 73) (by decide +kernel), List.mem_of_getElem? (i := 489) (by decide +kernel), List.mem_of_getElem? (i := 490) (by decide +kernel)⟩
def lw_privs_1 : List (MethodName × Nat) := [(⟨"BandPace", "found", "(I)I"⟩, 11), (⟨"BandPace", "withoutFinding", "(I)I"⟩, 11), (⟨"BandPace$Tape", "readLaw", "(LBandPace$Band;)Z"⟩, 7), (⟨"BandPace$Tape", "takes", "(I)Z"⟩, 7), (⟨"BandPace$Tape", "sign", "()I"⟩, 7), (⟨"BandPace$Tape", "signAt", "(I)I"⟩, 7), (⟨"BandPace$Tape", "fails", "(I)Z"⟩, 7), (⟨"BandPace$Tape", "takesNumber", "(II)Z"⟩, 7), (⟨"BandPace$Tape", "seesNumber", "()Z"⟩, 7), (⟨"BandPace$Tape", "readSong", "(LBandPace$Band;)Z"⟩, 7), (⟨"BandPace$Tape", "readPlayers", "(LBandPace$Band;)Z"⟩, 7), (⟨"BandPace$Tape", "readPlayer", "(LBandPace$Band;)Z"⟩, 7), (⟨"BandPace$Tape", "readEars", "(LBandPace$Band;)Z"⟩, 7), (⟨"BandPace$Tape", "readEar", "(LBandPace$Band;)Z"⟩, 7), (⟨"BandPace$Tape", "takesHeard", "(LBandPace$Band;I)Z"⟩, 7), (⟨"BandPace$Band", "paceBehind", "(II)I"⟩, 14)]
theorem lw_r1 : ∀ q ∈ lw_privs_1, lw_okq q := List.forall_mem_cons.mpr ⟨lw_p0, List.forall_mem_cons.mpr ⟨lw_p1, List.forall_mem_cons.mpr ⟨lw_p2, List.forall_mem_cons.mpr ⟨lw_p3, List.forall_mem_cons.mpr ⟨lw_p4, List.forall_mem_cons.mpr ⟨lw_p5, List.forall_mem_cons.mpr ⟨lw_p6, List.forall_mem_cons.mpr ⟨lw_p7, List.forall_mem_cons.mpr ⟨lw_p8, List.forall_mem_cons.mpr ⟨lw_p9, List.forall_mem_cons.mpr ⟨lw_p10, List.forall_mem_cons.mpr ⟨lw_p11, List.forall_mem_cons.mpr ⟨lw_p12, List.forall_mem_cons.mpr ⟨lw_p13, List.forall_mem_cons.mpr ⟨lw_p14, List.forall_mem_cons.mpr ⟨lw_p15, fun _ h => absurd h List.not_mem_nil⟩⟩⟩⟩⟩⟩⟩⟩⟩⟩⟩⟩⟩⟩⟩⟩
theorem lw_p16 : lw_okq (⟨"BandPace$Band", "pull", "(I)I"⟩, 14) := ⟨⟨by decide +kernel, by decide +kernel⟩, List.mem_of_getElem? (i := 73) (by decide +kernel), List.mem_of_getElem? (i := 493) (by decide +kernel), List.mem_of_getElem? (i := 494) (by decide +kernel)⟩
theorem lw_p17 : lw_okq (⟨"BandPace$Band", "nearing", "(II)I"⟩, 14) := ⟨⟨by decide +kernel, by decide +kernel⟩, List.mem_of_getElem? (i := 73) (by decide +kernel), List.mem_of_getElem? (i := 501) (by decide +kernel), List.mem_of_getElem? (i := 502) (by decide +kernel)⟩
theorem lw_p18 : lw_okq (⟨"BandPace$Seer", "remember", "(I)V"⟩, 6) := ⟨⟨by decide +kernel, by decide +kernel⟩, List.mem_of_getElem? (i := 166) (by decide +kernel), List.mem_of_getElem? (i := 583) (by decide +kernel), List.mem_of_getElem? (i := 584) (by decide +kernel)⟩
theorem lw_p19 : lw_okq (⟨"BandPace$Seer", "isAs", "(I)Z"⟩, 6) := ⟨⟨by decide +kernel, by decide +kernel⟩, List.mem_of_getElem? (i := 166) (by decide +kernel), List.mem_of_getElem? (i := 588) (by decide +kernel), List.mem_of_getElem? (i := 589) (by decide +kernel)⟩
theorem lw_p20 : lw_okq (⟨"BandPace$Seer", "keepNearest", "(II)V"⟩, 6) := ⟨⟨by decide +kernel, by decide +kernel⟩, List.mem_of_getElem? (i := 166) (by decide +kernel), List.mem_of_getElem? (i := 640) (by decide +kernel), List.mem_of_getElem? (i := 641) (by decide +kernel)⟩
theorem lw_p21 : lw_okq (⟨"BandPace$Seer", "passesUnnoticed", "(LBandPace$Band;IIII)Z"⟩, 6) := ⟨⟨by decide +kernel, by decide +kernel⟩, List.mem_of_getElem? (i := 166) (by decide +kernel), List.mem_of_getElem? (i := 672) (by decide +kernel), List.mem_of_getElem? (i := 673) (by decide +kernel)⟩
theorem lw_p22 : lw_okq (⟨"BandPace$Orders", "changes", "([II)I"⟩, 3) := ⟨⟨by decide +kernel, by decide +kernel⟩, List.mem_of_getElem? (i := 195) (by decide +kernel), List.mem_of_getElem? (i := 686) (by decide +kernel), List.mem_of_getElem? (i := 687) (by decide +kernel)⟩
theorem lw_p23 : lw_okq (⟨"BandPace$Orders", "step", "(I)Z"⟩, 3) := ⟨⟨by decide +kernel, by decide +kernel⟩, List.mem_of_getElem? (i := 195) (by decide +kernel), List.mem_of_getElem? (i := 692) (by decide +kernel), List.mem_of_getElem? (i := 693) (by decide +kernel)⟩
theorem lw_p24 : lw_okq (⟨"BandPace$Orders", "swap", "(II)V"⟩, 3) := ⟨⟨by decide +kernel, by decide +kernel⟩, List.mem_of_getElem? (i := 195) (by decide +kernel), List.mem_of_getElem? (i := 696) (by decide +kernel), List.mem_of_getElem? (i := 697) (by decide +kernel)⟩
theorem lw_p25 : lw_okq (⟨"BandPace$Seer", "leastPush", "(LBandPace$Band;I[I)I"⟩, 6) := ⟨⟨by decide +kernel, by decide +kernel⟩, List.mem_of_getElem? (i := 166) (by decide +kernel), List.mem_of_getElem? (i := 717) (by decide +kernel), List.mem_of_getElem? (i := 718) (by decide +kernel)⟩
theorem lw_p26 : lw_okq (⟨"BandPace$Seer", "hasPaces", "([I)Z"⟩, 6) := ⟨⟨by decide +kernel, by decide +kernel⟩, List.mem_of_getElem? (i := 166) (by decide +kernel), List.mem_of_getElem? (i := 721) (by decide +kernel), List.mem_of_getElem? (i := 722) (by decide +kernel)⟩
theorem lw_p27 : lw_okq (⟨"BandPace$Asks", "sizeBody", "()I"⟩, 6) := ⟨⟨by decide +kernel, by decide +kernel⟩, List.mem_of_getElem? (i := 213) (by decide +kernel), List.mem_of_getElem? (i := 761) (by decide +kernel), List.mem_of_getElem? (i := 762) (by decide +kernel)⟩
theorem lw_p28 : lw_okq (⟨"BandPace$Asks", "markBody", "()I"⟩, 6) := ⟨⟨by decide +kernel, by decide +kernel⟩, List.mem_of_getElem? (i := 213) (by decide +kernel), List.mem_of_getElem? (i := 768) (by decide +kernel), List.mem_of_getElem? (i := 769) (by decide +kernel)⟩
theorem lw_p29 : lw_okq (⟨"BandPace$Asks", "run", "(II)I"⟩, 6) := ⟨⟨by decide +kernel, by decide +kernel⟩, List.mem_of_getElem? (i := 213) (by decide +kernel), List.mem_of_getElem? (i := 774) (by decide +kernel), List.mem_of_getElem? (i := 775) (by decide +kernel)⟩
theorem lw_p30 : lw_okq (⟨"BandPace$Asks", "leave", "(I)V"⟩, 6) := ⟨⟨by decide +kernel, by decide +kernel⟩, List.mem_of_getElem? (i := 213) (by decide +kernel), List.mem_of_getElem? (i := 778) (by decide +kernel), List.mem_of_getElem? (i := 779) (by decide +kernel)⟩
theorem lw_p31 : lw_okq (⟨"BandPaceModel", "found", "(I)I"⟩, 26) := ⟨⟨by decide +kernel, by decide +kernel⟩, List.mem_of_getElem? (i := 799) (by decide +kernel), List.mem_of_getElem? (i := 898) (by decide +kernel), List.mem_of_getElem? (i := 899) (by decide +kernel)⟩
def lw_privs_2 : List (MethodName × Nat) := [(⟨"BandPace$Band", "pull", "(I)I"⟩, 14), (⟨"BandPace$Band", "nearing", "(II)I"⟩, 14), (⟨"BandPace$Seer", "remember", "(I)V"⟩, 6), (⟨"BandPace$Seer", "isAs", "(I)Z"⟩, 6), (⟨"BandPace$Seer", "keepNearest", "(II)V"⟩, 6), (⟨"BandPace$Seer", "passesUnnoticed", "(LBandPace$Band;IIII)Z"⟩, 6), (⟨"BandPace$Orders", "changes", "([II)I"⟩, 3), (⟨"BandPace$Orders", "step", "(I)Z"⟩, 3), (⟨"BandPace$Orders", "swap", "(II)V"⟩, 3), (⟨"BandPace$Seer", "leastPush", "(LBandPace$Band;I[I)I"⟩, 6), (⟨"BandPace$Seer", "hasPaces", "([I)Z"⟩, 6), (⟨"BandPace$Asks", "sizeBody", "()I"⟩, 6), (⟨"BandPace$Asks", "markBody", "()I"⟩, 6), (⟨"BandPace$Asks", "run", "(II)I"⟩, 6), (⟨"BandPace$Asks", "leave", "(I)V"⟩, 6), (⟨"BandPaceModel", "found", "(I)I"⟩, 26)]
theorem lw_r2 : ∀ q ∈ lw_privs_2, lw_okq q := List.forall_mem_cons.mpr ⟨lw_p16, List.forall_mem_cons.mpr ⟨lw_p17, List.forall_mem_cons.mpr ⟨lw_p18, List.forall_mem_cons.mpr ⟨lw_p19, List.forall_mem_cons.mpr ⟨lw_p20, List.forall_mem_cons.mpr ⟨lw_p21, List.forall_mem_cons.mpr ⟨lw_p22, List.forall_mem_cons.mpr ⟨lw_p23, List.forall_mem_cons.mpr ⟨lw_p24, List.forall_mem_cons.mpr ⟨lw_p25, List.forall_mem_cons.mpr ⟨lw_p26, List.forall_mem_cons.mpr ⟨lw_p27, List.forall_mem_cons.mpr ⟨lw_p28, List.forall_mem_cons.mpr ⟨lw_p29, List.forall_mem_cons.mpr ⟨lw_p30, List.forall_mem_cons.mpr ⟨lw_p31, fun _ h => absurd h List.not_mem_nil⟩⟩⟩⟩⟩⟩⟩⟩⟩⟩⟩⟩⟩⟩⟩⟩
theorem lw_p32 : lw_okq (⟨"BandPaceModel", "well", "(I)I"⟩, 26) := ⟨⟨by decide +kernel, by decide +kernel⟩, List.mem_of_getElem? (i := 799) (by decide +kernel), List.mem_of_getElem? (i := 903) (by decide +kernel), List.mem_of_getElem? (i := 904) (by decide +kernel)⟩
theorem lw_p33 : lw_okq (⟨"BandPaceModel", "against", "(III)I"⟩, 26) := ⟨⟨by decide +kernel, by decide +kernel⟩, List.mem_of_getElem? (i := 799) (by decide +kernel), List.mem_of_getElem? (i := 911) (by decide +kernel), List.mem_of_getElem? (i := 912) (by decide +kernel)⟩
theorem lw_p34 : lw_okq (⟨"BandPaceModel", "isBand", "()Z"⟩, 26) := ⟨⟨by decide +kernel, by decide +kernel⟩, List.mem_of_getElem? (i := 799) (by decide +kernel), List.mem_of_getElem? (i := 936) (by decide +kernel), List.mem_of_getElem? (i := 937) (by decide +kernel)⟩
theorem lw_p35 : lw_okq (⟨"BandPaceModel", "takesLaw", "()Z"⟩, 26) := ⟨⟨by decide +kernel, by decide +kernel⟩, List.mem_of_getElem? (i := 799) (by decide +kernel), List.mem_of_getElem? (i := 940) (by decide +kernel), List.mem_of_getElem? (i := 941) (by decide +kernel)⟩
theorem lw_p36 : lw_okq (⟨"BandPaceModel", "takes", "(I)Z"⟩, 26) := ⟨⟨by decide +kernel, by decide +kernel⟩, List.mem_of_getElem? (i := 799) (by decide +kernel), List.mem_of_getElem? (i := 944) (by decide +kernel), List.mem_of_getElem? (i := 945) (by decide +kernel)⟩
theorem lw_p37 : lw_okq (⟨"BandPaceModel", "byteAt", "(I)I"⟩, 26) := ⟨⟨by decide +kernel, by decide +kernel⟩, List.mem_of_getElem? (i := 799) (by decide +kernel), List.mem_of_getElem? (i := 948) (by decide +kernel), List.mem_of_getElem? (i := 949) (by decide +kernel)⟩
theorem lw_p38 : lw_okq (⟨"BandPaceModel", "takesNumber", "(II)Z"⟩, 26) := ⟨⟨by decide +kernel, by decide +kernel⟩, List.mem_of_getElem? (i := 799) (by decide +kernel), List.mem_of_getElem? (i := 952) (by decide +kernel), List.mem_of_getElem? (i := 953) (by decide +kernel)⟩
theorem lw_p39 : lw_okq (⟨"BandPaceModel", "isFigure", "(I)Z"⟩, 26) := ⟨⟨by decide +kernel, by decide +kernel⟩, List.mem_of_getElem? (i := 799) (by decide +kernel), List.mem_of_getElem? (i := 956) (by decide +kernel), List.mem_of_getElem? (i := 957) (by decide +kernel)⟩
theorem lw_p40 : lw_okq (⟨"BandPaceModel", "takesSong", "()Z"⟩, 26) := ⟨⟨by decide +kernel, by decide +kernel⟩, List.mem_of_getElem? (i := 799) (by decide +kernel), List.mem_of_getElem? (i := 962) (by decide +kernel), List.mem_of_getElem? (i := 963) (by decide +kernel)⟩
theorem lw_p41 : lw_okq (⟨"BandPaceModel", "isMore", "()Z"⟩, 26) := ⟨⟨by decide +kernel, by decide +kernel⟩, List.mem_of_getElem? (i := 799) (by decide +kernel), List.mem_of_getElem? (i := 969) (by decide +kernel), List.mem_of_getElem? (i := 970) (by decide +kernel)⟩
theorem lw_p42 : lw_okq (⟨"BandPaceModel", "takesPlayer", "()Z"⟩, 26) := ⟨⟨by decide +kernel, by decide +kernel⟩, List.mem_of_getElem? (i := 799) (by decide +kernel), List.mem_of_getElem? (i := 973) (by decide +kernel), List.mem_of_getElem? (i := 974) (by decide +kernel)⟩
theorem lw_p43 : lw_okq (⟨"BandPaceModel", "takesEar", "()Z"⟩, 26) := ⟨⟨by decide +kernel, by decide +kernel⟩, List.mem_of_getElem? (i := 799) (by decide +kernel), List.mem_of_getElem? (i := 980) (by decide +kernel), List.mem_of_getElem? (i := 981) (by decide +kernel)⟩
theorem lw_p44 : lw_okq (⟨"BandPaceModel", "isNone", "()Z"⟩, 26) := ⟨⟨by decide +kernel, by decide +kernel⟩, List.mem_of_getElem? (i := 799) (by decide +kernel), List.mem_of_getElem? (i := 998) (by decide +kernel), List.mem_of_getElem? (i := 999) (by decide +kernel)⟩
theorem lw_p45 : lw_okq (⟨"BandPaceModel", "minds", "()V"⟩, 26) := ⟨⟨by decide +kernel, by decide +kernel⟩, List.mem_of_getElem? (i := 799) (by decide +kernel), List.mem_of_getElem? (i := 1003) (by decide +kernel), List.mem_of_getElem? (i := 1004) (by decide +kernel)⟩
theorem lw_p46 : lw_okq (⟨"BandPaceModel", "layNow", "()V"⟩, 26) := ⟨⟨by decide +kernel, by decide +kernel⟩, List.mem_of_getElem? (i := 799) (by decide +kernel), List.mem_of_getElem? (i := 1007) (by decide +kernel), List.mem_of_getElem? (i := 1008) (by decide +kernel)⟩
theorem lw_p47 : lw_okq (⟨"BandPaceModel", "plays", "()V"⟩, 26) := ⟨⟨by decide +kernel, by decide +kernel⟩, List.mem_of_getElem? (i := 799) (by decide +kernel), List.mem_of_getElem? (i := 1011) (by decide +kernel), List.mem_of_getElem? (i := 1012) (by decide +kernel)⟩
def lw_privs_3 : List (MethodName × Nat) := [(⟨"BandPaceModel", "well", "(I)I"⟩, 26), (⟨"BandPaceModel", "against", "(III)I"⟩, 26), (⟨"BandPaceModel", "isBand", "()Z"⟩, 26), (⟨"BandPaceModel", "takesLaw", "()Z"⟩, 26), (⟨"BandPaceModel", "takes", "(I)Z"⟩, 26), (⟨"BandPaceModel", "byteAt", "(I)I"⟩, 26), (⟨"BandPaceModel", "takesNumber", "(II)Z"⟩, 26), (⟨"BandPaceModel", "isFigure", "(I)Z"⟩, 26), (⟨"BandPaceModel", "takesSong", "()Z"⟩, 26), (⟨"BandPaceModel", "isMore", "()Z"⟩, 26), (⟨"BandPaceModel", "takesPlayer", "()Z"⟩, 26), (⟨"BandPaceModel", "takesEar", "()Z"⟩, 26), (⟨"BandPaceModel", "isNone", "()Z"⟩, 26), (⟨"BandPaceModel", "minds", "()V"⟩, 26), (⟨"BandPaceModel", "layNow", "()V"⟩, 26), (⟨"BandPaceModel", "plays", "()V"⟩, 26)]
theorem lw_r3 : ∀ q ∈ lw_privs_3, lw_okq q := List.forall_mem_cons.mpr ⟨lw_p32, List.forall_mem_cons.mpr ⟨lw_p33, List.forall_mem_cons.mpr ⟨lw_p34, List.forall_mem_cons.mpr ⟨lw_p35, List.forall_mem_cons.mpr ⟨lw_p36, List.forall_mem_cons.mpr ⟨lw_p37, List.forall_mem_cons.mpr ⟨lw_p38, List.forall_mem_cons.mpr ⟨lw_p39, List.forall_mem_cons.mpr ⟨lw_p40, List.forall_mem_cons.mpr ⟨lw_p41, List.forall_mem_cons.mpr ⟨lw_p42, List.forall_mem_cons.mpr ⟨lw_p43, List.forall_mem_cons.mpr ⟨lw_p44, List.forall_mem_cons.mpr ⟨lw_p45, List.forall_mem_cons.mpr ⟨lw_p46, List.forall_mem_cons.mpr ⟨lw_p47, fun _ h => absurd h List.not_mem_nil⟩⟩⟩⟩⟩⟩⟩⟩⟩⟩⟩⟩⟩⟩⟩⟩
theorem lw_p48 : lw_okq (⟨"BandPaceModel", "paceBehind", "(II)I"⟩, 26) := ⟨⟨by decide +kernel, by decide +kernel⟩, List.mem_of_getElem? (i := 799) (by decide +kernel), List.mem_of_getElem? (i := 1015) (by decide +kernel), List.mem_of_getElem? (i := 1016) (by decide +kernel)⟩
theorem lw_p49 : lw_okq (⟨"BandPaceModel", "leanAt", "(II)I"⟩, 26) := ⟨⟨by decide +kernel, by decide +kernel⟩, List.mem_of_getElem? (i := 799) (by decide +kernel), List.mem_of_getElem? (i := 1019) (by decide +kernel), List.mem_of_getElem? (i := 1020) (by decide +kernel)⟩
theorem lw_p50 : lw_okq (⟨"BandPaceModel", "meanNow", "()I"⟩, 26) := ⟨⟨by decide +kernel, by decide +kernel⟩, List.mem_of_getElem? (i := 799) (by decide +kernel), List.mem_of_getElem? (i := 1026) (by decide +kernel), List.mem_of_getElem? (i := 1027) (by decide +kernel)⟩
theorem lw_p51 : lw_okq (⟨"BandPaceModel", "isPlayer", "(I)Z"⟩, 26) := ⟨⟨by decide +kernel, by decide +kernel⟩, List.mem_of_getElem? (i := 799) (by decide +kernel), List.mem_of_getElem? (i := 1034) (by decide +kernel), List.mem_of_getElem? (i := 1035) (by decide +kernel)⟩
theorem lw_p52 : lw_okq (⟨"BandPaceModel", "playsMany", "(I)V"⟩, 26) := ⟨⟨by decide +kernel, by decide +kernel⟩, List.mem_of_getElem? (i := 799) (by decide +kernel), List.mem_of_getElem? (i := 1073) (by decide +kernel), List.mem_of_getElem? (i := 1074) (by decide +kernel)⟩
theorem lw_p53 : lw_okq (⟨"BandPaceModel", "mean", "()I"⟩, 26) := ⟨⟨by decide +kernel, by decide +kernel⟩, List.mem_of_getElem? (i := 799) (by decide +kernel), List.mem_of_getElem? (i := 1077) (by decide +kernel), List.mem_of_getElem? (i := 1078) (by decide +kernel)⟩
theorem lw_p54 : lw_okq (⟨"BandPaceModel", "driftBy", "()I"⟩, 26) := ⟨⟨by decide +kernel, by decide +kernel⟩, List.mem_of_getElem? (i := 799) (by decide +kernel), List.mem_of_getElem? (i := 1085) (by decide +kernel), List.mem_of_getElem? (i := 1086) (by decide +kernel)⟩
theorem lw_p55 : lw_okq (⟨"BandPaceModel", "areAlike", "(II)Z"⟩, 26) := ⟨⟨by decide +kernel, by decide +kernel⟩, List.mem_of_getElem? (i := 799) (by decide +kernel), List.mem_of_getElem? (i := 1093) (by decide +kernel), List.mem_of_getElem? (i := 1094) (by decide +kernel)⟩
theorem lw_p56 : lw_okq (⟨"BandPaceModel", "farBy", "(IIIII)I"⟩, 26) := ⟨⟨by decide +kernel, by decide +kernel⟩, List.mem_of_getElem? (i := 799) (by decide +kernel), List.mem_of_getElem? (i := 1131) (by decide +kernel), List.mem_of_getElem? (i := 1132) (by decide +kernel)⟩
theorem lw_p57 : lw_okq (⟨"BandPaceModel", "between", "(III)I"⟩, 26) := ⟨⟨by decide +kernel, by decide +kernel⟩, List.mem_of_getElem? (i := 799) (by decide +kernel), List.mem_of_getElem? (i := 1141) (by decide +kernel), List.mem_of_getElem? (i := 1142) (by decide +kernel)⟩
theorem lw_p58 : lw_okq (⟨"BandPaceModel", "pushBy", "(II)I"⟩, 26) := ⟨⟨by decide +kernel, by decide +kernel⟩, List.mem_of_getElem? (i := 799) (by decide +kernel), List.mem_of_getElem? (i := 1153) (by decide +kernel), List.mem_of_getElem? (i := 1154) (by decide +kernel)⟩
theorem lw_p59 : lw_okq (⟨"BandPaceModel", "sizeOf", "(I)I"⟩, 26) := ⟨⟨by decide +kernel, by decide +kernel⟩, List.mem_of_getElem? (i := 799) (by decide +kernel), List.mem_of_getElem? (i := 1189) (by decide +kernel), List.mem_of_getElem? (i := 1190) (by decide +kernel)⟩
theorem lw_p60 : lw_okq (⟨"BandPaceModel", "leaves", "(I)V"⟩, 26) := ⟨⟨by decide +kernel, by decide +kernel⟩, List.mem_of_getElem? (i := 799) (by decide +kernel), List.mem_of_getElem? (i := 1193) (by decide +kernel), List.mem_of_getElem? (i := 1194) (by decide +kernel)⟩
theorem lw_p61 : lw_okq (⟨"BandPaceModel", "steadySize", "(I)I"⟩, 26) := ⟨⟨by decide +kernel, by decide +kernel⟩, List.mem_of_getElem? (i := 799) (by decide +kernel), List.mem_of_getElem? (i := 1197) (by decide +kernel), List.mem_of_getElem? (i := 1198) (by decide +kernel)⟩
theorem lw_p62 : lw_okq (⟨"BandPaceModel", "bareSize", "(I)I"⟩, 26) := ⟨⟨by decide +kernel, by decide +kernel⟩, List.mem_of_getElem? (i := 799) (by decide +kernel), List.mem_of_getElem? (i := 1201) (by decide +kernel), List.mem_of_getElem? (i := 1202) (by decide +kernel)⟩
theorem lw_p63 : lw_okq (⟨"BandPaceModel", "markOfSteady", "(I)I"⟩, 26) := ⟨⟨by decide +kernel, by decide +kernel⟩, List.mem_of_getElem? (i := 799) (by decide +kernel), List.mem_of_getElem? (i := 1205) (by decide +kernel), List.mem_of_getElem? (i := 1206) (by decide +kernel)⟩
def lw_privs_4 : List (MethodName × Nat) := [(⟨"BandPaceModel", "paceBehind", "(II)I"⟩, 26), (⟨"BandPaceModel", "leanAt", "(II)I"⟩, 26), (⟨"BandPaceModel", "meanNow", "()I"⟩, 26), (⟨"BandPaceModel", "isPlayer", "(I)Z"⟩, 26), (⟨"BandPaceModel", "playsMany", "(I)V"⟩, 26), (⟨"BandPaceModel", "mean", "()I"⟩, 26), (⟨"BandPaceModel", "driftBy", "()I"⟩, 26), (⟨"BandPaceModel", "areAlike", "(II)Z"⟩, 26), (⟨"BandPaceModel", "farBy", "(IIIII)I"⟩, 26), (⟨"BandPaceModel", "between", "(III)I"⟩, 26), (⟨"BandPaceModel", "pushBy", "(II)I"⟩, 26), (⟨"BandPaceModel", "sizeOf", "(I)I"⟩, 26), (⟨"BandPaceModel", "leaves", "(I)V"⟩, 26), (⟨"BandPaceModel", "steadySize", "(I)I"⟩, 26), (⟨"BandPaceModel", "bareSize", "(I)I"⟩, 26), (⟨"BandPaceModel", "markOfSteady", "(I)I"⟩, 26)]
theorem lw_r4 : ∀ q ∈ lw_privs_4, lw_okq q := List.forall_mem_cons.mpr ⟨lw_p48, List.forall_mem_cons.mpr ⟨lw_p49, List.forall_mem_cons.mpr ⟨lw_p50, List.forall_mem_cons.mpr ⟨lw_p51, List.forall_mem_cons.mpr ⟨lw_p52, List.forall_mem_cons.mpr ⟨lw_p53, List.forall_mem_cons.mpr ⟨lw_p54, List.forall_mem_cons.mpr ⟨lw_p55, List.forall_mem_cons.mpr ⟨lw_p56, List.forall_mem_cons.mpr ⟨lw_p57, List.forall_mem_cons.mpr ⟨lw_p58, List.forall_mem_cons.mpr ⟨lw_p59, List.forall_mem_cons.mpr ⟨lw_p60, List.forall_mem_cons.mpr ⟨lw_p61, List.forall_mem_cons.mpr ⟨lw_p62, List.forall_mem_cons.mpr ⟨lw_p63, fun _ h => absurd h List.not_mem_nil⟩⟩⟩⟩⟩⟩⟩⟩⟩⟩⟩⟩⟩⟩⟩⟩
theorem lw_p64 : lw_okq (⟨"BandPaceModel", "steadyMark", "(I)I"⟩, 26) := ⟨⟨by decide +kernel, by decide +kernel⟩, List.mem_of_getElem? (i := 799) (by decide +kernel), List.mem_of_getElem? (i := 1209) (by decide +kernel), List.mem_of_getElem? (i := 1210) (by decide +kernel)⟩
theorem lw_p65 : lw_okq (⟨"BandPaceModel", "bareMark", "(I)I"⟩, 26) := ⟨⟨by decide +kernel, by decide +kernel⟩, List.mem_of_getElem? (i := 799) (by decide +kernel), List.mem_of_getElem? (i := 1213) (by decide +kernel), List.mem_of_getElem? (i := 1214) (by decide +kernel)⟩
theorem lw_p66 : lw_okq (⟨"BandPaceModel", "clickedSize", "(I)I"⟩, 26) := ⟨⟨by decide +kernel, by decide +kernel⟩, List.mem_of_getElem? (i := 799) (by decide +kernel), List.mem_of_getElem? (i := 1217) (by decide +kernel), List.mem_of_getElem? (i := 1218) (by decide +kernel)⟩
theorem lw_p67 : lw_okq (⟨"BandPaceModel", "markOf", "(I)I"⟩, 26) := ⟨⟨by decide +kernel, by decide +kernel⟩, List.mem_of_getElem? (i := 799) (by decide +kernel), List.mem_of_getElem? (i := 1221) (by decide +kernel), List.mem_of_getElem? (i := 1222) (by decide +kernel)⟩
theorem lw_p68 : lw_okq (⟨"BandPaceModel", "rowsMany", "()I"⟩, 26) := ⟨⟨by decide +kernel, by decide +kernel⟩, List.mem_of_getElem? (i := 799) (by decide +kernel), List.mem_of_getElem? (i := 1233) (by decide +kernel), List.mem_of_getElem? (i := 1234) (by decide +kernel)⟩
def lw_privs_5 : List (MethodName × Nat) := [(⟨"BandPaceModel", "steadyMark", "(I)I"⟩, 26), (⟨"BandPaceModel", "bareMark", "(I)I"⟩, 26), (⟨"BandPaceModel", "clickedSize", "(I)I"⟩, 26), (⟨"BandPaceModel", "markOf", "(I)I"⟩, 26), (⟨"BandPaceModel", "rowsMany", "()I"⟩, 26)]
theorem lw_r5 : ∀ q ∈ lw_privs_5, lw_okq q := List.forall_mem_cons.mpr ⟨lw_p64, List.forall_mem_cons.mpr ⟨lw_p65, List.forall_mem_cons.mpr ⟨lw_p66, List.forall_mem_cons.mpr ⟨lw_p67, List.forall_mem_cons.mpr ⟨lw_p68, fun _ h => absurd h List.not_mem_nil⟩⟩⟩⟩⟩
def lw_privs : List (MethodName × Nat) := lw_privs_1 ++ (lw_privs_2 ++ (lw_privs_3 ++ (lw_privs_4 ++ (lw_privs_5))))
def lw_tbl : List Cond := k2_sels lw_privs ++ tables_1
theorem lw_privs_ok : ∀ q ∈ lw_privs, lw_okq q := by
  show ∀ q ∈ lw_privs_1 ++ (lw_privs_2 ++ (lw_privs_3 ++ (lw_privs_4 ++ (lw_privs_5)))), lw_okq q
  exact List.forall_mem_append.mpr ⟨lw_r1, List.forall_mem_append.mpr ⟨lw_r2, List.forall_mem_append.mpr ⟨lw_r3, List.forall_mem_append.mpr ⟨lw_r4, lw_r5⟩⟩⟩⟩
end
section
def RX0 : String := "BandPace$Acts"
def TX0 : u_T := fun k => match k with
  | 0 => ("BandPace$Acts", "cells", "[I", true)
  | 1 => ("BandPace$Acts", "oldest", "I", false)
  | _ => ("BandPace$Acts", "kept", "I", false)
def tyX0 : Nat → FieldType := fun k => match k with
  | 0 => .array .int
  | 1 => .int
  | _ => .int
abbrev wsX00 : List Cond := u_ws RX0 TX0 3
theorem nmX0 : ∀ a, a < 3 → ∀ b, b < 3 → a ≠ b → (TX0 a).2.1 ≠ (TX0 b).2.1 := by decide +kernel
theorem tyX0_ok : ∀ k, k < 3 → parseFieldDescriptor (TX0 k).2.2.1 = some (tyX0 k) := by decide +kernel
abbrev cX0_init : ByteArray := prog_2_method_1_code
def yX0_init : MethodName := ⟨RX0, "<init>", "()V"⟩
abbrev cX0_keep : ByteArray := prog_2_method_2_code
def yX0_keep : MethodName := ⟨RX0, "keep", "(LBandPace$Band;)V"⟩
abbrev cX0_takeBack : ByteArray := prog_2_method_3_code
def yX0_takeBack : MethodName := ⟨RX0, "takeBack", "(LBandPace$Band;)Z"⟩
abbrev cX0_forget : ByteArray := prog_2_method_4_code
def yX0_forget : MethodName := ⟨RX0, "forget", "()V"⟩
def RX1 : String := "BandPace$Asks"
def TX1 : u_T := fun k => match k with
  | 0 => ("BandPace$Asks", "numbers", "[I", true)
  | 1 => ("BandPace$Asks", "traced", "I", false)
  | 2 => ("BandPace$Asks", "one", "I", false)
  | 3 => ("BandPace$Asks", "sort", "I", false)
  | 4 => ("BandPace$Asks", "quickness", "I", false)
  | _ => ("BandPace$Asks", "haste", "I", false)
def tyX1 : Nat → FieldType := fun k => match k with
  | 0 => .array .int
  | 1 => .int
  | 2 => .int
  | 3 => .int
  | 4 => .int
  | _ => .int
abbrev wsX10 : List Cond := u_ws RX1 TX1 6
theorem nmX1 : ∀ a, a < 6 → ∀ b, b < 6 → a ≠ b → (TX1 a).2.1 ≠ (TX1 b).2.1 := by decide +kernel
theorem tyX1_ok : ∀ k, k < 6 → parseFieldDescriptor (TX1 k).2.2.1 = some (tyX1 k) := by decide +kernel
abbrev cX1_init : ByteArray := prog_3_method_1_code
def yX1_init : MethodName := ⟨RX1, "<init>", "()V"⟩
abbrev cX1_answer : ByteArray := prog_3_method_2_code
def yX1_answer : MethodName := ⟨RX1, "answer", "(LBandPace$Band;II)I"⟩
abbrev cX1_sizeBody : ByteArray := prog_3_method_3_code
def yX1_sizeBody : MethodName := ⟨RX1, "sizeBody", "()I"⟩
abbrev cX1_markBody : ByteArray := prog_3_method_4_code
def yX1_markBody : MethodName := ⟨RX1, "markBody", "()I"⟩
abbrev cX1_run : ByteArray := prog_3_method_5_code
def yX1_run : MethodName := ⟨RX1, "run", "(II)I"⟩
abbrev cX1_leave : ByteArray := prog_3_method_6_code
def yX1_leave : MethodName := ⟨RX1, "leave", "(I)V"⟩
def RX2 : String := "BandPace$Band"
def TX2 : u_T := fun k => match k with
  | 0 => ("BandPace$Band", "players", "I", false)
  | 1 => ("BandPace$Band", "length", "I", false)
  | 2 => ("BandPace$Band", "next", "I", false)
  | 3 => ("BandPace$Band", "gone", "I", false)
  | 4 => ("BandPace$Band", "rush", "I", false)
  | 5 => ("BandPace$Band", "drag", "I", false)
  | 6 => ("BandPace$Band", "push", "I", false)
  | 7 => ("BandPace$Band", "clickTold", "I", false)
  | 8 => ("BandPace$Band", "kinds", "[I", true)
  | 9 => ("BandPace$Band", "hastes", "[I", true)
  | 10 => ("BandPace$Band", "paces", "[I", true)
  | 11 => ("BandPace$Band", "fresh", "[I", true)
  | 12 => ("BandPace$Band", "weights", "[I", true)
  | _ => ("BandPace$Band", "song", "[I", true)
def tyX2 : Nat → FieldType := fun k => match k with
  | 0 => .int
  | 1 => .int
  | 2 => .int
  | 3 => .int
  | 4 => .int
  | 5 => .int
  | 6 => .int
  | 7 => .int
  | 8 => .array .int
  | 9 => .array .int
  | 10 => .array .int
  | 11 => .array .int
  | 12 => .array .int
  | _ => .array .int
abbrev wsX20 : List Cond := u_ws RX2 TX2 14
theorem nmX2 : ∀ a, a < 14 → ∀ b, b < 14 → a ≠ b → (TX2 a).2.1 ≠ (TX2 b).2.1 := by decide +kernel
theorem tyX2_ok : ∀ k, k < 14 → parseFieldDescriptor (TX2 k).2.2.1 = some (tyX2 k) := by decide +kernel
abbrev cX2_init : ByteArray := prog_4_method_1_code
def yX2_init : MethodName := ⟨RX2, "<init>", "()V"⟩
abbrev cX2_clear : ByteArray := prog_4_method_2_code
def yX2_clear : MethodName := ⟨RX2, "clear", "()V"⟩
abbrev cX2_become : ByteArray := prog_4_method_3_code
def yX2_become : MethodName := ⟨RX2, "become", "(LBandPace$Band;)V"⟩
abbrev cX2_write : ByteArray := prog_4_method_4_code
def yX2_write : MethodName := ⟨RX2, "write", "([II)V"⟩
abbrev cX2_read : ByteArray := prog_4_method_5_code
def yX2_read : MethodName := ⟨RX2, "read", "([II)V"⟩
abbrev cX2_stands : ByteArray := prog_4_method_6_code
def yX2_stands : MethodName := ⟨RX2, "stands", "()Z"⟩
abbrev cX2_has : ByteArray := prog_4_method_7_code
def yX2_has : MethodName := ⟨RX2, "has", "(I)Z"⟩
abbrev cX2_canHear : ByteArray := prog_4_method_8_code
def yX2_canHear : MethodName := ⟨RX2, "canHear", "(II)Z"⟩
abbrev cX2_weight : ByteArray := prog_4_method_9_code
def yX2_weight : MethodName := ⟨RX2, "weight", "(II)I"⟩
abbrev cX2_weigh : ByteArray := prog_4_method_10_code
def yX2_weigh : MethodName := ⟨RX2, "weigh", "(III)V"⟩
abbrev cX2_heardBy : ByteArray := prog_4_method_11_code
def yX2_heardBy : MethodName := ⟨RX2, "heardBy", "(I)I"⟩
abbrev cX2_barAt : ByteArray := prog_4_method_12_code
def yX2_barAt : MethodName := ⟨RX2, "barAt", "(I)I"⟩
abbrev cX2_together : ByteArray := prog_4_method_13_code
def yX2_together : MethodName := ⟨RX2, "together", "()I"⟩
abbrev cX2_quicken : ByteArray := prog_4_method_14_code
def yX2_quicken : MethodName := ⟨RX2, "quicken", "(I)V"⟩
abbrev cX2_leanAt : ByteArray := prog_4_method_15_code
def yX2_leanAt : MethodName := ⟨RX2, "leanAt", "(II)I"⟩
abbrev cX2_play : ByteArray := prog_4_method_16_code
def yX2_play : MethodName := ⟨RX2, "play", "()V"⟩
abbrev cX2_paceBehind : ByteArray := prog_4_method_17_code
def yX2_paceBehind : MethodName := ⟨RX2, "paceBehind", "(II)I"⟩
abbrev cX2_pull : ByteArray := prog_4_method_18_code
def yX2_pull : MethodName := ⟨RX2, "pull", "(I)I"⟩
abbrev cX2_nearing : ByteArray := prog_4_method_19_code
def yX2_nearing : MethodName := ⟨RX2, "nearing", "(II)I"⟩
def RX3 : String := "BandPace$Orders"
def TX3 : u_T := fun k => match k with
  | 0 => ("BandPace$Orders", "order", "[I", true)
  | 1 => ("BandPace$Orders", "best", "[I", true)
  | _ => ("BandPace$Orders", "least", "I", false)
def tyX3 : Nat → FieldType := fun k => match k with
  | 0 => .array .int
  | 1 => .array .int
  | _ => .int
abbrev wsX30 : List Cond := u_ws RX3 TX3 3
theorem nmX3 : ∀ a, a < 3 → ∀ b, b < 3 → a ≠ b → (TX3 a).2.1 ≠ (TX3 b).2.1 := by decide +kernel
theorem tyX3_ok : ∀ k, k < 3 → parseFieldDescriptor (TX3 k).2.2.1 = some (tyX3 k) := by decide +kernel
abbrev cX3_init : ByteArray := prog_5_method_1_code
def yX3_init : MethodName := ⟨RX3, "<init>", "()V"⟩
abbrev cX3_findLeast : ByteArray := prog_5_method_2_code
def yX3_findLeast : MethodName := ⟨RX3, "findLeast", "([II)V"⟩
abbrev cX3_changes : ByteArray := prog_5_method_3_code
def yX3_changes : MethodName := ⟨RX3, "changes", "([II)I"⟩
abbrev cX3_step : ByteArray := prog_5_method_4_code
def yX3_step : MethodName := ⟨RX3, "step", "(I)Z"⟩
abbrev cX3_swap : ByteArray := prog_5_method_5_code
def yX3_swap : MethodName := ⟨RX3, "swap", "(II)V"⟩
def RX4 : String := "BandPace$Rows"
def TX4 : u_T := fun k => match k with
  | 0 => ("BandPace$Rows", "lanes", "[I", true)
  | 1 => ("BandPace$Rows", "sizes", "[I", true)
  | 2 => ("BandPace$Rows", "items", "[I", true)
  | _ => ("BandPace$Rows", "lent", "[I", true)
def tyX4 : Nat → FieldType := fun k => match k with
  | 0 => .array .int
  | 1 => .array .int
  | 2 => .array .int
  | _ => .array .int
abbrev wsX40 : List Cond := u_ws RX4 TX4 4
theorem nmX4 : ∀ a, a < 4 → ∀ b, b < 4 → a ≠ b → (TX4 a).2.1 ≠ (TX4 b).2.1 := by decide +kernel
theorem tyX4_ok : ∀ k, k < 4 → parseFieldDescriptor (TX4 k).2.2.1 = some (tyX4 k) := by decide +kernel
abbrev cX4_init : ByteArray := prog_6_method_1_code
def yX4_init : MethodName := ⟨RX4, "<init>", "()V"⟩
abbrev cX4_isRow : ByteArray := prog_6_method_2_code
def yX4_isRow : MethodName := ⟨RX4, "isRow", "(I)Z"⟩
abbrev cX4_lacks : ByteArray := prog_6_method_3_code
def yX4_lacks : MethodName := ⟨RX4, "lacks", "(I)Z"⟩
abbrev cX4_laneOf : ByteArray := prog_6_method_4_code
def yX4_laneOf : MethodName := ⟨RX4, "laneOf", "(I)I"⟩
abbrev cX4_holds : ByteArray := prog_6_method_5_code
def yX4_holds : MethodName := ⟨RX4, "holds", "(III)Z"⟩
abbrev cX4_make : ByteArray := prog_6_method_6_code
def yX4_make : MethodName := ⟨RX4, "make", "(III)V"⟩
abbrev cX4_put : ByteArray := prog_6_method_7_code
def yX4_put : MethodName := ⟨RX4, "put", "(III)I"⟩
abbrev cX4_carry : ByteArray := prog_6_method_8_code
def yX4_carry : MethodName := ⟨RX4, "carry", "(IIIII)V"⟩
abbrev cX4_lend : ByteArray := prog_6_method_9_code
def yX4_lend : MethodName := ⟨RX4, "lend", "(III)V"⟩
abbrev cX4_forget : ByteArray := prog_6_method_10_code
def yX4_forget : MethodName := ⟨RX4, "forget", "(I)I"⟩
abbrev cX4_howMany : ByteArray := prog_6_method_11_code
def yX4_howMany : MethodName := ⟨RX4, "howMany", "()I"⟩
def RX5 : String := "BandPace$Seer"
def TX5 : u_T := fun k => match k with
  | 0 => ("BandPace$Seer", "trial", "LBandPace$Band;", true)
  | 1 => ("BandPace$Seer", "other", "LBandPace$Band;", true)
  | 2 => ("BandPace$Seer", "pastPaces", "[I", true)
  | 3 => ("BandPace$Seer", "pastNext", "[I", true)
  | 4 => ("BandPace$Seer", "first", "I", false)
  | _ => ("BandPace$Seer", "second", "I", false)
def tyX5 : Nat → FieldType := fun k => match k with
  | 0 => .object "BandPace$Band"
  | 1 => .object "BandPace$Band"
  | 2 => .array .int
  | 3 => .array .int
  | 4 => .int
  | _ => .int
abbrev wsX50 : List Cond := u_ws RX5 TX5 6
theorem nmX5 : ∀ a, a < 6 → ∀ b, b < 6 → a ≠ b → (TX5 a).2.1 ≠ (TX5 b).2.1 := by decide +kernel
theorem tyX5_ok : ∀ k, k < 6 → parseFieldDescriptor (TX5 k).2.2.1 = some (tyX5 k) := by decide +kernel
abbrev cX5_init : ByteArray := prog_7_method_1_code
def yX5_init : MethodName := ⟨RX5, "<init>", "()V"⟩
abbrev cX5_behind : ByteArray := prog_7_method_2_code
def yX5_behind : MethodName := ⟨RX5, "behind", "(LBandPace$Band;I)LBandPace$Band;"⟩
abbrev cX5_driftOf : ByteArray := prog_7_method_3_code
def yX5_driftOf : MethodName := ⟨RX5, "driftOf", "(LBandPace$Band;)I"⟩
abbrev cX5_findRound : ByteArray := prog_7_method_4_code
def yX5_findRound : MethodName := ⟨RX5, "findRound", "(LBandPace$Band;)Z"⟩
abbrev cX5_remember : ByteArray := prog_7_method_5_code
def yX5_remember : MethodName := ⟨RX5, "remember", "(I)V"⟩
abbrev cX5_isAs : ByteArray := prog_7_method_6_code
def yX5_isAs : MethodName := ⟨RX5, "isAs", "(I)Z"⟩
abbrev cX5_firstNoticed : ByteArray := prog_7_method_7_code
def yX5_firstNoticed : MethodName := ⟨RX5, "firstNoticed", "(LBandPace$Band;II)I"⟩
abbrev cX5_findFallen : ByteArray := prog_7_method_8_code
def yX5_findFallen : MethodName := ⟨RX5, "findFallen", "(LBandPace$Band;[III)V"⟩
abbrev cX5_fallenAt : ByteArray := prog_7_method_9_code
def yX5_fallenAt : MethodName := ⟨RX5, "fallenAt", "(I[II)I"⟩
abbrev cX5_bestCountIn : ByteArray := prog_7_method_10_code
def yX5_bestCountIn : MethodName := ⟨RX5, "bestCountIn", "(LBandPace$Band;II)I"⟩
abbrev cX5_findDeaf : ByteArray := prog_7_method_11_code
def yX5_findDeaf : MethodName := ⟨RX5, "findDeaf", "(LBandPace$Band;)V"⟩
abbrev cX5_findInEar : ByteArray := prog_7_method_12_code
def yX5_findInEar : MethodName := ⟨RX5, "findInEar", "(LBandPace$Band;)V"⟩
abbrev cX5_keepNearest : ByteArray := prog_7_method_13_code
def yX5_keepNearest : MethodName := ⟨RX5, "keepNearest", "(II)V"⟩
abbrev cX5_blameOf : ByteArray := prog_7_method_14_code
def yX5_blameOf : MethodName := ⟨RX5, "blameOf", "(LBandPace$Band;I)I"⟩
abbrev cX5_bestBack : ByteArray := prog_7_method_15_code
def yX5_bestBack : MethodName := ⟨RX5, "bestBack", "(LBandPace$Band;IIII)I"⟩
abbrev cX5_passesUnnoticed : ByteArray := prog_7_method_16_code
def yX5_passesUnnoticed : MethodName := ⟨RX5, "passesUnnoticed", "(LBandPace$Band;IIII)Z"⟩
abbrev cX5_gainOfClaps : ByteArray := prog_7_method_17_code
def yX5_gainOfClaps : MethodName := ⟨RX5, "gainOfClaps", "(LBandPace$Band;II)I"⟩
abbrev cX5_findPushers : ByteArray := prog_7_method_18_code
def yX5_findPushers : MethodName := ⟨RX5, "findPushers", "(LBandPace$Band;[I)V"⟩
abbrev cX5_leastPush : ByteArray := prog_7_method_19_code
def yX5_leastPush : MethodName := ⟨RX5, "leastPush", "(LBandPace$Band;I[I)I"⟩
abbrev cX5_hasPaces : ByteArray := prog_7_method_20_code
def yX5_hasPaces : MethodName := ⟨RX5, "hasPaces", "([I)Z"⟩
abbrev cX5_findNight : ByteArray := prog_7_method_21_code
def yX5_findNight : MethodName := ⟨RX5, "findNight", "(LBandPace$Band;II)V"⟩
def RX6 : String := "BandPace$Tape"
def TX6 : u_T := fun k => match k with
  | 0 => ("BandPace$Tape", "bytes", "[I", true)
  | 1 => ("BandPace$Tape", "length", "I", false)
  | 2 => ("BandPace$Tape", "fault", "I", false)
  | 3 => ("BandPace$Tape", "place", "I", false)
  | 4 => ("BandPace$Tape", "at", "I", false)
  | 5 => ("BandPace$Tape", "number", "I", false)
  | _ => ("BandPace$Tape", "width", "I", false)
def tyX6 : Nat → FieldType := fun k => match k with
  | 0 => .array .int
  | 1 => .int
  | 2 => .int
  | 3 => .int
  | 4 => .int
  | 5 => .int
  | _ => .int
abbrev wsX60 : List Cond := u_ws RX6 TX6 7
theorem nmX6 : ∀ a, a < 7 → ∀ b, b < 7 → a ≠ b → (TX6 a).2.1 ≠ (TX6 b).2.1 := by decide +kernel
theorem tyX6_ok : ∀ k, k < 7 → parseFieldDescriptor (TX6 k).2.2.1 = some (tyX6 k) := by decide +kernel
abbrev cX6_init : ByteArray := prog_8_method_1_code
def yX6_init : MethodName := ⟨RX6, "<init>", "()V"⟩
abbrev cX6_takeIn : ByteArray := prog_8_method_2_code
def yX6_takeIn : MethodName := ⟨RX6, "takeIn", "(I)Z"⟩
abbrev cX6_readInto : ByteArray := prog_8_method_3_code
def yX6_readInto : MethodName := ⟨RX6, "readInto", "(LBandPace$Band;)Z"⟩
abbrev cX6_readLaw : ByteArray := prog_8_method_4_code
def yX6_readLaw : MethodName := ⟨RX6, "readLaw", "(LBandPace$Band;)Z"⟩
abbrev cX6_readSong : ByteArray := prog_8_method_5_code
def yX6_readSong : MethodName := ⟨RX6, "readSong", "(LBandPace$Band;)Z"⟩
abbrev cX6_readPlayers : ByteArray := prog_8_method_6_code
def yX6_readPlayers : MethodName := ⟨RX6, "readPlayers", "(LBandPace$Band;)Z"⟩
abbrev cX6_readPlayer : ByteArray := prog_8_method_7_code
def yX6_readPlayer : MethodName := ⟨RX6, "readPlayer", "(LBandPace$Band;)Z"⟩
abbrev cX6_readEars : ByteArray := prog_8_method_8_code
def yX6_readEars : MethodName := ⟨RX6, "readEars", "(LBandPace$Band;)Z"⟩
abbrev cX6_readEar : ByteArray := prog_8_method_9_code
def yX6_readEar : MethodName := ⟨RX6, "readEar", "(LBandPace$Band;)Z"⟩
abbrev cX6_takesHeard : ByteArray := prog_8_method_10_code
def yX6_takesHeard : MethodName := ⟨RX6, "takesHeard", "(LBandPace$Band;I)Z"⟩
abbrev cX6_takesNumber : ByteArray := prog_8_method_11_code
def yX6_takesNumber : MethodName := ⟨RX6, "takesNumber", "(II)Z"⟩
abbrev cX6_seesNumber : ByteArray := prog_8_method_12_code
def yX6_seesNumber : MethodName := ⟨RX6, "seesNumber", "()Z"⟩
abbrev cX6_takes : ByteArray := prog_8_method_13_code
def yX6_takes : MethodName := ⟨RX6, "takes", "(I)Z"⟩
abbrev cX6_fails : ByteArray := prog_8_method_14_code
def yX6_fails : MethodName := ⟨RX6, "fails", "(I)Z"⟩
abbrev cX6_sign : ByteArray := prog_8_method_15_code
def yX6_sign : MethodName := ⟨RX6, "sign", "()I"⟩
abbrev cX6_signAt : ByteArray := prog_8_method_16_code
def yX6_signAt : MethodName := ⟨RX6, "signAt", "(I)I"⟩
abbrev cX6_isFigure : ByteArray := prog_8_method_17_code
def yX6_isFigure : MethodName := ⟨RX6, "isFigure", "(I)Z"⟩
abbrev cX6_barOf : ByteArray := prog_8_method_18_code
def yX6_barOf : MethodName := ⟨RX6, "barOf", "(I)I"⟩
abbrev cX6_kindOf : ByteArray := prog_8_method_19_code
def yX6_kindOf : MethodName := ⟨RX6, "kindOf", "(I)I"⟩
def RX7 : String := "BandPace"
def TX7 : u_T := fun k => match k with
  | 0 => ("BandPace", "rows", "LBandPace$Rows;", true)
  | 1 => ("BandPace", "tape", "LBandPace$Tape;", true)
  | 2 => ("BandPace", "now", "LBandPace$Band;", true)
  | 3 => ("BandPace", "draft", "LBandPace$Band;", true)
  | 4 => ("BandPace", "acts", "LBandPace$Acts;", true)
  | 5 => ("BandPace", "seer", "LBandPace$Seer;", true)
  | 6 => ("BandPace", "orders", "LBandPace$Orders;", true)
  | 7 => ("BandPace", "asks", "LBandPace$Asks;", true)
  | 8 => ("BandPace", "images", "[LBandPace$Band;", true)
  | 9 => ("BandPace", "latestFault", "I", false)
  | _ => ("BandPace", "latestFinding", "I", false)
def tyX7 : Nat → FieldType := fun k => match k with
  | 0 => .object "BandPace$Rows"
  | 1 => .object "BandPace$Tape"
  | 2 => .object "BandPace$Band"
  | 3 => .object "BandPace$Band"
  | 4 => .object "BandPace$Acts"
  | 5 => .object "BandPace$Seer"
  | 6 => .object "BandPace$Orders"
  | 7 => .object "BandPace$Asks"
  | 8 => .array (.object "BandPace$Band")
  | 9 => .int
  | _ => .int
abbrev wsX70 : List Cond := u_ws RX7 TX7 11
theorem nmX7 : ∀ a, a < 11 → ∀ b, b < 11 → a ≠ b → (TX7 a).2.1 ≠ (TX7 b).2.1 := by decide +kernel
theorem tyX7_ok : ∀ k, k < 11 → parseFieldDescriptor (TX7 k).2.2.1 = some (tyX7 k) := by decide +kernel
abbrev cX7_init : ByteArray := prog_1_method_1_code
def yX7_init : MethodName := ⟨RX7, "<init>", "()V"⟩
abbrev cX7_row : ByteArray := prog_1_method_2_code
def yX7_row : MethodName := ⟨RX7, "row", "(III)I"⟩
abbrev cX7_set : ByteArray := prog_1_method_3_code
def yX7_set : MethodName := ⟨RX7, "set", "(III)I"⟩
abbrev cX7_copy : ByteArray := prog_1_method_4_code
def yX7_copy : MethodName := ⟨RX7, "copy", "(IIIII)I"⟩
abbrev cX7_drop : ByteArray := prog_1_method_5_code
def yX7_drop : MethodName := ⟨RX7, "drop", "(I)I"⟩
abbrev cX7_feed : ByteArray := prog_1_method_6_code
def yX7_feed : MethodName := ⟨RX7, "feed", "(I)I"⟩
abbrev cX7_band : ByteArray := prog_1_method_7_code
def yX7_band : MethodName := ⟨RX7, "band", "()I"⟩
abbrev cX7_fault : ByteArray := prog_1_method_8_code
def yX7_fault : MethodName := ⟨RX7, "fault", "()I"⟩
abbrev cX7_undo : ByteArray := prog_1_method_9_code
def yX7_undo : MethodName := ⟨RX7, "undo", "()I"⟩
abbrev cX7_bars : ByteArray := prog_1_method_10_code
def yX7_bars : MethodName := ⟨RX7, "bars", "(I)I"⟩
abbrev cX7_pace : ByteArray := prog_1_method_11_code
def yX7_pace : MethodName := ⟨RX7, "pace", "(II)I"⟩
abbrev cX7_hears : ByteArray := prog_1_method_12_code
def yX7_hears : MethodName := ⟨RX7, "hears", "(III)I"⟩
abbrev cX7_click : ByteArray := prog_1_method_13_code
def yX7_click : MethodName := ⟨RX7, "click", "(I)I"⟩
abbrev cX7_claps : ByteArray := prog_1_method_14_code
def yX7_claps : MethodName := ⟨RX7, "claps", "(I)I"⟩
abbrev cX7_player : ByteArray := prog_1_method_15_code
def yX7_player : MethodName := ⟨RX7, "player", "(II)I"⟩
abbrev cX7_ear : ByteArray := prog_1_method_16_code
def yX7_ear : MethodName := ⟨RX7, "ear", "(II)I"⟩
abbrev cX7_bar : ByteArray := prog_1_method_17_code
def yX7_bar : MethodName := ⟨RX7, "bar", "(I)I"⟩
abbrev cX7_ahead : ByteArray := prog_1_method_18_code
def yX7_ahead : MethodName := ⟨RX7, "ahead", "(II)I"⟩
abbrev cX7_drift : ByteArray := prog_1_method_19_code
def yX7_drift : MethodName := ⟨RX7, "drift", "()I"⟩
abbrev cX7_round : ByteArray := prog_1_method_20_code
def yX7_round : MethodName := ⟨RX7, "round", "(I)I"⟩
abbrev cX7_noticed : ByteArray := prog_1_method_21_code
def yX7_noticed : MethodName := ⟨RX7, "noticed", "(II)I"⟩
abbrev cX7_dancers : ByteArray := prog_1_method_22_code
def yX7_dancers : MethodName := ⟨RX7, "dancers", "(IIIII)I"⟩
abbrev cX7_countIn : ByteArray := prog_1_method_23_code
def yX7_countIn : MethodName := ⟨RX7, "countIn", "(II)I"⟩
abbrev cX7_deaf : ByteArray := prog_1_method_24_code
def yX7_deaf : MethodName := ⟨RX7, "deaf", "(I)I"⟩
abbrev cX7_inEar : ByteArray := prog_1_method_25_code
def yX7_inEar : MethodName := ⟨RX7, "inEar", "(I)I"⟩
abbrev cX7_blame : ByteArray := prog_1_method_26_code
def yX7_blame : MethodName := ⟨RX7, "blame", "(I)I"⟩
abbrev cX7_back : ByteArray := prog_1_method_27_code
def yX7_back : MethodName := ⟨RX7, "back", "(IIII)I"⟩
abbrev cX7_songs : ByteArray := prog_1_method_28_code
def yX7_songs : MethodName := ⟨RX7, "songs", "(IIII)I"⟩
abbrev cX7_clapped : ByteArray := prog_1_method_29_code
def yX7_clapped : MethodName := ⟨RX7, "clapped", "(II)I"⟩
abbrev cX7_whoPushed : ByteArray := prog_1_method_30_code
def yX7_whoPushed : MethodName := ⟨RX7, "whoPushed", "(III)I"⟩
abbrev cX7_night : ByteArray := prog_1_method_31_code
def yX7_night : MethodName := ⟨RX7, "night", "(III)I"⟩
abbrev cX7_image : ByteArray := prog_1_method_32_code
def yX7_image : MethodName := ⟨RX7, "image", "(I)I"⟩
abbrev cX7_restore : ByteArray := prog_1_method_33_code
def yX7_restore : MethodName := ⟨RX7, "restore", "(I)I"⟩
abbrev cX7_kind : ByteArray := prog_1_method_34_code
def yX7_kind : MethodName := ⟨RX7, "kind", "(I)I"⟩
abbrev cX7_as : ByteArray := prog_1_method_35_code
def yX7_as : MethodName := ⟨RX7, "as", "(II)I"⟩
abbrev cX7_ask : ByteArray := prog_1_method_36_code
def yX7_ask : MethodName := ⟨RX7, "ask", "(II)I"⟩
abbrev cX7_trace : ByteArray := prog_1_method_37_code
def yX7_trace : MethodName := ⟨RX7, "trace", "(I)I"⟩
abbrev cX7_count : ByteArray := prog_1_method_38_code
def yX7_count : MethodName := ⟨RX7, "count", "(I)I"⟩
abbrev cX7_status : ByteArray := prog_1_method_39_code
def yX7_status : MethodName := ⟨RX7, "status", "()I"⟩
abbrev cX7_found : ByteArray := prog_1_method_40_code
def yX7_found : MethodName := ⟨RX7, "found", "(I)I"⟩
abbrev cX7_withoutFinding : ByteArray := prog_1_method_41_code
def yX7_withoutFinding : MethodName := ⟨RX7, "withoutFinding", "(I)I"⟩
abbrev cX7_within : ByteArray := prog_1_method_42_code
def yX7_within : MethodName := ⟨RX7, "within", "(III)Z"⟩
abbrev cX7_bounded : ByteArray := prog_1_method_43_code
def yX7_bounded : MethodName := ⟨RX7, "bounded", "(I)I"⟩
abbrev cX7_isOf : ByteArray := prog_1_method_44_code
def yX7_isOf : MethodName := ⟨RX7, "isOf", "(II)Z"⟩
def RX8 : String := "BandPaceModel"
def TX8 : u_T := fun k => match k with
  | 0 => ("BandPaceModel", "w", "[I", true)
  | 1 => ("BandPaceModel", "acts", "I", false)
  | 2 => ("BandPaceModel", "isKept", "[Z", true)
  | 3 => ("BandPaceModel", "lanes", "[I", true)
  | 4 => ("BandPaceModel", "sizes", "[I", true)
  | 5 => ("BandPaceModel", "items", "[I", true)
  | 6 => ("BandPaceModel", "held", "[I", true)
  | 7 => ("BandPaceModel", "status", "I", false)
  | 8 => ("BandPaceModel", "tape", "[I", true)
  | 9 => ("BandPaceModel", "taped", "I", false)
  | 10 => ("BandPaceModel", "latest", "I", false)
  | 11 => ("BandPaceModel", "at", "I", false)
  | 12 => ("BandPaceModel", "start", "I", false)
  | 13 => ("BandPaceModel", "fault", "I", false)
  | 14 => ("BandPaceModel", "value", "I", false)
  | 15 => ("BandPaceModel", "ears", "I", false)
  | 16 => ("BandPaceModel", "paces", "[I", true)
  | 17 => ("BandPaceModel", "then", "[I", true)
  | 18 => ("BandPaceModel", "sorts", "[I", true)
  | 19 => ("BandPaceModel", "hastes", "[I", true)
  | 20 => ("BandPaceModel", "hear", "[I", true)
  | 21 => ("BandPaceModel", "next", "I", false)
  | 22 => ("BandPaceModel", "straight", "I", false)
  | 23 => ("BandPaceModel", "gone", "[I", true)
  | 24 => ("BandPaceModel", "trace", "[I", true)
  | _ => ("BandPaceModel", "traced", "I", false)
def tyX8 : Nat → FieldType := fun k => match k with
  | 0 => .array .int
  | 1 => .int
  | 2 => .array .boolean
  | 3 => .array .int
  | 4 => .array .int
  | 5 => .array .int
  | 6 => .array .int
  | 7 => .int
  | 8 => .array .int
  | 9 => .int
  | 10 => .int
  | 11 => .int
  | 12 => .int
  | 13 => .int
  | 14 => .int
  | 15 => .int
  | 16 => .array .int
  | 17 => .array .int
  | 18 => .array .int
  | 19 => .array .int
  | 20 => .array .int
  | 21 => .int
  | 22 => .int
  | 23 => .array .int
  | 24 => .array .int
  | _ => .int
abbrev wsX80 : List Cond := u_ws RX8 TX8 26
theorem nmX8 : ∀ a, a < 26 → ∀ b, b < 26 → a ≠ b → (TX8 a).2.1 ≠ (TX8 b).2.1 := by decide +kernel
theorem tyX8_ok : ∀ k, k < 26 → parseFieldDescriptor (TX8 k).2.2.1 = some (tyX8 k) := by decide +kernel
abbrev cX8_init : ByteArray := prog_10_method_1_code
def yX8_init : MethodName := ⟨RX8, "<init>", "()V"⟩
abbrev cX8_in : ByteArray := prog_10_method_3_code
def yX8_in : MethodName := ⟨RX8, "in", "(JJJ)Z"⟩
abbrev cX8_plain : ByteArray := prog_10_method_4_code
def yX8_plain : MethodName := ⟨RX8, "plain", "(I)I"⟩
abbrev cX8_bound : ByteArray := prog_10_method_5_code
def yX8_bound : MethodName := ⟨RX8, "bound", "(I)I"⟩
abbrev cX8_found : ByteArray := prog_10_method_6_code
def yX8_found : MethodName := ⟨RX8, "found", "(I)I"⟩
abbrev cX8_well : ByteArray := prog_10_method_7_code
def yX8_well : MethodName := ⟨RX8, "well", "(I)I"⟩
abbrev cX8_isRow : ByteArray := prog_10_method_8_code
def yX8_isRow : MethodName := ⟨RX8, "isRow", "(I)Z"⟩
abbrev cX8_row : ByteArray := prog_10_method_9_code
def yX8_row : MethodName := ⟨RX8, "row", "(III)I"⟩
abbrev cX8_cutTo : ByteArray := prog_10_method_10_code
def yX8_cutTo : MethodName := ⟨RX8, "cutTo", "(II)I"⟩
abbrev cX8_against : ByteArray := prog_10_method_11_code
def yX8_against : MethodName := ⟨RX8, "against", "(III)I"⟩
abbrev cX8_set : ByteArray := prog_10_method_12_code
def yX8_set : MethodName := ⟨RX8, "set", "(III)I"⟩
abbrev cX8_copy : ByteArray := prog_10_method_13_code
def yX8_copy : MethodName := ⟨RX8, "copy", "(IIIII)I"⟩
abbrev cX8_drop : ByteArray := prog_10_method_14_code
def yX8_drop : MethodName := ⟨RX8, "drop", "(I)I"⟩
abbrev cX8_feed : ByteArray := prog_10_method_15_code
def yX8_feed : MethodName := ⟨RX8, "feed", "(I)I"⟩
abbrev cX8_byteAt : ByteArray := prog_10_method_16_code
def yX8_byteAt : MethodName := ⟨RX8, "byteAt", "(I)I"⟩
abbrev cX8_isFigure : ByteArray := prog_10_method_17_code
def yX8_isFigure : MethodName := ⟨RX8, "isFigure", "(I)Z"⟩
abbrev cX8_takes : ByteArray := prog_10_method_18_code
def yX8_takes : MethodName := ⟨RX8, "takes", "(I)Z"⟩
abbrev cX8_takesNumber : ByteArray := prog_10_method_19_code
def yX8_takesNumber : MethodName := ⟨RX8, "takesNumber", "(II)Z"⟩
abbrev cX8_isMore : ByteArray := prog_10_method_20_code
def yX8_isMore : MethodName := ⟨RX8, "isMore", "()Z"⟩
abbrev cX8_takesLaw : ByteArray := prog_10_method_21_code
def yX8_takesLaw : MethodName := ⟨RX8, "takesLaw", "()Z"⟩
abbrev cX8_barOf : ByteArray := prog_10_method_22_code
def yX8_barOf : MethodName := ⟨RX8, "barOf", "(I)I"⟩
abbrev cX8_takesSong : ByteArray := prog_10_method_23_code
def yX8_takesSong : MethodName := ⟨RX8, "takesSong", "()Z"⟩
abbrev cX8_sortOf : ByteArray := prog_10_method_24_code
def yX8_sortOf : MethodName := ⟨RX8, "sortOf", "(I)I"⟩
abbrev cX8_takesPlayer : ByteArray := prog_10_method_25_code
def yX8_takesPlayer : MethodName := ⟨RX8, "takesPlayer", "()Z"⟩
abbrev cX8_takesEar : ByteArray := prog_10_method_26_code
def yX8_takesEar : MethodName := ⟨RX8, "takesEar", "()Z"⟩
abbrev cX8_isBand : ByteArray := prog_10_method_27_code
def yX8_isBand : MethodName := ⟨RX8, "isBand", "()Z"⟩
abbrev cX8_band : ByteArray := prog_10_method_28_code
def yX8_band : MethodName := ⟨RX8, "band", "()I"⟩
abbrev cX8_fault : ByteArray := prog_10_method_29_code
def yX8_fault : MethodName := ⟨RX8, "fault", "()I"⟩
abbrev cX8_layNow : ByteArray := prog_10_method_30_code
def yX8_layNow : MethodName := ⟨RX8, "layNow", "()V"⟩
abbrev cX8_leanAt : ByteArray := prog_10_method_31_code
def yX8_leanAt : MethodName := ⟨RX8, "leanAt", "(II)I"⟩
abbrev cX8_paceBehind : ByteArray := prog_10_method_32_code
def yX8_paceBehind : MethodName := ⟨RX8, "paceBehind", "(II)I"⟩
abbrev cX8_plays : ByteArray := prog_10_method_33_code
def yX8_plays : MethodName := ⟨RX8, "plays", "()V"⟩
abbrev cX8_mean : ByteArray := prog_10_method_34_code
def yX8_mean : MethodName := ⟨RX8, "mean", "()I"⟩
abbrev cX8_playsMany : ByteArray := prog_10_method_35_code
def yX8_playsMany : MethodName := ⟨RX8, "playsMany", "(I)V"⟩
abbrev cX8_meanNow : ByteArray := prog_10_method_36_code
def yX8_meanNow : MethodName := ⟨RX8, "meanNow", "()I"⟩
abbrev cX8_driftBy : ByteArray := prog_10_method_37_code
def yX8_driftBy : MethodName := ⟨RX8, "driftBy", "()I"⟩
abbrev cX8_minds : ByteArray := prog_10_method_38_code
def yX8_minds : MethodName := ⟨RX8, "minds", "()V"⟩
abbrev cX8_undo : ByteArray := prog_10_method_39_code
def yX8_undo : MethodName := ⟨RX8, "undo", "()I"⟩
abbrev cX8_isPlayer : ByteArray := prog_10_method_40_code
def yX8_isPlayer : MethodName := ⟨RX8, "isPlayer", "(I)Z"⟩
abbrev cX8_isNone : ByteArray := prog_10_method_41_code
def yX8_isNone : MethodName := ⟨RX8, "isNone", "()Z"⟩
abbrev cX8_bars : ByteArray := prog_10_method_42_code
def yX8_bars : MethodName := ⟨RX8, "bars", "(I)I"⟩
abbrev cX8_pace : ByteArray := prog_10_method_43_code
def yX8_pace : MethodName := ⟨RX8, "pace", "(II)I"⟩
abbrev cX8_hears : ByteArray := prog_10_method_44_code
def yX8_hears : MethodName := ⟨RX8, "hears", "(III)I"⟩
abbrev cX8_click : ByteArray := prog_10_method_45_code
def yX8_click : MethodName := ⟨RX8, "click", "(I)I"⟩
abbrev cX8_claps : ByteArray := prog_10_method_46_code
def yX8_claps : MethodName := ⟨RX8, "claps", "(I)I"⟩
abbrev cX8_player : ByteArray := prog_10_method_47_code
def yX8_player : MethodName := ⟨RX8, "player", "(II)I"⟩
abbrev cX8_ear : ByteArray := prog_10_method_48_code
def yX8_ear : MethodName := ⟨RX8, "ear", "(II)I"⟩
abbrev cX8_bar : ByteArray := prog_10_method_49_code
def yX8_bar : MethodName := ⟨RX8, "bar", "(I)I"⟩
abbrev cX8_ahead : ByteArray := prog_10_method_50_code
def yX8_ahead : MethodName := ⟨RX8, "ahead", "(II)I"⟩
abbrev cX8_drift : ByteArray := prog_10_method_51_code
def yX8_drift : MethodName := ⟨RX8, "drift", "()I"⟩
abbrev cX8_round : ByteArray := prog_10_method_52_code
def yX8_round : MethodName := ⟨RX8, "round", "(I)I"⟩
abbrev cX8_areAlike : ByteArray := prog_10_method_53_code
def yX8_areAlike : MethodName := ⟨RX8, "areAlike", "(II)Z"⟩
abbrev cX8_noticed : ByteArray := prog_10_method_54_code
def yX8_noticed : MethodName := ⟨RX8, "noticed", "(II)I"⟩
abbrev cX8_dancers : ByteArray := prog_10_method_55_code
def yX8_dancers : MethodName := ⟨RX8, "dancers", "(IIIII)I"⟩
abbrev cX8_countIn : ByteArray := prog_10_method_56_code
def yX8_countIn : MethodName := ⟨RX8, "countIn", "(II)I"⟩
abbrev cX8_deaf : ByteArray := prog_10_method_57_code
def yX8_deaf : MethodName := ⟨RX8, "deaf", "(I)I"⟩
abbrev cX8_inEar : ByteArray := prog_10_method_58_code
def yX8_inEar : MethodName := ⟨RX8, "inEar", "(I)I"⟩
abbrev cX8_blame : ByteArray := prog_10_method_59_code
def yX8_blame : MethodName := ⟨RX8, "blame", "(I)I"⟩
abbrev cX8_farBy : ByteArray := prog_10_method_60_code
def yX8_farBy : MethodName := ⟨RX8, "farBy", "(IIIII)I"⟩
abbrev cX8_back : ByteArray := prog_10_method_61_code
def yX8_back : MethodName := ⟨RX8, "back", "(IIII)I"⟩
abbrev cX8_between : ByteArray := prog_10_method_62_code
def yX8_between : MethodName := ⟨RX8, "between", "(III)I"⟩
abbrev cX8_songs : ByteArray := prog_10_method_63_code
def yX8_songs : MethodName := ⟨RX8, "songs", "(IIII)I"⟩
abbrev cX8_clapped : ByteArray := prog_10_method_64_code
def yX8_clapped : MethodName := ⟨RX8, "clapped", "(II)I"⟩
abbrev cX8_pushBy : ByteArray := prog_10_method_65_code
def yX8_pushBy : MethodName := ⟨RX8, "pushBy", "(II)I"⟩
abbrev cX8_whoPushed : ByteArray := prog_10_method_66_code
def yX8_whoPushed : MethodName := ⟨RX8, "whoPushed", "(III)I"⟩
abbrev cX8_night : ByteArray := prog_10_method_67_code
def yX8_night : MethodName := ⟨RX8, "night", "(III)I"⟩
abbrev cX8_image : ByteArray := prog_10_method_68_code
def yX8_image : MethodName := ⟨RX8, "image", "(I)I"⟩
abbrev cX8_restore : ByteArray := prog_10_method_69_code
def yX8_restore : MethodName := ⟨RX8, "restore", "(I)I"⟩
abbrev cX8_leaves : ByteArray := prog_10_method_70_code
def yX8_leaves : MethodName := ⟨RX8, "leaves", "(I)V"⟩
abbrev cX8_kind : ByteArray := prog_10_method_71_code
def yX8_kind : MethodName := ⟨RX8, "kind", "(I)I"⟩
abbrev cX8_isOf : ByteArray := prog_10_method_72_code
def yX8_isOf : MethodName := ⟨RX8, "isOf", "(II)Z"⟩
abbrev cX8_as : ByteArray := prog_10_method_73_code
def yX8_as : MethodName := ⟨RX8, "as", "(II)I"⟩
abbrev cX8_bareSize : ByteArray := prog_10_method_74_code
def yX8_bareSize : MethodName := ⟨RX8, "bareSize", "(I)I"⟩
abbrev cX8_bareMark : ByteArray := prog_10_method_75_code
def yX8_bareMark : MethodName := ⟨RX8, "bareMark", "(I)I"⟩
abbrev cX8_steadyMark : ByteArray := prog_10_method_76_code
def yX8_steadyMark : MethodName := ⟨RX8, "steadyMark", "(I)I"⟩
abbrev cX8_markOfSteady : ByteArray := prog_10_method_77_code
def yX8_markOfSteady : MethodName := ⟨RX8, "markOfSteady", "(I)I"⟩
abbrev cX8_steadySize : ByteArray := prog_10_method_78_code
def yX8_steadySize : MethodName := ⟨RX8, "steadySize", "(I)I"⟩
abbrev cX8_clickedSize : ByteArray := prog_10_method_79_code
def yX8_clickedSize : MethodName := ⟨RX8, "clickedSize", "(I)I"⟩
abbrev cX8_sizeOf : ByteArray := prog_10_method_80_code
def yX8_sizeOf : MethodName := ⟨RX8, "sizeOf", "(I)I"⟩
abbrev cX8_markOf : ByteArray := prog_10_method_81_code
def yX8_markOf : MethodName := ⟨RX8, "markOf", "(I)I"⟩
abbrev cX8_ask : ByteArray := prog_10_method_82_code
def yX8_ask : MethodName := ⟨RX8, "ask", "(II)I"⟩
abbrev cX8_trace : ByteArray := prog_10_method_83_code
def yX8_trace : MethodName := ⟨RX8, "trace", "(I)I"⟩
abbrev cX8_rowsMany : ByteArray := prog_10_method_84_code
def yX8_rowsMany : MethodName := ⟨RX8, "rowsMany", "()I"⟩
abbrev cX8_count : ByteArray := prog_10_method_85_code
def yX8_count : MethodName := ⟨RX8, "count", "(I)I"⟩
abbrev cX8_status : ByteArray := prog_10_method_86_code
def yX8_status : MethodName := ⟨RX8, "status", "()I"⟩
def RJ9 : String := "java/lang/Math"
def TJ9 : u_T := fun k => match k with
  | _ => ("", "", "", false)
def tyJ9 : Nat → FieldType := fun k => match k with
  | _ => .int
abbrev wsJ90 : List Cond := u_ws RJ9 TJ9 0
theorem nmJ9 : ∀ a, a < 0 → ∀ b, b < 0 → a ≠ b → (TJ9 a).2.1 ≠ (TJ9 b).2.1 := by decide +kernel
theorem tyJ9_ok : ∀ k, k < 0 → parseFieldDescriptor (TJ9 k).2.2.1 = some (tyJ9 k) := by decide +kernel
abbrev cJ9_abs_0f7a4 : ByteArray := prog_11_method_59_code
def yJ9_abs_0f7a4 : MethodName := ⟨RJ9, "abs", "(I)I"⟩
def RJ10 : String := "java/lang/System"
def TJ10 : u_T := fun k => match k with
  | _ => ("", "", "", false)
def tyJ10 : Nat → FieldType := fun k => match k with
  | _ => .int
abbrev wsJ100 : List Cond := u_ws RJ10 TJ10 0
theorem nmJ10 : ∀ a, a < 0 → ∀ b, b < 0 → a ≠ b → (TJ10 a).2.1 ≠ (TJ10 b).2.1 := by decide +kernel
theorem tyJ10_ok : ∀ k, k < 0 → parseFieldDescriptor (TJ10 k).2.2.1 = some (tyJ10 k) := by decide +kernel
def RL : String := "BandPaceLaw"
abbrev cL_law : ByteArray := code
def yL_law : MethodName := ⟨RL, "law", "([I)Z"⟩
abbrev vwCl : List vw_C := [(RX0, TX0, 3), (RX1, TX1, 6), (RX2, TX2, 14), (RX3, TX3, 3), (RX4, TX4, 4), (RX5, TX5, 6), (RX6, TX6, 7), (RX7, TX7, 11), (RX8, TX8, 26)]
end
section
theorem dX0_init_0 : decode cX0_init 0 = .ok (.aload_n 0, 1) := by decide +kernel
theorem dX0_init_1 : decode cX0_init 1 = .ok (.invokespecial 3, 3) := by decide +kernel
theorem dX0_init_4 : decode cX0_init 4 = .ok (.aload_n 0, 1) := by decide +kernel
theorem dX0_init_5 : decode cX0_init 5 = .ok (.sipush 792, 3) := by decide +kernel
theorem dX0_init_8 : decode cX0_init 8 = .ok (.newarray .int, 2) := by decide +kernel
theorem dX0_init_10 : decode cX0_init 10 = .ok (.putfield 11, 3) := by decide +kernel
theorem dX0_init_13 : decode cX0_init 13 = .ok (.return_, 1) := by decide +kernel
theorem dX0_keep_0 : decode cX0_keep 0 = .ok (.aload_n 1, 1) := by decide +kernel
theorem dX0_keep_1 : decode cX0_keep 1 = .ok (.aload_n 0, 1) := by decide +kernel
theorem dX0_keep_2 : decode cX0_keep 2 = .ok (.getfield 11, 3) := by decide +kernel
theorem dX0_keep_5 : decode cX0_keep 5 = .ok (.aload_n 0, 1) := by decide +kernel
theorem dX0_keep_6 : decode cX0_keep 6 = .ok (.getfield 17, 3) := by decide +kernel
theorem dX0_keep_9 : decode cX0_keep 9 = .ok (.aload_n 0, 1) := by decide +kernel
theorem dX0_keep_10 : decode cX0_keep 10 = .ok (.getfield 21, 3) := by decide +kernel
theorem dX0_keep_13 : decode cX0_keep 13 = .ok (.iadd, 1) := by decide +kernel
theorem dX0_keep_14 : decode cX0_keep 14 = .ok (.bipush 24, 2) := by decide +kernel
theorem dX0_keep_16 : decode cX0_keep 16 = .ok (.irem, 1) := by decide +kernel
theorem dX0_keep_17 : decode cX0_keep 17 = .ok (.bipush 33, 2) := by decide +kernel
theorem dX0_keep_19 : decode cX0_keep 19 = .ok (.imul, 1) := by decide +kernel
theorem dX0_keep_20 : decode cX0_keep 20 = .ok (.invokevirtual 24, 3) := by decide +kernel
theorem dX0_keep_23 : decode cX0_keep 23 = .ok (.aload_n 0, 1) := by decide +kernel
theorem dX0_keep_24 : decode cX0_keep 24 = .ok (.getfield 21, 3) := by decide +kernel
theorem dX0_keep_27 : decode cX0_keep 27 = .ok (.bipush 24, 2) := by decide +kernel
theorem dX0_keep_29 : decode cX0_keep 29 = .ok (.if_icmp .ge 16, 3) := by decide +kernel
theorem dX0_keep_32 : decode cX0_keep 32 = .ok (.aload_n 0, 1) := by decide +kernel
theorem dX0_keep_33 : decode cX0_keep 33 = .ok (.dup, 1) := by decide +kernel
theorem dX0_keep_34 : decode cX0_keep 34 = .ok (.getfield 21, 3) := by decide +kernel
theorem dX0_keep_37 : decode cX0_keep 37 = .ok (.iconst 1, 1) := by decide +kernel
theorem dX0_keep_38 : decode cX0_keep 38 = .ok (.iadd, 1) := by decide +kernel
theorem dX0_keep_39 : decode cX0_keep 39 = .ok (.putfield 21, 3) := by decide +kernel
theorem dX0_keep_42 : decode cX0_keep 42 = .ok (.goto 16, 3) := by decide +kernel
theorem dX0_keep_45 : decode cX0_keep 45 = .ok (.aload_n 0, 1) := by decide +kernel
theorem dX0_keep_46 : decode cX0_keep 46 = .ok (.aload_n 0, 1) := by decide +kernel
theorem dX0_keep_47 : decode cX0_keep 47 = .ok (.getfield 17, 3) := by decide +kernel
theorem dX0_keep_50 : decode cX0_keep 50 = .ok (.iconst 1, 1) := by decide +kernel
theorem dX0_keep_51 : decode cX0_keep 51 = .ok (.iadd, 1) := by decide +kernel
theorem dX0_keep_52 : decode cX0_keep 52 = .ok (.bipush 24, 2) := by decide +kernel
theorem dX0_keep_54 : decode cX0_keep 54 = .ok (.irem, 1) := by decide +kernel
theorem dX0_keep_55 : decode cX0_keep 55 = .ok (.putfield 17, 3) := by decide +kernel
theorem dX0_keep_58 : decode cX0_keep 58 = .ok (.return_, 1) := by decide +kernel
theorem dX0_takeBack_0 : decode cX0_takeBack 0 = .ok (.aload_n 0, 1) := by decide +kernel
theorem dX0_takeBack_1 : decode cX0_takeBack 1 = .ok (.getfield 21, 3) := by decide +kernel
theorem dX0_takeBack_4 : decode cX0_takeBack 4 = .ok (.ifCond .gt 5, 3) := by decide +kernel
theorem dX0_takeBack_7 : decode cX0_takeBack 7 = .ok (.iconst 0, 1) := by decide +kernel
theorem dX0_takeBack_8 : decode cX0_takeBack 8 = .ok (.ireturn, 1) := by decide +kernel
theorem dX0_takeBack_9 : decode cX0_takeBack 9 = .ok (.aload_n 0, 1) := by decide +kernel
theorem dX0_takeBack_10 : decode cX0_takeBack 10 = .ok (.dup, 1) := by decide +kernel
theorem dX0_takeBack_11 : decode cX0_takeBack 11 = .ok (.getfield 21, 3) := by decide +kernel
theorem dX0_takeBack_14 : decode cX0_takeBack 14 = .ok (.iconst 1, 1) := by decide +kernel
theorem dX0_takeBack_15 : decode cX0_takeBack 15 = .ok (.isub, 1) := by decide +kernel
theorem dX0_takeBack_16 : decode cX0_takeBack 16 = .ok (.putfield 21, 3) := by decide +kernel
theorem dX0_takeBack_19 : decode cX0_takeBack 19 = .ok (.aload_n 1, 1) := by decide +kernel
theorem dX0_takeBack_20 : decode cX0_takeBack 20 = .ok (.aload_n 0, 1) := by decide +kernel
theorem dX0_takeBack_21 : decode cX0_takeBack 21 = .ok (.getfield 11, 3) := by decide +kernel
theorem dX0_takeBack_24 : decode cX0_takeBack 24 = .ok (.aload_n 0, 1) := by decide +kernel
theorem dX0_takeBack_25 : decode cX0_takeBack 25 = .ok (.getfield 17, 3) := by decide +kernel
theorem dX0_takeBack_28 : decode cX0_takeBack 28 = .ok (.aload_n 0, 1) := by decide +kernel
theorem dX0_takeBack_29 : decode cX0_takeBack 29 = .ok (.getfield 21, 3) := by decide +kernel
theorem dX0_takeBack_32 : decode cX0_takeBack 32 = .ok (.iadd, 1) := by decide +kernel
theorem dX0_takeBack_33 : decode cX0_takeBack 33 = .ok (.bipush 24, 2) := by decide +kernel
theorem dX0_takeBack_35 : decode cX0_takeBack 35 = .ok (.irem, 1) := by decide +kernel
theorem dX0_takeBack_36 : decode cX0_takeBack 36 = .ok (.bipush 33, 2) := by decide +kernel
theorem dX0_takeBack_38 : decode cX0_takeBack 38 = .ok (.imul, 1) := by decide +kernel
theorem dX0_takeBack_39 : decode cX0_takeBack 39 = .ok (.invokevirtual 28, 3) := by decide +kernel
theorem dX0_takeBack_42 : decode cX0_takeBack 42 = .ok (.iconst 1, 1) := by decide +kernel
theorem dX0_takeBack_43 : decode cX0_takeBack 43 = .ok (.ireturn, 1) := by decide +kernel
theorem dX0_forget_0 : decode cX0_forget 0 = .ok (.aload_n 0, 1) := by decide +kernel
theorem dX0_forget_1 : decode cX0_forget 1 = .ok (.iconst 0, 1) := by decide +kernel
theorem dX0_forget_2 : decode cX0_forget 2 = .ok (.putfield 21, 3) := by decide +kernel
theorem dX0_forget_5 : decode cX0_forget 5 = .ok (.return_, 1) := by decide +kernel
theorem dX1_init_0 : decode cX1_init 0 = .ok (.aload_n 0, 1) := by decide +kernel
theorem dX1_init_1 : decode cX1_init 1 = .ok (.invokespecial 3, 3) := by decide +kernel
theorem dX1_init_4 : decode cX1_init 4 = .ok (.aload_n 0, 1) := by decide +kernel
theorem dX1_init_5 : decode cX1_init 5 = .ok (.bipush 16, 2) := by decide +kernel
theorem dX1_init_7 : decode cX1_init 7 = .ok (.newarray .int, 2) := by decide +kernel
theorem dX1_init_9 : decode cX1_init 9 = .ok (.putfield 9, 3) := by decide +kernel
theorem dX1_init_12 : decode cX1_init 12 = .ok (.return_, 1) := by decide +kernel
theorem dX1_answer_0 : decode cX1_answer 0 = .ok (.aload_n 0, 1) := by decide +kernel
theorem dX1_answer_1 : decode cX1_answer 1 = .ok (.iconst 0, 1) := by decide +kernel
theorem dX1_answer_2 : decode cX1_answer 2 = .ok (.putfield 15, 3) := by decide +kernel
theorem dX1_answer_5 : decode cX1_answer 5 = .ok (.aload_n 0, 1) := by decide +kernel
theorem dX1_answer_6 : decode cX1_answer 6 = .ok (.iload_n 2, 1) := by decide +kernel
theorem dX1_answer_7 : decode cX1_answer 7 = .ok (.putfield 19, 3) := by decide +kernel
theorem dX1_answer_10 : decode cX1_answer 10 = .ok (.aload_n 0, 1) := by decide +kernel
theorem dX1_answer_11 : decode cX1_answer 11 = .ok (.aload_n 1, 1) := by decide +kernel
theorem dX1_answer_12 : decode cX1_answer 12 = .ok (.getfield 22, 3) := by decide +kernel
theorem dX1_answer_15 : decode cX1_answer 15 = .ok (.iload_n 2, 1) := by decide +kernel
theorem dX1_answer_16 : decode cX1_answer 16 = .ok (.iaload, 1) := by decide +kernel
theorem dX1_answer_17 : decode cX1_answer 17 = .ok (.putfield 27, 3) := by decide +kernel
theorem dX1_answer_20 : decode cX1_answer 20 = .ok (.aload_n 0, 1) := by decide +kernel
theorem dX1_answer_21 : decode cX1_answer 21 = .ok (.aload_n 1, 1) := by decide +kernel
theorem dX1_answer_22 : decode cX1_answer 22 = .ok (.getfield 30, 3) := by decide +kernel
theorem dX1_answer_25 : decode cX1_answer 25 = .ok (.iload_n 2, 1) := by decide +kernel
theorem dX1_answer_26 : decode cX1_answer 26 = .ok (.iaload, 1) := by decide +kernel
theorem dX1_answer_27 : decode cX1_answer 27 = .ok (.putfield 33, 3) := by decide +kernel
theorem dX1_answer_30 : decode cX1_answer 30 = .ok (.aload_n 0, 1) := by decide +kernel
theorem dX1_answer_31 : decode cX1_answer 31 = .ok (.aload_n 1, 1) := by decide +kernel
theorem dX1_answer_32 : decode cX1_answer 32 = .ok (.getfield 36, 3) := by decide +kernel
theorem dX1_answer_35 : decode cX1_answer 35 = .ok (.iload_n 2, 1) := by decide +kernel
theorem dX1_answer_36 : decode cX1_answer 36 = .ok (.iaload, 1) := by decide +kernel
theorem dX1_answer_37 : decode cX1_answer 37 = .ok (.putfield 39, 3) := by decide +kernel
theorem dX1_answer_40 : decode cX1_answer 40 = .ok (.aload_n 0, 1) := by decide +kernel
theorem dX1_answer_41 : decode cX1_answer 41 = .ok (.iload_n 3, 1) := by decide +kernel
theorem dX1_answer_42 : decode cX1_answer 42 = .ok (.ifCond .ne 10, 3) := by decide +kernel
theorem dX1_answer_45 : decode cX1_answer 45 = .ok (.aload_n 0, 1) := by decide +kernel
theorem dX1_answer_46 : decode cX1_answer 46 = .ok (.invokevirtual 42, 3) := by decide +kernel
theorem dX1_answer_49 : decode cX1_answer 49 = .ok (.goto 7, 3) := by decide +kernel
theorem dX1_answer_52 : decode cX1_answer 52 = .ok (.aload_n 0, 1) := by decide +kernel
theorem dX1_answer_53 : decode cX1_answer 53 = .ok (.invokevirtual 46, 3) := by decide +kernel
theorem dX1_answer_56 : decode cX1_answer 56 = .ok (.iconst 0, 1) := by decide +kernel
theorem dX1_answer_57 : decode cX1_answer 57 = .ok (.invokevirtual 49, 3) := by decide +kernel
theorem dX1_answer_60 : decode cX1_answer 60 = .ok (.ireturn, 1) := by decide +kernel
theorem dX1_sizeBody_0 : decode cX1_sizeBody 0 = .ok (.aload_n 0, 1) := by decide +kernel
theorem dX1_sizeBody_1 : decode cX1_sizeBody 1 = .ok (.getfield 27, 3) := by decide +kernel
theorem dX1_sizeBody_4 : decode cX1_sizeBody 4 = .ok (.iconst 0, 1) := by decide +kernel
theorem dX1_sizeBody_5 : decode cX1_sizeBody 5 = .ok (.iconst 5, 1) := by decide +kernel
theorem dX1_sizeBody_6 : decode cX1_sizeBody 6 = .ok (.invokestatic 53, 3) := by decide +kernel
theorem dX1_sizeBody_9 : decode cX1_sizeBody 9 = .ok (.ifCond .eq 14, 3) := by decide +kernel
theorem dX1_sizeBody_12 : decode cX1_sizeBody 12 = .ok (.getstatic 57, 3) := by decide +kernel
theorem dX1_sizeBody_15 : decode cX1_sizeBody 15 = .ok (.aload_n 0, 1) := by decide +kernel
theorem dX1_sizeBody_16 : decode cX1_sizeBody 16 = .ok (.getfield 27, 3) := by decide +kernel
theorem dX1_sizeBody_19 : decode cX1_sizeBody 19 = .ok (.iaload, 1) := by decide +kernel
theorem dX1_sizeBody_20 : decode cX1_sizeBody 20 = .ok (.goto 5, 3) := by decide +kernel
theorem dX1_sizeBody_23 : decode cX1_sizeBody 23 = .ok (.bipush 10, 2) := by decide +kernel
theorem dX1_sizeBody_25 : decode cX1_sizeBody 25 = .ok (.ireturn, 1) := by decide +kernel
theorem dX1_markBody_0 : decode cX1_markBody 0 = .ok (.aload_n 0, 1) := by decide +kernel
theorem dX1_markBody_1 : decode cX1_markBody 1 = .ok (.getfield 27, 3) := by decide +kernel
theorem dX1_markBody_4 : decode cX1_markBody 4 = .ok (.iconst 0, 1) := by decide +kernel
theorem dX1_markBody_5 : decode cX1_markBody 5 = .ok (.iconst 5, 1) := by decide +kernel
theorem dX1_markBody_6 : decode cX1_markBody 6 = .ok (.invokestatic 53, 3) := by decide +kernel
theorem dX1_markBody_9 : decode cX1_markBody 9 = .ok (.ifCond .eq 14, 3) := by decide +kernel
theorem dX1_markBody_12 : decode cX1_markBody 12 = .ok (.getstatic 60, 3) := by decide +kernel
theorem dX1_markBody_15 : decode cX1_markBody 15 = .ok (.aload_n 0, 1) := by decide +kernel
theorem dX1_markBody_16 : decode cX1_markBody 16 = .ok (.getfield 27, 3) := by decide +kernel
theorem dX1_markBody_19 : decode cX1_markBody 19 = .ok (.iaload, 1) := by decide +kernel
theorem dX1_markBody_20 : decode cX1_markBody 20 = .ok (.goto 5, 3) := by decide +kernel
theorem dX1_markBody_23 : decode cX1_markBody 23 = .ok (.bipush 20, 2) := by decide +kernel
theorem dX1_markBody_25 : decode cX1_markBody 25 = .ok (.ireturn, 1) := by decide +kernel
theorem dX1_run_0 : decode cX1_run 0 = .ok (.iload_n 2, 1) := by decide +kernel
theorem dX1_run_1 : decode cX1_run 1 = .ok (.bipush 16, 2) := by decide +kernel
theorem dX1_run_3 : decode cX1_run 3 = .ok (.if_icmp .lt 5, 3) := by decide +kernel
theorem dX1_run_6 : decode cX1_run 6 = .ok (.iconst 0, 1) := by decide +kernel
theorem dX1_run_7 : decode cX1_run 7 = .ok (.ireturn, 1) := by decide +kernel
theorem dX1_run_8 : decode cX1_run 8 = .ok (.aload_n 0, 1) := by decide +kernel
theorem dX1_run_9 : decode cX1_run 9 = .ok (.iload_n 1, 1) := by decide +kernel
theorem dX1_run_10 : decode cX1_run 10 = .ok (.invokevirtual 63, 3) := by decide +kernel
theorem dX1_run_13 : decode cX1_run 13 = .ok (.iload_n 1, 1) := by decide +kernel
theorem dX1_run_14 : decode cX1_run 14 = .ok (.tableswitch 205 10 24 #[74, 79, 101, 112, 125, 205, 205, 205, 205, 205, 137, 142, 157, 171, 193], 74) := by decide +kernel
theorem dX1_run_88 : decode cX1_run 88 = .ok (.aload_n 0, 1) := by decide +kernel
theorem dX1_run_89 : decode cX1_run 89 = .ok (.getfield 33, 3) := by decide +kernel
theorem dX1_run_92 : decode cX1_run 92 = .ok (.ireturn, 1) := by decide +kernel
theorem dX1_run_93 : decode cX1_run 93 = .ok (.aload_n 0, 1) := by decide +kernel
theorem dX1_run_94 : decode cX1_run 94 = .ok (.bipush 10, 2) := by decide +kernel
theorem dX1_run_96 : decode cX1_run 96 = .ok (.iload_n 2, 1) := by decide +kernel
theorem dX1_run_97 : decode cX1_run 97 = .ok (.iconst 1, 1) := by decide +kernel
theorem dX1_run_98 : decode cX1_run 98 = .ok (.iadd, 1) := by decide +kernel
theorem dX1_run_99 : decode cX1_run 99 = .ok (.invokevirtual 49, 3) := by decide +kernel
theorem dX1_run_102 : decode cX1_run 102 = .ok (.aload_n 0, 1) := by decide +kernel
theorem dX1_run_103 : decode cX1_run 103 = .ok (.aload_n 0, 1) := by decide +kernel
theorem dX1_run_104 : decode cX1_run 104 = .ok (.invokevirtual 46, 3) := by decide +kernel
theorem dX1_run_107 : decode cX1_run 107 = .ok (.iload_n 2, 1) := by decide +kernel
theorem dX1_run_108 : decode cX1_run 108 = .ok (.iconst 1, 1) := by decide +kernel
theorem dX1_run_109 : decode cX1_run 109 = .ok (.iadd, 1) := by decide +kernel
theorem dX1_run_110 : decode cX1_run 110 = .ok (.invokevirtual 49, 3) := by decide +kernel
theorem dX1_run_113 : decode cX1_run 113 = .ok (.iadd, 1) := by decide +kernel
theorem dX1_run_114 : decode cX1_run 114 = .ok (.ireturn, 1) := by decide +kernel
theorem dX1_run_115 : decode cX1_run 115 = .ok (.aload_n 0, 1) := by decide +kernel
theorem dX1_run_116 : decode cX1_run 116 = .ok (.bipush 11, 2) := by decide +kernel
theorem dX1_run_118 : decode cX1_run 118 = .ok (.iload_n 2, 1) := by decide +kernel
theorem dX1_run_119 : decode cX1_run 119 = .ok (.iconst 1, 1) := by decide +kernel
theorem dX1_run_120 : decode cX1_run 120 = .ok (.iadd, 1) := by decide +kernel
theorem dX1_run_121 : decode cX1_run 121 = .ok (.invokevirtual 49, 3) := by decide +kernel
theorem dX1_run_124 : decode cX1_run 124 = .ok (.ineg, 1) := by decide +kernel
theorem dX1_run_125 : decode cX1_run 125 = .ok (.ireturn, 1) := by decide +kernel
theorem dX1_run_126 : decode cX1_run 126 = .ok (.aload_n 0, 1) := by decide +kernel
theorem dX1_run_127 : decode cX1_run 127 = .ok (.bipush 10, 2) := by decide +kernel
theorem dX1_run_129 : decode cX1_run 129 = .ok (.iload_n 2, 1) := by decide +kernel
theorem dX1_run_130 : decode cX1_run 130 = .ok (.iconst 1, 1) := by decide +kernel
theorem dX1_run_131 : decode cX1_run 131 = .ok (.iadd, 1) := by decide +kernel
theorem dX1_run_132 : decode cX1_run 132 = .ok (.invokevirtual 49, 3) := by decide +kernel
theorem dX1_run_135 : decode cX1_run 135 = .ok (.bipush 100, 2) := by decide +kernel
theorem dX1_run_137 : decode cX1_run 137 = .ok (.isub, 1) := by decide +kernel
theorem dX1_run_138 : decode cX1_run 138 = .ok (.ireturn, 1) := by decide +kernel
theorem dX1_run_139 : decode cX1_run 139 = .ok (.iconst 2, 1) := by decide +kernel
theorem dX1_run_140 : decode cX1_run 140 = .ok (.aload_n 0, 1) := by decide +kernel
theorem dX1_run_141 : decode cX1_run 141 = .ok (.bipush 13, 2) := by decide +kernel
theorem dX1_run_143 : decode cX1_run 143 = .ok (.iload_n 2, 1) := by decide +kernel
theorem dX1_run_144 : decode cX1_run 144 = .ok (.iconst 1, 1) := by decide +kernel
theorem dX1_run_145 : decode cX1_run 145 = .ok (.iadd, 1) := by decide +kernel
theorem dX1_run_146 : decode cX1_run 146 = .ok (.invokevirtual 49, 3) := by decide +kernel
theorem dX1_run_149 : decode cX1_run 149 = .ok (.imul, 1) := by decide +kernel
theorem dX1_run_150 : decode cX1_run 150 = .ok (.ireturn, 1) := by decide +kernel
theorem dX1_run_151 : decode cX1_run 151 = .ok (.aload_n 0, 1) := by decide +kernel
theorem dX1_run_152 : decode cX1_run 152 = .ok (.getfield 19, 3) := by decide +kernel
theorem dX1_run_155 : decode cX1_run 155 = .ok (.ireturn, 1) := by decide +kernel
theorem dX1_run_156 : decode cX1_run 156 = .ok (.aload_n 0, 1) := by decide +kernel
theorem dX1_run_157 : decode cX1_run 157 = .ok (.bipush 20, 2) := by decide +kernel
theorem dX1_run_159 : decode cX1_run 159 = .ok (.iload_n 2, 1) := by decide +kernel
theorem dX1_run_160 : decode cX1_run 160 = .ok (.iconst 1, 1) := by decide +kernel
theorem dX1_run_161 : decode cX1_run 161 = .ok (.iadd, 1) := by decide +kernel
theorem dX1_run_162 : decode cX1_run 162 = .ok (.invokevirtual 49, 3) := by decide +kernel
theorem dX1_run_165 : decode cX1_run 165 = .ok (.aload_n 0, 1) := by decide +kernel
theorem dX1_run_166 : decode cX1_run 166 = .ok (.getfield 39, 3) := by decide +kernel
theorem dX1_run_169 : decode cX1_run 169 = .ok (.iadd, 1) := by decide +kernel
theorem dX1_run_170 : decode cX1_run 170 = .ok (.ireturn, 1) := by decide +kernel
theorem dX1_run_171 : decode cX1_run 171 = .ok (.aload_n 0, 1) := by decide +kernel
theorem dX1_run_172 : decode cX1_run 172 = .ok (.bipush 21, 2) := by decide +kernel
theorem dX1_run_174 : decode cX1_run 174 = .ok (.iload_n 2, 1) := by decide +kernel
theorem dX1_run_175 : decode cX1_run 175 = .ok (.iconst 1, 1) := by decide +kernel
theorem dX1_run_176 : decode cX1_run 176 = .ok (.iadd, 1) := by decide +kernel
theorem dX1_run_177 : decode cX1_run 177 = .ok (.invokevirtual 49, 3) := by decide +kernel
theorem dX1_run_180 : decode cX1_run 180 = .ok (.sipush 1000, 3) := by decide +kernel
theorem dX1_run_183 : decode cX1_run 183 = .ok (.isub, 1) := by decide +kernel
theorem dX1_run_184 : decode cX1_run 184 = .ok (.ireturn, 1) := by decide +kernel
theorem dX1_run_185 : decode cX1_run 185 = .ok (.aload_n 0, 1) := by decide +kernel
theorem dX1_run_186 : decode cX1_run 186 = .ok (.bipush 20, 2) := by decide +kernel
theorem dX1_run_188 : decode cX1_run 188 = .ok (.iload_n 2, 1) := by decide +kernel
theorem dX1_run_189 : decode cX1_run 189 = .ok (.iconst 1, 1) := by decide +kernel
theorem dX1_run_190 : decode cX1_run 190 = .ok (.iadd, 1) := by decide +kernel
theorem dX1_run_191 : decode cX1_run 191 = .ok (.invokevirtual 49, 3) := by decide +kernel
theorem dX1_run_194 : decode cX1_run 194 = .ok (.aload_n 0, 1) := by decide +kernel
theorem dX1_run_195 : decode cX1_run 195 = .ok (.aload_n 0, 1) := by decide +kernel
theorem dX1_run_196 : decode cX1_run 196 = .ok (.invokevirtual 42, 3) := by decide +kernel
theorem dX1_run_199 : decode cX1_run 199 = .ok (.iload_n 2, 1) := by decide +kernel
theorem dX1_run_200 : decode cX1_run 200 = .ok (.iconst 1, 1) := by decide +kernel
theorem dX1_run_201 : decode cX1_run 201 = .ok (.iadd, 1) := by decide +kernel
theorem dX1_run_202 : decode cX1_run 202 = .ok (.invokevirtual 49, 3) := by decide +kernel
theorem dX1_run_205 : decode cX1_run 205 = .ok (.isub, 1) := by decide +kernel
theorem dX1_run_206 : decode cX1_run 206 = .ok (.ireturn, 1) := by decide +kernel
theorem dX1_run_207 : decode cX1_run 207 = .ok (.iconst 2, 1) := by decide +kernel
theorem dX1_run_208 : decode cX1_run 208 = .ok (.aload_n 0, 1) := by decide +kernel
theorem dX1_run_209 : decode cX1_run 209 = .ok (.bipush 21, 2) := by decide +kernel
theorem dX1_run_211 : decode cX1_run 211 = .ok (.iload_n 2, 1) := by decide +kernel
theorem dX1_run_212 : decode cX1_run 212 = .ok (.iconst 1, 1) := by decide +kernel
theorem dX1_run_213 : decode cX1_run 213 = .ok (.iadd, 1) := by decide +kernel
theorem dX1_run_214 : decode cX1_run 214 = .ok (.invokevirtual 49, 3) := by decide +kernel
theorem dX1_run_217 : decode cX1_run 217 = .ok (.imul, 1) := by decide +kernel
theorem dX1_run_218 : decode cX1_run 218 = .ok (.ireturn, 1) := by decide +kernel
theorem dX1_run_219 : decode cX1_run 219 = .ok (.iconst 0, 1) := by decide +kernel
theorem dX1_run_220 : decode cX1_run 220 = .ok (.ireturn, 1) := by decide +kernel
theorem dX1_leave_0 : decode cX1_leave 0 = .ok (.aload_n 0, 1) := by decide +kernel
theorem dX1_leave_1 : decode cX1_leave 1 = .ok (.getfield 15, 3) := by decide +kernel
theorem dX1_leave_4 : decode cX1_leave 4 = .ok (.bipush 16, 2) := by decide +kernel
theorem dX1_leave_6 : decode cX1_leave 6 = .ok (.if_icmp .ge 23, 3) := by decide +kernel
theorem dX1_leave_9 : decode cX1_leave 9 = .ok (.aload_n 0, 1) := by decide +kernel
theorem dX1_leave_10 : decode cX1_leave 10 = .ok (.getfield 9, 3) := by decide +kernel
theorem dX1_leave_13 : decode cX1_leave 13 = .ok (.aload_n 0, 1) := by decide +kernel
theorem dX1_leave_14 : decode cX1_leave 14 = .ok (.getfield 15, 3) := by decide +kernel
theorem dX1_leave_17 : decode cX1_leave 17 = .ok (.iload_n 1, 1) := by decide +kernel
theorem dX1_leave_18 : decode cX1_leave 18 = .ok (.iastore, 1) := by decide +kernel
theorem dX1_leave_19 : decode cX1_leave 19 = .ok (.aload_n 0, 1) := by decide +kernel
theorem dX1_leave_20 : decode cX1_leave 20 = .ok (.dup, 1) := by decide +kernel
theorem dX1_leave_21 : decode cX1_leave 21 = .ok (.getfield 15, 3) := by decide +kernel
theorem dX1_leave_24 : decode cX1_leave 24 = .ok (.iconst 1, 1) := by decide +kernel
theorem dX1_leave_25 : decode cX1_leave 25 = .ok (.iadd, 1) := by decide +kernel
theorem dX1_leave_26 : decode cX1_leave 26 = .ok (.putfield 15, 3) := by decide +kernel
theorem dX1_leave_29 : decode cX1_leave 29 = .ok (.return_, 1) := by decide +kernel
theorem dX2_init_0 : decode cX2_init 0 = .ok (.aload_n 0, 1) := by decide +kernel
theorem dX2_init_1 : decode cX2_init 1 = .ok (.invokespecial 3, 3) := by decide +kernel
theorem dX2_init_4 : decode cX2_init 4 = .ok (.aload_n 0, 1) := by decide +kernel
theorem dX2_init_5 : decode cX2_init 5 = .ok (.iconst 5, 1) := by decide +kernel
theorem dX2_init_6 : decode cX2_init 6 = .ok (.newarray .int, 2) := by decide +kernel
theorem dX2_init_8 : decode cX2_init 8 = .ok (.putfield 9, 3) := by decide +kernel
theorem dX2_init_11 : decode cX2_init 11 = .ok (.aload_n 0, 1) := by decide +kernel
theorem dX2_init_12 : decode cX2_init 12 = .ok (.iconst 5, 1) := by decide +kernel
theorem dX2_init_13 : decode cX2_init 13 = .ok (.newarray .int, 2) := by decide +kernel
theorem dX2_init_15 : decode cX2_init 15 = .ok (.putfield 15, 3) := by decide +kernel
theorem dX2_init_18 : decode cX2_init 18 = .ok (.aload_n 0, 1) := by decide +kernel
theorem dX2_init_19 : decode cX2_init 19 = .ok (.iconst 5, 1) := by decide +kernel
theorem dX2_init_20 : decode cX2_init 20 = .ok (.newarray .int, 2) := by decide +kernel
theorem dX2_init_22 : decode cX2_init 22 = .ok (.putfield 18, 3) := by decide +kernel
theorem dX2_init_25 : decode cX2_init 25 = .ok (.aload_n 0, 1) := by decide +kernel
theorem dX2_init_26 : decode cX2_init 26 = .ok (.iconst 5, 1) := by decide +kernel
theorem dX2_init_27 : decode cX2_init 27 = .ok (.newarray .int, 2) := by decide +kernel
theorem dX2_init_29 : decode cX2_init 29 = .ok (.putfield 21, 3) := by decide +kernel
theorem dX2_init_32 : decode cX2_init 32 = .ok (.aload_n 0, 1) := by decide +kernel
theorem dX2_init_33 : decode cX2_init 33 = .ok (.bipush 25, 2) := by decide +kernel
theorem dX2_init_35 : decode cX2_init 35 = .ok (.newarray .int, 2) := by decide +kernel
theorem dX2_init_37 : decode cX2_init 37 = .ok (.putfield 24, 3) := by decide +kernel
theorem dX2_init_40 : decode cX2_init 40 = .ok (.aload_n 0, 1) := by decide +kernel
theorem dX2_init_41 : decode cX2_init 41 = .ok (.bipush 12, 2) := by decide +kernel
theorem dX2_init_43 : decode cX2_init 43 = .ok (.newarray .int, 2) := by decide +kernel
theorem dX2_init_45 : decode cX2_init 45 = .ok (.putfield 27, 3) := by decide +kernel
theorem dX2_init_48 : decode cX2_init 48 = .ok (.return_, 1) := by decide +kernel
theorem dX2_clear_0 : decode cX2_clear 0 = .ok (.aload_n 0, 1) := by decide +kernel
theorem dX2_clear_1 : decode cX2_clear 1 = .ok (.iconst 0, 1) := by decide +kernel
theorem dX2_clear_2 : decode cX2_clear 2 = .ok (.putfield 30, 3) := by decide +kernel
theorem dX2_clear_5 : decode cX2_clear 5 = .ok (.aload_n 0, 1) := by decide +kernel
theorem dX2_clear_6 : decode cX2_clear 6 = .ok (.iconst 0, 1) := by decide +kernel
theorem dX2_clear_7 : decode cX2_clear 7 = .ok (.putfield 34, 3) := by decide +kernel
theorem dX2_clear_10 : decode cX2_clear 10 = .ok (.aload_n 0, 1) := by decide +kernel
theorem dX2_clear_11 : decode cX2_clear 11 = .ok (.iconst 0, 1) := by decide +kernel
theorem dX2_clear_12 : decode cX2_clear 12 = .ok (.putfield 37, 3) := by decide +kernel
theorem dX2_clear_15 : decode cX2_clear 15 = .ok (.aload_n 0, 1) := by decide +kernel
theorem dX2_clear_16 : decode cX2_clear 16 = .ok (.iconst 0, 1) := by decide +kernel
theorem dX2_clear_17 : decode cX2_clear 17 = .ok (.putfield 40, 3) := by decide +kernel
theorem dX2_clear_20 : decode cX2_clear 20 = .ok (.iconst 0, 1) := by decide +kernel
theorem dX2_clear_21 : decode cX2_clear 21 = .ok (.istore_n 1, 1) := by decide +kernel
theorem dX2_clear_22 : decode cX2_clear 22 = .ok (.iload_n 1, 1) := by decide +kernel
theorem dX2_clear_23 : decode cX2_clear 23 = .ok (.bipush 25, 2) := by decide +kernel
theorem dX2_clear_25 : decode cX2_clear 25 = .ok (.if_icmp .ge 16, 3) := by decide +kernel
theorem dX2_clear_28 : decode cX2_clear 28 = .ok (.aload_n 0, 1) := by decide +kernel
theorem dX2_clear_29 : decode cX2_clear 29 = .ok (.getfield 24, 3) := by decide +kernel
theorem dX2_clear_32 : decode cX2_clear 32 = .ok (.iload_n 1, 1) := by decide +kernel
theorem dX2_clear_33 : decode cX2_clear 33 = .ok (.iconst 0, 1) := by decide +kernel
theorem dX2_clear_34 : decode cX2_clear 34 = .ok (.iastore, 1) := by decide +kernel
theorem dX2_clear_35 : decode cX2_clear 35 = .ok (.iinc 1 1, 3) := by decide +kernel
theorem dX2_clear_38 : decode cX2_clear 38 = .ok (.goto (-16), 3) := by decide +kernel
theorem dX2_clear_41 : decode cX2_clear 41 = .ok (.return_, 1) := by decide +kernel
theorem dX2_become_0 : decode cX2_become 0 = .ok (.aload_n 0, 1) := by decide +kernel
theorem dX2_become_1 : decode cX2_become 1 = .ok (.aload_n 1, 1) := by decide +kernel
theorem dX2_become_2 : decode cX2_become 2 = .ok (.getfield 30, 3) := by decide +kernel
theorem dX2_become_5 : decode cX2_become 5 = .ok (.putfield 30, 3) := by decide +kernel
theorem dX2_become_8 : decode cX2_become 8 = .ok (.aload_n 0, 1) := by decide +kernel
theorem dX2_become_9 : decode cX2_become 9 = .ok (.aload_n 1, 1) := by decide +kernel
theorem dX2_become_10 : decode cX2_become 10 = .ok (.getfield 34, 3) := by decide +kernel
theorem dX2_become_13 : decode cX2_become 13 = .ok (.putfield 34, 3) := by decide +kernel
theorem dX2_become_16 : decode cX2_become 16 = .ok (.aload_n 0, 1) := by decide +kernel
theorem dX2_become_17 : decode cX2_become 17 = .ok (.aload_n 1, 1) := by decide +kernel
theorem dX2_become_18 : decode cX2_become 18 = .ok (.getfield 37, 3) := by decide +kernel
theorem dX2_become_21 : decode cX2_become 21 = .ok (.putfield 37, 3) := by decide +kernel
theorem dX2_become_24 : decode cX2_become 24 = .ok (.aload_n 0, 1) := by decide +kernel
theorem dX2_become_25 : decode cX2_become 25 = .ok (.aload_n 1, 1) := by decide +kernel
theorem dX2_become_26 : decode cX2_become 26 = .ok (.getfield 40, 3) := by decide +kernel
theorem dX2_become_29 : decode cX2_become 29 = .ok (.putfield 40, 3) := by decide +kernel
theorem dX2_become_32 : decode cX2_become 32 = .ok (.aload_n 0, 1) := by decide +kernel
theorem dX2_become_33 : decode cX2_become 33 = .ok (.aload_n 1, 1) := by decide +kernel
theorem dX2_become_34 : decode cX2_become 34 = .ok (.getfield 43, 3) := by decide +kernel
theorem dX2_become_37 : decode cX2_become 37 = .ok (.putfield 43, 3) := by decide +kernel
theorem dX2_become_40 : decode cX2_become 40 = .ok (.aload_n 0, 1) := by decide +kernel
theorem dX2_become_41 : decode cX2_become 41 = .ok (.aload_n 1, 1) := by decide +kernel
theorem dX2_become_42 : decode cX2_become 42 = .ok (.getfield 46, 3) := by decide +kernel
theorem dX2_become_45 : decode cX2_become 45 = .ok (.putfield 46, 3) := by decide +kernel
theorem dX2_become_48 : decode cX2_become 48 = .ok (.aload_n 0, 1) := by decide +kernel
theorem dX2_become_49 : decode cX2_become 49 = .ok (.aload_n 1, 1) := by decide +kernel
theorem dX2_become_50 : decode cX2_become 50 = .ok (.getfield 49, 3) := by decide +kernel
theorem dX2_become_53 : decode cX2_become 53 = .ok (.putfield 49, 3) := by decide +kernel
theorem dX2_become_56 : decode cX2_become 56 = .ok (.aload_n 0, 1) := by decide +kernel
theorem dX2_become_57 : decode cX2_become 57 = .ok (.aload_n 1, 1) := by decide +kernel
theorem dX2_become_58 : decode cX2_become 58 = .ok (.getfield 52, 3) := by decide +kernel
theorem dX2_become_61 : decode cX2_become 61 = .ok (.putfield 52, 3) := by decide +kernel
theorem dX2_become_64 : decode cX2_become 64 = .ok (.aload_n 1, 1) := by decide +kernel
theorem dX2_become_65 : decode cX2_become 65 = .ok (.getfield 9, 3) := by decide +kernel
theorem dX2_become_68 : decode cX2_become 68 = .ok (.iconst 0, 1) := by decide +kernel
theorem dX2_become_69 : decode cX2_become 69 = .ok (.aload_n 0, 1) := by decide +kernel
theorem dX2_become_70 : decode cX2_become 70 = .ok (.getfield 9, 3) := by decide +kernel
theorem dX2_become_73 : decode cX2_become 73 = .ok (.iconst 0, 1) := by decide +kernel
theorem dX2_become_74 : decode cX2_become 74 = .ok (.iconst 5, 1) := by decide +kernel
theorem dX2_become_75 : decode cX2_become 75 = .ok (.invokestatic 55, 3) := by decide +kernel
theorem dX2_become_78 : decode cX2_become 78 = .ok (.aload_n 1, 1) := by decide +kernel
theorem dX2_become_79 : decode cX2_become 79 = .ok (.getfield 15, 3) := by decide +kernel
theorem dX2_become_82 : decode cX2_become 82 = .ok (.iconst 0, 1) := by decide +kernel
theorem dX2_become_83 : decode cX2_become 83 = .ok (.aload_n 0, 1) := by decide +kernel
theorem dX2_become_84 : decode cX2_become 84 = .ok (.getfield 15, 3) := by decide +kernel
theorem dX2_become_87 : decode cX2_become 87 = .ok (.iconst 0, 1) := by decide +kernel
theorem dX2_become_88 : decode cX2_become 88 = .ok (.iconst 5, 1) := by decide +kernel
theorem dX2_become_89 : decode cX2_become 89 = .ok (.invokestatic 55, 3) := by decide +kernel
theorem dX2_become_92 : decode cX2_become 92 = .ok (.aload_n 1, 1) := by decide +kernel
theorem dX2_become_93 : decode cX2_become 93 = .ok (.getfield 18, 3) := by decide +kernel
theorem dX2_become_96 : decode cX2_become 96 = .ok (.iconst 0, 1) := by decide +kernel
theorem dX2_become_97 : decode cX2_become 97 = .ok (.aload_n 0, 1) := by decide +kernel
theorem dX2_become_98 : decode cX2_become 98 = .ok (.getfield 18, 3) := by decide +kernel
theorem dX2_become_101 : decode cX2_become 101 = .ok (.iconst 0, 1) := by decide +kernel
theorem dX2_become_102 : decode cX2_become 102 = .ok (.iconst 5, 1) := by decide +kernel
theorem dX2_become_103 : decode cX2_become 103 = .ok (.invokestatic 55, 3) := by decide +kernel
theorem dX2_become_106 : decode cX2_become 106 = .ok (.aload_n 1, 1) := by decide +kernel
theorem dX2_become_107 : decode cX2_become 107 = .ok (.getfield 24, 3) := by decide +kernel
theorem dX2_become_110 : decode cX2_become 110 = .ok (.iconst 0, 1) := by decide +kernel
theorem dX2_become_111 : decode cX2_become 111 = .ok (.aload_n 0, 1) := by decide +kernel
theorem dX2_become_112 : decode cX2_become 112 = .ok (.getfield 24, 3) := by decide +kernel
theorem dX2_become_115 : decode cX2_become 115 = .ok (.iconst 0, 1) := by decide +kernel
theorem dX2_become_116 : decode cX2_become 116 = .ok (.bipush 25, 2) := by decide +kernel
theorem dX2_become_118 : decode cX2_become 118 = .ok (.invokestatic 55, 3) := by decide +kernel
theorem dX2_become_121 : decode cX2_become 121 = .ok (.aload_n 1, 1) := by decide +kernel
theorem dX2_become_122 : decode cX2_become 122 = .ok (.getfield 27, 3) := by decide +kernel
theorem dX2_become_125 : decode cX2_become 125 = .ok (.iconst 0, 1) := by decide +kernel
theorem dX2_become_126 : decode cX2_become 126 = .ok (.aload_n 0, 1) := by decide +kernel
theorem dX2_become_127 : decode cX2_become 127 = .ok (.getfield 27, 3) := by decide +kernel
theorem dX2_become_130 : decode cX2_become 130 = .ok (.iconst 0, 1) := by decide +kernel
theorem dX2_become_131 : decode cX2_become 131 = .ok (.bipush 12, 2) := by decide +kernel
theorem dX2_become_133 : decode cX2_become 133 = .ok (.invokestatic 55, 3) := by decide +kernel
theorem dX2_become_136 : decode cX2_become 136 = .ok (.return_, 1) := by decide +kernel
theorem dX2_write_0 : decode cX2_write 0 = .ok (.aload_n 0, 1) := by decide +kernel
theorem dX2_write_1 : decode cX2_write 1 = .ok (.getfield 18, 3) := by decide +kernel
theorem dX2_write_4 : decode cX2_write 4 = .ok (.iconst 0, 1) := by decide +kernel
theorem dX2_write_5 : decode cX2_write 5 = .ok (.aload_n 1, 1) := by decide +kernel
theorem dX2_write_6 : decode cX2_write 6 = .ok (.iload_n 2, 1) := by decide +kernel
theorem dX2_write_7 : decode cX2_write 7 = .ok (.iconst 5, 1) := by decide +kernel
theorem dX2_write_8 : decode cX2_write 8 = .ok (.invokestatic 55, 3) := by decide +kernel
theorem dX2_write_11 : decode cX2_write 11 = .ok (.aload_n 0, 1) := by decide +kernel
theorem dX2_write_12 : decode cX2_write 12 = .ok (.getfield 24, 3) := by decide +kernel
theorem dX2_write_15 : decode cX2_write 15 = .ok (.iconst 0, 1) := by decide +kernel
theorem dX2_write_16 : decode cX2_write 16 = .ok (.aload_n 1, 1) := by decide +kernel
theorem dX2_write_17 : decode cX2_write 17 = .ok (.iload_n 2, 1) := by decide +kernel
theorem dX2_write_18 : decode cX2_write 18 = .ok (.iconst 5, 1) := by decide +kernel
theorem dX2_write_19 : decode cX2_write 19 = .ok (.iadd, 1) := by decide +kernel
theorem dX2_write_20 : decode cX2_write 20 = .ok (.bipush 25, 2) := by decide +kernel
theorem dX2_write_22 : decode cX2_write 22 = .ok (.invokestatic 55, 3) := by decide +kernel
theorem dX2_write_25 : decode cX2_write 25 = .ok (.aload_n 1, 1) := by decide +kernel
theorem dX2_write_26 : decode cX2_write 26 = .ok (.iload_n 2, 1) := by decide +kernel
theorem dX2_write_27 : decode cX2_write 27 = .ok (.bipush 30, 2) := by decide +kernel
theorem dX2_write_29 : decode cX2_write 29 = .ok (.iadd, 1) := by decide +kernel
theorem dX2_write_30 : decode cX2_write 30 = .ok (.aload_n 0, 1) := by decide +kernel
theorem dX2_write_31 : decode cX2_write 31 = .ok (.getfield 52, 3) := by decide +kernel
theorem dX2_write_34 : decode cX2_write 34 = .ok (.iastore, 1) := by decide +kernel
theorem dX2_write_35 : decode cX2_write 35 = .ok (.aload_n 1, 1) := by decide +kernel
theorem dX2_write_36 : decode cX2_write 36 = .ok (.iload_n 2, 1) := by decide +kernel
theorem dX2_write_37 : decode cX2_write 37 = .ok (.bipush 30, 2) := by decide +kernel
theorem dX2_write_39 : decode cX2_write 39 = .ok (.iadd, 1) := by decide +kernel
theorem dX2_write_40 : decode cX2_write 40 = .ok (.iconst 1, 1) := by decide +kernel
theorem dX2_write_41 : decode cX2_write 41 = .ok (.iadd, 1) := by decide +kernel
theorem dX2_write_42 : decode cX2_write 42 = .ok (.aload_n 0, 1) := by decide +kernel
theorem dX2_write_43 : decode cX2_write 43 = .ok (.getfield 37, 3) := by decide +kernel
theorem dX2_write_46 : decode cX2_write 46 = .ok (.iastore, 1) := by decide +kernel
theorem dX2_write_47 : decode cX2_write 47 = .ok (.aload_n 1, 1) := by decide +kernel
theorem dX2_write_48 : decode cX2_write 48 = .ok (.iload_n 2, 1) := by decide +kernel
theorem dX2_write_49 : decode cX2_write 49 = .ok (.bipush 30, 2) := by decide +kernel
theorem dX2_write_51 : decode cX2_write 51 = .ok (.iadd, 1) := by decide +kernel
theorem dX2_write_52 : decode cX2_write 52 = .ok (.iconst 2, 1) := by decide +kernel
theorem dX2_write_53 : decode cX2_write 53 = .ok (.iadd, 1) := by decide +kernel
theorem dX2_write_54 : decode cX2_write 54 = .ok (.aload_n 0, 1) := by decide +kernel
theorem dX2_write_55 : decode cX2_write 55 = .ok (.getfield 40, 3) := by decide +kernel
theorem dX2_write_58 : decode cX2_write 58 = .ok (.iastore, 1) := by decide +kernel
theorem dX2_write_59 : decode cX2_write 59 = .ok (.return_, 1) := by decide +kernel
theorem dX2_read_0 : decode cX2_read 0 = .ok (.aload_n 1, 1) := by decide +kernel
theorem dX2_read_1 : decode cX2_read 1 = .ok (.iload_n 2, 1) := by decide +kernel
theorem dX2_read_2 : decode cX2_read 2 = .ok (.aload_n 0, 1) := by decide +kernel
theorem dX2_read_3 : decode cX2_read 3 = .ok (.getfield 18, 3) := by decide +kernel
theorem dX2_read_6 : decode cX2_read 6 = .ok (.iconst 0, 1) := by decide +kernel
theorem dX2_read_7 : decode cX2_read 7 = .ok (.iconst 5, 1) := by decide +kernel
theorem dX2_read_8 : decode cX2_read 8 = .ok (.invokestatic 55, 3) := by decide +kernel
theorem dX2_read_11 : decode cX2_read 11 = .ok (.aload_n 1, 1) := by decide +kernel
theorem dX2_read_12 : decode cX2_read 12 = .ok (.iload_n 2, 1) := by decide +kernel
theorem dX2_read_13 : decode cX2_read 13 = .ok (.iconst 5, 1) := by decide +kernel
theorem dX2_read_14 : decode cX2_read 14 = .ok (.iadd, 1) := by decide +kernel
theorem dX2_read_15 : decode cX2_read 15 = .ok (.aload_n 0, 1) := by decide +kernel
theorem dX2_read_16 : decode cX2_read 16 = .ok (.getfield 24, 3) := by decide +kernel
theorem dX2_read_19 : decode cX2_read 19 = .ok (.iconst 0, 1) := by decide +kernel
theorem dX2_read_20 : decode cX2_read 20 = .ok (.bipush 25, 2) := by decide +kernel
theorem dX2_read_22 : decode cX2_read 22 = .ok (.invokestatic 55, 3) := by decide +kernel
theorem dX2_read_25 : decode cX2_read 25 = .ok (.aload_n 0, 1) := by decide +kernel
theorem dX2_read_26 : decode cX2_read 26 = .ok (.aload_n 1, 1) := by decide +kernel
theorem dX2_read_27 : decode cX2_read 27 = .ok (.iload_n 2, 1) := by decide +kernel
theorem dX2_read_28 : decode cX2_read 28 = .ok (.bipush 30, 2) := by decide +kernel
theorem dX2_read_30 : decode cX2_read 30 = .ok (.iadd, 1) := by decide +kernel
theorem dX2_read_31 : decode cX2_read 31 = .ok (.iaload, 1) := by decide +kernel
theorem dX2_read_32 : decode cX2_read 32 = .ok (.putfield 52, 3) := by decide +kernel
theorem dX2_read_35 : decode cX2_read 35 = .ok (.aload_n 0, 1) := by decide +kernel
theorem dX2_read_36 : decode cX2_read 36 = .ok (.aload_n 1, 1) := by decide +kernel
theorem dX2_read_37 : decode cX2_read 37 = .ok (.iload_n 2, 1) := by decide +kernel
theorem dX2_read_38 : decode cX2_read 38 = .ok (.bipush 30, 2) := by decide +kernel
theorem dX2_read_40 : decode cX2_read 40 = .ok (.iadd, 1) := by decide +kernel
theorem dX2_read_41 : decode cX2_read 41 = .ok (.iconst 1, 1) := by decide +kernel
theorem dX2_read_42 : decode cX2_read 42 = .ok (.iadd, 1) := by decide +kernel
theorem dX2_read_43 : decode cX2_read 43 = .ok (.iaload, 1) := by decide +kernel
theorem dX2_read_44 : decode cX2_read 44 = .ok (.putfield 37, 3) := by decide +kernel
theorem dX2_read_47 : decode cX2_read 47 = .ok (.aload_n 0, 1) := by decide +kernel
theorem dX2_read_48 : decode cX2_read 48 = .ok (.aload_n 1, 1) := by decide +kernel
theorem dX2_read_49 : decode cX2_read 49 = .ok (.iload_n 2, 1) := by decide +kernel
theorem dX2_read_50 : decode cX2_read 50 = .ok (.bipush 30, 2) := by decide +kernel
theorem dX2_read_52 : decode cX2_read 52 = .ok (.iadd, 1) := by decide +kernel
theorem dX2_read_53 : decode cX2_read 53 = .ok (.iconst 2, 1) := by decide +kernel
theorem dX2_read_54 : decode cX2_read 54 = .ok (.iadd, 1) := by decide +kernel
theorem dX2_read_55 : decode cX2_read 55 = .ok (.iaload, 1) := by decide +kernel
theorem dX2_read_56 : decode cX2_read 56 = .ok (.putfield 40, 3) := by decide +kernel
theorem dX2_read_59 : decode cX2_read 59 = .ok (.return_, 1) := by decide +kernel
theorem dX2_stands_0 : decode cX2_stands 0 = .ok (.aload_n 0, 1) := by decide +kernel
theorem dX2_stands_1 : decode cX2_stands 1 = .ok (.getfield 30, 3) := by decide +kernel
theorem dX2_stands_4 : decode cX2_stands 4 = .ok (.ifCond .le 7, 3) := by decide +kernel
theorem dX2_stands_7 : decode cX2_stands 7 = .ok (.iconst 1, 1) := by decide +kernel
theorem dX2_stands_8 : decode cX2_stands 8 = .ok (.goto 4, 3) := by decide +kernel
theorem dX2_stands_11 : decode cX2_stands 11 = .ok (.iconst 0, 1) := by decide +kernel
theorem dX2_stands_12 : decode cX2_stands 12 = .ok (.ireturn, 1) := by decide +kernel
theorem dX2_has_0 : decode cX2_has 0 = .ok (.iload_n 1, 1) := by decide +kernel
theorem dX2_has_1 : decode cX2_has 1 = .ok (.ifCond .lt 15, 3) := by decide +kernel
theorem dX2_has_4 : decode cX2_has 4 = .ok (.iload_n 1, 1) := by decide +kernel
theorem dX2_has_5 : decode cX2_has 5 = .ok (.aload_n 0, 1) := by decide +kernel
theorem dX2_has_6 : decode cX2_has 6 = .ok (.getfield 30, 3) := by decide +kernel
theorem dX2_has_9 : decode cX2_has 9 = .ok (.if_icmp .ge 7, 3) := by decide +kernel
theorem dX2_has_12 : decode cX2_has 12 = .ok (.iconst 1, 1) := by decide +kernel
theorem dX2_has_13 : decode cX2_has 13 = .ok (.goto 4, 3) := by decide +kernel
theorem dX2_has_16 : decode cX2_has 16 = .ok (.iconst 0, 1) := by decide +kernel
theorem dX2_has_17 : decode cX2_has 17 = .ok (.ireturn, 1) := by decide +kernel
theorem dX2_canHear_0 : decode cX2_canHear 0 = .ok (.aload_n 0, 1) := by decide +kernel
theorem dX2_canHear_1 : decode cX2_canHear 1 = .ok (.iload_n 1, 1) := by decide +kernel
theorem dX2_canHear_2 : decode cX2_canHear 2 = .ok (.invokevirtual 61, 3) := by decide +kernel
theorem dX2_canHear_5 : decode cX2_canHear 5 = .ok (.ifCond .eq 20, 3) := by decide +kernel
theorem dX2_canHear_8 : decode cX2_canHear 8 = .ok (.aload_n 0, 1) := by decide +kernel
theorem dX2_canHear_9 : decode cX2_canHear 9 = .ok (.iload_n 2, 1) := by decide +kernel
theorem dX2_canHear_10 : decode cX2_canHear 10 = .ok (.invokevirtual 61, 3) := by decide +kernel
theorem dX2_canHear_13 : decode cX2_canHear 13 = .ok (.ifCond .eq 12, 3) := by decide +kernel
theorem dX2_canHear_16 : decode cX2_canHear 16 = .ok (.iload_n 1, 1) := by decide +kernel
theorem dX2_canHear_17 : decode cX2_canHear 17 = .ok (.iload_n 2, 1) := by decide +kernel
theorem dX2_canHear_18 : decode cX2_canHear 18 = .ok (.if_icmp .eq 7, 3) := by decide +kernel
theorem dX2_canHear_21 : decode cX2_canHear 21 = .ok (.iconst 1, 1) := by decide +kernel
theorem dX2_canHear_22 : decode cX2_canHear 22 = .ok (.goto 4, 3) := by decide +kernel
theorem dX2_canHear_25 : decode cX2_canHear 25 = .ok (.iconst 0, 1) := by decide +kernel
theorem dX2_canHear_26 : decode cX2_canHear 26 = .ok (.ireturn, 1) := by decide +kernel
theorem dX2_weight_0 : decode cX2_weight 0 = .ok (.aload_n 0, 1) := by decide +kernel
theorem dX2_weight_1 : decode cX2_weight 1 = .ok (.getfield 24, 3) := by decide +kernel
theorem dX2_weight_4 : decode cX2_weight 4 = .ok (.iconst 5, 1) := by decide +kernel
theorem dX2_weight_5 : decode cX2_weight 5 = .ok (.iload_n 1, 1) := by decide +kernel
theorem dX2_weight_6 : decode cX2_weight 6 = .ok (.imul, 1) := by decide +kernel
theorem dX2_weight_7 : decode cX2_weight 7 = .ok (.iload_n 2, 1) := by decide +kernel
theorem dX2_weight_8 : decode cX2_weight 8 = .ok (.iadd, 1) := by decide +kernel
theorem dX2_weight_9 : decode cX2_weight 9 = .ok (.iaload, 1) := by decide +kernel
theorem dX2_weight_10 : decode cX2_weight 10 = .ok (.ireturn, 1) := by decide +kernel
theorem dX2_weigh_0 : decode cX2_weigh 0 = .ok (.aload_n 0, 1) := by decide +kernel
theorem dX2_weigh_1 : decode cX2_weigh 1 = .ok (.getfield 24, 3) := by decide +kernel
theorem dX2_weigh_4 : decode cX2_weigh 4 = .ok (.iconst 5, 1) := by decide +kernel
theorem dX2_weigh_5 : decode cX2_weigh 5 = .ok (.iload_n 1, 1) := by decide +kernel
theorem dX2_weigh_6 : decode cX2_weigh 6 = .ok (.imul, 1) := by decide +kernel
theorem dX2_weigh_7 : decode cX2_weigh 7 = .ok (.iload_n 2, 1) := by decide +kernel
theorem dX2_weigh_8 : decode cX2_weigh 8 = .ok (.iadd, 1) := by decide +kernel
theorem dX2_weigh_9 : decode cX2_weigh 9 = .ok (.iload_n 3, 1) := by decide +kernel
theorem dX2_weigh_10 : decode cX2_weigh 10 = .ok (.iastore, 1) := by decide +kernel
theorem dX2_weigh_11 : decode cX2_weigh 11 = .ok (.return_, 1) := by decide +kernel
theorem dX2_heardBy_0 : decode cX2_heardBy 0 = .ok (.iconst 0, 1) := by decide +kernel
theorem dX2_heardBy_1 : decode cX2_heardBy 1 = .ok (.istore_n 2, 1) := by decide +kernel
theorem dX2_heardBy_2 : decode cX2_heardBy 2 = .ok (.iconst 0, 1) := by decide +kernel
theorem dX2_heardBy_3 : decode cX2_heardBy 3 = .ok (.istore_n 3, 1) := by decide +kernel
theorem dX2_heardBy_4 : decode cX2_heardBy 4 = .ok (.iload_n 3, 1) := by decide +kernel
theorem dX2_heardBy_5 : decode cX2_heardBy 5 = .ok (.aload_n 0, 1) := by decide +kernel
theorem dX2_heardBy_6 : decode cX2_heardBy 6 = .ok (.getfield 30, 3) := by decide +kernel
theorem dX2_heardBy_9 : decode cX2_heardBy 9 = .ok (.if_icmp .ge 21, 3) := by decide +kernel
theorem dX2_heardBy_12 : decode cX2_heardBy 12 = .ok (.aload_n 0, 1) := by decide +kernel
theorem dX2_heardBy_13 : decode cX2_heardBy 13 = .ok (.iload_n 1, 1) := by decide +kernel
theorem dX2_heardBy_14 : decode cX2_heardBy 14 = .ok (.iload_n 3, 1) := by decide +kernel
theorem dX2_heardBy_15 : decode cX2_heardBy 15 = .ok (.invokevirtual 65, 3) := by decide +kernel
theorem dX2_heardBy_18 : decode cX2_heardBy 18 = .ok (.ifCond .eq 6, 3) := by decide +kernel
theorem dX2_heardBy_21 : decode cX2_heardBy 21 = .ok (.iinc 2 1, 3) := by decide +kernel
theorem dX2_heardBy_24 : decode cX2_heardBy 24 = .ok (.iinc 3 1, 3) := by decide +kernel
theorem dX2_heardBy_27 : decode cX2_heardBy 27 = .ok (.goto (-23), 3) := by decide +kernel
theorem dX2_heardBy_30 : decode cX2_heardBy 30 = .ok (.iload_n 2, 1) := by decide +kernel
theorem dX2_heardBy_31 : decode cX2_heardBy 31 = .ok (.ireturn, 1) := by decide +kernel
theorem dX2_barAt_0 : decode cX2_barAt 0 = .ok (.iload_n 1, 1) := by decide +kernel
theorem dX2_barAt_1 : decode cX2_barAt 1 = .ok (.ifCond .lt 20, 3) := by decide +kernel
theorem dX2_barAt_4 : decode cX2_barAt 4 = .ok (.iload_n 1, 1) := by decide +kernel
theorem dX2_barAt_5 : decode cX2_barAt 5 = .ok (.aload_n 0, 1) := by decide +kernel
theorem dX2_barAt_6 : decode cX2_barAt 6 = .ok (.getfield 34, 3) := by decide +kernel
theorem dX2_barAt_9 : decode cX2_barAt 9 = .ok (.if_icmp .ge 12, 3) := by decide +kernel
theorem dX2_barAt_12 : decode cX2_barAt 12 = .ok (.aload_n 0, 1) := by decide +kernel
theorem dX2_barAt_13 : decode cX2_barAt 13 = .ok (.getfield 27, 3) := by decide +kernel
theorem dX2_barAt_16 : decode cX2_barAt 16 = .ok (.iload_n 1, 1) := by decide +kernel
theorem dX2_barAt_17 : decode cX2_barAt 17 = .ok (.iaload, 1) := by decide +kernel
theorem dX2_barAt_18 : decode cX2_barAt 18 = .ok (.goto 4, 3) := by decide +kernel
theorem dX2_barAt_21 : decode cX2_barAt 21 = .ok (.iconst 0, 1) := by decide +kernel
theorem dX2_barAt_22 : decode cX2_barAt 22 = .ok (.ireturn, 1) := by decide +kernel
theorem dX2_together_0 : decode cX2_together 0 = .ok (.aload_n 0, 1) := by decide +kernel
theorem dX2_together_1 : decode cX2_together 1 = .ok (.getfield 30, 3) := by decide +kernel
theorem dX2_together_4 : decode cX2_together 4 = .ok (.ifCond .gt 5, 3) := by decide +kernel
theorem dX2_together_7 : decode cX2_together 7 = .ok (.iconst 0, 1) := by decide +kernel
theorem dX2_together_8 : decode cX2_together 8 = .ok (.ireturn, 1) := by decide +kernel
theorem dX2_together_9 : decode cX2_together 9 = .ok (.iconst 0, 1) := by decide +kernel
theorem dX2_together_10 : decode cX2_together 10 = .ok (.istore_n 1, 1) := by decide +kernel
theorem dX2_together_11 : decode cX2_together 11 = .ok (.iconst 0, 1) := by decide +kernel
theorem dX2_together_12 : decode cX2_together 12 = .ok (.istore_n 2, 1) := by decide +kernel
theorem dX2_together_13 : decode cX2_together 13 = .ok (.iload_n 2, 1) := by decide +kernel
theorem dX2_together_14 : decode cX2_together 14 = .ok (.aload_n 0, 1) := by decide +kernel
theorem dX2_together_15 : decode cX2_together 15 = .ok (.getfield 30, 3) := by decide +kernel
theorem dX2_together_18 : decode cX2_together 18 = .ok (.if_icmp .ge 18, 3) := by decide +kernel
theorem dX2_together_21 : decode cX2_together 21 = .ok (.iload_n 1, 1) := by decide +kernel
theorem dX2_together_22 : decode cX2_together 22 = .ok (.aload_n 0, 1) := by decide +kernel
theorem dX2_together_23 : decode cX2_together 23 = .ok (.getfield 18, 3) := by decide +kernel
theorem dX2_together_26 : decode cX2_together 26 = .ok (.iload_n 2, 1) := by decide +kernel
theorem dX2_together_27 : decode cX2_together 27 = .ok (.iaload, 1) := by decide +kernel
theorem dX2_together_28 : decode cX2_together 28 = .ok (.iadd, 1) := by decide +kernel
theorem dX2_together_29 : decode cX2_together 29 = .ok (.istore_n 1, 1) := by decide +kernel
theorem dX2_together_30 : decode cX2_together 30 = .ok (.iinc 2 1, 3) := by decide +kernel
theorem dX2_together_33 : decode cX2_together 33 = .ok (.goto (-20), 3) := by decide +kernel
theorem dX2_together_36 : decode cX2_together 36 = .ok (.iload_n 1, 1) := by decide +kernel
theorem dX2_together_37 : decode cX2_together 37 = .ok (.aload_n 0, 1) := by decide +kernel
theorem dX2_together_38 : decode cX2_together 38 = .ok (.getfield 30, 3) := by decide +kernel
theorem dX2_together_41 : decode cX2_together 41 = .ok (.idiv, 1) := by decide +kernel
theorem dX2_together_42 : decode cX2_together 42 = .ok (.ireturn, 1) := by decide +kernel
theorem dX2_quicken_0 : decode cX2_quicken 0 = .ok (.iconst 0, 1) := by decide +kernel
theorem dX2_quicken_1 : decode cX2_quicken 1 = .ok (.istore_n 2, 1) := by decide +kernel
theorem dX2_quicken_2 : decode cX2_quicken 2 = .ok (.iload_n 2, 1) := by decide +kernel
theorem dX2_quicken_3 : decode cX2_quicken 3 = .ok (.aload_n 0, 1) := by decide +kernel
theorem dX2_quicken_4 : decode cX2_quicken 4 = .ok (.getfield 30, 3) := by decide +kernel
theorem dX2_quicken_7 : decode cX2_quicken 7 = .ok (.if_icmp .ge 26, 3) := by decide +kernel
theorem dX2_quicken_10 : decode cX2_quicken 10 = .ok (.aload_n 0, 1) := by decide +kernel
theorem dX2_quicken_11 : decode cX2_quicken 11 = .ok (.getfield 18, 3) := by decide +kernel
theorem dX2_quicken_14 : decode cX2_quicken 14 = .ok (.iload_n 2, 1) := by decide +kernel
theorem dX2_quicken_15 : decode cX2_quicken 15 = .ok (.aload_n 0, 1) := by decide +kernel
theorem dX2_quicken_16 : decode cX2_quicken 16 = .ok (.getfield 18, 3) := by decide +kernel
theorem dX2_quicken_19 : decode cX2_quicken 19 = .ok (.iload_n 2, 1) := by decide +kernel
theorem dX2_quicken_20 : decode cX2_quicken 20 = .ok (.iaload, 1) := by decide +kernel
theorem dX2_quicken_21 : decode cX2_quicken 21 = .ok (.iload_n 1, 1) := by decide +kernel
theorem dX2_quicken_22 : decode cX2_quicken 22 = .ok (.iadd, 1) := by decide +kernel
theorem dX2_quicken_23 : decode cX2_quicken 23 = .ok (.invokestatic 69, 3) := by decide +kernel
theorem dX2_quicken_26 : decode cX2_quicken 26 = .ok (.iastore, 1) := by decide +kernel
theorem dX2_quicken_27 : decode cX2_quicken 27 = .ok (.iinc 2 1, 3) := by decide +kernel
theorem dX2_quicken_30 : decode cX2_quicken 30 = .ok (.goto (-28), 3) := by decide +kernel
theorem dX2_quicken_33 : decode cX2_quicken 33 = .ok (.return_, 1) := by decide +kernel
theorem dX2_leanAt_0 : decode cX2_leanAt 0 = .ok (.aload_n 0, 1) := by decide +kernel
theorem dX2_leanAt_1 : decode cX2_leanAt 1 = .ok (.getfield 9, 3) := by decide +kernel
theorem dX2_leanAt_4 : decode cX2_leanAt 4 = .ok (.iload_n 1, 1) := by decide +kernel
theorem dX2_leanAt_5 : decode cX2_leanAt 5 = .ok (.iaload, 1) := by decide +kernel
theorem dX2_leanAt_6 : decode cX2_leanAt 6 = .ok (.istore_n 3, 1) := by decide +kernel
theorem dX2_leanAt_7 : decode cX2_leanAt 7 = .ok (.iload_n 3, 1) := by decide +kernel
theorem dX2_leanAt_8 : decode cX2_leanAt 8 = .ok (.iconst 1, 1) := by decide +kernel
theorem dX2_leanAt_9 : decode cX2_leanAt 9 = .ok (.if_icmp .eq 15, 3) := by decide +kernel
theorem dX2_leanAt_12 : decode cX2_leanAt 12 = .ok (.iload_n 3, 1) := by decide +kernel
theorem dX2_leanAt_13 : decode cX2_leanAt 13 = .ok (.iconst 2, 1) := by decide +kernel
theorem dX2_leanAt_14 : decode cX2_leanAt 14 = .ok (.if_icmp .eq 10, 3) := by decide +kernel
theorem dX2_leanAt_17 : decode cX2_leanAt 17 = .ok (.iload_n 3, 1) := by decide +kernel
theorem dX2_leanAt_18 : decode cX2_leanAt 18 = .ok (.iconst 3, 1) := by decide +kernel
theorem dX2_leanAt_19 : decode cX2_leanAt 19 = .ok (.if_icmp .eq 5, 3) := by decide +kernel
theorem dX2_leanAt_22 : decode cX2_leanAt 22 = .ok (.iconst 0, 1) := by decide +kernel
theorem dX2_leanAt_23 : decode cX2_leanAt 23 = .ok (.ireturn, 1) := by decide +kernel
theorem dX2_leanAt_24 : decode cX2_leanAt 24 = .ok (.iload_n 2, 1) := by decide +kernel
theorem dX2_leanAt_25 : decode cX2_leanAt 25 = .ok (.tableswitch 72 1 3 #[27, 46, 67], 27) := by decide +kernel
theorem dX2_leanAt_52 : decode cX2_leanAt 52 = .ok (.iload_n 3, 1) := by decide +kernel
theorem dX2_leanAt_53 : decode cX2_leanAt 53 = .ok (.iconst 2, 1) := by decide +kernel
theorem dX2_leanAt_54 : decode cX2_leanAt 54 = .ok (.if_icmp .ne 12, 3) := by decide +kernel
theorem dX2_leanAt_57 : decode cX2_leanAt 57 = .ok (.iconst 2, 1) := by decide +kernel
theorem dX2_leanAt_58 : decode cX2_leanAt 58 = .ok (.aload_n 0, 1) := by decide +kernel
theorem dX2_leanAt_59 : decode cX2_leanAt 59 = .ok (.getfield 43, 3) := by decide +kernel
theorem dX2_leanAt_62 : decode cX2_leanAt 62 = .ok (.imul, 1) := by decide +kernel
theorem dX2_leanAt_63 : decode cX2_leanAt 63 = .ok (.goto 7, 3) := by decide +kernel
theorem dX2_leanAt_66 : decode cX2_leanAt 66 = .ok (.aload_n 0, 1) := by decide +kernel
theorem dX2_leanAt_67 : decode cX2_leanAt 67 = .ok (.getfield 43, 3) := by decide +kernel
theorem dX2_leanAt_70 : decode cX2_leanAt 70 = .ok (.ireturn, 1) := by decide +kernel
theorem dX2_leanAt_71 : decode cX2_leanAt 71 = .ok (.iload_n 3, 1) := by decide +kernel
theorem dX2_leanAt_72 : decode cX2_leanAt 72 = .ok (.iconst 3, 1) := by decide +kernel
theorem dX2_leanAt_73 : decode cX2_leanAt 73 = .ok (.if_icmp .ne 13, 3) := by decide +kernel
theorem dX2_leanAt_76 : decode cX2_leanAt 76 = .ok (.bipush (-2), 2) := by decide +kernel
theorem dX2_leanAt_78 : decode cX2_leanAt 78 = .ok (.aload_n 0, 1) := by decide +kernel
theorem dX2_leanAt_79 : decode cX2_leanAt 79 = .ok (.getfield 46, 3) := by decide +kernel
theorem dX2_leanAt_82 : decode cX2_leanAt 82 = .ok (.imul, 1) := by decide +kernel
theorem dX2_leanAt_83 : decode cX2_leanAt 83 = .ok (.goto 8, 3) := by decide +kernel
theorem dX2_leanAt_86 : decode cX2_leanAt 86 = .ok (.aload_n 0, 1) := by decide +kernel
theorem dX2_leanAt_87 : decode cX2_leanAt 87 = .ok (.getfield 46, 3) := by decide +kernel
theorem dX2_leanAt_90 : decode cX2_leanAt 90 = .ok (.ineg, 1) := by decide +kernel
theorem dX2_leanAt_91 : decode cX2_leanAt 91 = .ok (.ireturn, 1) := by decide +kernel
theorem dX2_leanAt_92 : decode cX2_leanAt 92 = .ok (.aload_n 0, 1) := by decide +kernel
theorem dX2_leanAt_93 : decode cX2_leanAt 93 = .ok (.getfield 49, 3) := by decide +kernel
theorem dX2_leanAt_96 : decode cX2_leanAt 96 = .ok (.ireturn, 1) := by decide +kernel
theorem dX2_leanAt_97 : decode cX2_leanAt 97 = .ok (.iconst 0, 1) := by decide +kernel
theorem dX2_leanAt_98 : decode cX2_leanAt 98 = .ok (.ireturn, 1) := by decide +kernel
theorem dX2_play_0 : decode cX2_play 0 = .ok (.aload_n 0, 1) := by decide +kernel
theorem dX2_play_1 : decode cX2_play 1 = .ok (.aload_n 0, 1) := by decide +kernel
theorem dX2_play_2 : decode cX2_play 2 = .ok (.getfield 37, 3) := by decide +kernel
theorem dX2_play_5 : decode cX2_play 5 = .ok (.invokevirtual 73, 3) := by decide +kernel
theorem dX2_play_8 : decode cX2_play 8 = .ok (.istore_n 1, 1) := by decide +kernel
theorem dX2_play_9 : decode cX2_play 9 = .ok (.iconst 0, 1) := by decide +kernel
theorem dX2_play_10 : decode cX2_play 10 = .ok (.istore_n 2, 1) := by decide +kernel
theorem dX2_play_11 : decode cX2_play 11 = .ok (.iload_n 2, 1) := by decide +kernel
theorem dX2_play_12 : decode cX2_play 12 = .ok (.aload_n 0, 1) := by decide +kernel
theorem dX2_play_13 : decode cX2_play 13 = .ok (.getfield 30, 3) := by decide +kernel
theorem dX2_play_16 : decode cX2_play 16 = .ok (.if_icmp .ge 21, 3) := by decide +kernel
theorem dX2_play_19 : decode cX2_play 19 = .ok (.aload_n 0, 1) := by decide +kernel
theorem dX2_play_20 : decode cX2_play 20 = .ok (.getfield 21, 3) := by decide +kernel
theorem dX2_play_23 : decode cX2_play 23 = .ok (.iload_n 2, 1) := by decide +kernel
theorem dX2_play_24 : decode cX2_play 24 = .ok (.aload_n 0, 1) := by decide +kernel
theorem dX2_play_25 : decode cX2_play 25 = .ok (.iload_n 2, 1) := by decide +kernel
theorem dX2_play_26 : decode cX2_play 26 = .ok (.iload_n 1, 1) := by decide +kernel
theorem dX2_play_27 : decode cX2_play 27 = .ok (.invokevirtual 76, 3) := by decide +kernel
theorem dX2_play_30 : decode cX2_play 30 = .ok (.iastore, 1) := by decide +kernel
theorem dX2_play_31 : decode cX2_play 31 = .ok (.iinc 2 1, 3) := by decide +kernel
theorem dX2_play_34 : decode cX2_play 34 = .ok (.goto (-23), 3) := by decide +kernel
theorem dX2_play_37 : decode cX2_play 37 = .ok (.aload_n 0, 1) := by decide +kernel
theorem dX2_play_38 : decode cX2_play 38 = .ok (.getfield 21, 3) := by decide +kernel
theorem dX2_play_41 : decode cX2_play 41 = .ok (.iconst 0, 1) := by decide +kernel
theorem dX2_play_42 : decode cX2_play 42 = .ok (.aload_n 0, 1) := by decide +kernel
theorem dX2_play_43 : decode cX2_play 43 = .ok (.getfield 18, 3) := by decide +kernel
theorem dX2_play_46 : decode cX2_play 46 = .ok (.iconst 0, 1) := by decide +kernel
theorem dX2_play_47 : decode cX2_play 47 = .ok (.aload_n 0, 1) := by decide +kernel
theorem dX2_play_48 : decode cX2_play 48 = .ok (.getfield 30, 3) := by decide +kernel
theorem dX2_play_51 : decode cX2_play 51 = .ok (.invokestatic 55, 3) := by decide +kernel
theorem dX2_play_54 : decode cX2_play 54 = .ok (.aload_n 0, 1) := by decide +kernel
theorem dX2_play_55 : decode cX2_play 55 = .ok (.aload_n 0, 1) := by decide +kernel
theorem dX2_play_56 : decode cX2_play 56 = .ok (.getfield 37, 3) := by decide +kernel
theorem dX2_play_59 : decode cX2_play 59 = .ok (.iconst 1, 1) := by decide +kernel
theorem dX2_play_60 : decode cX2_play 60 = .ok (.iadd, 1) := by decide +kernel
theorem dX2_play_61 : decode cX2_play 61 = .ok (.aload_n 0, 1) := by decide +kernel
theorem dX2_play_62 : decode cX2_play 62 = .ok (.getfield 34, 3) := by decide +kernel
theorem dX2_play_65 : decode cX2_play 65 = .ok (.if_icmp .ge 12, 3) := by decide +kernel
theorem dX2_play_68 : decode cX2_play 68 = .ok (.aload_n 0, 1) := by decide +kernel
theorem dX2_play_69 : decode cX2_play 69 = .ok (.getfield 37, 3) := by decide +kernel
theorem dX2_play_72 : decode cX2_play 72 = .ok (.iconst 1, 1) := by decide +kernel
theorem dX2_play_73 : decode cX2_play 73 = .ok (.iadd, 1) := by decide +kernel
theorem dX2_play_74 : decode cX2_play 74 = .ok (.goto 4, 3) := by decide +kernel
theorem dX2_play_77 : decode cX2_play 77 = .ok (.iconst 0, 1) := by decide +kernel
theorem dX2_play_78 : decode cX2_play 78 = .ok (.putfield 37, 3) := by decide +kernel
theorem dX2_play_81 : decode cX2_play 81 = .ok (.aload_n 0, 1) := by decide +kernel
theorem dX2_play_82 : decode cX2_play 82 = .ok (.dup, 1) := by decide +kernel
theorem dX2_play_83 : decode cX2_play 83 = .ok (.getfield 40, 3) := by decide +kernel
theorem dX2_play_86 : decode cX2_play 86 = .ok (.iconst 1, 1) := by decide +kernel
theorem dX2_play_87 : decode cX2_play 87 = .ok (.iadd, 1) := by decide +kernel
theorem dX2_play_88 : decode cX2_play 88 = .ok (.putfield 40, 3) := by decide +kernel
theorem dX2_play_91 : decode cX2_play 91 = .ok (.return_, 1) := by decide +kernel
theorem dX2_paceBehind_0 : decode cX2_paceBehind 0 = .ok (.iload_n 2, 1) := by decide +kernel
theorem dX2_paceBehind_1 : decode cX2_paceBehind 1 = .ok (.iconst 4, 1) := by decide +kernel
theorem dX2_paceBehind_2 : decode cX2_paceBehind 2 = .ok (.if_icmp .ne 7, 3) := by decide +kernel
theorem dX2_paceBehind_5 : decode cX2_paceBehind 5 = .ok (.iconst 0, 1) := by decide +kernel
theorem dX2_paceBehind_6 : decode cX2_paceBehind 6 = .ok (.goto 9, 3) := by decide +kernel
theorem dX2_paceBehind_9 : decode cX2_paceBehind 9 = .ok (.aload_n 0, 1) := by decide +kernel
theorem dX2_paceBehind_10 : decode cX2_paceBehind 10 = .ok (.getfield 15, 3) := by decide +kernel
theorem dX2_paceBehind_13 : decode cX2_paceBehind 13 = .ok (.iload_n 1, 1) := by decide +kernel
theorem dX2_paceBehind_14 : decode cX2_paceBehind 14 = .ok (.iaload, 1) := by decide +kernel
theorem dX2_paceBehind_15 : decode cX2_paceBehind 15 = .ok (.istore_n 3, 1) := by decide +kernel
theorem dX2_paceBehind_16 : decode cX2_paceBehind 16 = .ok (.aload_n 0, 1) := by decide +kernel
theorem dX2_paceBehind_17 : decode cX2_paceBehind 17 = .ok (.getfield 18, 3) := by decide +kernel
theorem dX2_paceBehind_20 : decode cX2_paceBehind 20 = .ok (.iload_n 1, 1) := by decide +kernel
theorem dX2_paceBehind_21 : decode cX2_paceBehind 21 = .ok (.iaload, 1) := by decide +kernel
theorem dX2_paceBehind_22 : decode cX2_paceBehind 22 = .ok (.aload_n 0, 1) := by decide +kernel
theorem dX2_paceBehind_23 : decode cX2_paceBehind 23 = .ok (.iload_n 1, 1) := by decide +kernel
theorem dX2_paceBehind_24 : decode cX2_paceBehind 24 = .ok (.invokevirtual 79, 3) := by decide +kernel
theorem dX2_paceBehind_27 : decode cX2_paceBehind 27 = .ok (.bipush 10, 2) := by decide +kernel
theorem dX2_paceBehind_29 : decode cX2_paceBehind 29 = .ok (.idiv, 1) := by decide +kernel
theorem dX2_paceBehind_30 : decode cX2_paceBehind 30 = .ok (.iadd, 1) := by decide +kernel
theorem dX2_paceBehind_31 : decode cX2_paceBehind 31 = .ok (.iload_n 3, 1) := by decide +kernel
theorem dX2_paceBehind_32 : decode cX2_paceBehind 32 = .ok (.iadd, 1) := by decide +kernel
theorem dX2_paceBehind_33 : decode cX2_paceBehind 33 = .ok (.aload_n 0, 1) := by decide +kernel
theorem dX2_paceBehind_34 : decode cX2_paceBehind 34 = .ok (.iload_n 1, 1) := by decide +kernel
theorem dX2_paceBehind_35 : decode cX2_paceBehind 35 = .ok (.iload_n 2, 1) := by decide +kernel
theorem dX2_paceBehind_36 : decode cX2_paceBehind 36 = .ok (.invokevirtual 82, 3) := by decide +kernel
theorem dX2_paceBehind_39 : decode cX2_paceBehind 39 = .ok (.iadd, 1) := by decide +kernel
theorem dX2_paceBehind_40 : decode cX2_paceBehind 40 = .ok (.istore 4, 2) := by decide +kernel
theorem dX2_paceBehind_42 : decode cX2_paceBehind 42 = .ok (.iload 4, 2) := by decide +kernel
theorem dX2_paceBehind_44 : decode cX2_paceBehind 44 = .ok (.aload_n 0, 1) := by decide +kernel
theorem dX2_paceBehind_45 : decode cX2_paceBehind 45 = .ok (.aload_n 0, 1) := by decide +kernel
theorem dX2_paceBehind_46 : decode cX2_paceBehind 46 = .ok (.getfield 9, 3) := by decide +kernel
theorem dX2_paceBehind_49 : decode cX2_paceBehind 49 = .ok (.iload_n 1, 1) := by decide +kernel
theorem dX2_paceBehind_50 : decode cX2_paceBehind 50 = .ok (.iaload, 1) := by decide +kernel
theorem dX2_paceBehind_51 : decode cX2_paceBehind 51 = .ok (.iload 4, 2) := by decide +kernel
theorem dX2_paceBehind_53 : decode cX2_paceBehind 53 = .ok (.invokevirtual 85, 3) := by decide +kernel
theorem dX2_paceBehind_56 : decode cX2_paceBehind 56 = .ok (.iadd, 1) := by decide +kernel
theorem dX2_paceBehind_57 : decode cX2_paceBehind 57 = .ok (.invokestatic 69, 3) := by decide +kernel
theorem dX2_paceBehind_60 : decode cX2_paceBehind 60 = .ok (.ireturn, 1) := by decide +kernel
theorem dX2_pull_0 : decode cX2_pull 0 = .ok (.aload_n 0, 1) := by decide +kernel
theorem dX2_pull_1 : decode cX2_pull 1 = .ok (.getfield 18, 3) := by decide +kernel
theorem dX2_pull_4 : decode cX2_pull 4 = .ok (.iload_n 1, 1) := by decide +kernel
theorem dX2_pull_5 : decode cX2_pull 5 = .ok (.iaload, 1) := by decide +kernel
theorem dX2_pull_6 : decode cX2_pull 6 = .ok (.istore_n 2, 1) := by decide +kernel
theorem dX2_pull_7 : decode cX2_pull 7 = .ok (.iconst 0, 1) := by decide +kernel
theorem dX2_pull_8 : decode cX2_pull 8 = .ok (.istore_n 3, 1) := by decide +kernel
theorem dX2_pull_9 : decode cX2_pull 9 = .ok (.iconst 0, 1) := by decide +kernel
theorem dX2_pull_10 : decode cX2_pull 10 = .ok (.istore 4, 2) := by decide +kernel
theorem dX2_pull_12 : decode cX2_pull 12 = .ok (.iload 4, 2) := by decide +kernel
theorem dX2_pull_14 : decode cX2_pull 14 = .ok (.aload_n 0, 1) := by decide +kernel
theorem dX2_pull_15 : decode cX2_pull 15 = .ok (.getfield 30, 3) := by decide +kernel
theorem dX2_pull_18 : decode cX2_pull 18 = .ok (.if_icmp .ge 33, 3) := by decide +kernel
theorem dX2_pull_21 : decode cX2_pull 21 = .ok (.iload_n 3, 1) := by decide +kernel
theorem dX2_pull_22 : decode cX2_pull 22 = .ok (.aload_n 0, 1) := by decide +kernel
theorem dX2_pull_23 : decode cX2_pull 23 = .ok (.getfield 24, 3) := by decide +kernel
theorem dX2_pull_26 : decode cX2_pull 26 = .ok (.iconst 5, 1) := by decide +kernel
theorem dX2_pull_27 : decode cX2_pull 27 = .ok (.iload_n 1, 1) := by decide +kernel
theorem dX2_pull_28 : decode cX2_pull 28 = .ok (.imul, 1) := by decide +kernel
theorem dX2_pull_29 : decode cX2_pull 29 = .ok (.iload 4, 2) := by decide +kernel
theorem dX2_pull_31 : decode cX2_pull 31 = .ok (.iadd, 1) := by decide +kernel
theorem dX2_pull_32 : decode cX2_pull 32 = .ok (.iaload, 1) := by decide +kernel
theorem dX2_pull_33 : decode cX2_pull 33 = .ok (.aload_n 0, 1) := by decide +kernel
theorem dX2_pull_34 : decode cX2_pull 34 = .ok (.getfield 18, 3) := by decide +kernel
theorem dX2_pull_37 : decode cX2_pull 37 = .ok (.iload 4, 2) := by decide +kernel
theorem dX2_pull_39 : decode cX2_pull 39 = .ok (.iaload, 1) := by decide +kernel
theorem dX2_pull_40 : decode cX2_pull 40 = .ok (.iload_n 2, 1) := by decide +kernel
theorem dX2_pull_41 : decode cX2_pull 41 = .ok (.isub, 1) := by decide +kernel
theorem dX2_pull_42 : decode cX2_pull 42 = .ok (.imul, 1) := by decide +kernel
theorem dX2_pull_43 : decode cX2_pull 43 = .ok (.iadd, 1) := by decide +kernel
theorem dX2_pull_44 : decode cX2_pull 44 = .ok (.istore_n 3, 1) := by decide +kernel
theorem dX2_pull_45 : decode cX2_pull 45 = .ok (.iinc 4 1, 3) := by decide +kernel
theorem dX2_pull_48 : decode cX2_pull 48 = .ok (.goto (-36), 3) := by decide +kernel
theorem dX2_pull_51 : decode cX2_pull 51 = .ok (.iload_n 3, 1) := by decide +kernel
theorem dX2_pull_52 : decode cX2_pull 52 = .ok (.ireturn, 1) := by decide +kernel
theorem dX2_nearing_0 : decode cX2_nearing 0 = .ok (.bipush 10, 2) := by decide +kernel
theorem dX2_nearing_2 : decode cX2_nearing 2 = .ok (.aload_n 0, 1) := by decide +kernel
theorem dX2_nearing_3 : decode cX2_nearing 3 = .ok (.getfield 52, 3) := by decide +kernel
theorem dX2_nearing_6 : decode cX2_nearing 6 = .ok (.imul, 1) := by decide +kernel
theorem dX2_nearing_7 : decode cX2_nearing 7 = .ok (.iload_n 2, 1) := by decide +kernel
theorem dX2_nearing_8 : decode cX2_nearing 8 = .ok (.isub, 1) := by decide +kernel
theorem dX2_nearing_9 : decode cX2_nearing 9 = .ok (.iconst 2, 1) := by decide +kernel
theorem dX2_nearing_10 : decode cX2_nearing 10 = .ok (.idiv, 1) := by decide +kernel
theorem dX2_nearing_11 : decode cX2_nearing 11 = .ok (.istore_n 3, 1) := by decide +kernel
theorem dX2_nearing_12 : decode cX2_nearing 12 = .ok (.iload_n 1, 1) := by decide +kernel
theorem dX2_nearing_13 : decode cX2_nearing 13 = .ok (.iconst 4, 1) := by decide +kernel
theorem dX2_nearing_14 : decode cX2_nearing 14 = .ok (.if_icmp .ne 7, 3) := by decide +kernel
theorem dX2_nearing_17 : decode cX2_nearing 17 = .ok (.iload_n 3, 1) := by decide +kernel
theorem dX2_nearing_18 : decode cX2_nearing 18 = .ok (.goto 15, 3) := by decide +kernel
theorem dX2_nearing_21 : decode cX2_nearing 21 = .ok (.iload_n 1, 1) := by decide +kernel
theorem dX2_nearing_22 : decode cX2_nearing 22 = .ok (.iconst 5, 1) := by decide +kernel
theorem dX2_nearing_23 : decode cX2_nearing 23 = .ok (.if_icmp .ne 9, 3) := by decide +kernel
theorem dX2_nearing_26 : decode cX2_nearing 26 = .ok (.iload_n 3, 1) := by decide +kernel
theorem dX2_nearing_27 : decode cX2_nearing 27 = .ok (.iconst 2, 1) := by decide +kernel
theorem dX2_nearing_28 : decode cX2_nearing 28 = .ok (.idiv, 1) := by decide +kernel
theorem dX2_nearing_29 : decode cX2_nearing 29 = .ok (.goto 4, 3) := by decide +kernel
theorem dX2_nearing_32 : decode cX2_nearing 32 = .ok (.iconst 0, 1) := by decide +kernel
theorem dX2_nearing_33 : decode cX2_nearing 33 = .ok (.ireturn, 1) := by decide +kernel
theorem dX3_init_0 : decode cX3_init 0 = .ok (.aload_n 0, 1) := by decide +kernel
theorem dX3_init_1 : decode cX3_init 1 = .ok (.invokespecial 3, 3) := by decide +kernel
theorem dX3_init_4 : decode cX3_init 4 = .ok (.aload_n 0, 1) := by decide +kernel
theorem dX3_init_5 : decode cX3_init 5 = .ok (.bipush 6, 2) := by decide +kernel
theorem dX3_init_7 : decode cX3_init 7 = .ok (.newarray .int, 2) := by decide +kernel
theorem dX3_init_9 : decode cX3_init 9 = .ok (.putfield 9, 3) := by decide +kernel
theorem dX3_init_12 : decode cX3_init 12 = .ok (.aload_n 0, 1) := by decide +kernel
theorem dX3_init_13 : decode cX3_init 13 = .ok (.bipush 6, 2) := by decide +kernel
theorem dX3_init_15 : decode cX3_init 15 = .ok (.newarray .int, 2) := by decide +kernel
theorem dX3_init_17 : decode cX3_init 17 = .ok (.putfield 15, 3) := by decide +kernel
theorem dX3_init_20 : decode cX3_init 20 = .ok (.return_, 1) := by decide +kernel
theorem dX3_findLeast_0 : decode cX3_findLeast 0 = .ok (.iconst 0, 1) := by decide +kernel
theorem dX3_findLeast_1 : decode cX3_findLeast 1 = .ok (.istore_n 3, 1) := by decide +kernel
theorem dX3_findLeast_2 : decode cX3_findLeast 2 = .ok (.iload_n 3, 1) := by decide +kernel
theorem dX3_findLeast_3 : decode cX3_findLeast 3 = .ok (.iload_n 2, 1) := by decide +kernel
theorem dX3_findLeast_4 : decode cX3_findLeast 4 = .ok (.if_icmp .ge 16, 3) := by decide +kernel
theorem dX3_findLeast_7 : decode cX3_findLeast 7 = .ok (.aload_n 0, 1) := by decide +kernel
theorem dX3_findLeast_8 : decode cX3_findLeast 8 = .ok (.getfield 9, 3) := by decide +kernel
theorem dX3_findLeast_11 : decode cX3_findLeast 11 = .ok (.iload_n 3, 1) := by decide +kernel
theorem dX3_findLeast_12 : decode cX3_findLeast 12 = .ok (.iload_n 3, 1) := by decide +kernel
theorem dX3_findLeast_13 : decode cX3_findLeast 13 = .ok (.iastore, 1) := by decide +kernel
theorem dX3_findLeast_14 : decode cX3_findLeast 14 = .ok (.iinc 3 1, 3) := by decide +kernel
theorem dX3_findLeast_17 : decode cX3_findLeast 17 = .ok (.goto (-15), 3) := by decide +kernel
theorem dX3_findLeast_20 : decode cX3_findLeast 20 = .ok (.aload_n 0, 1) := by decide +kernel
theorem dX3_findLeast_21 : decode cX3_findLeast 21 = .ok (.ldc 20, 2) := by decide +kernel
theorem dX3_findLeast_23 : decode cX3_findLeast 23 = .ok (.putfield 21, 3) := by decide +kernel
theorem dX3_findLeast_26 : decode cX3_findLeast 26 = .ok (.iconst 1, 1) := by decide +kernel
theorem dX3_findLeast_27 : decode cX3_findLeast 27 = .ok (.istore_n 3, 1) := by decide +kernel
theorem dX3_findLeast_28 : decode cX3_findLeast 28 = .ok (.iconst 0, 1) := by decide +kernel
theorem dX3_findLeast_29 : decode cX3_findLeast 29 = .ok (.istore 4, 2) := by decide +kernel
theorem dX3_findLeast_31 : decode cX3_findLeast 31 = .ok (.iload 4, 2) := by decide +kernel
theorem dX3_findLeast_33 : decode cX3_findLeast 33 = .ok (.sipush 720, 3) := by decide +kernel
theorem dX3_findLeast_36 : decode cX3_findLeast 36 = .ok (.if_icmp .ge 56, 3) := by decide +kernel
theorem dX3_findLeast_39 : decode cX3_findLeast 39 = .ok (.iload_n 3, 1) := by decide +kernel
theorem dX3_findLeast_40 : decode cX3_findLeast 40 = .ok (.ifCond .eq 52, 3) := by decide +kernel
theorem dX3_findLeast_43 : decode cX3_findLeast 43 = .ok (.aload_n 0, 1) := by decide +kernel
theorem dX3_findLeast_44 : decode cX3_findLeast 44 = .ok (.aload_n 1, 1) := by decide +kernel
theorem dX3_findLeast_45 : decode cX3_findLeast 45 = .ok (.iload_n 2, 1) := by decide +kernel
theorem dX3_findLeast_46 : decode cX3_findLeast 46 = .ok (.invokevirtual 25, 3) := by decide +kernel
theorem dX3_findLeast_49 : decode cX3_findLeast 49 = .ok (.istore 5, 2) := by decide +kernel
theorem dX3_findLeast_51 : decode cX3_findLeast 51 = .ok (.iload 5, 2) := by decide +kernel
theorem dX3_findLeast_53 : decode cX3_findLeast 53 = .ok (.aload_n 0, 1) := by decide +kernel
theorem dX3_findLeast_54 : decode cX3_findLeast 54 = .ok (.getfield 21, 3) := by decide +kernel
theorem dX3_findLeast_57 : decode cX3_findLeast 57 = .ok (.if_icmp .ge 23, 3) := by decide +kernel
theorem dX3_findLeast_60 : decode cX3_findLeast 60 = .ok (.aload_n 0, 1) := by decide +kernel
theorem dX3_findLeast_61 : decode cX3_findLeast 61 = .ok (.iload 5, 2) := by decide +kernel
theorem dX3_findLeast_63 : decode cX3_findLeast 63 = .ok (.putfield 21, 3) := by decide +kernel
theorem dX3_findLeast_66 : decode cX3_findLeast 66 = .ok (.aload_n 0, 1) := by decide +kernel
theorem dX3_findLeast_67 : decode cX3_findLeast 67 = .ok (.getfield 9, 3) := by decide +kernel
theorem dX3_findLeast_70 : decode cX3_findLeast 70 = .ok (.iconst 0, 1) := by decide +kernel
theorem dX3_findLeast_71 : decode cX3_findLeast 71 = .ok (.aload_n 0, 1) := by decide +kernel
theorem dX3_findLeast_72 : decode cX3_findLeast 72 = .ok (.getfield 15, 3) := by decide +kernel
theorem dX3_findLeast_75 : decode cX3_findLeast 75 = .ok (.iconst 0, 1) := by decide +kernel
theorem dX3_findLeast_76 : decode cX3_findLeast 76 = .ok (.iload_n 2, 1) := by decide +kernel
theorem dX3_findLeast_77 : decode cX3_findLeast 77 = .ok (.invokestatic 29, 3) := by decide +kernel
theorem dX3_findLeast_80 : decode cX3_findLeast 80 = .ok (.aload_n 0, 1) := by decide +kernel
theorem dX3_findLeast_81 : decode cX3_findLeast 81 = .ok (.iload_n 2, 1) := by decide +kernel
theorem dX3_findLeast_82 : decode cX3_findLeast 82 = .ok (.invokevirtual 35, 3) := by decide +kernel
theorem dX3_findLeast_85 : decode cX3_findLeast 85 = .ok (.istore_n 3, 1) := by decide +kernel
theorem dX3_findLeast_86 : decode cX3_findLeast 86 = .ok (.iinc 4 1, 3) := by decide +kernel
theorem dX3_findLeast_89 : decode cX3_findLeast 89 = .ok (.goto (-58), 3) := by decide +kernel
theorem dX3_findLeast_92 : decode cX3_findLeast 92 = .ok (.return_, 1) := by decide +kernel
theorem dX3_changes_0 : decode cX3_changes 0 = .ok (.iconst 0, 1) := by decide +kernel
theorem dX3_changes_1 : decode cX3_changes 1 = .ok (.istore_n 3, 1) := by decide +kernel
theorem dX3_changes_2 : decode cX3_changes 2 = .ok (.iconst 1, 1) := by decide +kernel
theorem dX3_changes_3 : decode cX3_changes 3 = .ok (.istore 4, 2) := by decide +kernel
theorem dX3_changes_5 : decode cX3_changes 5 = .ok (.iload 4, 2) := by decide +kernel
theorem dX3_changes_7 : decode cX3_changes 7 = .ok (.iload_n 2, 1) := by decide +kernel
theorem dX3_changes_8 : decode cX3_changes 8 = .ok (.if_icmp .ge 36, 3) := by decide +kernel
theorem dX3_changes_11 : decode cX3_changes 11 = .ok (.iload_n 3, 1) := by decide +kernel
theorem dX3_changes_12 : decode cX3_changes 12 = .ok (.aload_n 1, 1) := by decide +kernel
theorem dX3_changes_13 : decode cX3_changes 13 = .ok (.aload_n 0, 1) := by decide +kernel
theorem dX3_changes_14 : decode cX3_changes 14 = .ok (.getfield 9, 3) := by decide +kernel
theorem dX3_changes_17 : decode cX3_changes 17 = .ok (.iload 4, 2) := by decide +kernel
theorem dX3_changes_19 : decode cX3_changes 19 = .ok (.iaload, 1) := by decide +kernel
theorem dX3_changes_20 : decode cX3_changes 20 = .ok (.iaload, 1) := by decide +kernel
theorem dX3_changes_21 : decode cX3_changes 21 = .ok (.aload_n 1, 1) := by decide +kernel
theorem dX3_changes_22 : decode cX3_changes 22 = .ok (.aload_n 0, 1) := by decide +kernel
theorem dX3_changes_23 : decode cX3_changes 23 = .ok (.getfield 9, 3) := by decide +kernel
theorem dX3_changes_26 : decode cX3_changes 26 = .ok (.iload 4, 2) := by decide +kernel
theorem dX3_changes_28 : decode cX3_changes 28 = .ok (.iconst 1, 1) := by decide +kernel
theorem dX3_changes_29 : decode cX3_changes 29 = .ok (.isub, 1) := by decide +kernel
theorem dX3_changes_30 : decode cX3_changes 30 = .ok (.iaload, 1) := by decide +kernel
theorem dX3_changes_31 : decode cX3_changes 31 = .ok (.iaload, 1) := by decide +kernel
theorem dX3_changes_32 : decode cX3_changes 32 = .ok (.isub, 1) := by decide +kernel
theorem dX3_changes_33 : decode cX3_changes 33 = .ok (.invokestatic 39, 3) := by decide +kernel
theorem dX3_changes_36 : decode cX3_changes 36 = .ok (.iadd, 1) := by decide +kernel
theorem dX3_changes_37 : decode cX3_changes 37 = .ok (.istore_n 3, 1) := by decide +kernel
theorem dX3_changes_38 : decode cX3_changes 38 = .ok (.iinc 4 1, 3) := by decide +kernel
theorem dX3_changes_41 : decode cX3_changes 41 = .ok (.goto (-36), 3) := by decide +kernel
theorem dX3_changes_44 : decode cX3_changes 44 = .ok (.iload_n 3, 1) := by decide +kernel
theorem dX3_changes_45 : decode cX3_changes 45 = .ok (.ireturn, 1) := by decide +kernel
theorem dX3_step_0 : decode cX3_step 0 = .ok (.iload_n 1, 1) := by decide +kernel
theorem dX3_step_1 : decode cX3_step 1 = .ok (.iconst 2, 1) := by decide +kernel
theorem dX3_step_2 : decode cX3_step 2 = .ok (.isub, 1) := by decide +kernel
theorem dX3_step_3 : decode cX3_step 3 = .ok (.istore_n 2, 1) := by decide +kernel
theorem dX3_step_4 : decode cX3_step 4 = .ok (.iload_n 2, 1) := by decide +kernel
theorem dX3_step_5 : decode cX3_step 5 = .ok (.ifCond .lt 26, 3) := by decide +kernel
theorem dX3_step_8 : decode cX3_step 8 = .ok (.aload_n 0, 1) := by decide +kernel
theorem dX3_step_9 : decode cX3_step 9 = .ok (.getfield 9, 3) := by decide +kernel
theorem dX3_step_12 : decode cX3_step 12 = .ok (.iload_n 2, 1) := by decide +kernel
theorem dX3_step_13 : decode cX3_step 13 = .ok (.iaload, 1) := by decide +kernel
theorem dX3_step_14 : decode cX3_step 14 = .ok (.aload_n 0, 1) := by decide +kernel
theorem dX3_step_15 : decode cX3_step 15 = .ok (.getfield 9, 3) := by decide +kernel
theorem dX3_step_18 : decode cX3_step 18 = .ok (.iload_n 2, 1) := by decide +kernel
theorem dX3_step_19 : decode cX3_step 19 = .ok (.iconst 1, 1) := by decide +kernel
theorem dX3_step_20 : decode cX3_step 20 = .ok (.iadd, 1) := by decide +kernel
theorem dX3_step_21 : decode cX3_step 21 = .ok (.iaload, 1) := by decide +kernel
theorem dX3_step_22 : decode cX3_step 22 = .ok (.if_icmp .le 9, 3) := by decide +kernel
theorem dX3_step_25 : decode cX3_step 25 = .ok (.iinc 2 (-1), 3) := by decide +kernel
theorem dX3_step_28 : decode cX3_step 28 = .ok (.goto (-24), 3) := by decide +kernel
theorem dX3_step_31 : decode cX3_step 31 = .ok (.iload_n 2, 1) := by decide +kernel
theorem dX3_step_32 : decode cX3_step 32 = .ok (.ifCond .ge 5, 3) := by decide +kernel
theorem dX3_step_35 : decode cX3_step 35 = .ok (.iconst 0, 1) := by decide +kernel
theorem dX3_step_36 : decode cX3_step 36 = .ok (.ireturn, 1) := by decide +kernel
theorem dX3_step_37 : decode cX3_step 37 = .ok (.iload_n 1, 1) := by decide +kernel
theorem dX3_step_38 : decode cX3_step 38 = .ok (.iconst 1, 1) := by decide +kernel
theorem dX3_step_39 : decode cX3_step 39 = .ok (.isub, 1) := by decide +kernel
theorem dX3_step_40 : decode cX3_step 40 = .ok (.istore_n 3, 1) := by decide +kernel
theorem dX3_step_41 : decode cX3_step 41 = .ok (.iload_n 3, 1) := by decide +kernel
theorem dX3_step_42 : decode cX3_step 42 = .ok (.iload_n 2, 1) := by decide +kernel
theorem dX3_step_43 : decode cX3_step 43 = .ok (.if_icmp .le 24, 3) := by decide +kernel
theorem dX3_step_46 : decode cX3_step 46 = .ok (.aload_n 0, 1) := by decide +kernel
theorem dX3_step_47 : decode cX3_step 47 = .ok (.getfield 9, 3) := by decide +kernel
theorem dX3_step_50 : decode cX3_step 50 = .ok (.iload_n 3, 1) := by decide +kernel
theorem dX3_step_51 : decode cX3_step 51 = .ok (.iaload, 1) := by decide +kernel
theorem dX3_step_52 : decode cX3_step 52 = .ok (.aload_n 0, 1) := by decide +kernel
theorem dX3_step_53 : decode cX3_step 53 = .ok (.getfield 9, 3) := by decide +kernel
theorem dX3_step_56 : decode cX3_step 56 = .ok (.iload_n 2, 1) := by decide +kernel
theorem dX3_step_57 : decode cX3_step 57 = .ok (.iaload, 1) := by decide +kernel
theorem dX3_step_58 : decode cX3_step 58 = .ok (.if_icmp .ge 9, 3) := by decide +kernel
theorem dX3_step_61 : decode cX3_step 61 = .ok (.iinc 3 (-1), 3) := by decide +kernel
theorem dX3_step_64 : decode cX3_step 64 = .ok (.goto (-23), 3) := by decide +kernel
theorem dX3_step_67 : decode cX3_step 67 = .ok (.aload_n 0, 1) := by decide +kernel
theorem dX3_step_68 : decode cX3_step 68 = .ok (.iload_n 2, 1) := by decide +kernel
theorem dX3_step_69 : decode cX3_step 69 = .ok (.iload_n 3, 1) := by decide +kernel
theorem dX3_step_70 : decode cX3_step 70 = .ok (.invokevirtual 45, 3) := by decide +kernel
theorem dX3_step_73 : decode cX3_step 73 = .ok (.iload_n 2, 1) := by decide +kernel
theorem dX3_step_74 : decode cX3_step 74 = .ok (.iconst 1, 1) := by decide +kernel
theorem dX3_step_75 : decode cX3_step 75 = .ok (.iadd, 1) := by decide +kernel
theorem dX3_step_76 : decode cX3_step 76 = .ok (.istore 4, 2) := by decide +kernel
theorem dX3_step_78 : decode cX3_step 78 = .ok (.iload_n 1, 1) := by decide +kernel
theorem dX3_step_79 : decode cX3_step 79 = .ok (.iconst 1, 1) := by decide +kernel
theorem dX3_step_80 : decode cX3_step 80 = .ok (.isub, 1) := by decide +kernel
theorem dX3_step_81 : decode cX3_step 81 = .ok (.istore 5, 2) := by decide +kernel
theorem dX3_step_83 : decode cX3_step 83 = .ok (.iload 4, 2) := by decide +kernel
theorem dX3_step_85 : decode cX3_step 85 = .ok (.iload 5, 2) := by decide +kernel
theorem dX3_step_87 : decode cX3_step 87 = .ok (.if_icmp .ge 20, 3) := by decide +kernel
theorem dX3_step_90 : decode cX3_step 90 = .ok (.aload_n 0, 1) := by decide +kernel
theorem dX3_step_91 : decode cX3_step 91 = .ok (.iload 4, 2) := by decide +kernel
theorem dX3_step_93 : decode cX3_step 93 = .ok (.iload 5, 2) := by decide +kernel
theorem dX3_step_95 : decode cX3_step 95 = .ok (.invokevirtual 45, 3) := by decide +kernel
theorem dX3_step_98 : decode cX3_step 98 = .ok (.iinc 4 1, 3) := by decide +kernel
theorem dX3_step_101 : decode cX3_step 101 = .ok (.iinc 5 (-1), 3) := by decide +kernel
theorem dX3_step_104 : decode cX3_step 104 = .ok (.goto (-21), 3) := by decide +kernel
theorem dX3_step_107 : decode cX3_step 107 = .ok (.iconst 1, 1) := by decide +kernel
theorem dX3_step_108 : decode cX3_step 108 = .ok (.ireturn, 1) := by decide +kernel
theorem dX3_swap_0 : decode cX3_swap 0 = .ok (.aload_n 0, 1) := by decide +kernel
theorem dX3_swap_1 : decode cX3_swap 1 = .ok (.getfield 9, 3) := by decide +kernel
theorem dX3_swap_4 : decode cX3_swap 4 = .ok (.iload_n 1, 1) := by decide +kernel
theorem dX3_swap_5 : decode cX3_swap 5 = .ok (.iaload, 1) := by decide +kernel
theorem dX3_swap_6 : decode cX3_swap 6 = .ok (.istore_n 3, 1) := by decide +kernel
theorem dX3_swap_7 : decode cX3_swap 7 = .ok (.aload_n 0, 1) := by decide +kernel
theorem dX3_swap_8 : decode cX3_swap 8 = .ok (.getfield 9, 3) := by decide +kernel
theorem dX3_swap_11 : decode cX3_swap 11 = .ok (.iload_n 1, 1) := by decide +kernel
theorem dX3_swap_12 : decode cX3_swap 12 = .ok (.aload_n 0, 1) := by decide +kernel
theorem dX3_swap_13 : decode cX3_swap 13 = .ok (.getfield 9, 3) := by decide +kernel
theorem dX3_swap_16 : decode cX3_swap 16 = .ok (.iload_n 2, 1) := by decide +kernel
theorem dX3_swap_17 : decode cX3_swap 17 = .ok (.iaload, 1) := by decide +kernel
theorem dX3_swap_18 : decode cX3_swap 18 = .ok (.iastore, 1) := by decide +kernel
theorem dX3_swap_19 : decode cX3_swap 19 = .ok (.aload_n 0, 1) := by decide +kernel
theorem dX3_swap_20 : decode cX3_swap 20 = .ok (.getfield 9, 3) := by decide +kernel
theorem dX3_swap_23 : decode cX3_swap 23 = .ok (.iload_n 2, 1) := by decide +kernel
theorem dX3_swap_24 : decode cX3_swap 24 = .ok (.iload_n 3, 1) := by decide +kernel
theorem dX3_swap_25 : decode cX3_swap 25 = .ok (.iastore, 1) := by decide +kernel
theorem dX3_swap_26 : decode cX3_swap 26 = .ok (.return_, 1) := by decide +kernel
theorem dX4_init_0 : decode cX4_init 0 = .ok (.aload_n 0, 1) := by decide +kernel
theorem dX4_init_1 : decode cX4_init 1 = .ok (.invokespecial 3, 3) := by decide +kernel
theorem dX4_init_4 : decode cX4_init 4 = .ok (.aload_n 0, 1) := by decide +kernel
theorem dX4_init_5 : decode cX4_init 5 = .ok (.bipush 8, 2) := by decide +kernel
theorem dX4_init_7 : decode cX4_init 7 = .ok (.newarray .int, 2) := by decide +kernel
theorem dX4_init_9 : decode cX4_init 9 = .ok (.dup, 1) := by decide +kernel
theorem dX4_init_10 : decode cX4_init 10 = .ok (.iconst 0, 1) := by decide +kernel
theorem dX4_init_11 : decode cX4_init 11 = .ok (.iconst (-1), 1) := by decide +kernel
theorem dX4_init_12 : decode cX4_init 12 = .ok (.iastore, 1) := by decide +kernel
theorem dX4_init_13 : decode cX4_init 13 = .ok (.dup, 1) := by decide +kernel
theorem dX4_init_14 : decode cX4_init 14 = .ok (.iconst 1, 1) := by decide +kernel
theorem dX4_init_15 : decode cX4_init 15 = .ok (.iconst (-1), 1) := by decide +kernel
theorem dX4_init_16 : decode cX4_init 16 = .ok (.iastore, 1) := by decide +kernel
theorem dX4_init_17 : decode cX4_init 17 = .ok (.dup, 1) := by decide +kernel
theorem dX4_init_18 : decode cX4_init 18 = .ok (.iconst 2, 1) := by decide +kernel
theorem dX4_init_19 : decode cX4_init 19 = .ok (.iconst (-1), 1) := by decide +kernel
theorem dX4_init_20 : decode cX4_init 20 = .ok (.iastore, 1) := by decide +kernel
theorem dX4_init_21 : decode cX4_init 21 = .ok (.dup, 1) := by decide +kernel
theorem dX4_init_22 : decode cX4_init 22 = .ok (.iconst 3, 1) := by decide +kernel
theorem dX4_init_23 : decode cX4_init 23 = .ok (.iconst (-1), 1) := by decide +kernel
theorem dX4_init_24 : decode cX4_init 24 = .ok (.iastore, 1) := by decide +kernel
theorem dX4_init_25 : decode cX4_init 25 = .ok (.dup, 1) := by decide +kernel
theorem dX4_init_26 : decode cX4_init 26 = .ok (.iconst 4, 1) := by decide +kernel
theorem dX4_init_27 : decode cX4_init 27 = .ok (.iconst (-1), 1) := by decide +kernel
theorem dX4_init_28 : decode cX4_init 28 = .ok (.iastore, 1) := by decide +kernel
theorem dX4_init_29 : decode cX4_init 29 = .ok (.dup, 1) := by decide +kernel
theorem dX4_init_30 : decode cX4_init 30 = .ok (.iconst 5, 1) := by decide +kernel
theorem dX4_init_31 : decode cX4_init 31 = .ok (.iconst (-1), 1) := by decide +kernel
theorem dX4_init_32 : decode cX4_init 32 = .ok (.iastore, 1) := by decide +kernel
theorem dX4_init_33 : decode cX4_init 33 = .ok (.dup, 1) := by decide +kernel
theorem dX4_init_34 : decode cX4_init 34 = .ok (.bipush 6, 2) := by decide +kernel
theorem dX4_init_36 : decode cX4_init 36 = .ok (.iconst (-1), 1) := by decide +kernel
theorem dX4_init_37 : decode cX4_init 37 = .ok (.iastore, 1) := by decide +kernel
theorem dX4_init_38 : decode cX4_init 38 = .ok (.dup, 1) := by decide +kernel
theorem dX4_init_39 : decode cX4_init 39 = .ok (.bipush 7, 2) := by decide +kernel
theorem dX4_init_41 : decode cX4_init 41 = .ok (.iconst (-1), 1) := by decide +kernel
theorem dX4_init_42 : decode cX4_init 42 = .ok (.iastore, 1) := by decide +kernel
theorem dX4_init_43 : decode cX4_init 43 = .ok (.putfield 11, 3) := by decide +kernel
theorem dX4_init_46 : decode cX4_init 46 = .ok (.aload_n 0, 1) := by decide +kernel
theorem dX4_init_47 : decode cX4_init 47 = .ok (.bipush 8, 2) := by decide +kernel
theorem dX4_init_49 : decode cX4_init 49 = .ok (.newarray .int, 2) := by decide +kernel
theorem dX4_init_51 : decode cX4_init 51 = .ok (.putfield 15, 3) := by decide +kernel
theorem dX4_init_54 : decode cX4_init 54 = .ok (.aload_n 0, 1) := by decide +kernel
theorem dX4_init_55 : decode cX4_init 55 = .ok (.sipush 320, 3) := by decide +kernel
theorem dX4_init_58 : decode cX4_init 58 = .ok (.newarray .int, 2) := by decide +kernel
theorem dX4_init_60 : decode cX4_init 60 = .ok (.putfield 18, 3) := by decide +kernel
theorem dX4_init_63 : decode cX4_init 63 = .ok (.aload_n 0, 1) := by decide +kernel
theorem dX4_init_64 : decode cX4_init 64 = .ok (.bipush 40, 2) := by decide +kernel
theorem dX4_init_66 : decode cX4_init 66 = .ok (.newarray .int, 2) := by decide +kernel
theorem dX4_init_68 : decode cX4_init 68 = .ok (.putfield 21, 3) := by decide +kernel
theorem dX4_init_71 : decode cX4_init 71 = .ok (.return_, 1) := by decide +kernel
theorem dX4_isRow_0 : decode cX4_isRow 0 = .ok (.iload_n 1, 1) := by decide +kernel
theorem dX4_isRow_1 : decode cX4_isRow 1 = .ok (.ifCond .lt 13, 3) := by decide +kernel
theorem dX4_isRow_4 : decode cX4_isRow 4 = .ok (.iload_n 1, 1) := by decide +kernel
theorem dX4_isRow_5 : decode cX4_isRow 5 = .ok (.bipush 8, 2) := by decide +kernel
theorem dX4_isRow_7 : decode cX4_isRow 7 = .ok (.if_icmp .ge 7, 3) := by decide +kernel
theorem dX4_isRow_10 : decode cX4_isRow 10 = .ok (.iconst 1, 1) := by decide +kernel
theorem dX4_isRow_11 : decode cX4_isRow 11 = .ok (.goto 4, 3) := by decide +kernel
theorem dX4_isRow_14 : decode cX4_isRow 14 = .ok (.iconst 0, 1) := by decide +kernel
theorem dX4_isRow_15 : decode cX4_isRow 15 = .ok (.ireturn, 1) := by decide +kernel
theorem dX4_lacks_0 : decode cX4_lacks 0 = .ok (.aload_n 0, 1) := by decide +kernel
theorem dX4_lacks_1 : decode cX4_lacks 1 = .ok (.getfield 11, 3) := by decide +kernel
theorem dX4_lacks_4 : decode cX4_lacks 4 = .ok (.iload_n 1, 1) := by decide +kernel
theorem dX4_lacks_5 : decode cX4_lacks 5 = .ok (.iaload, 1) := by decide +kernel
theorem dX4_lacks_6 : decode cX4_lacks 6 = .ok (.iconst (-1), 1) := by decide +kernel
theorem dX4_lacks_7 : decode cX4_lacks 7 = .ok (.if_icmp .ne 7, 3) := by decide +kernel
theorem dX4_lacks_10 : decode cX4_lacks 10 = .ok (.iconst 1, 1) := by decide +kernel
theorem dX4_lacks_11 : decode cX4_lacks 11 = .ok (.goto 4, 3) := by decide +kernel
theorem dX4_lacks_14 : decode cX4_lacks 14 = .ok (.iconst 0, 1) := by decide +kernel
theorem dX4_lacks_15 : decode cX4_lacks 15 = .ok (.ireturn, 1) := by decide +kernel
theorem dX4_laneOf_0 : decode cX4_laneOf 0 = .ok (.aload_n 0, 1) := by decide +kernel
theorem dX4_laneOf_1 : decode cX4_laneOf 1 = .ok (.getfield 11, 3) := by decide +kernel
theorem dX4_laneOf_4 : decode cX4_laneOf 4 = .ok (.iload_n 1, 1) := by decide +kernel
theorem dX4_laneOf_5 : decode cX4_laneOf 5 = .ok (.iaload, 1) := by decide +kernel
theorem dX4_laneOf_6 : decode cX4_laneOf 6 = .ok (.ireturn, 1) := by decide +kernel
theorem dX4_holds_0 : decode cX4_holds 0 = .ok (.iload_n 2, 1) := by decide +kernel
theorem dX4_holds_1 : decode cX4_holds 1 = .ok (.ifCond .lt 23, 3) := by decide +kernel
theorem dX4_holds_4 : decode cX4_holds 4 = .ok (.iload_n 3, 1) := by decide +kernel
theorem dX4_holds_5 : decode cX4_holds 5 = .ok (.ifCond .lt 19, 3) := by decide +kernel
theorem dX4_holds_8 : decode cX4_holds 8 = .ok (.iload_n 2, 1) := by decide +kernel
theorem dX4_holds_9 : decode cX4_holds 9 = .ok (.aload_n 0, 1) := by decide +kernel
theorem dX4_holds_10 : decode cX4_holds 10 = .ok (.getfield 15, 3) := by decide +kernel
theorem dX4_holds_13 : decode cX4_holds 13 = .ok (.iload_n 1, 1) := by decide +kernel
theorem dX4_holds_14 : decode cX4_holds 14 = .ok (.iaload, 1) := by decide +kernel
theorem dX4_holds_15 : decode cX4_holds 15 = .ok (.iload_n 3, 1) := by decide +kernel
theorem dX4_holds_16 : decode cX4_holds 16 = .ok (.isub, 1) := by decide +kernel
theorem dX4_holds_17 : decode cX4_holds 17 = .ok (.if_icmp .gt 7, 3) := by decide +kernel
theorem dX4_holds_20 : decode cX4_holds 20 = .ok (.iconst 1, 1) := by decide +kernel
theorem dX4_holds_21 : decode cX4_holds 21 = .ok (.goto 4, 3) := by decide +kernel
theorem dX4_holds_24 : decode cX4_holds 24 = .ok (.iconst 0, 1) := by decide +kernel
theorem dX4_holds_25 : decode cX4_holds 25 = .ok (.ireturn, 1) := by decide +kernel
theorem dX4_make_0 : decode cX4_make 0 = .ok (.aload_n 0, 1) := by decide +kernel
theorem dX4_make_1 : decode cX4_make 1 = .ok (.getfield 11, 3) := by decide +kernel
theorem dX4_make_4 : decode cX4_make 4 = .ok (.iload_n 1, 1) := by decide +kernel
theorem dX4_make_5 : decode cX4_make 5 = .ok (.iload_n 2, 1) := by decide +kernel
theorem dX4_make_6 : decode cX4_make 6 = .ok (.iastore, 1) := by decide +kernel
theorem dX4_make_7 : decode cX4_make 7 = .ok (.aload_n 0, 1) := by decide +kernel
theorem dX4_make_8 : decode cX4_make 8 = .ok (.getfield 15, 3) := by decide +kernel
theorem dX4_make_11 : decode cX4_make 11 = .ok (.iload_n 1, 1) := by decide +kernel
theorem dX4_make_12 : decode cX4_make 12 = .ok (.iload_n 3, 1) := by decide +kernel
theorem dX4_make_13 : decode cX4_make 13 = .ok (.iastore, 1) := by decide +kernel
theorem dX4_make_14 : decode cX4_make 14 = .ok (.iconst 0, 1) := by decide +kernel
theorem dX4_make_15 : decode cX4_make 15 = .ok (.istore 4, 2) := by decide +kernel
theorem dX4_make_17 : decode cX4_make 17 = .ok (.iload 4, 2) := by decide +kernel
theorem dX4_make_19 : decode cX4_make 19 = .ok (.bipush 40, 2) := by decide +kernel
theorem dX4_make_21 : decode cX4_make 21 = .ok (.if_icmp .ge 22, 3) := by decide +kernel
theorem dX4_make_24 : decode cX4_make 24 = .ok (.aload_n 0, 1) := by decide +kernel
theorem dX4_make_25 : decode cX4_make 25 = .ok (.getfield 18, 3) := by decide +kernel
theorem dX4_make_28 : decode cX4_make 28 = .ok (.iload_n 1, 1) := by decide +kernel
theorem dX4_make_29 : decode cX4_make 29 = .ok (.bipush 40, 2) := by decide +kernel
theorem dX4_make_31 : decode cX4_make 31 = .ok (.imul, 1) := by decide +kernel
theorem dX4_make_32 : decode cX4_make 32 = .ok (.iload 4, 2) := by decide +kernel
theorem dX4_make_34 : decode cX4_make 34 = .ok (.iadd, 1) := by decide +kernel
theorem dX4_make_35 : decode cX4_make 35 = .ok (.iconst 0, 1) := by decide +kernel
theorem dX4_make_36 : decode cX4_make 36 = .ok (.iastore, 1) := by decide +kernel
theorem dX4_make_37 : decode cX4_make 37 = .ok (.iinc 4 1, 3) := by decide +kernel
theorem dX4_make_40 : decode cX4_make 40 = .ok (.goto (-23), 3) := by decide +kernel
theorem dX4_make_43 : decode cX4_make 43 = .ok (.return_, 1) := by decide +kernel
theorem dX4_put_0 : decode cX4_put 0 = .ok (.aload_n 0, 1) := by decide +kernel
theorem dX4_put_1 : decode cX4_put 1 = .ok (.getfield 11, 3) := by decide +kernel
theorem dX4_put_4 : decode cX4_put 4 = .ok (.iload_n 1, 1) := by decide +kernel
theorem dX4_put_5 : decode cX4_put 5 = .ok (.iaload, 1) := by decide +kernel
theorem dX4_put_6 : decode cX4_put 6 = .ok (.ifCond .ne 8, 3) := by decide +kernel
theorem dX4_put_9 : decode cX4_put 9 = .ok (.iload_n 3, 1) := by decide +kernel
theorem dX4_put_10 : decode cX4_put 10 = .ok (.i2b, 1) := by decide +kernel
theorem dX4_put_11 : decode cX4_put 11 = .ok (.goto 19, 3) := by decide +kernel
theorem dX4_put_14 : decode cX4_put 14 = .ok (.aload_n 0, 1) := by decide +kernel
theorem dX4_put_15 : decode cX4_put 15 = .ok (.getfield 11, 3) := by decide +kernel
theorem dX4_put_18 : decode cX4_put 18 = .ok (.iload_n 1, 1) := by decide +kernel
theorem dX4_put_19 : decode cX4_put 19 = .ok (.iaload, 1) := by decide +kernel
theorem dX4_put_20 : decode cX4_put 20 = .ok (.iconst 1, 1) := by decide +kernel
theorem dX4_put_21 : decode cX4_put 21 = .ok (.if_icmp .ne 8, 3) := by decide +kernel
theorem dX4_put_24 : decode cX4_put 24 = .ok (.iload_n 3, 1) := by decide +kernel
theorem dX4_put_25 : decode cX4_put 25 = .ok (.i2s, 1) := by decide +kernel
theorem dX4_put_26 : decode cX4_put 26 = .ok (.goto 4, 3) := by decide +kernel
theorem dX4_put_29 : decode cX4_put 29 = .ok (.iload_n 3, 1) := by decide +kernel
theorem dX4_put_30 : decode cX4_put 30 = .ok (.istore 4, 2) := by decide +kernel
theorem dX4_put_32 : decode cX4_put 32 = .ok (.aload_n 0, 1) := by decide +kernel
theorem dX4_put_33 : decode cX4_put 33 = .ok (.getfield 18, 3) := by decide +kernel
theorem dX4_put_36 : decode cX4_put 36 = .ok (.iload_n 1, 1) := by decide +kernel
theorem dX4_put_37 : decode cX4_put 37 = .ok (.bipush 40, 2) := by decide +kernel
theorem dX4_put_39 : decode cX4_put 39 = .ok (.imul, 1) := by decide +kernel
theorem dX4_put_40 : decode cX4_put 40 = .ok (.iload_n 2, 1) := by decide +kernel
theorem dX4_put_41 : decode cX4_put 41 = .ok (.iadd, 1) := by decide +kernel
theorem dX4_put_42 : decode cX4_put 42 = .ok (.iload 4, 2) := by decide +kernel
theorem dX4_put_44 : decode cX4_put 44 = .ok (.iastore, 1) := by decide +kernel
theorem dX4_put_45 : decode cX4_put 45 = .ok (.iload 4, 2) := by decide +kernel
theorem dX4_put_47 : decode cX4_put 47 = .ok (.ireturn, 1) := by decide +kernel
theorem dX4_carry_0 : decode cX4_carry 0 = .ok (.aload_n 0, 1) := by decide +kernel
theorem dX4_carry_1 : decode cX4_carry 1 = .ok (.getfield 18, 3) := by decide +kernel
theorem dX4_carry_4 : decode cX4_carry 4 = .ok (.iload_n 1, 1) := by decide +kernel
theorem dX4_carry_5 : decode cX4_carry 5 = .ok (.bipush 40, 2) := by decide +kernel
theorem dX4_carry_7 : decode cX4_carry 7 = .ok (.imul, 1) := by decide +kernel
theorem dX4_carry_8 : decode cX4_carry 8 = .ok (.iload_n 2, 1) := by decide +kernel
theorem dX4_carry_9 : decode cX4_carry 9 = .ok (.iadd, 1) := by decide +kernel
theorem dX4_carry_10 : decode cX4_carry 10 = .ok (.aload_n 0, 1) := by decide +kernel
theorem dX4_carry_11 : decode cX4_carry 11 = .ok (.getfield 18, 3) := by decide +kernel
theorem dX4_carry_14 : decode cX4_carry 14 = .ok (.iload_n 3, 1) := by decide +kernel
theorem dX4_carry_15 : decode cX4_carry 15 = .ok (.bipush 40, 2) := by decide +kernel
theorem dX4_carry_17 : decode cX4_carry 17 = .ok (.imul, 1) := by decide +kernel
theorem dX4_carry_18 : decode cX4_carry 18 = .ok (.iload 4, 2) := by decide +kernel
theorem dX4_carry_20 : decode cX4_carry 20 = .ok (.iadd, 1) := by decide +kernel
theorem dX4_carry_21 : decode cX4_carry 21 = .ok (.iload 5, 2) := by decide +kernel
theorem dX4_carry_23 : decode cX4_carry 23 = .ok (.invokestatic 24, 3) := by decide +kernel
theorem dX4_carry_26 : decode cX4_carry 26 = .ok (.return_, 1) := by decide +kernel
theorem dX4_lend_0 : decode cX4_lend 0 = .ok (.aload_n 0, 1) := by decide +kernel
theorem dX4_lend_1 : decode cX4_lend 1 = .ok (.getfield 18, 3) := by decide +kernel
theorem dX4_lend_4 : decode cX4_lend 4 = .ok (.iload_n 1, 1) := by decide +kernel
theorem dX4_lend_5 : decode cX4_lend 5 = .ok (.bipush 40, 2) := by decide +kernel
theorem dX4_lend_7 : decode cX4_lend 7 = .ok (.imul, 1) := by decide +kernel
theorem dX4_lend_8 : decode cX4_lend 8 = .ok (.iload_n 2, 1) := by decide +kernel
theorem dX4_lend_9 : decode cX4_lend 9 = .ok (.iadd, 1) := by decide +kernel
theorem dX4_lend_10 : decode cX4_lend 10 = .ok (.aload_n 0, 1) := by decide +kernel
theorem dX4_lend_11 : decode cX4_lend 11 = .ok (.getfield 21, 3) := by decide +kernel
theorem dX4_lend_14 : decode cX4_lend 14 = .ok (.iconst 0, 1) := by decide +kernel
theorem dX4_lend_15 : decode cX4_lend 15 = .ok (.iload_n 3, 1) := by decide +kernel
theorem dX4_lend_16 : decode cX4_lend 16 = .ok (.invokestatic 24, 3) := by decide +kernel
theorem dX4_lend_19 : decode cX4_lend 19 = .ok (.return_, 1) := by decide +kernel
theorem dX4_forget_0 : decode cX4_forget 0 = .ok (.aload_n 0, 1) := by decide +kernel
theorem dX4_forget_1 : decode cX4_forget 1 = .ok (.getfield 11, 3) := by decide +kernel
theorem dX4_forget_4 : decode cX4_forget 4 = .ok (.iload_n 1, 1) := by decide +kernel
theorem dX4_forget_5 : decode cX4_forget 5 = .ok (.iconst (-1), 1) := by decide +kernel
theorem dX4_forget_6 : decode cX4_forget 6 = .ok (.iastore, 1) := by decide +kernel
theorem dX4_forget_7 : decode cX4_forget 7 = .ok (.aload_n 0, 1) := by decide +kernel
theorem dX4_forget_8 : decode cX4_forget 8 = .ok (.getfield 15, 3) := by decide +kernel
theorem dX4_forget_11 : decode cX4_forget 11 = .ok (.iload_n 1, 1) := by decide +kernel
theorem dX4_forget_12 : decode cX4_forget 12 = .ok (.iaload, 1) := by decide +kernel
theorem dX4_forget_13 : decode cX4_forget 13 = .ok (.ireturn, 1) := by decide +kernel
theorem dX4_howMany_0 : decode cX4_howMany 0 = .ok (.iconst 0, 1) := by decide +kernel
theorem dX4_howMany_1 : decode cX4_howMany 1 = .ok (.istore_n 1, 1) := by decide +kernel
theorem dX4_howMany_2 : decode cX4_howMany 2 = .ok (.iconst 0, 1) := by decide +kernel
theorem dX4_howMany_3 : decode cX4_howMany 3 = .ok (.istore_n 2, 1) := by decide +kernel
theorem dX4_howMany_4 : decode cX4_howMany 4 = .ok (.iload_n 2, 1) := by decide +kernel
theorem dX4_howMany_5 : decode cX4_howMany 5 = .ok (.bipush 8, 2) := by decide +kernel
theorem dX4_howMany_7 : decode cX4_howMany 7 = .ok (.if_icmp .ge 20, 3) := by decide +kernel
theorem dX4_howMany_10 : decode cX4_howMany 10 = .ok (.aload_n 0, 1) := by decide +kernel
theorem dX4_howMany_11 : decode cX4_howMany 11 = .ok (.iload_n 2, 1) := by decide +kernel
theorem dX4_howMany_12 : decode cX4_howMany 12 = .ok (.invokevirtual 30, 3) := by decide +kernel
theorem dX4_howMany_15 : decode cX4_howMany 15 = .ok (.ifCond .ne 6, 3) := by decide +kernel
theorem dX4_howMany_18 : decode cX4_howMany 18 = .ok (.iinc 1 1, 3) := by decide +kernel
theorem dX4_howMany_21 : decode cX4_howMany 21 = .ok (.iinc 2 1, 3) := by decide +kernel
theorem dX4_howMany_24 : decode cX4_howMany 24 = .ok (.goto (-20), 3) := by decide +kernel
theorem dX4_howMany_27 : decode cX4_howMany 27 = .ok (.iload_n 1, 1) := by decide +kernel
theorem dX4_howMany_28 : decode cX4_howMany 28 = .ok (.ireturn, 1) := by decide +kernel
theorem dX5_init_0 : decode cX5_init 0 = .ok (.aload_n 0, 1) := by decide +kernel
theorem dX5_init_1 : decode cX5_init 1 = .ok (.invokespecial 3, 3) := by decide +kernel
theorem dX5_init_4 : decode cX5_init 4 = .ok (.aload_n 0, 1) := by decide +kernel
theorem dX5_init_5 : decode cX5_init 5 = .ok (.new 9, 3) := by decide +kernel
theorem dX5_init_8 : decode cX5_init 8 = .ok (.dup, 1) := by decide +kernel
theorem dX5_init_9 : decode cX5_init 9 = .ok (.invokespecial 11, 3) := by decide +kernel
theorem dX5_init_12 : decode cX5_init 12 = .ok (.putfield 12, 3) := by decide +kernel
theorem dX5_init_15 : decode cX5_init 15 = .ok (.aload_n 0, 1) := by decide +kernel
theorem dX5_init_16 : decode cX5_init 16 = .ok (.new 9, 3) := by decide +kernel
theorem dX5_init_19 : decode cX5_init 19 = .ok (.dup, 1) := by decide +kernel
theorem dX5_init_20 : decode cX5_init 20 = .ok (.invokespecial 11, 3) := by decide +kernel
theorem dX5_init_23 : decode cX5_init 23 = .ok (.putfield 18, 3) := by decide +kernel
theorem dX5_init_26 : decode cX5_init 26 = .ok (.aload_n 0, 1) := by decide +kernel
theorem dX5_init_27 : decode cX5_init 27 = .ok (.sipush 1005, 3) := by decide +kernel
theorem dX5_init_30 : decode cX5_init 30 = .ok (.newarray .int, 2) := by decide +kernel
theorem dX5_init_32 : decode cX5_init 32 = .ok (.putfield 21, 3) := by decide +kernel
theorem dX5_init_35 : decode cX5_init 35 = .ok (.aload_n 0, 1) := by decide +kernel
theorem dX5_init_36 : decode cX5_init 36 = .ok (.sipush 201, 3) := by decide +kernel
theorem dX5_init_39 : decode cX5_init 39 = .ok (.newarray .int, 2) := by decide +kernel
theorem dX5_init_41 : decode cX5_init 41 = .ok (.putfield 25, 3) := by decide +kernel
theorem dX5_init_44 : decode cX5_init 44 = .ok (.return_, 1) := by decide +kernel
theorem dX5_behind_0 : decode cX5_behind 0 = .ok (.aload_n 0, 1) := by decide +kernel
theorem dX5_behind_1 : decode cX5_behind 1 = .ok (.getfield 12, 3) := by decide +kernel
theorem dX5_behind_4 : decode cX5_behind 4 = .ok (.aload_n 1, 1) := by decide +kernel
theorem dX5_behind_5 : decode cX5_behind 5 = .ok (.invokevirtual 28, 3) := by decide +kernel
theorem dX5_behind_8 : decode cX5_behind 8 = .ok (.iconst 0, 1) := by decide +kernel
theorem dX5_behind_9 : decode cX5_behind 9 = .ok (.istore_n 3, 1) := by decide +kernel
theorem dX5_behind_10 : decode cX5_behind 10 = .ok (.iload_n 3, 1) := by decide +kernel
theorem dX5_behind_11 : decode cX5_behind 11 = .ok (.iload_n 2, 1) := by decide +kernel
theorem dX5_behind_12 : decode cX5_behind 12 = .ok (.if_icmp .ge 16, 3) := by decide +kernel
theorem dX5_behind_15 : decode cX5_behind 15 = .ok (.aload_n 0, 1) := by decide +kernel
theorem dX5_behind_16 : decode cX5_behind 16 = .ok (.getfield 12, 3) := by decide +kernel
theorem dX5_behind_19 : decode cX5_behind 19 = .ok (.invokevirtual 32, 3) := by decide +kernel
theorem dX5_behind_22 : decode cX5_behind 22 = .ok (.iinc 3 1, 3) := by decide +kernel
theorem dX5_behind_25 : decode cX5_behind 25 = .ok (.goto (-15), 3) := by decide +kernel
theorem dX5_behind_28 : decode cX5_behind 28 = .ok (.aload_n 0, 1) := by decide +kernel
theorem dX5_behind_29 : decode cX5_behind 29 = .ok (.getfield 12, 3) := by decide +kernel
theorem dX5_behind_32 : decode cX5_behind 32 = .ok (.areturn, 1) := by decide +kernel
theorem dX5_driftOf_0 : decode cX5_driftOf 0 = .ok (.aload_n 0, 1) := by decide +kernel
theorem dX5_driftOf_1 : decode cX5_driftOf 1 = .ok (.aload_n 1, 1) := by decide +kernel
theorem dX5_driftOf_2 : decode cX5_driftOf 2 = .ok (.aload_n 1, 1) := by decide +kernel
theorem dX5_driftOf_3 : decode cX5_driftOf 3 = .ok (.getfield 35, 3) := by decide +kernel
theorem dX5_driftOf_6 : decode cX5_driftOf 6 = .ok (.invokevirtual 39, 3) := by decide +kernel
theorem dX5_driftOf_9 : decode cX5_driftOf 9 = .ok (.invokevirtual 43, 3) := by decide +kernel
theorem dX5_driftOf_12 : decode cX5_driftOf 12 = .ok (.aload_n 1, 1) := by decide +kernel
theorem dX5_driftOf_13 : decode cX5_driftOf 13 = .ok (.invokevirtual 43, 3) := by decide +kernel
theorem dX5_driftOf_16 : decode cX5_driftOf 16 = .ok (.isub, 1) := by decide +kernel
theorem dX5_driftOf_17 : decode cX5_driftOf 17 = .ok (.ireturn, 1) := by decide +kernel
theorem dX5_findRound_0 : decode cX5_findRound 0 = .ok (.aload_n 0, 1) := by decide +kernel
theorem dX5_findRound_1 : decode cX5_findRound 1 = .ok (.getfield 12, 3) := by decide +kernel
theorem dX5_findRound_4 : decode cX5_findRound 4 = .ok (.aload_n 1, 1) := by decide +kernel
theorem dX5_findRound_5 : decode cX5_findRound 5 = .ok (.invokevirtual 28, 3) := by decide +kernel
theorem dX5_findRound_8 : decode cX5_findRound 8 = .ok (.aload_n 0, 1) := by decide +kernel
theorem dX5_findRound_9 : decode cX5_findRound 9 = .ok (.iconst 0, 1) := by decide +kernel
theorem dX5_findRound_10 : decode cX5_findRound 10 = .ok (.invokevirtual 47, 3) := by decide +kernel
theorem dX5_findRound_13 : decode cX5_findRound 13 = .ok (.iconst 1, 1) := by decide +kernel
theorem dX5_findRound_14 : decode cX5_findRound 14 = .ok (.istore_n 2, 1) := by decide +kernel
theorem dX5_findRound_15 : decode cX5_findRound 15 = .ok (.iload_n 2, 1) := by decide +kernel
theorem dX5_findRound_16 : decode cX5_findRound 16 = .ok (.sipush 200, 3) := by decide +kernel
theorem dX5_findRound_19 : decode cX5_findRound 19 = .ok (.if_icmp .gt 54, 3) := by decide +kernel
theorem dX5_findRound_22 : decode cX5_findRound 22 = .ok (.aload_n 0, 1) := by decide +kernel
theorem dX5_findRound_23 : decode cX5_findRound 23 = .ok (.getfield 12, 3) := by decide +kernel
theorem dX5_findRound_26 : decode cX5_findRound 26 = .ok (.invokevirtual 32, 3) := by decide +kernel
theorem dX5_findRound_29 : decode cX5_findRound 29 = .ok (.iconst 0, 1) := by decide +kernel
theorem dX5_findRound_30 : decode cX5_findRound 30 = .ok (.istore_n 3, 1) := by decide +kernel
theorem dX5_findRound_31 : decode cX5_findRound 31 = .ok (.iload_n 3, 1) := by decide +kernel
theorem dX5_findRound_32 : decode cX5_findRound 32 = .ok (.iload_n 2, 1) := by decide +kernel
theorem dX5_findRound_33 : decode cX5_findRound 33 = .ok (.if_icmp .ge 29, 3) := by decide +kernel
theorem dX5_findRound_36 : decode cX5_findRound 36 = .ok (.aload_n 0, 1) := by decide +kernel
theorem dX5_findRound_37 : decode cX5_findRound 37 = .ok (.iload_n 3, 1) := by decide +kernel
theorem dX5_findRound_38 : decode cX5_findRound 38 = .ok (.invokevirtual 51, 3) := by decide +kernel
theorem dX5_findRound_41 : decode cX5_findRound 41 = .ok (.ifCond .eq 15, 3) := by decide +kernel
theorem dX5_findRound_44 : decode cX5_findRound 44 = .ok (.aload_n 0, 1) := by decide +kernel
theorem dX5_findRound_45 : decode cX5_findRound 45 = .ok (.iload_n 2, 1) := by decide +kernel
theorem dX5_findRound_46 : decode cX5_findRound 46 = .ok (.putfield 55, 3) := by decide +kernel
theorem dX5_findRound_49 : decode cX5_findRound 49 = .ok (.aload_n 0, 1) := by decide +kernel
theorem dX5_findRound_50 : decode cX5_findRound 50 = .ok (.iload_n 3, 1) := by decide +kernel
theorem dX5_findRound_51 : decode cX5_findRound 51 = .ok (.putfield 58, 3) := by decide +kernel
theorem dX5_findRound_54 : decode cX5_findRound 54 = .ok (.iconst 1, 1) := by decide +kernel
theorem dX5_findRound_55 : decode cX5_findRound 55 = .ok (.ireturn, 1) := by decide +kernel
theorem dX5_findRound_56 : decode cX5_findRound 56 = .ok (.iinc 3 1, 3) := by decide +kernel
theorem dX5_findRound_59 : decode cX5_findRound 59 = .ok (.goto (-28), 3) := by decide +kernel
theorem dX5_findRound_62 : decode cX5_findRound 62 = .ok (.aload_n 0, 1) := by decide +kernel
theorem dX5_findRound_63 : decode cX5_findRound 63 = .ok (.iload_n 2, 1) := by decide +kernel
theorem dX5_findRound_64 : decode cX5_findRound 64 = .ok (.invokevirtual 47, 3) := by decide +kernel
theorem dX5_findRound_67 : decode cX5_findRound 67 = .ok (.iinc 2 1, 3) := by decide +kernel
theorem dX5_findRound_70 : decode cX5_findRound 70 = .ok (.goto (-55), 3) := by decide +kernel
theorem dX5_findRound_73 : decode cX5_findRound 73 = .ok (.iconst 0, 1) := by decide +kernel
theorem dX5_findRound_74 : decode cX5_findRound 74 = .ok (.ireturn, 1) := by decide +kernel
theorem dX5_remember_0 : decode cX5_remember 0 = .ok (.aload_n 0, 1) := by decide +kernel
theorem dX5_remember_1 : decode cX5_remember 1 = .ok (.getfield 25, 3) := by decide +kernel
theorem dX5_remember_4 : decode cX5_remember 4 = .ok (.iload_n 1, 1) := by decide +kernel
theorem dX5_remember_5 : decode cX5_remember 5 = .ok (.aload_n 0, 1) := by decide +kernel
theorem dX5_remember_6 : decode cX5_remember 6 = .ok (.getfield 12, 3) := by decide +kernel
theorem dX5_remember_9 : decode cX5_remember 9 = .ok (.getfield 61, 3) := by decide +kernel
theorem dX5_remember_12 : decode cX5_remember 12 = .ok (.iastore, 1) := by decide +kernel
theorem dX5_remember_13 : decode cX5_remember 13 = .ok (.aload_n 0, 1) := by decide +kernel
theorem dX5_remember_14 : decode cX5_remember 14 = .ok (.getfield 12, 3) := by decide +kernel
theorem dX5_remember_17 : decode cX5_remember 17 = .ok (.getfield 64, 3) := by decide +kernel
theorem dX5_remember_20 : decode cX5_remember 20 = .ok (.iconst 0, 1) := by decide +kernel
theorem dX5_remember_21 : decode cX5_remember 21 = .ok (.aload_n 0, 1) := by decide +kernel
theorem dX5_remember_22 : decode cX5_remember 22 = .ok (.getfield 21, 3) := by decide +kernel
theorem dX5_remember_25 : decode cX5_remember 25 = .ok (.iload_n 1, 1) := by decide +kernel
theorem dX5_remember_26 : decode cX5_remember 26 = .ok (.iconst 5, 1) := by decide +kernel
theorem dX5_remember_27 : decode cX5_remember 27 = .ok (.imul, 1) := by decide +kernel
theorem dX5_remember_28 : decode cX5_remember 28 = .ok (.iconst 5, 1) := by decide +kernel
theorem dX5_remember_29 : decode cX5_remember 29 = .ok (.invokestatic 67, 3) := by decide +kernel
theorem dX5_remember_32 : decode cX5_remember 32 = .ok (.return_, 1) := by decide +kernel
theorem dX5_isAs_0 : decode cX5_isAs 0 = .ok (.aload_n 0, 1) := by decide +kernel
theorem dX5_isAs_1 : decode cX5_isAs 1 = .ok (.getfield 25, 3) := by decide +kernel
theorem dX5_isAs_4 : decode cX5_isAs 4 = .ok (.iload_n 1, 1) := by decide +kernel
theorem dX5_isAs_5 : decode cX5_isAs 5 = .ok (.iaload, 1) := by decide +kernel
theorem dX5_isAs_6 : decode cX5_isAs 6 = .ok (.aload_n 0, 1) := by decide +kernel
theorem dX5_isAs_7 : decode cX5_isAs 7 = .ok (.getfield 12, 3) := by decide +kernel
theorem dX5_isAs_10 : decode cX5_isAs 10 = .ok (.getfield 61, 3) := by decide +kernel
theorem dX5_isAs_13 : decode cX5_isAs 13 = .ok (.if_icmp .eq 5, 3) := by decide +kernel
theorem dX5_isAs_16 : decode cX5_isAs 16 = .ok (.iconst 0, 1) := by decide +kernel
theorem dX5_isAs_17 : decode cX5_isAs 17 = .ok (.ireturn, 1) := by decide +kernel
theorem dX5_isAs_18 : decode cX5_isAs 18 = .ok (.iconst 0, 1) := by decide +kernel
theorem dX5_isAs_19 : decode cX5_isAs 19 = .ok (.istore_n 2, 1) := by decide +kernel
theorem dX5_isAs_20 : decode cX5_isAs 20 = .ok (.iload_n 2, 1) := by decide +kernel
theorem dX5_isAs_21 : decode cX5_isAs 21 = .ok (.aload_n 0, 1) := by decide +kernel
theorem dX5_isAs_22 : decode cX5_isAs 22 = .ok (.getfield 12, 3) := by decide +kernel
theorem dX5_isAs_25 : decode cX5_isAs 25 = .ok (.getfield 73, 3) := by decide +kernel
theorem dX5_isAs_28 : decode cX5_isAs 28 = .ok (.if_icmp .ge 33, 3) := by decide +kernel
theorem dX5_isAs_31 : decode cX5_isAs 31 = .ok (.aload_n 0, 1) := by decide +kernel
theorem dX5_isAs_32 : decode cX5_isAs 32 = .ok (.getfield 21, 3) := by decide +kernel
theorem dX5_isAs_35 : decode cX5_isAs 35 = .ok (.iload_n 1, 1) := by decide +kernel
theorem dX5_isAs_36 : decode cX5_isAs 36 = .ok (.iconst 5, 1) := by decide +kernel
theorem dX5_isAs_37 : decode cX5_isAs 37 = .ok (.imul, 1) := by decide +kernel
theorem dX5_isAs_38 : decode cX5_isAs 38 = .ok (.iload_n 2, 1) := by decide +kernel
theorem dX5_isAs_39 : decode cX5_isAs 39 = .ok (.iadd, 1) := by decide +kernel
theorem dX5_isAs_40 : decode cX5_isAs 40 = .ok (.iaload, 1) := by decide +kernel
theorem dX5_isAs_41 : decode cX5_isAs 41 = .ok (.aload_n 0, 1) := by decide +kernel
theorem dX5_isAs_42 : decode cX5_isAs 42 = .ok (.getfield 12, 3) := by decide +kernel
theorem dX5_isAs_45 : decode cX5_isAs 45 = .ok (.getfield 64, 3) := by decide +kernel
theorem dX5_isAs_48 : decode cX5_isAs 48 = .ok (.iload_n 2, 1) := by decide +kernel
theorem dX5_isAs_49 : decode cX5_isAs 49 = .ok (.iaload, 1) := by decide +kernel
theorem dX5_isAs_50 : decode cX5_isAs 50 = .ok (.if_icmp .eq 5, 3) := by decide +kernel
theorem dX5_isAs_53 : decode cX5_isAs 53 = .ok (.iconst 0, 1) := by decide +kernel
theorem dX5_isAs_54 : decode cX5_isAs 54 = .ok (.ireturn, 1) := by decide +kernel
theorem dX5_isAs_55 : decode cX5_isAs 55 = .ok (.iinc 2 1, 3) := by decide +kernel
theorem dX5_isAs_58 : decode cX5_isAs 58 = .ok (.goto (-38), 3) := by decide +kernel
theorem dX5_isAs_61 : decode cX5_isAs 61 = .ok (.iconst 1, 1) := by decide +kernel
theorem dX5_isAs_62 : decode cX5_isAs 62 = .ok (.ireturn, 1) := by decide +kernel
theorem dX5_firstNoticed_0 : decode cX5_firstNoticed 0 = .ok (.aload_n 0, 1) := by decide +kernel
theorem dX5_firstNoticed_1 : decode cX5_firstNoticed 1 = .ok (.getfield 12, 3) := by decide +kernel
theorem dX5_firstNoticed_4 : decode cX5_firstNoticed 4 = .ok (.aload_n 1, 1) := by decide +kernel
theorem dX5_firstNoticed_5 : decode cX5_firstNoticed 5 = .ok (.invokevirtual 28, 3) := by decide +kernel
theorem dX5_firstNoticed_8 : decode cX5_firstNoticed 8 = .ok (.iconst 0, 1) := by decide +kernel
theorem dX5_firstNoticed_9 : decode cX5_firstNoticed 9 = .ok (.istore 4, 2) := by decide +kernel
theorem dX5_firstNoticed_11 : decode cX5_firstNoticed 11 = .ok (.iload 4, 2) := by decide +kernel
theorem dX5_firstNoticed_13 : decode cX5_firstNoticed 13 = .ok (.iload_n 2, 1) := by decide +kernel
theorem dX5_firstNoticed_14 : decode cX5_firstNoticed 14 = .ok (.if_icmp .ge 45, 3) := by decide +kernel
theorem dX5_firstNoticed_17 : decode cX5_firstNoticed 17 = .ok (.aload_n 0, 1) := by decide +kernel
theorem dX5_firstNoticed_18 : decode cX5_firstNoticed 18 = .ok (.getfield 12, 3) := by decide +kernel
theorem dX5_firstNoticed_21 : decode cX5_firstNoticed 21 = .ok (.invokevirtual 43, 3) := by decide +kernel
theorem dX5_firstNoticed_24 : decode cX5_firstNoticed 24 = .ok (.istore 5, 2) := by decide +kernel
theorem dX5_firstNoticed_26 : decode cX5_firstNoticed 26 = .ok (.aload_n 0, 1) := by decide +kernel
theorem dX5_firstNoticed_27 : decode cX5_firstNoticed 27 = .ok (.getfield 12, 3) := by decide +kernel
theorem dX5_firstNoticed_30 : decode cX5_firstNoticed 30 = .ok (.invokevirtual 32, 3) := by decide +kernel
theorem dX5_firstNoticed_33 : decode cX5_firstNoticed 33 = .ok (.aload_n 0, 1) := by decide +kernel
theorem dX5_firstNoticed_34 : decode cX5_firstNoticed 34 = .ok (.getfield 12, 3) := by decide +kernel
theorem dX5_firstNoticed_37 : decode cX5_firstNoticed 37 = .ok (.invokevirtual 43, 3) := by decide +kernel
theorem dX5_firstNoticed_40 : decode cX5_firstNoticed 40 = .ok (.iload 5, 2) := by decide +kernel
theorem dX5_firstNoticed_42 : decode cX5_firstNoticed 42 = .ok (.isub, 1) := by decide +kernel
theorem dX5_firstNoticed_43 : decode cX5_firstNoticed 43 = .ok (.invokestatic 76, 3) := by decide +kernel
theorem dX5_firstNoticed_46 : decode cX5_firstNoticed 46 = .ok (.iload_n 3, 1) := by decide +kernel
theorem dX5_firstNoticed_47 : decode cX5_firstNoticed 47 = .ok (.if_icmp .le 6, 3) := by decide +kernel
theorem dX5_firstNoticed_50 : decode cX5_firstNoticed 50 = .ok (.iload 4, 2) := by decide +kernel
theorem dX5_firstNoticed_52 : decode cX5_firstNoticed 52 = .ok (.ireturn, 1) := by decide +kernel
theorem dX5_firstNoticed_53 : decode cX5_firstNoticed 53 = .ok (.iinc 4 1, 3) := by decide +kernel
theorem dX5_firstNoticed_56 : decode cX5_firstNoticed 56 = .ok (.goto (-45), 3) := by decide +kernel
theorem dX5_firstNoticed_59 : decode cX5_firstNoticed 59 = .ok (.ldc 82, 2) := by decide +kernel
theorem dX5_firstNoticed_61 : decode cX5_firstNoticed 61 = .ok (.ireturn, 1) := by decide +kernel
theorem dX5_findFallen_0 : decode cX5_findFallen 0 = .ok (.aload_n 0, 1) := by decide +kernel
theorem dX5_findFallen_1 : decode cX5_findFallen 1 = .ok (.iconst 0, 1) := by decide +kernel
theorem dX5_findFallen_2 : decode cX5_findFallen 2 = .ok (.putfield 55, 3) := by decide +kernel
theorem dX5_findFallen_5 : decode cX5_findFallen 5 = .ok (.aload_n 0, 1) := by decide +kernel
theorem dX5_findFallen_6 : decode cX5_findFallen 6 = .ok (.ldc 82, 2) := by decide +kernel
theorem dX5_findFallen_8 : decode cX5_findFallen 8 = .ok (.putfield 58, 3) := by decide +kernel
theorem dX5_findFallen_11 : decode cX5_findFallen 11 = .ok (.aload_n 0, 1) := by decide +kernel
theorem dX5_findFallen_12 : decode cX5_findFallen 12 = .ok (.getfield 12, 3) := by decide +kernel
theorem dX5_findFallen_15 : decode cX5_findFallen 15 = .ok (.aload_n 1, 1) := by decide +kernel
theorem dX5_findFallen_16 : decode cX5_findFallen 16 = .ok (.invokevirtual 28, 3) := by decide +kernel
theorem dX5_findFallen_19 : decode cX5_findFallen 19 = .ok (.iconst 0, 1) := by decide +kernel
theorem dX5_findFallen_20 : decode cX5_findFallen 20 = .ok (.istore 5, 2) := by decide +kernel
theorem dX5_findFallen_22 : decode cX5_findFallen 22 = .ok (.iload 5, 2) := by decide +kernel
theorem dX5_findFallen_24 : decode cX5_findFallen 24 = .ok (.iload 4, 2) := by decide +kernel
theorem dX5_findFallen_26 : decode cX5_findFallen 26 = .ok (.if_icmp .gt 64, 3) := by decide +kernel
theorem dX5_findFallen_29 : decode cX5_findFallen 29 = .ok (.iload 5, 2) := by decide +kernel
theorem dX5_findFallen_31 : decode cX5_findFallen 31 = .ok (.ifCond .le 10, 3) := by decide +kernel
theorem dX5_findFallen_34 : decode cX5_findFallen 34 = .ok (.aload_n 0, 1) := by decide +kernel
theorem dX5_findFallen_35 : decode cX5_findFallen 35 = .ok (.getfield 12, 3) := by decide +kernel
theorem dX5_findFallen_38 : decode cX5_findFallen 38 = .ok (.invokevirtual 32, 3) := by decide +kernel
theorem dX5_findFallen_41 : decode cX5_findFallen 41 = .ok (.aload_n 0, 1) := by decide +kernel
theorem dX5_findFallen_42 : decode cX5_findFallen 42 = .ok (.getfield 12, 3) := by decide +kernel
theorem dX5_findFallen_45 : decode cX5_findFallen 45 = .ok (.invokevirtual 43, 3) := by decide +kernel
theorem dX5_findFallen_48 : decode cX5_findFallen 48 = .ok (.aload_n 2, 1) := by decide +kernel
theorem dX5_findFallen_49 : decode cX5_findFallen 49 = .ok (.iload_n 3, 1) := by decide +kernel
theorem dX5_findFallen_50 : decode cX5_findFallen 50 = .ok (.invokestatic 83, 3) := by decide +kernel
theorem dX5_findFallen_53 : decode cX5_findFallen 53 = .ok (.istore 6, 2) := by decide +kernel
theorem dX5_findFallen_55 : decode cX5_findFallen 55 = .ok (.iload 6, 2) := by decide +kernel
theorem dX5_findFallen_57 : decode cX5_findFallen 57 = .ok (.aload_n 0, 1) := by decide +kernel
theorem dX5_findFallen_58 : decode cX5_findFallen 58 = .ok (.getfield 55, 3) := by decide +kernel
theorem dX5_findFallen_61 : decode cX5_findFallen 61 = .ok (.iconst (-1), 1) := by decide +kernel
theorem dX5_findFallen_62 : decode cX5_findFallen 62 = .ok (.ixor, 1) := by decide +kernel
theorem dX5_findFallen_63 : decode cX5_findFallen 63 = .ok (.iand, 1) := by decide +kernel
theorem dX5_findFallen_64 : decode cX5_findFallen 64 = .ok (.ifCond .eq 20, 3) := by decide +kernel
theorem dX5_findFallen_67 : decode cX5_findFallen 67 = .ok (.aload_n 0, 1) := by decide +kernel
theorem dX5_findFallen_68 : decode cX5_findFallen 68 = .ok (.dup, 1) := by decide +kernel
theorem dX5_findFallen_69 : decode cX5_findFallen 69 = .ok (.getfield 55, 3) := by decide +kernel
theorem dX5_findFallen_72 : decode cX5_findFallen 72 = .ok (.iload 6, 2) := by decide +kernel
theorem dX5_findFallen_74 : decode cX5_findFallen 74 = .ok (.ior, 1) := by decide +kernel
theorem dX5_findFallen_75 : decode cX5_findFallen 75 = .ok (.putfield 55, 3) := by decide +kernel
theorem dX5_findFallen_78 : decode cX5_findFallen 78 = .ok (.aload_n 0, 1) := by decide +kernel
theorem dX5_findFallen_79 : decode cX5_findFallen 79 = .ok (.iload 5, 2) := by decide +kernel
theorem dX5_findFallen_81 : decode cX5_findFallen 81 = .ok (.putfield 58, 3) := by decide +kernel
theorem dX5_findFallen_84 : decode cX5_findFallen 84 = .ok (.iinc 5 1, 3) := by decide +kernel
theorem dX5_findFallen_87 : decode cX5_findFallen 87 = .ok (.goto (-65), 3) := by decide +kernel
theorem dX5_findFallen_90 : decode cX5_findFallen 90 = .ok (.return_, 1) := by decide +kernel
theorem dX5_fallenAt_0 : decode cX5_fallenAt 0 = .ok (.iconst 0, 1) := by decide +kernel
theorem dX5_fallenAt_1 : decode cX5_fallenAt 1 = .ok (.istore_n 3, 1) := by decide +kernel
theorem dX5_fallenAt_2 : decode cX5_fallenAt 2 = .ok (.iconst 0, 1) := by decide +kernel
theorem dX5_fallenAt_3 : decode cX5_fallenAt 3 = .ok (.istore 4, 2) := by decide +kernel
theorem dX5_fallenAt_5 : decode cX5_fallenAt 5 = .ok (.iload 4, 2) := by decide +kernel
theorem dX5_fallenAt_7 : decode cX5_fallenAt 7 = .ok (.iload_n 2, 1) := by decide +kernel
theorem dX5_fallenAt_8 : decode cX5_fallenAt 8 = .ok (.if_icmp .ge 38, 3) := by decide +kernel
theorem dX5_fallenAt_11 : decode cX5_fallenAt 11 = .ok (.iload_n 0, 1) := by decide +kernel
theorem dX5_fallenAt_12 : decode cX5_fallenAt 12 = .ok (.aload_n 1, 1) := by decide +kernel
theorem dX5_fallenAt_13 : decode cX5_fallenAt 13 = .ok (.iconst 2, 1) := by decide +kernel
theorem dX5_fallenAt_14 : decode cX5_fallenAt 14 = .ok (.iload 4, 2) := by decide +kernel
theorem dX5_fallenAt_16 : decode cX5_fallenAt 16 = .ok (.imul, 1) := by decide +kernel
theorem dX5_fallenAt_17 : decode cX5_fallenAt 17 = .ok (.iaload, 1) := by decide +kernel
theorem dX5_fallenAt_18 : decode cX5_fallenAt 18 = .ok (.if_icmp .lt 15, 3) := by decide +kernel
theorem dX5_fallenAt_21 : decode cX5_fallenAt 21 = .ok (.iload_n 0, 1) := by decide +kernel
theorem dX5_fallenAt_22 : decode cX5_fallenAt 22 = .ok (.aload_n 1, 1) := by decide +kernel
theorem dX5_fallenAt_23 : decode cX5_fallenAt 23 = .ok (.iconst 2, 1) := by decide +kernel
theorem dX5_fallenAt_24 : decode cX5_fallenAt 24 = .ok (.iload 4, 2) := by decide +kernel
theorem dX5_fallenAt_26 : decode cX5_fallenAt 26 = .ok (.imul, 1) := by decide +kernel
theorem dX5_fallenAt_27 : decode cX5_fallenAt 27 = .ok (.iconst 1, 1) := by decide +kernel
theorem dX5_fallenAt_28 : decode cX5_fallenAt 28 = .ok (.iadd, 1) := by decide +kernel
theorem dX5_fallenAt_29 : decode cX5_fallenAt 29 = .ok (.iaload, 1) := by decide +kernel
theorem dX5_fallenAt_30 : decode cX5_fallenAt 30 = .ok (.if_icmp .le 10, 3) := by decide +kernel
theorem dX5_fallenAt_33 : decode cX5_fallenAt 33 = .ok (.iload_n 3, 1) := by decide +kernel
theorem dX5_fallenAt_34 : decode cX5_fallenAt 34 = .ok (.iconst 1, 1) := by decide +kernel
theorem dX5_fallenAt_35 : decode cX5_fallenAt 35 = .ok (.iload 4, 2) := by decide +kernel
theorem dX5_fallenAt_37 : decode cX5_fallenAt 37 = .ok (.ishl, 1) := by decide +kernel
theorem dX5_fallenAt_38 : decode cX5_fallenAt 38 = .ok (.ior, 1) := by decide +kernel
theorem dX5_fallenAt_39 : decode cX5_fallenAt 39 = .ok (.istore_n 3, 1) := by decide +kernel
theorem dX5_fallenAt_40 : decode cX5_fallenAt 40 = .ok (.iinc 4 1, 3) := by decide +kernel
theorem dX5_fallenAt_43 : decode cX5_fallenAt 43 = .ok (.goto (-38), 3) := by decide +kernel
theorem dX5_fallenAt_46 : decode cX5_fallenAt 46 = .ok (.iload_n 3, 1) := by decide +kernel
theorem dX5_fallenAt_47 : decode cX5_fallenAt 47 = .ok (.ireturn, 1) := by decide +kernel
theorem dX5_bestCountIn_0 : decode cX5_bestCountIn 0 = .ok (.ldc 82, 2) := by decide +kernel
theorem dX5_bestCountIn_2 : decode cX5_bestCountIn 2 = .ok (.istore 4, 2) := by decide +kernel
theorem dX5_bestCountIn_4 : decode cX5_bestCountIn 4 = .ok (.ldc 89, 2) := by decide +kernel
theorem dX5_bestCountIn_6 : decode cX5_bestCountIn 6 = .ok (.istore 5, 2) := by decide +kernel
theorem dX5_bestCountIn_8 : decode cX5_bestCountIn 8 = .ok (.bipush 40, 2) := by decide +kernel
theorem dX5_bestCountIn_10 : decode cX5_bestCountIn 10 = .ok (.istore 6, 2) := by decide +kernel
theorem dX5_bestCountIn_12 : decode cX5_bestCountIn 12 = .ok (.iload 6, 2) := by decide +kernel
theorem dX5_bestCountIn_14 : decode cX5_bestCountIn 14 = .ok (.bipush 99, 2) := by decide +kernel
theorem dX5_bestCountIn_16 : decode cX5_bestCountIn 16 = .ok (.if_icmp .gt 90, 3) := by decide +kernel
theorem dX5_bestCountIn_19 : decode cX5_bestCountIn 19 = .ok (.aload_n 0, 1) := by decide +kernel
theorem dX5_bestCountIn_20 : decode cX5_bestCountIn 20 = .ok (.getfield 18, 3) := by decide +kernel
theorem dX5_bestCountIn_23 : decode cX5_bestCountIn 23 = .ok (.aload_n 1, 1) := by decide +kernel
theorem dX5_bestCountIn_24 : decode cX5_bestCountIn 24 = .ok (.invokevirtual 28, 3) := by decide +kernel
theorem dX5_bestCountIn_27 : decode cX5_bestCountIn 27 = .ok (.iconst 0, 1) := by decide +kernel
theorem dX5_bestCountIn_28 : decode cX5_bestCountIn 28 = .ok (.istore 7, 2) := by decide +kernel
theorem dX5_bestCountIn_30 : decode cX5_bestCountIn 30 = .ok (.iload 7, 2) := by decide +kernel
theorem dX5_bestCountIn_32 : decode cX5_bestCountIn 32 = .ok (.aload_n 0, 1) := by decide +kernel
theorem dX5_bestCountIn_33 : decode cX5_bestCountIn 33 = .ok (.getfield 18, 3) := by decide +kernel
theorem dX5_bestCountIn_36 : decode cX5_bestCountIn 36 = .ok (.getfield 73, 3) := by decide +kernel
theorem dX5_bestCountIn_39 : decode cX5_bestCountIn 39 = .ok (.if_icmp .ge 24, 3) := by decide +kernel
theorem dX5_bestCountIn_42 : decode cX5_bestCountIn 42 = .ok (.aload_n 0, 1) := by decide +kernel
theorem dX5_bestCountIn_43 : decode cX5_bestCountIn 43 = .ok (.getfield 18, 3) := by decide +kernel
theorem dX5_bestCountIn_46 : decode cX5_bestCountIn 46 = .ok (.getfield 64, 3) := by decide +kernel
theorem dX5_bestCountIn_49 : decode cX5_bestCountIn 49 = .ok (.iload 7, 2) := by decide +kernel
theorem dX5_bestCountIn_51 : decode cX5_bestCountIn 51 = .ok (.bipush 10, 2) := by decide +kernel
theorem dX5_bestCountIn_53 : decode cX5_bestCountIn 53 = .ok (.iload 6, 2) := by decide +kernel
theorem dX5_bestCountIn_55 : decode cX5_bestCountIn 55 = .ok (.imul, 1) := by decide +kernel
theorem dX5_bestCountIn_56 : decode cX5_bestCountIn 56 = .ok (.iastore, 1) := by decide +kernel
theorem dX5_bestCountIn_57 : decode cX5_bestCountIn 57 = .ok (.iinc 7 1, 3) := by decide +kernel
theorem dX5_bestCountIn_60 : decode cX5_bestCountIn 60 = .ok (.goto (-30), 3) := by decide +kernel
theorem dX5_bestCountIn_63 : decode cX5_bestCountIn 63 = .ok (.aload_n 0, 1) := by decide +kernel
theorem dX5_bestCountIn_64 : decode cX5_bestCountIn 64 = .ok (.aload_n 0, 1) := by decide +kernel
theorem dX5_bestCountIn_65 : decode cX5_bestCountIn 65 = .ok (.getfield 18, 3) := by decide +kernel
theorem dX5_bestCountIn_68 : decode cX5_bestCountIn 68 = .ok (.iload_n 2, 1) := by decide +kernel
theorem dX5_bestCountIn_69 : decode cX5_bestCountIn 69 = .ok (.invokevirtual 39, 3) := by decide +kernel
theorem dX5_bestCountIn_72 : decode cX5_bestCountIn 72 = .ok (.invokevirtual 43, 3) := by decide +kernel
theorem dX5_bestCountIn_75 : decode cX5_bestCountIn 75 = .ok (.iload_n 3, 1) := by decide +kernel
theorem dX5_bestCountIn_76 : decode cX5_bestCountIn 76 = .ok (.isub, 1) := by decide +kernel
theorem dX5_bestCountIn_77 : decode cX5_bestCountIn 77 = .ok (.invokestatic 76, 3) := by decide +kernel
theorem dX5_bestCountIn_80 : decode cX5_bestCountIn 80 = .ok (.istore 7, 2) := by decide +kernel
theorem dX5_bestCountIn_82 : decode cX5_bestCountIn 82 = .ok (.iload 7, 2) := by decide +kernel
theorem dX5_bestCountIn_84 : decode cX5_bestCountIn 84 = .ok (.iload 5, 2) := by decide +kernel
theorem dX5_bestCountIn_86 : decode cX5_bestCountIn 86 = .ok (.if_icmp .ge 14, 3) := by decide +kernel
theorem dX5_bestCountIn_89 : decode cX5_bestCountIn 89 = .ok (.iload 7, 2) := by decide +kernel
theorem dX5_bestCountIn_91 : decode cX5_bestCountIn 91 = .ok (.istore 5, 2) := by decide +kernel
theorem dX5_bestCountIn_93 : decode cX5_bestCountIn 93 = .ok (.bipush 10, 2) := by decide +kernel
theorem dX5_bestCountIn_95 : decode cX5_bestCountIn 95 = .ok (.iload 6, 2) := by decide +kernel
theorem dX5_bestCountIn_97 : decode cX5_bestCountIn 97 = .ok (.imul, 1) := by decide +kernel
theorem dX5_bestCountIn_98 : decode cX5_bestCountIn 98 = .ok (.istore 4, 2) := by decide +kernel
theorem dX5_bestCountIn_100 : decode cX5_bestCountIn 100 = .ok (.iinc 6 1, 3) := by decide +kernel
theorem dX5_bestCountIn_103 : decode cX5_bestCountIn 103 = .ok (.goto (-91), 3) := by decide +kernel
theorem dX5_bestCountIn_106 : decode cX5_bestCountIn 106 = .ok (.iload 4, 2) := by decide +kernel
theorem dX5_bestCountIn_108 : decode cX5_bestCountIn 108 = .ok (.ireturn, 1) := by decide +kernel
theorem dX5_findDeaf_0 : decode cX5_findDeaf 0 = .ok (.aload_n 0, 1) := by decide +kernel
theorem dX5_findDeaf_1 : decode cX5_findDeaf 1 = .ok (.ldc 82, 2) := by decide +kernel
theorem dX5_findDeaf_3 : decode cX5_findDeaf 3 = .ok (.putfield 55, 3) := by decide +kernel
theorem dX5_findDeaf_6 : decode cX5_findDeaf 6 = .ok (.aload_n 0, 1) := by decide +kernel
theorem dX5_findDeaf_7 : decode cX5_findDeaf 7 = .ok (.ldc 82, 2) := by decide +kernel
theorem dX5_findDeaf_9 : decode cX5_findDeaf 9 = .ok (.putfield 58, 3) := by decide +kernel
theorem dX5_findDeaf_12 : decode cX5_findDeaf 12 = .ok (.iconst 0, 1) := by decide +kernel
theorem dX5_findDeaf_13 : decode cX5_findDeaf 13 = .ok (.istore_n 2, 1) := by decide +kernel
theorem dX5_findDeaf_14 : decode cX5_findDeaf 14 = .ok (.iload_n 2, 1) := by decide +kernel
theorem dX5_findDeaf_15 : decode cX5_findDeaf 15 = .ok (.aload_n 1, 1) := by decide +kernel
theorem dX5_findDeaf_16 : decode cX5_findDeaf 16 = .ok (.getfield 73, 3) := by decide +kernel
theorem dX5_findDeaf_19 : decode cX5_findDeaf 19 = .ok (.if_icmp .ge 69, 3) := by decide +kernel
theorem dX5_findDeaf_22 : decode cX5_findDeaf 22 = .ok (.iconst 0, 1) := by decide +kernel
theorem dX5_findDeaf_23 : decode cX5_findDeaf 23 = .ok (.istore_n 3, 1) := by decide +kernel
theorem dX5_findDeaf_24 : decode cX5_findDeaf 24 = .ok (.iload_n 3, 1) := by decide +kernel
theorem dX5_findDeaf_25 : decode cX5_findDeaf 25 = .ok (.aload_n 1, 1) := by decide +kernel
theorem dX5_findDeaf_26 : decode cX5_findDeaf 26 = .ok (.getfield 73, 3) := by decide +kernel
theorem dX5_findDeaf_29 : decode cX5_findDeaf 29 = .ok (.if_icmp .ge 53, 3) := by decide +kernel
theorem dX5_findDeaf_32 : decode cX5_findDeaf 32 = .ok (.aload_n 1, 1) := by decide +kernel
theorem dX5_findDeaf_33 : decode cX5_findDeaf 33 = .ok (.iload_n 2, 1) := by decide +kernel
theorem dX5_findDeaf_34 : decode cX5_findDeaf 34 = .ok (.iload_n 3, 1) := by decide +kernel
theorem dX5_findDeaf_35 : decode cX5_findDeaf 35 = .ok (.invokevirtual 90, 3) := by decide +kernel
theorem dX5_findDeaf_38 : decode cX5_findDeaf 38 = .ok (.ifCond .eq 38, 3) := by decide +kernel
theorem dX5_findDeaf_41 : decode cX5_findDeaf 41 = .ok (.aload_n 0, 1) := by decide +kernel
theorem dX5_findDeaf_42 : decode cX5_findDeaf 42 = .ok (.getfield 18, 3) := by decide +kernel
theorem dX5_findDeaf_45 : decode cX5_findDeaf 45 = .ok (.aload_n 1, 1) := by decide +kernel
theorem dX5_findDeaf_46 : decode cX5_findDeaf 46 = .ok (.invokevirtual 28, 3) := by decide +kernel
theorem dX5_findDeaf_49 : decode cX5_findDeaf 49 = .ok (.aload_n 0, 1) := by decide +kernel
theorem dX5_findDeaf_50 : decode cX5_findDeaf 50 = .ok (.getfield 18, 3) := by decide +kernel
theorem dX5_findDeaf_53 : decode cX5_findDeaf 53 = .ok (.iload_n 2, 1) := by decide +kernel
theorem dX5_findDeaf_54 : decode cX5_findDeaf 54 = .ok (.iload_n 3, 1) := by decide +kernel
theorem dX5_findDeaf_55 : decode cX5_findDeaf 55 = .ok (.iconst 0, 1) := by decide +kernel
theorem dX5_findDeaf_56 : decode cX5_findDeaf 56 = .ok (.invokevirtual 94, 3) := by decide +kernel
theorem dX5_findDeaf_59 : decode cX5_findDeaf 59 = .ok (.aload_n 0, 1) := by decide +kernel
theorem dX5_findDeaf_60 : decode cX5_findDeaf 60 = .ok (.iconst 5, 1) := by decide +kernel
theorem dX5_findDeaf_61 : decode cX5_findDeaf 61 = .ok (.iload_n 2, 1) := by decide +kernel
theorem dX5_findDeaf_62 : decode cX5_findDeaf 62 = .ok (.imul, 1) := by decide +kernel
theorem dX5_findDeaf_63 : decode cX5_findDeaf 63 = .ok (.iload_n 3, 1) := by decide +kernel
theorem dX5_findDeaf_64 : decode cX5_findDeaf 64 = .ok (.iadd, 1) := by decide +kernel
theorem dX5_findDeaf_65 : decode cX5_findDeaf 65 = .ok (.aload_n 0, 1) := by decide +kernel
theorem dX5_findDeaf_66 : decode cX5_findDeaf 66 = .ok (.aload_n 0, 1) := by decide +kernel
theorem dX5_findDeaf_67 : decode cX5_findDeaf 67 = .ok (.getfield 18, 3) := by decide +kernel
theorem dX5_findDeaf_70 : decode cX5_findDeaf 70 = .ok (.invokevirtual 98, 3) := by decide +kernel
theorem dX5_findDeaf_73 : decode cX5_findDeaf 73 = .ok (.invokevirtual 102, 3) := by decide +kernel
theorem dX5_findDeaf_76 : decode cX5_findDeaf 76 = .ok (.iinc 3 1, 3) := by decide +kernel
theorem dX5_findDeaf_79 : decode cX5_findDeaf 79 = .ok (.goto (-55), 3) := by decide +kernel
theorem dX5_findDeaf_82 : decode cX5_findDeaf 82 = .ok (.iinc 2 1, 3) := by decide +kernel
theorem dX5_findDeaf_85 : decode cX5_findDeaf 85 = .ok (.goto (-71), 3) := by decide +kernel
theorem dX5_findDeaf_88 : decode cX5_findDeaf 88 = .ok (.return_, 1) := by decide +kernel
theorem dX5_findInEar_0 : decode cX5_findInEar 0 = .ok (.aload_n 0, 1) := by decide +kernel
theorem dX5_findInEar_1 : decode cX5_findInEar 1 = .ok (.ldc 82, 2) := by decide +kernel
theorem dX5_findInEar_3 : decode cX5_findInEar 3 = .ok (.putfield 55, 3) := by decide +kernel
theorem dX5_findInEar_6 : decode cX5_findInEar 6 = .ok (.aload_n 0, 1) := by decide +kernel
theorem dX5_findInEar_7 : decode cX5_findInEar 7 = .ok (.ldc 82, 2) := by decide +kernel
theorem dX5_findInEar_9 : decode cX5_findInEar 9 = .ok (.putfield 58, 3) := by decide +kernel
theorem dX5_findInEar_12 : decode cX5_findInEar 12 = .ok (.iconst 0, 1) := by decide +kernel
theorem dX5_findInEar_13 : decode cX5_findInEar 13 = .ok (.istore_n 2, 1) := by decide +kernel
theorem dX5_findInEar_14 : decode cX5_findInEar 14 = .ok (.iload_n 2, 1) := by decide +kernel
theorem dX5_findInEar_15 : decode cX5_findInEar 15 = .ok (.aload_n 1, 1) := by decide +kernel
theorem dX5_findInEar_16 : decode cX5_findInEar 16 = .ok (.getfield 73, 3) := by decide +kernel
theorem dX5_findInEar_19 : decode cX5_findInEar 19 = .ok (.if_icmp .ge 40, 3) := by decide +kernel
theorem dX5_findInEar_22 : decode cX5_findInEar 22 = .ok (.aload_n 0, 1) := by decide +kernel
theorem dX5_findInEar_23 : decode cX5_findInEar 23 = .ok (.getfield 18, 3) := by decide +kernel
theorem dX5_findInEar_26 : decode cX5_findInEar 26 = .ok (.aload_n 1, 1) := by decide +kernel
theorem dX5_findInEar_27 : decode cX5_findInEar 27 = .ok (.invokevirtual 28, 3) := by decide +kernel
theorem dX5_findInEar_30 : decode cX5_findInEar 30 = .ok (.aload_n 0, 1) := by decide +kernel
theorem dX5_findInEar_31 : decode cX5_findInEar 31 = .ok (.getfield 18, 3) := by decide +kernel
theorem dX5_findInEar_34 : decode cX5_findInEar 34 = .ok (.getfield 106, 3) := by decide +kernel
theorem dX5_findInEar_37 : decode cX5_findInEar 37 = .ok (.iload_n 2, 1) := by decide +kernel
theorem dX5_findInEar_38 : decode cX5_findInEar 38 = .ok (.iconst 4, 1) := by decide +kernel
theorem dX5_findInEar_39 : decode cX5_findInEar 39 = .ok (.iastore, 1) := by decide +kernel
theorem dX5_findInEar_40 : decode cX5_findInEar 40 = .ok (.aload_n 0, 1) := by decide +kernel
theorem dX5_findInEar_41 : decode cX5_findInEar 41 = .ok (.iload_n 2, 1) := by decide +kernel
theorem dX5_findInEar_42 : decode cX5_findInEar 42 = .ok (.aload_n 0, 1) := by decide +kernel
theorem dX5_findInEar_43 : decode cX5_findInEar 43 = .ok (.aload_n 0, 1) := by decide +kernel
theorem dX5_findInEar_44 : decode cX5_findInEar 44 = .ok (.getfield 18, 3) := by decide +kernel
theorem dX5_findInEar_47 : decode cX5_findInEar 47 = .ok (.invokevirtual 98, 3) := by decide +kernel
theorem dX5_findInEar_50 : decode cX5_findInEar 50 = .ok (.invokevirtual 102, 3) := by decide +kernel
theorem dX5_findInEar_53 : decode cX5_findInEar 53 = .ok (.iinc 2 1, 3) := by decide +kernel
theorem dX5_findInEar_56 : decode cX5_findInEar 56 = .ok (.goto (-42), 3) := by decide +kernel
theorem dX5_findInEar_59 : decode cX5_findInEar 59 = .ok (.return_, 1) := by decide +kernel
theorem dX5_keepNearest_0 : decode cX5_keepNearest 0 = .ok (.aload_n 0, 1) := by decide +kernel
theorem dX5_keepNearest_1 : decode cX5_keepNearest 1 = .ok (.getfield 55, 3) := by decide +kernel
theorem dX5_keepNearest_4 : decode cX5_keepNearest 4 = .ok (.ldc 82, 2) := by decide +kernel
theorem dX5_keepNearest_6 : decode cX5_keepNearest 6 = .ok (.if_icmp .eq 17, 3) := by decide +kernel
theorem dX5_keepNearest_9 : decode cX5_keepNearest 9 = .ok (.iload_n 2, 1) := by decide +kernel
theorem dX5_keepNearest_10 : decode cX5_keepNearest 10 = .ok (.invokestatic 76, 3) := by decide +kernel
theorem dX5_keepNearest_13 : decode cX5_keepNearest 13 = .ok (.aload_n 0, 1) := by decide +kernel
theorem dX5_keepNearest_14 : decode cX5_keepNearest 14 = .ok (.getfield 58, 3) := by decide +kernel
theorem dX5_keepNearest_17 : decode cX5_keepNearest 17 = .ok (.invokestatic 76, 3) := by decide +kernel
theorem dX5_keepNearest_20 : decode cX5_keepNearest 20 = .ok (.if_icmp .ge 13, 3) := by decide +kernel
theorem dX5_keepNearest_23 : decode cX5_keepNearest 23 = .ok (.aload_n 0, 1) := by decide +kernel
theorem dX5_keepNearest_24 : decode cX5_keepNearest 24 = .ok (.iload_n 1, 1) := by decide +kernel
theorem dX5_keepNearest_25 : decode cX5_keepNearest 25 = .ok (.putfield 55, 3) := by decide +kernel
theorem dX5_keepNearest_28 : decode cX5_keepNearest 28 = .ok (.aload_n 0, 1) := by decide +kernel
theorem dX5_keepNearest_29 : decode cX5_keepNearest 29 = .ok (.iload_n 2, 1) := by decide +kernel
theorem dX5_keepNearest_30 : decode cX5_keepNearest 30 = .ok (.putfield 58, 3) := by decide +kernel
theorem dX5_keepNearest_33 : decode cX5_keepNearest 33 = .ok (.return_, 1) := by decide +kernel
theorem dX5_blameOf_0 : decode cX5_blameOf 0 = .ok (.aload_n 0, 1) := by decide +kernel
theorem dX5_blameOf_1 : decode cX5_blameOf 1 = .ok (.getfield 18, 3) := by decide +kernel
theorem dX5_blameOf_4 : decode cX5_blameOf 4 = .ok (.aload_n 1, 1) := by decide +kernel
theorem dX5_blameOf_5 : decode cX5_blameOf 5 = .ok (.invokevirtual 28, 3) := by decide +kernel
theorem dX5_blameOf_8 : decode cX5_blameOf 8 = .ok (.aload_n 0, 1) := by decide +kernel
theorem dX5_blameOf_9 : decode cX5_blameOf 9 = .ok (.getfield 18, 3) := by decide +kernel
theorem dX5_blameOf_12 : decode cX5_blameOf 12 = .ok (.getfield 109, 3) := by decide +kernel
theorem dX5_blameOf_15 : decode cX5_blameOf 15 = .ok (.iload_n 2, 1) := by decide +kernel
theorem dX5_blameOf_16 : decode cX5_blameOf 16 = .ok (.iconst 0, 1) := by decide +kernel
theorem dX5_blameOf_17 : decode cX5_blameOf 17 = .ok (.iastore, 1) := by decide +kernel
theorem dX5_blameOf_18 : decode cX5_blameOf 18 = .ok (.aload_n 0, 1) := by decide +kernel
theorem dX5_blameOf_19 : decode cX5_blameOf 19 = .ok (.getfield 18, 3) := by decide +kernel
theorem dX5_blameOf_22 : decode cX5_blameOf 22 = .ok (.getfield 106, 3) := by decide +kernel
theorem dX5_blameOf_25 : decode cX5_blameOf 25 = .ok (.iload_n 2, 1) := by decide +kernel
theorem dX5_blameOf_26 : decode cX5_blameOf 26 = .ok (.iaload, 1) := by decide +kernel
theorem dX5_blameOf_27 : decode cX5_blameOf 27 = .ok (.iconst 1, 1) := by decide +kernel
theorem dX5_blameOf_28 : decode cX5_blameOf 28 = .ok (.invokestatic 112, 3) := by decide +kernel
theorem dX5_blameOf_31 : decode cX5_blameOf 31 = .ok (.ifCond .eq 13, 3) := by decide +kernel
theorem dX5_blameOf_34 : decode cX5_blameOf 34 = .ok (.aload_n 0, 1) := by decide +kernel
theorem dX5_blameOf_35 : decode cX5_blameOf 35 = .ok (.getfield 18, 3) := by decide +kernel
theorem dX5_blameOf_38 : decode cX5_blameOf 38 = .ok (.getfield 106, 3) := by decide +kernel
theorem dX5_blameOf_41 : decode cX5_blameOf 41 = .ok (.iload_n 2, 1) := by decide +kernel
theorem dX5_blameOf_42 : decode cX5_blameOf 42 = .ok (.iconst 0, 1) := by decide +kernel
theorem dX5_blameOf_43 : decode cX5_blameOf 43 = .ok (.iastore, 1) := by decide +kernel
theorem dX5_blameOf_44 : decode cX5_blameOf 44 = .ok (.aload_n 0, 1) := by decide +kernel
theorem dX5_blameOf_45 : decode cX5_blameOf 45 = .ok (.aload_n 1, 1) := by decide +kernel
theorem dX5_blameOf_46 : decode cX5_blameOf 46 = .ok (.invokevirtual 98, 3) := by decide +kernel
theorem dX5_blameOf_49 : decode cX5_blameOf 49 = .ok (.aload_n 0, 1) := by decide +kernel
theorem dX5_blameOf_50 : decode cX5_blameOf 50 = .ok (.aload_n 0, 1) := by decide +kernel
theorem dX5_blameOf_51 : decode cX5_blameOf 51 = .ok (.getfield 18, 3) := by decide +kernel
theorem dX5_blameOf_54 : decode cX5_blameOf 54 = .ok (.invokevirtual 98, 3) := by decide +kernel
theorem dX5_blameOf_57 : decode cX5_blameOf 57 = .ok (.isub, 1) := by decide +kernel
theorem dX5_blameOf_58 : decode cX5_blameOf 58 = .ok (.ireturn, 1) := by decide +kernel
theorem dX5_bestBack_0 : decode cX5_bestBack 0 = .ok (.ldc 82, 2) := by decide +kernel
theorem dX5_bestBack_2 : decode cX5_bestBack 2 = .ok (.istore 6, 2) := by decide +kernel
theorem dX5_bestBack_4 : decode cX5_bestBack 4 = .ok (.ldc 89, 2) := by decide +kernel
theorem dX5_bestBack_6 : decode cX5_bestBack 6 = .ok (.istore 7, 2) := by decide +kernel
theorem dX5_bestBack_8 : decode cX5_bestBack 8 = .ok (.iconst 0, 1) := by decide +kernel
theorem dX5_bestBack_9 : decode cX5_bestBack 9 = .ok (.istore 8, 2) := by decide +kernel
theorem dX5_bestBack_11 : decode cX5_bestBack 11 = .ok (.iload 8, 2) := by decide +kernel
theorem dX5_bestBack_13 : decode cX5_bestBack 13 = .ok (.iload 4, 2) := by decide +kernel
theorem dX5_bestBack_15 : decode cX5_bestBack 15 = .ok (.if_icmp .ge 53, 3) := by decide +kernel
theorem dX5_bestBack_18 : decode cX5_bestBack 18 = .ok (.aload_n 0, 1) := by decide +kernel
theorem dX5_bestBack_19 : decode cX5_bestBack 19 = .ok (.aload_n 1, 1) := by decide +kernel
theorem dX5_bestBack_20 : decode cX5_bestBack 20 = .ok (.iload_n 2, 1) := by decide +kernel
theorem dX5_bestBack_21 : decode cX5_bestBack 21 = .ok (.iload_n 3, 1) := by decide +kernel
theorem dX5_bestBack_22 : decode cX5_bestBack 22 = .ok (.iload 4, 2) := by decide +kernel
theorem dX5_bestBack_24 : decode cX5_bestBack 24 = .ok (.iload 8, 2) := by decide +kernel
theorem dX5_bestBack_26 : decode cX5_bestBack 26 = .ok (.invokevirtual 116, 3) := by decide +kernel
theorem dX5_bestBack_29 : decode cX5_bestBack 29 = .ok (.ifCond .eq 33, 3) := by decide +kernel
theorem dX5_bestBack_32 : decode cX5_bestBack 32 = .ok (.aload_n 0, 1) := by decide +kernel
theorem dX5_bestBack_33 : decode cX5_bestBack 33 = .ok (.getfield 12, 3) := by decide +kernel
theorem dX5_bestBack_36 : decode cX5_bestBack 36 = .ok (.invokevirtual 43, 3) := by decide +kernel
theorem dX5_bestBack_39 : decode cX5_bestBack 39 = .ok (.iload 5, 2) := by decide +kernel
theorem dX5_bestBack_41 : decode cX5_bestBack 41 = .ok (.isub, 1) := by decide +kernel
theorem dX5_bestBack_42 : decode cX5_bestBack 42 = .ok (.invokestatic 76, 3) := by decide +kernel
theorem dX5_bestBack_45 : decode cX5_bestBack 45 = .ok (.istore 9, 2) := by decide +kernel
theorem dX5_bestBack_47 : decode cX5_bestBack 47 = .ok (.iload 9, 2) := by decide +kernel
theorem dX5_bestBack_49 : decode cX5_bestBack 49 = .ok (.iload 7, 2) := by decide +kernel
theorem dX5_bestBack_51 : decode cX5_bestBack 51 = .ok (.if_icmp .ge 11, 3) := by decide +kernel
theorem dX5_bestBack_54 : decode cX5_bestBack 54 = .ok (.iload 9, 2) := by decide +kernel
theorem dX5_bestBack_56 : decode cX5_bestBack 56 = .ok (.istore 7, 2) := by decide +kernel
theorem dX5_bestBack_58 : decode cX5_bestBack 58 = .ok (.iload 8, 2) := by decide +kernel
theorem dX5_bestBack_60 : decode cX5_bestBack 60 = .ok (.istore 6, 2) := by decide +kernel
theorem dX5_bestBack_62 : decode cX5_bestBack 62 = .ok (.iinc 8 1, 3) := by decide +kernel
theorem dX5_bestBack_65 : decode cX5_bestBack 65 = .ok (.goto (-54), 3) := by decide +kernel
theorem dX5_bestBack_68 : decode cX5_bestBack 68 = .ok (.iload 6, 2) := by decide +kernel
theorem dX5_bestBack_70 : decode cX5_bestBack 70 = .ok (.ireturn, 1) := by decide +kernel
theorem dX5_passesUnnoticed_0 : decode cX5_passesUnnoticed 0 = .ok (.aload_n 0, 1) := by decide +kernel
theorem dX5_passesUnnoticed_1 : decode cX5_passesUnnoticed 1 = .ok (.getfield 12, 3) := by decide +kernel
theorem dX5_passesUnnoticed_4 : decode cX5_passesUnnoticed 4 = .ok (.aload_n 1, 1) := by decide +kernel
theorem dX5_passesUnnoticed_5 : decode cX5_passesUnnoticed 5 = .ok (.invokevirtual 28, 3) := by decide +kernel
theorem dX5_passesUnnoticed_8 : decode cX5_passesUnnoticed 8 = .ok (.iconst 0, 1) := by decide +kernel
theorem dX5_passesUnnoticed_9 : decode cX5_passesUnnoticed 9 = .ok (.istore 6, 2) := by decide +kernel
theorem dX5_passesUnnoticed_11 : decode cX5_passesUnnoticed 11 = .ok (.iload 6, 2) := by decide +kernel
theorem dX5_passesUnnoticed_13 : decode cX5_passesUnnoticed 13 = .ok (.iload 4, 2) := by decide +kernel
theorem dX5_passesUnnoticed_15 : decode cX5_passesUnnoticed 15 = .ok (.if_icmp .ge 75, 3) := by decide +kernel
theorem dX5_passesUnnoticed_18 : decode cX5_passesUnnoticed 18 = .ok (.aload_n 0, 1) := by decide +kernel
theorem dX5_passesUnnoticed_19 : decode cX5_passesUnnoticed 19 = .ok (.getfield 12, 3) := by decide +kernel
theorem dX5_passesUnnoticed_22 : decode cX5_passesUnnoticed 22 = .ok (.invokevirtual 43, 3) := by decide +kernel
theorem dX5_passesUnnoticed_25 : decode cX5_passesUnnoticed 25 = .ok (.istore 7, 2) := by decide +kernel
theorem dX5_passesUnnoticed_27 : decode cX5_passesUnnoticed 27 = .ok (.iload 6, 2) := by decide +kernel
theorem dX5_passesUnnoticed_29 : decode cX5_passesUnnoticed 29 = .ok (.iload 5, 2) := by decide +kernel
theorem dX5_passesUnnoticed_31 : decode cX5_passesUnnoticed 31 = .ok (.if_icmp .ne 26, 3) := by decide +kernel
theorem dX5_passesUnnoticed_34 : decode cX5_passesUnnoticed 34 = .ok (.aload_n 0, 1) := by decide +kernel
theorem dX5_passesUnnoticed_35 : decode cX5_passesUnnoticed 35 = .ok (.getfield 12, 3) := by decide +kernel
theorem dX5_passesUnnoticed_38 : decode cX5_passesUnnoticed 38 = .ok (.getfield 64, 3) := by decide +kernel
theorem dX5_passesUnnoticed_41 : decode cX5_passesUnnoticed 41 = .ok (.iload_n 2, 1) := by decide +kernel
theorem dX5_passesUnnoticed_42 : decode cX5_passesUnnoticed 42 = .ok (.aload_n 0, 1) := by decide +kernel
theorem dX5_passesUnnoticed_43 : decode cX5_passesUnnoticed 43 = .ok (.getfield 12, 3) := by decide +kernel
theorem dX5_passesUnnoticed_46 : decode cX5_passesUnnoticed 46 = .ok (.getfield 64, 3) := by decide +kernel
theorem dX5_passesUnnoticed_49 : decode cX5_passesUnnoticed 49 = .ok (.iload_n 2, 1) := by decide +kernel
theorem dX5_passesUnnoticed_50 : decode cX5_passesUnnoticed 50 = .ok (.iaload, 1) := by decide +kernel
theorem dX5_passesUnnoticed_51 : decode cX5_passesUnnoticed 51 = .ok (.iload_n 3, 1) := by decide +kernel
theorem dX5_passesUnnoticed_52 : decode cX5_passesUnnoticed 52 = .ok (.isub, 1) := by decide +kernel
theorem dX5_passesUnnoticed_53 : decode cX5_passesUnnoticed 53 = .ok (.invokestatic 120, 3) := by decide +kernel
theorem dX5_passesUnnoticed_56 : decode cX5_passesUnnoticed 56 = .ok (.iastore, 1) := by decide +kernel
theorem dX5_passesUnnoticed_57 : decode cX5_passesUnnoticed 57 = .ok (.aload_n 0, 1) := by decide +kernel
theorem dX5_passesUnnoticed_58 : decode cX5_passesUnnoticed 58 = .ok (.getfield 12, 3) := by decide +kernel
theorem dX5_passesUnnoticed_61 : decode cX5_passesUnnoticed 61 = .ok (.invokevirtual 32, 3) := by decide +kernel
theorem dX5_passesUnnoticed_64 : decode cX5_passesUnnoticed 64 = .ok (.aload_n 0, 1) := by decide +kernel
theorem dX5_passesUnnoticed_65 : decode cX5_passesUnnoticed 65 = .ok (.getfield 12, 3) := by decide +kernel
theorem dX5_passesUnnoticed_68 : decode cX5_passesUnnoticed 68 = .ok (.invokevirtual 43, 3) := by decide +kernel
theorem dX5_passesUnnoticed_71 : decode cX5_passesUnnoticed 71 = .ok (.iload 7, 2) := by decide +kernel
theorem dX5_passesUnnoticed_73 : decode cX5_passesUnnoticed 73 = .ok (.isub, 1) := by decide +kernel
theorem dX5_passesUnnoticed_74 : decode cX5_passesUnnoticed 74 = .ok (.invokestatic 76, 3) := by decide +kernel
theorem dX5_passesUnnoticed_77 : decode cX5_passesUnnoticed 77 = .ok (.bipush 9, 2) := by decide +kernel
theorem dX5_passesUnnoticed_79 : decode cX5_passesUnnoticed 79 = .ok (.if_icmp .le 5, 3) := by decide +kernel
theorem dX5_passesUnnoticed_82 : decode cX5_passesUnnoticed 82 = .ok (.iconst 0, 1) := by decide +kernel
theorem dX5_passesUnnoticed_83 : decode cX5_passesUnnoticed 83 = .ok (.ireturn, 1) := by decide +kernel
theorem dX5_passesUnnoticed_84 : decode cX5_passesUnnoticed 84 = .ok (.iinc 6 1, 3) := by decide +kernel
theorem dX5_passesUnnoticed_87 : decode cX5_passesUnnoticed 87 = .ok (.goto (-76), 3) := by decide +kernel
theorem dX5_passesUnnoticed_90 : decode cX5_passesUnnoticed 90 = .ok (.iconst 1, 1) := by decide +kernel
theorem dX5_passesUnnoticed_91 : decode cX5_passesUnnoticed 91 = .ok (.ireturn, 1) := by decide +kernel
theorem dX5_gainOfClaps_0 : decode cX5_gainOfClaps 0 = .ok (.aload_n 0, 1) := by decide +kernel
theorem dX5_gainOfClaps_1 : decode cX5_gainOfClaps 1 = .ok (.getfield 18, 3) := by decide +kernel
theorem dX5_gainOfClaps_4 : decode cX5_gainOfClaps 4 = .ok (.aload_n 1, 1) := by decide +kernel
theorem dX5_gainOfClaps_5 : decode cX5_gainOfClaps 5 = .ok (.invokevirtual 28, 3) := by decide +kernel
theorem dX5_gainOfClaps_8 : decode cX5_gainOfClaps 8 = .ok (.aload_n 0, 1) := by decide +kernel
theorem dX5_gainOfClaps_9 : decode cX5_gainOfClaps 9 = .ok (.getfield 18, 3) := by decide +kernel
theorem dX5_gainOfClaps_12 : decode cX5_gainOfClaps 12 = .ok (.iload_n 2, 1) := by decide +kernel
theorem dX5_gainOfClaps_13 : decode cX5_gainOfClaps 13 = .ok (.invokevirtual 123, 3) := by decide +kernel
theorem dX5_gainOfClaps_16 : decode cX5_gainOfClaps 16 = .ok (.aload_n 0, 1) := by decide +kernel
theorem dX5_gainOfClaps_17 : decode cX5_gainOfClaps 17 = .ok (.aload_n 0, 1) := by decide +kernel
theorem dX5_gainOfClaps_18 : decode cX5_gainOfClaps 18 = .ok (.getfield 18, 3) := by decide +kernel
theorem dX5_gainOfClaps_21 : decode cX5_gainOfClaps 21 = .ok (.iload_n 3, 1) := by decide +kernel
theorem dX5_gainOfClaps_22 : decode cX5_gainOfClaps 22 = .ok (.invokevirtual 39, 3) := by decide +kernel
theorem dX5_gainOfClaps_25 : decode cX5_gainOfClaps 25 = .ok (.invokevirtual 43, 3) := by decide +kernel
theorem dX5_gainOfClaps_28 : decode cX5_gainOfClaps 28 = .ok (.istore 4, 2) := by decide +kernel
theorem dX5_gainOfClaps_30 : decode cX5_gainOfClaps 30 = .ok (.iload 4, 2) := by decide +kernel
theorem dX5_gainOfClaps_32 : decode cX5_gainOfClaps 32 = .ok (.aload_n 0, 1) := by decide +kernel
theorem dX5_gainOfClaps_33 : decode cX5_gainOfClaps 33 = .ok (.aload_n 1, 1) := by decide +kernel
theorem dX5_gainOfClaps_34 : decode cX5_gainOfClaps 34 = .ok (.iload_n 3, 1) := by decide +kernel
theorem dX5_gainOfClaps_35 : decode cX5_gainOfClaps 35 = .ok (.invokevirtual 39, 3) := by decide +kernel
theorem dX5_gainOfClaps_38 : decode cX5_gainOfClaps 38 = .ok (.invokevirtual 43, 3) := by decide +kernel
theorem dX5_gainOfClaps_41 : decode cX5_gainOfClaps 41 = .ok (.isub, 1) := by decide +kernel
theorem dX5_gainOfClaps_42 : decode cX5_gainOfClaps 42 = .ok (.ireturn, 1) := by decide +kernel
theorem dX5_findPushers_0 : decode cX5_findPushers 0 = .ok (.aload_n 0, 1) := by decide +kernel
theorem dX5_findPushers_1 : decode cX5_findPushers 1 = .ok (.iconst 0, 1) := by decide +kernel
theorem dX5_findPushers_2 : decode cX5_findPushers 2 = .ok (.putfield 55, 3) := by decide +kernel
theorem dX5_findPushers_5 : decode cX5_findPushers 5 = .ok (.aload_n 0, 1) := by decide +kernel
theorem dX5_findPushers_6 : decode cX5_findPushers 6 = .ok (.ldc 82, 2) := by decide +kernel
theorem dX5_findPushers_8 : decode cX5_findPushers 8 = .ok (.putfield 58, 3) := by decide +kernel
theorem dX5_findPushers_11 : decode cX5_findPushers 11 = .ok (.iconst 0, 1) := by decide +kernel
theorem dX5_findPushers_12 : decode cX5_findPushers 12 = .ok (.istore_n 3, 1) := by decide +kernel
theorem dX5_findPushers_13 : decode cX5_findPushers 13 = .ok (.iload_n 3, 1) := by decide +kernel
theorem dX5_findPushers_14 : decode cX5_findPushers 14 = .ok (.aload_n 1, 1) := by decide +kernel
theorem dX5_findPushers_15 : decode cX5_findPushers 15 = .ok (.getfield 73, 3) := by decide +kernel
theorem dX5_findPushers_18 : decode cX5_findPushers 18 = .ok (.if_icmp .ge 52, 3) := by decide +kernel
theorem dX5_findPushers_21 : decode cX5_findPushers 21 = .ok (.aload_n 0, 1) := by decide +kernel
theorem dX5_findPushers_22 : decode cX5_findPushers 22 = .ok (.aload_n 1, 1) := by decide +kernel
theorem dX5_findPushers_23 : decode cX5_findPushers 23 = .ok (.iload_n 3, 1) := by decide +kernel
theorem dX5_findPushers_24 : decode cX5_findPushers 24 = .ok (.aload_n 2, 1) := by decide +kernel
theorem dX5_findPushers_25 : decode cX5_findPushers 25 = .ok (.invokevirtual 126, 3) := by decide +kernel
theorem dX5_findPushers_28 : decode cX5_findPushers 28 = .ok (.istore 4, 2) := by decide +kernel
theorem dX5_findPushers_30 : decode cX5_findPushers 30 = .ok (.iload 4, 2) := by decide +kernel
theorem dX5_findPushers_32 : decode cX5_findPushers 32 = .ok (.ldc 82, 2) := by decide +kernel
theorem dX5_findPushers_34 : decode cX5_findPushers 34 = .ok (.if_icmp .eq 30, 3) := by decide +kernel
theorem dX5_findPushers_37 : decode cX5_findPushers 37 = .ok (.aload_n 0, 1) := by decide +kernel
theorem dX5_findPushers_38 : decode cX5_findPushers 38 = .ok (.dup, 1) := by decide +kernel
theorem dX5_findPushers_39 : decode cX5_findPushers 39 = .ok (.getfield 55, 3) := by decide +kernel
theorem dX5_findPushers_42 : decode cX5_findPushers 42 = .ok (.iconst 1, 1) := by decide +kernel
theorem dX5_findPushers_43 : decode cX5_findPushers 43 = .ok (.iload_n 3, 1) := by decide +kernel
theorem dX5_findPushers_44 : decode cX5_findPushers 44 = .ok (.ishl, 1) := by decide +kernel
theorem dX5_findPushers_45 : decode cX5_findPushers 45 = .ok (.ior, 1) := by decide +kernel
theorem dX5_findPushers_46 : decode cX5_findPushers 46 = .ok (.putfield 55, 3) := by decide +kernel
theorem dX5_findPushers_49 : decode cX5_findPushers 49 = .ok (.aload_n 0, 1) := by decide +kernel
theorem dX5_findPushers_50 : decode cX5_findPushers 50 = .ok (.getfield 58, 3) := by decide +kernel
theorem dX5_findPushers_53 : decode cX5_findPushers 53 = .ok (.ldc 82, 2) := by decide +kernel
theorem dX5_findPushers_55 : decode cX5_findPushers 55 = .ok (.if_icmp .ne 9, 3) := by decide +kernel
theorem dX5_findPushers_58 : decode cX5_findPushers 58 = .ok (.aload_n 0, 1) := by decide +kernel
theorem dX5_findPushers_59 : decode cX5_findPushers 59 = .ok (.iload 4, 2) := by decide +kernel
theorem dX5_findPushers_61 : decode cX5_findPushers 61 = .ok (.putfield 58, 3) := by decide +kernel
theorem dX5_findPushers_64 : decode cX5_findPushers 64 = .ok (.iinc 3 1, 3) := by decide +kernel
theorem dX5_findPushers_67 : decode cX5_findPushers 67 = .ok (.goto (-54), 3) := by decide +kernel
theorem dX5_findPushers_70 : decode cX5_findPushers 70 = .ok (.return_, 1) := by decide +kernel
theorem dX5_leastPush_0 : decode cX5_leastPush 0 = .ok (.iconst 1, 1) := by decide +kernel
theorem dX5_leastPush_1 : decode cX5_leastPush 1 = .ok (.istore 4, 2) := by decide +kernel
theorem dX5_leastPush_3 : decode cX5_leastPush 3 = .ok (.iload 4, 2) := by decide +kernel
theorem dX5_leastPush_5 : decode cX5_leastPush 5 = .ok (.bipush 20, 2) := by decide +kernel
theorem dX5_leastPush_7 : decode cX5_leastPush 7 = .ok (.if_icmp .gt 49, 3) := by decide +kernel
theorem dX5_leastPush_10 : decode cX5_leastPush 10 = .ok (.aload_n 0, 1) := by decide +kernel
theorem dX5_leastPush_11 : decode cX5_leastPush 11 = .ok (.getfield 12, 3) := by decide +kernel
theorem dX5_leastPush_14 : decode cX5_leastPush 14 = .ok (.aload_n 1, 1) := by decide +kernel
theorem dX5_leastPush_15 : decode cX5_leastPush 15 = .ok (.invokevirtual 28, 3) := by decide +kernel
theorem dX5_leastPush_18 : decode cX5_leastPush 18 = .ok (.aload_n 0, 1) := by decide +kernel
theorem dX5_leastPush_19 : decode cX5_leastPush 19 = .ok (.getfield 12, 3) := by decide +kernel
theorem dX5_leastPush_22 : decode cX5_leastPush 22 = .ok (.getfield 109, 3) := by decide +kernel
theorem dX5_leastPush_25 : decode cX5_leastPush 25 = .ok (.iload_n 2, 1) := by decide +kernel
theorem dX5_leastPush_26 : decode cX5_leastPush 26 = .ok (.dup2, 1) := by decide +kernel
theorem dX5_leastPush_27 : decode cX5_leastPush 27 = .ok (.iaload, 1) := by decide +kernel
theorem dX5_leastPush_28 : decode cX5_leastPush 28 = .ok (.iload 4, 2) := by decide +kernel
theorem dX5_leastPush_30 : decode cX5_leastPush 30 = .ok (.iadd, 1) := by decide +kernel
theorem dX5_leastPush_31 : decode cX5_leastPush 31 = .ok (.iastore, 1) := by decide +kernel
theorem dX5_leastPush_32 : decode cX5_leastPush 32 = .ok (.aload_n 0, 1) := by decide +kernel
theorem dX5_leastPush_33 : decode cX5_leastPush 33 = .ok (.getfield 12, 3) := by decide +kernel
theorem dX5_leastPush_36 : decode cX5_leastPush 36 = .ok (.invokevirtual 32, 3) := by decide +kernel
theorem dX5_leastPush_39 : decode cX5_leastPush 39 = .ok (.aload_n 0, 1) := by decide +kernel
theorem dX5_leastPush_40 : decode cX5_leastPush 40 = .ok (.aload_n 3, 1) := by decide +kernel
theorem dX5_leastPush_41 : decode cX5_leastPush 41 = .ok (.invokevirtual 130, 3) := by decide +kernel
theorem dX5_leastPush_44 : decode cX5_leastPush 44 = .ok (.ifCond .eq 6, 3) := by decide +kernel
theorem dX5_leastPush_47 : decode cX5_leastPush 47 = .ok (.iload 4, 2) := by decide +kernel
theorem dX5_leastPush_49 : decode cX5_leastPush 49 = .ok (.ireturn, 1) := by decide +kernel
theorem dX5_leastPush_50 : decode cX5_leastPush 50 = .ok (.iinc 4 1, 3) := by decide +kernel
theorem dX5_leastPush_53 : decode cX5_leastPush 53 = .ok (.goto (-50), 3) := by decide +kernel
theorem dX5_leastPush_56 : decode cX5_leastPush 56 = .ok (.ldc 82, 2) := by decide +kernel
theorem dX5_leastPush_58 : decode cX5_leastPush 58 = .ok (.ireturn, 1) := by decide +kernel
theorem dX5_hasPaces_0 : decode cX5_hasPaces 0 = .ok (.iconst 0, 1) := by decide +kernel
theorem dX5_hasPaces_1 : decode cX5_hasPaces 1 = .ok (.istore_n 2, 1) := by decide +kernel
theorem dX5_hasPaces_2 : decode cX5_hasPaces 2 = .ok (.iload_n 2, 1) := by decide +kernel
theorem dX5_hasPaces_3 : decode cX5_hasPaces 3 = .ok (.aload_n 0, 1) := by decide +kernel
theorem dX5_hasPaces_4 : decode cX5_hasPaces 4 = .ok (.getfield 12, 3) := by decide +kernel
theorem dX5_hasPaces_7 : decode cX5_hasPaces 7 = .ok (.getfield 73, 3) := by decide +kernel
theorem dX5_hasPaces_10 : decode cX5_hasPaces 10 = .ok (.if_icmp .ge 26, 3) := by decide +kernel
theorem dX5_hasPaces_13 : decode cX5_hasPaces 13 = .ok (.aload_n 0, 1) := by decide +kernel
theorem dX5_hasPaces_14 : decode cX5_hasPaces 14 = .ok (.getfield 12, 3) := by decide +kernel
theorem dX5_hasPaces_17 : decode cX5_hasPaces 17 = .ok (.getfield 64, 3) := by decide +kernel
theorem dX5_hasPaces_20 : decode cX5_hasPaces 20 = .ok (.iload_n 2, 1) := by decide +kernel
theorem dX5_hasPaces_21 : decode cX5_hasPaces 21 = .ok (.iaload, 1) := by decide +kernel
theorem dX5_hasPaces_22 : decode cX5_hasPaces 22 = .ok (.aload_n 1, 1) := by decide +kernel
theorem dX5_hasPaces_23 : decode cX5_hasPaces 23 = .ok (.iload_n 2, 1) := by decide +kernel
theorem dX5_hasPaces_24 : decode cX5_hasPaces 24 = .ok (.iaload, 1) := by decide +kernel
theorem dX5_hasPaces_25 : decode cX5_hasPaces 25 = .ok (.if_icmp .eq 5, 3) := by decide +kernel
theorem dX5_hasPaces_28 : decode cX5_hasPaces 28 = .ok (.iconst 0, 1) := by decide +kernel
theorem dX5_hasPaces_29 : decode cX5_hasPaces 29 = .ok (.ireturn, 1) := by decide +kernel
theorem dX5_hasPaces_30 : decode cX5_hasPaces 30 = .ok (.iinc 2 1, 3) := by decide +kernel
theorem dX5_hasPaces_33 : decode cX5_hasPaces 33 = .ok (.goto (-31), 3) := by decide +kernel
theorem dX5_hasPaces_36 : decode cX5_hasPaces 36 = .ok (.iconst 1, 1) := by decide +kernel
theorem dX5_hasPaces_37 : decode cX5_hasPaces 37 = .ok (.ireturn, 1) := by decide +kernel
theorem dX5_findNight_0 : decode cX5_findNight 0 = .ok (.aload_n 0, 1) := by decide +kernel
theorem dX5_findNight_1 : decode cX5_findNight 1 = .ok (.getfield 12, 3) := by decide +kernel
theorem dX5_findNight_4 : decode cX5_findNight 4 = .ok (.aload_n 1, 1) := by decide +kernel
theorem dX5_findNight_5 : decode cX5_findNight 5 = .ok (.invokevirtual 28, 3) := by decide +kernel
theorem dX5_findNight_8 : decode cX5_findNight 8 = .ok (.iload_n 3, 1) := by decide +kernel
theorem dX5_findNight_9 : decode cX5_findNight 9 = .ok (.i2l, 1) := by decide +kernel
theorem dX5_findNight_10 : decode cX5_findNight 10 = .ok (.lstore 4, 2) := by decide +kernel
theorem dX5_findNight_12 : decode cX5_findNight 12 = .ok (.aload_n 0, 1) := by decide +kernel
theorem dX5_findNight_13 : decode cX5_findNight 13 = .ok (.iconst 0, 1) := by decide +kernel
theorem dX5_findNight_14 : decode cX5_findNight 14 = .ok (.putfield 58, 3) := by decide +kernel
theorem dX5_findNight_17 : decode cX5_findNight 17 = .ok (.iconst 0, 1) := by decide +kernel
theorem dX5_findNight_18 : decode cX5_findNight 18 = .ok (.istore 6, 2) := by decide +kernel
theorem dX5_findNight_20 : decode cX5_findNight 20 = .ok (.iload 6, 2) := by decide +kernel
theorem dX5_findNight_22 : decode cX5_findNight 22 = .ok (.iload_n 2, 1) := by decide +kernel
theorem dX5_findNight_23 : decode cX5_findNight 23 = .ok (.if_icmp .ge 119, 3) := by decide +kernel
theorem dX5_findNight_26 : decode cX5_findNight 26 = .ok (.aload_n 0, 1) := by decide +kernel
theorem dX5_findNight_27 : decode cX5_findNight 27 = .ok (.getfield 12, 3) := by decide +kernel
theorem dX5_findNight_30 : decode cX5_findNight 30 = .ok (.invokevirtual 43, 3) := by decide +kernel
theorem dX5_findNight_33 : decode cX5_findNight 33 = .ok (.istore 7, 2) := by decide +kernel
theorem dX5_findNight_35 : decode cX5_findNight 35 = .ok (.iconst 0, 1) := by decide +kernel
theorem dX5_findNight_36 : decode cX5_findNight 36 = .ok (.istore 8, 2) := by decide +kernel
theorem dX5_findNight_38 : decode cX5_findNight 38 = .ok (.iload 8, 2) := by decide +kernel
theorem dX5_findNight_40 : decode cX5_findNight 40 = .ok (.aload_n 0, 1) := by decide +kernel
theorem dX5_findNight_41 : decode cX5_findNight 41 = .ok (.getfield 12, 3) := by decide +kernel
theorem dX5_findNight_44 : decode cX5_findNight 44 = .ok (.getfield 73, 3) := by decide +kernel
theorem dX5_findNight_47 : decode cX5_findNight 47 = .ok (.if_icmp .ge 54, 3) := by decide +kernel
theorem dX5_findNight_50 : decode cX5_findNight 50 = .ok (.lload 4, 2) := by decide +kernel
theorem dX5_findNight_52 : decode cX5_findNight 52 = .ok (.ldc2_w 134, 3) := by decide +kernel
theorem dX5_findNight_55 : decode cX5_findNight 55 = .ok (.lmul, 1) := by decide +kernel
theorem dX5_findNight_56 : decode cX5_findNight 56 = .ok (.ldc2_w 136, 3) := by decide +kernel
theorem dX5_findNight_59 : decode cX5_findNight 59 = .ok (.lrem, 1) := by decide +kernel
theorem dX5_findNight_60 : decode cX5_findNight 60 = .ok (.lstore 4, 2) := by decide +kernel
theorem dX5_findNight_62 : decode cX5_findNight 62 = .ok (.aload_n 0, 1) := by decide +kernel
theorem dX5_findNight_63 : decode cX5_findNight 63 = .ok (.getfield 12, 3) := by decide +kernel
theorem dX5_findNight_66 : decode cX5_findNight 66 = .ok (.getfield 64, 3) := by decide +kernel
theorem dX5_findNight_69 : decode cX5_findNight 69 = .ok (.iload 8, 2) := by decide +kernel
theorem dX5_findNight_71 : decode cX5_findNight 71 = .ok (.aload_n 0, 1) := by decide +kernel
theorem dX5_findNight_72 : decode cX5_findNight 72 = .ok (.getfield 12, 3) := by decide +kernel
theorem dX5_findNight_75 : decode cX5_findNight 75 = .ok (.getfield 64, 3) := by decide +kernel
theorem dX5_findNight_78 : decode cX5_findNight 78 = .ok (.iload 8, 2) := by decide +kernel
theorem dX5_findNight_80 : decode cX5_findNight 80 = .ok (.iaload, 1) := by decide +kernel
theorem dX5_findNight_81 : decode cX5_findNight 81 = .ok (.lload 4, 2) := by decide +kernel
theorem dX5_findNight_83 : decode cX5_findNight 83 = .ok (.ldc2_w 138, 3) := by decide +kernel
theorem dX5_findNight_86 : decode cX5_findNight 86 = .ok (.lrem, 1) := by decide +kernel
theorem dX5_findNight_87 : decode cX5_findNight 87 = .ok (.l2i, 1) := by decide +kernel
theorem dX5_findNight_88 : decode cX5_findNight 88 = .ok (.iadd, 1) := by decide +kernel
theorem dX5_findNight_89 : decode cX5_findNight 89 = .ok (.iconst 2, 1) := by decide +kernel
theorem dX5_findNight_90 : decode cX5_findNight 90 = .ok (.isub, 1) := by decide +kernel
theorem dX5_findNight_91 : decode cX5_findNight 91 = .ok (.invokestatic 120, 3) := by decide +kernel
theorem dX5_findNight_94 : decode cX5_findNight 94 = .ok (.iastore, 1) := by decide +kernel
theorem dX5_findNight_95 : decode cX5_findNight 95 = .ok (.iinc 8 1, 3) := by decide +kernel
theorem dX5_findNight_98 : decode cX5_findNight 98 = .ok (.goto (-60), 3) := by decide +kernel
theorem dX5_findNight_101 : decode cX5_findNight 101 = .ok (.aload_n 0, 1) := by decide +kernel
theorem dX5_findNight_102 : decode cX5_findNight 102 = .ok (.getfield 12, 3) := by decide +kernel
theorem dX5_findNight_105 : decode cX5_findNight 105 = .ok (.invokevirtual 32, 3) := by decide +kernel
theorem dX5_findNight_108 : decode cX5_findNight 108 = .ok (.aload_n 0, 1) := by decide +kernel
theorem dX5_findNight_109 : decode cX5_findNight 109 = .ok (.getfield 12, 3) := by decide +kernel
theorem dX5_findNight_112 : decode cX5_findNight 112 = .ok (.invokevirtual 43, 3) := by decide +kernel
theorem dX5_findNight_115 : decode cX5_findNight 115 = .ok (.iload 7, 2) := by decide +kernel
theorem dX5_findNight_117 : decode cX5_findNight 117 = .ok (.isub, 1) := by decide +kernel
theorem dX5_findNight_118 : decode cX5_findNight 118 = .ok (.invokestatic 76, 3) := by decide +kernel
theorem dX5_findNight_121 : decode cX5_findNight 121 = .ok (.bipush 9, 2) := by decide +kernel
theorem dX5_findNight_123 : decode cX5_findNight 123 = .ok (.if_icmp .le 13, 3) := by decide +kernel
theorem dX5_findNight_126 : decode cX5_findNight 126 = .ok (.aload_n 0, 1) := by decide +kernel
theorem dX5_findNight_127 : decode cX5_findNight 127 = .ok (.dup, 1) := by decide +kernel
theorem dX5_findNight_128 : decode cX5_findNight 128 = .ok (.getfield 58, 3) := by decide +kernel
theorem dX5_findNight_131 : decode cX5_findNight 131 = .ok (.iconst 1, 1) := by decide +kernel
theorem dX5_findNight_132 : decode cX5_findNight 132 = .ok (.iadd, 1) := by decide +kernel
theorem dX5_findNight_133 : decode cX5_findNight 133 = .ok (.putfield 58, 3) := by decide +kernel
theorem dX5_findNight_136 : decode cX5_findNight 136 = .ok (.iinc 6 1, 3) := by decide +kernel
theorem dX5_findNight_139 : decode cX5_findNight 139 = .ok (.goto (-119), 3) := by decide +kernel
theorem dX5_findNight_142 : decode cX5_findNight 142 = .ok (.aload_n 0, 1) := by decide +kernel
theorem dX5_findNight_143 : decode cX5_findNight 143 = .ok (.aload_n 0, 1) := by decide +kernel
theorem dX5_findNight_144 : decode cX5_findNight 144 = .ok (.getfield 12, 3) := by decide +kernel
theorem dX5_findNight_147 : decode cX5_findNight 147 = .ok (.invokevirtual 43, 3) := by decide +kernel
theorem dX5_findNight_150 : decode cX5_findNight 150 = .ok (.putfield 55, 3) := by decide +kernel
theorem dX5_findNight_153 : decode cX5_findNight 153 = .ok (.return_, 1) := by decide +kernel
theorem dX6_init_0 : decode cX6_init 0 = .ok (.aload_n 0, 1) := by decide +kernel
theorem dX6_init_1 : decode cX6_init 1 = .ok (.invokespecial 3, 3) := by decide +kernel
theorem dX6_init_4 : decode cX6_init 4 = .ok (.aload_n 0, 1) := by decide +kernel
theorem dX6_init_5 : decode cX6_init 5 = .ok (.sipush 140, 3) := by decide +kernel
theorem dX6_init_8 : decode cX6_init 8 = .ok (.newarray .int, 2) := by decide +kernel
theorem dX6_init_10 : decode cX6_init 10 = .ok (.putfield 9, 3) := by decide +kernel
theorem dX6_init_13 : decode cX6_init 13 = .ok (.return_, 1) := by decide +kernel
theorem dX6_takeIn_0 : decode cX6_takeIn 0 = .ok (.aload_n 0, 1) := by decide +kernel
theorem dX6_takeIn_1 : decode cX6_takeIn 1 = .ok (.getfield 15, 3) := by decide +kernel
theorem dX6_takeIn_4 : decode cX6_takeIn 4 = .ok (.sipush 140, 3) := by decide +kernel
theorem dX6_takeIn_7 : decode cX6_takeIn 7 = .ok (.if_icmp .lt 5, 3) := by decide +kernel
theorem dX6_takeIn_10 : decode cX6_takeIn 10 = .ok (.iconst 0, 1) := by decide +kernel
theorem dX6_takeIn_11 : decode cX6_takeIn 11 = .ok (.ireturn, 1) := by decide +kernel
theorem dX6_takeIn_12 : decode cX6_takeIn 12 = .ok (.aload_n 0, 1) := by decide +kernel
theorem dX6_takeIn_13 : decode cX6_takeIn 13 = .ok (.getfield 9, 3) := by decide +kernel
theorem dX6_takeIn_16 : decode cX6_takeIn 16 = .ok (.aload_n 0, 1) := by decide +kernel
theorem dX6_takeIn_17 : decode cX6_takeIn 17 = .ok (.getfield 15, 3) := by decide +kernel
theorem dX6_takeIn_20 : decode cX6_takeIn 20 = .ok (.iload_n 1, 1) := by decide +kernel
theorem dX6_takeIn_21 : decode cX6_takeIn 21 = .ok (.iastore, 1) := by decide +kernel
theorem dX6_takeIn_22 : decode cX6_takeIn 22 = .ok (.aload_n 0, 1) := by decide +kernel
theorem dX6_takeIn_23 : decode cX6_takeIn 23 = .ok (.dup, 1) := by decide +kernel
theorem dX6_takeIn_24 : decode cX6_takeIn 24 = .ok (.getfield 15, 3) := by decide +kernel
theorem dX6_takeIn_27 : decode cX6_takeIn 27 = .ok (.iconst 1, 1) := by decide +kernel
theorem dX6_takeIn_28 : decode cX6_takeIn 28 = .ok (.iadd, 1) := by decide +kernel
theorem dX6_takeIn_29 : decode cX6_takeIn 29 = .ok (.putfield 15, 3) := by decide +kernel
theorem dX6_takeIn_32 : decode cX6_takeIn 32 = .ok (.iconst 1, 1) := by decide +kernel
theorem dX6_takeIn_33 : decode cX6_takeIn 33 = .ok (.ireturn, 1) := by decide +kernel
theorem dX6_readInto_0 : decode cX6_readInto 0 = .ok (.aload_n 0, 1) := by decide +kernel
theorem dX6_readInto_1 : decode cX6_readInto 1 = .ok (.iconst 0, 1) := by decide +kernel
theorem dX6_readInto_2 : decode cX6_readInto 2 = .ok (.putfield 19, 3) := by decide +kernel
theorem dX6_readInto_5 : decode cX6_readInto 5 = .ok (.aload_n 1, 1) := by decide +kernel
theorem dX6_readInto_6 : decode cX6_readInto 6 = .ok (.invokevirtual 22, 3) := by decide +kernel
theorem dX6_readInto_9 : decode cX6_readInto 9 = .ok (.aload_n 0, 1) := by decide +kernel
theorem dX6_readInto_10 : decode cX6_readInto 10 = .ok (.aload_n 1, 1) := by decide +kernel
theorem dX6_readInto_11 : decode cX6_readInto 11 = .ok (.invokevirtual 27, 3) := by decide +kernel
theorem dX6_readInto_14 : decode cX6_readInto 14 = .ok (.ifCond .eq 31, 3) := by decide +kernel
theorem dX6_readInto_17 : decode cX6_readInto 17 = .ok (.aload_n 0, 1) := by decide +kernel
theorem dX6_readInto_18 : decode cX6_readInto 18 = .ok (.aload_n 1, 1) := by decide +kernel
theorem dX6_readInto_19 : decode cX6_readInto 19 = .ok (.invokevirtual 31, 3) := by decide +kernel
theorem dX6_readInto_22 : decode cX6_readInto 22 = .ok (.ifCond .eq 23, 3) := by decide +kernel
theorem dX6_readInto_25 : decode cX6_readInto 25 = .ok (.aload_n 0, 1) := by decide +kernel
theorem dX6_readInto_26 : decode cX6_readInto 26 = .ok (.aload_n 1, 1) := by decide +kernel
theorem dX6_readInto_27 : decode cX6_readInto 27 = .ok (.invokevirtual 34, 3) := by decide +kernel
theorem dX6_readInto_30 : decode cX6_readInto 30 = .ok (.ifCond .eq 15, 3) := by decide +kernel
theorem dX6_readInto_33 : decode cX6_readInto 33 = .ok (.aload_n 0, 1) := by decide +kernel
theorem dX6_readInto_34 : decode cX6_readInto 34 = .ok (.aload_n 1, 1) := by decide +kernel
theorem dX6_readInto_35 : decode cX6_readInto 35 = .ok (.invokevirtual 37, 3) := by decide +kernel
theorem dX6_readInto_38 : decode cX6_readInto 38 = .ok (.ifCond .eq 7, 3) := by decide +kernel
theorem dX6_readInto_41 : decode cX6_readInto 41 = .ok (.iconst 1, 1) := by decide +kernel
theorem dX6_readInto_42 : decode cX6_readInto 42 = .ok (.goto 4, 3) := by decide +kernel
theorem dX6_readInto_45 : decode cX6_readInto 45 = .ok (.iconst 0, 1) := by decide +kernel
theorem dX6_readInto_46 : decode cX6_readInto 46 = .ok (.ireturn, 1) := by decide +kernel
theorem dX6_readLaw_0 : decode cX6_readLaw 0 = .ok (.aload_n 0, 1) := by decide +kernel
theorem dX6_readLaw_1 : decode cX6_readLaw 1 = .ok (.bipush 98, 2) := by decide +kernel
theorem dX6_readLaw_3 : decode cX6_readLaw 3 = .ok (.invokevirtual 40, 3) := by decide +kernel
theorem dX6_readLaw_6 : decode cX6_readLaw 6 = .ok (.ifCond .eq 13, 3) := by decide +kernel
theorem dX6_readLaw_9 : decode cX6_readLaw 9 = .ok (.aload_n 0, 1) := by decide +kernel
theorem dX6_readLaw_10 : decode cX6_readLaw 10 = .ok (.iconst 0, 1) := by decide +kernel
theorem dX6_readLaw_11 : decode cX6_readLaw 11 = .ok (.bipush 20, 2) := by decide +kernel
theorem dX6_readLaw_13 : decode cX6_readLaw 13 = .ok (.invokevirtual 44, 3) := by decide +kernel
theorem dX6_readLaw_16 : decode cX6_readLaw 16 = .ok (.ifCond .ne 5, 3) := by decide +kernel
theorem dX6_readLaw_19 : decode cX6_readLaw 19 = .ok (.iconst 0, 1) := by decide +kernel
theorem dX6_readLaw_20 : decode cX6_readLaw 20 = .ok (.ireturn, 1) := by decide +kernel
theorem dX6_readLaw_21 : decode cX6_readLaw 21 = .ok (.aload_n 1, 1) := by decide +kernel
theorem dX6_readLaw_22 : decode cX6_readLaw 22 = .ok (.aload_n 0, 1) := by decide +kernel
theorem dX6_readLaw_23 : decode cX6_readLaw 23 = .ok (.getfield 48, 3) := by decide +kernel
theorem dX6_readLaw_26 : decode cX6_readLaw 26 = .ok (.putfield 51, 3) := by decide +kernel
theorem dX6_readLaw_29 : decode cX6_readLaw 29 = .ok (.aload_n 0, 1) := by decide +kernel
theorem dX6_readLaw_30 : decode cX6_readLaw 30 = .ok (.bipush 44, 2) := by decide +kernel
theorem dX6_readLaw_32 : decode cX6_readLaw 32 = .ok (.invokevirtual 40, 3) := by decide +kernel
theorem dX6_readLaw_35 : decode cX6_readLaw 35 = .ok (.ifCond .eq 13, 3) := by decide +kernel
theorem dX6_readLaw_38 : decode cX6_readLaw 38 = .ok (.aload_n 0, 1) := by decide +kernel
theorem dX6_readLaw_39 : decode cX6_readLaw 39 = .ok (.iconst 0, 1) := by decide +kernel
theorem dX6_readLaw_40 : decode cX6_readLaw 40 = .ok (.bipush 20, 2) := by decide +kernel
theorem dX6_readLaw_42 : decode cX6_readLaw 42 = .ok (.invokevirtual 44, 3) := by decide +kernel
theorem dX6_readLaw_45 : decode cX6_readLaw 45 = .ok (.ifCond .ne 5, 3) := by decide +kernel
theorem dX6_readLaw_48 : decode cX6_readLaw 48 = .ok (.iconst 0, 1) := by decide +kernel
theorem dX6_readLaw_49 : decode cX6_readLaw 49 = .ok (.ireturn, 1) := by decide +kernel
theorem dX6_readLaw_50 : decode cX6_readLaw 50 = .ok (.aload_n 1, 1) := by decide +kernel
theorem dX6_readLaw_51 : decode cX6_readLaw 51 = .ok (.aload_n 0, 1) := by decide +kernel
theorem dX6_readLaw_52 : decode cX6_readLaw 52 = .ok (.getfield 48, 3) := by decide +kernel
theorem dX6_readLaw_55 : decode cX6_readLaw 55 = .ok (.putfield 54, 3) := by decide +kernel
theorem dX6_readLaw_58 : decode cX6_readLaw 58 = .ok (.aload_n 0, 1) := by decide +kernel
theorem dX6_readLaw_59 : decode cX6_readLaw 59 = .ok (.bipush 44, 2) := by decide +kernel
theorem dX6_readLaw_61 : decode cX6_readLaw 61 = .ok (.invokevirtual 40, 3) := by decide +kernel
theorem dX6_readLaw_64 : decode cX6_readLaw 64 = .ok (.ifCond .eq 13, 3) := by decide +kernel
theorem dX6_readLaw_67 : decode cX6_readLaw 67 = .ok (.aload_n 0, 1) := by decide +kernel
theorem dX6_readLaw_68 : decode cX6_readLaw 68 = .ok (.iconst 0, 1) := by decide +kernel
theorem dX6_readLaw_69 : decode cX6_readLaw 69 = .ok (.bipush 20, 2) := by decide +kernel
theorem dX6_readLaw_71 : decode cX6_readLaw 71 = .ok (.invokevirtual 44, 3) := by decide +kernel
theorem dX6_readLaw_74 : decode cX6_readLaw 74 = .ok (.ifCond .ne 5, 3) := by decide +kernel
theorem dX6_readLaw_77 : decode cX6_readLaw 77 = .ok (.iconst 0, 1) := by decide +kernel
theorem dX6_readLaw_78 : decode cX6_readLaw 78 = .ok (.ireturn, 1) := by decide +kernel
theorem dX6_readLaw_79 : decode cX6_readLaw 79 = .ok (.aload_n 1, 1) := by decide +kernel
theorem dX6_readLaw_80 : decode cX6_readLaw 80 = .ok (.aload_n 0, 1) := by decide +kernel
theorem dX6_readLaw_81 : decode cX6_readLaw 81 = .ok (.getfield 48, 3) := by decide +kernel
theorem dX6_readLaw_84 : decode cX6_readLaw 84 = .ok (.putfield 57, 3) := by decide +kernel
theorem dX6_readLaw_87 : decode cX6_readLaw 87 = .ok (.aload_n 0, 1) := by decide +kernel
theorem dX6_readLaw_88 : decode cX6_readLaw 88 = .ok (.bipush 44, 2) := by decide +kernel
theorem dX6_readLaw_90 : decode cX6_readLaw 90 = .ok (.invokevirtual 40, 3) := by decide +kernel
theorem dX6_readLaw_93 : decode cX6_readLaw 93 = .ok (.ifCond .eq 14, 3) := by decide +kernel
theorem dX6_readLaw_96 : decode cX6_readLaw 96 = .ok (.aload_n 0, 1) := by decide +kernel
theorem dX6_readLaw_97 : decode cX6_readLaw 97 = .ok (.bipush 40, 2) := by decide +kernel
theorem dX6_readLaw_99 : decode cX6_readLaw 99 = .ok (.bipush 99, 2) := by decide +kernel
theorem dX6_readLaw_101 : decode cX6_readLaw 101 = .ok (.invokevirtual 44, 3) := by decide +kernel
theorem dX6_readLaw_104 : decode cX6_readLaw 104 = .ok (.ifCond .ne 5, 3) := by decide +kernel
theorem dX6_readLaw_107 : decode cX6_readLaw 107 = .ok (.iconst 0, 1) := by decide +kernel
theorem dX6_readLaw_108 : decode cX6_readLaw 108 = .ok (.ireturn, 1) := by decide +kernel
theorem dX6_readLaw_109 : decode cX6_readLaw 109 = .ok (.aload_n 1, 1) := by decide +kernel
theorem dX6_readLaw_110 : decode cX6_readLaw 110 = .ok (.aload_n 0, 1) := by decide +kernel
theorem dX6_readLaw_111 : decode cX6_readLaw 111 = .ok (.getfield 48, 3) := by decide +kernel
theorem dX6_readLaw_114 : decode cX6_readLaw 114 = .ok (.putfield 60, 3) := by decide +kernel
theorem dX6_readLaw_117 : decode cX6_readLaw 117 = .ok (.aload_n 0, 1) := by decide +kernel
theorem dX6_readLaw_118 : decode cX6_readLaw 118 = .ok (.bipush 59, 2) := by decide +kernel
theorem dX6_readLaw_120 : decode cX6_readLaw 120 = .ok (.invokevirtual 40, 3) := by decide +kernel
theorem dX6_readLaw_123 : decode cX6_readLaw 123 = .ok (.ireturn, 1) := by decide +kernel
theorem dX6_readSong_0 : decode cX6_readSong 0 = .ok (.aload_n 0, 1) := by decide +kernel
theorem dX6_readSong_1 : decode cX6_readSong 1 = .ok (.bipush 122, 2) := by decide +kernel
theorem dX6_readSong_3 : decode cX6_readSong 3 = .ok (.invokevirtual 40, 3) := by decide +kernel
theorem dX6_readSong_6 : decode cX6_readSong 6 = .ok (.ifCond .ne 5, 3) := by decide +kernel
theorem dX6_readSong_9 : decode cX6_readSong 9 = .ok (.iconst 0, 1) := by decide +kernel
theorem dX6_readSong_10 : decode cX6_readSong 10 = .ok (.ireturn, 1) := by decide +kernel
theorem dX6_readSong_11 : decode cX6_readSong 11 = .ok (.aload_n 1, 1) := by decide +kernel
theorem dX6_readSong_12 : decode cX6_readSong 12 = .ok (.getfield 63, 3) := by decide +kernel
theorem dX6_readSong_15 : decode cX6_readSong 15 = .ok (.bipush 12, 2) := by decide +kernel
theorem dX6_readSong_17 : decode cX6_readSong 17 = .ok (.if_icmp .ge 52, 3) := by decide +kernel
theorem dX6_readSong_20 : decode cX6_readSong 20 = .ok (.aload_n 0, 1) := by decide +kernel
theorem dX6_readSong_21 : decode cX6_readSong 21 = .ok (.invokevirtual 64, 3) := by decide +kernel
theorem dX6_readSong_24 : decode cX6_readSong 24 = .ok (.invokestatic 68, 3) := by decide +kernel
theorem dX6_readSong_27 : decode cX6_readSong 27 = .ok (.ifCond .lt 42, 3) := by decide +kernel
theorem dX6_readSong_30 : decode cX6_readSong 30 = .ok (.aload_n 1, 1) := by decide +kernel
theorem dX6_readSong_31 : decode cX6_readSong 31 = .ok (.getfield 72, 3) := by decide +kernel
theorem dX6_readSong_34 : decode cX6_readSong 34 = .ok (.aload_n 1, 1) := by decide +kernel
theorem dX6_readSong_35 : decode cX6_readSong 35 = .ok (.getfield 63, 3) := by decide +kernel
theorem dX6_readSong_38 : decode cX6_readSong 38 = .ok (.aload_n 0, 1) := by decide +kernel
theorem dX6_readSong_39 : decode cX6_readSong 39 = .ok (.invokevirtual 64, 3) := by decide +kernel
theorem dX6_readSong_42 : decode cX6_readSong 42 = .ok (.invokestatic 68, 3) := by decide +kernel
theorem dX6_readSong_45 : decode cX6_readSong 45 = .ok (.iastore, 1) := by decide +kernel
theorem dX6_readSong_46 : decode cX6_readSong 46 = .ok (.aload_n 1, 1) := by decide +kernel
theorem dX6_readSong_47 : decode cX6_readSong 47 = .ok (.dup, 1) := by decide +kernel
theorem dX6_readSong_48 : decode cX6_readSong 48 = .ok (.getfield 63, 3) := by decide +kernel
theorem dX6_readSong_51 : decode cX6_readSong 51 = .ok (.iconst 1, 1) := by decide +kernel
theorem dX6_readSong_52 : decode cX6_readSong 52 = .ok (.iadd, 1) := by decide +kernel
theorem dX6_readSong_53 : decode cX6_readSong 53 = .ok (.putfield 63, 3) := by decide +kernel
theorem dX6_readSong_56 : decode cX6_readSong 56 = .ok (.aload_n 0, 1) := by decide +kernel
theorem dX6_readSong_57 : decode cX6_readSong 57 = .ok (.dup, 1) := by decide +kernel
theorem dX6_readSong_58 : decode cX6_readSong 58 = .ok (.getfield 19, 3) := by decide +kernel
theorem dX6_readSong_61 : decode cX6_readSong 61 = .ok (.iconst 1, 1) := by decide +kernel
theorem dX6_readSong_62 : decode cX6_readSong 62 = .ok (.iadd, 1) := by decide +kernel
theorem dX6_readSong_63 : decode cX6_readSong 63 = .ok (.putfield 19, 3) := by decide +kernel
theorem dX6_readSong_66 : decode cX6_readSong 66 = .ok (.goto (-55), 3) := by decide +kernel
theorem dX6_readSong_69 : decode cX6_readSong 69 = .ok (.aload_n 1, 1) := by decide +kernel
theorem dX6_readSong_70 : decode cX6_readSong 70 = .ok (.getfield 63, 3) := by decide +kernel
theorem dX6_readSong_73 : decode cX6_readSong 73 = .ok (.ifCond .ne 9, 3) := by decide +kernel
theorem dX6_readSong_76 : decode cX6_readSong 76 = .ok (.aload_n 0, 1) := by decide +kernel
theorem dX6_readSong_77 : decode cX6_readSong 77 = .ok (.iconst 1, 1) := by decide +kernel
theorem dX6_readSong_78 : decode cX6_readSong 78 = .ok (.invokevirtual 75, 3) := by decide +kernel
theorem dX6_readSong_81 : decode cX6_readSong 81 = .ok (.ireturn, 1) := by decide +kernel
theorem dX6_readSong_82 : decode cX6_readSong 82 = .ok (.aload_n 0, 1) := by decide +kernel
theorem dX6_readSong_83 : decode cX6_readSong 83 = .ok (.invokevirtual 64, 3) := by decide +kernel
theorem dX6_readSong_86 : decode cX6_readSong 86 = .ok (.invokestatic 68, 3) := by decide +kernel
theorem dX6_readSong_89 : decode cX6_readSong 89 = .ok (.ifCond .lt 11, 3) := by decide +kernel
theorem dX6_readSong_92 : decode cX6_readSong 92 = .ok (.aload_n 0, 1) := by decide +kernel
theorem dX6_readSong_93 : decode cX6_readSong 93 = .ok (.iconst 3, 1) := by decide +kernel
theorem dX6_readSong_94 : decode cX6_readSong 94 = .ok (.invokevirtual 75, 3) := by decide +kernel
theorem dX6_readSong_97 : decode cX6_readSong 97 = .ok (.goto 9, 3) := by decide +kernel
theorem dX6_readSong_100 : decode cX6_readSong 100 = .ok (.aload_n 0, 1) := by decide +kernel
theorem dX6_readSong_101 : decode cX6_readSong 101 = .ok (.bipush 59, 2) := by decide +kernel
theorem dX6_readSong_103 : decode cX6_readSong 103 = .ok (.invokevirtual 40, 3) := by decide +kernel
theorem dX6_readSong_106 : decode cX6_readSong 106 = .ok (.ireturn, 1) := by decide +kernel
theorem dX6_readPlayers_0 : decode cX6_readPlayers 0 = .ok (.iconst 0, 1) := by decide +kernel
theorem dX6_readPlayers_1 : decode cX6_readPlayers 1 = .ok (.istore_n 2, 1) := by decide +kernel
theorem dX6_readPlayers_2 : decode cX6_readPlayers 2 = .ok (.iload_n 2, 1) := by decide +kernel
theorem dX6_readPlayers_3 : decode cX6_readPlayers 3 = .ok (.iconst 5, 1) := by decide +kernel
theorem dX6_readPlayers_4 : decode cX6_readPlayers 4 = .ok (.if_icmp .ge 29, 3) := by decide +kernel
theorem dX6_readPlayers_7 : decode cX6_readPlayers 7 = .ok (.aload_n 0, 1) := by decide +kernel
theorem dX6_readPlayers_8 : decode cX6_readPlayers 8 = .ok (.invokevirtual 64, 3) := by decide +kernel
theorem dX6_readPlayers_11 : decode cX6_readPlayers 11 = .ok (.invokestatic 78, 3) := by decide +kernel
theorem dX6_readPlayers_14 : decode cX6_readPlayers 14 = .ok (.ifCond .eq 19, 3) := by decide +kernel
theorem dX6_readPlayers_17 : decode cX6_readPlayers 17 = .ok (.aload_n 0, 1) := by decide +kernel
theorem dX6_readPlayers_18 : decode cX6_readPlayers 18 = .ok (.aload_n 1, 1) := by decide +kernel
theorem dX6_readPlayers_19 : decode cX6_readPlayers 19 = .ok (.invokevirtual 81, 3) := by decide +kernel
theorem dX6_readPlayers_22 : decode cX6_readPlayers 22 = .ok (.ifCond .ne 5, 3) := by decide +kernel
theorem dX6_readPlayers_25 : decode cX6_readPlayers 25 = .ok (.iconst 0, 1) := by decide +kernel
theorem dX6_readPlayers_26 : decode cX6_readPlayers 26 = .ok (.ireturn, 1) := by decide +kernel
theorem dX6_readPlayers_27 : decode cX6_readPlayers 27 = .ok (.iinc 2 1, 3) := by decide +kernel
theorem dX6_readPlayers_30 : decode cX6_readPlayers 30 = .ok (.goto (-28), 3) := by decide +kernel
theorem dX6_readPlayers_33 : decode cX6_readPlayers 33 = .ok (.aload_n 1, 1) := by decide +kernel
theorem dX6_readPlayers_34 : decode cX6_readPlayers 34 = .ok (.getfield 84, 3) := by decide +kernel
theorem dX6_readPlayers_37 : decode cX6_readPlayers 37 = .ok (.ifCond .ne 9, 3) := by decide +kernel
theorem dX6_readPlayers_40 : decode cX6_readPlayers 40 = .ok (.aload_n 0, 1) := by decide +kernel
theorem dX6_readPlayers_41 : decode cX6_readPlayers 41 = .ok (.iconst 1, 1) := by decide +kernel
theorem dX6_readPlayers_42 : decode cX6_readPlayers 42 = .ok (.invokevirtual 75, 3) := by decide +kernel
theorem dX6_readPlayers_45 : decode cX6_readPlayers 45 = .ok (.ireturn, 1) := by decide +kernel
theorem dX6_readPlayers_46 : decode cX6_readPlayers 46 = .ok (.aload_n 0, 1) := by decide +kernel
theorem dX6_readPlayers_47 : decode cX6_readPlayers 47 = .ok (.invokevirtual 64, 3) := by decide +kernel
theorem dX6_readPlayers_50 : decode cX6_readPlayers 50 = .ok (.invokestatic 78, 3) := by decide +kernel
theorem dX6_readPlayers_53 : decode cX6_readPlayers 53 = .ok (.ifCond .eq 11, 3) := by decide +kernel
theorem dX6_readPlayers_56 : decode cX6_readPlayers 56 = .ok (.aload_n 0, 1) := by decide +kernel
theorem dX6_readPlayers_57 : decode cX6_readPlayers 57 = .ok (.iconst 3, 1) := by decide +kernel
theorem dX6_readPlayers_58 : decode cX6_readPlayers 58 = .ok (.invokevirtual 75, 3) := by decide +kernel
theorem dX6_readPlayers_61 : decode cX6_readPlayers 61 = .ok (.ifCond .eq 7, 3) := by decide +kernel
theorem dX6_readPlayers_64 : decode cX6_readPlayers 64 = .ok (.iconst 1, 1) := by decide +kernel
theorem dX6_readPlayers_65 : decode cX6_readPlayers 65 = .ok (.goto 4, 3) := by decide +kernel
theorem dX6_readPlayers_68 : decode cX6_readPlayers 68 = .ok (.iconst 0, 1) := by decide +kernel
theorem dX6_readPlayers_69 : decode cX6_readPlayers 69 = .ok (.ireturn, 1) := by decide +kernel
theorem dX6_readPlayer_0 : decode cX6_readPlayer 0 = .ok (.aload_n 1, 1) := by decide +kernel
theorem dX6_readPlayer_1 : decode cX6_readPlayer 1 = .ok (.getfield 84, 3) := by decide +kernel
theorem dX6_readPlayer_4 : decode cX6_readPlayer 4 = .ok (.istore_n 2, 1) := by decide +kernel
theorem dX6_readPlayer_5 : decode cX6_readPlayer 5 = .ok (.aload_n 1, 1) := by decide +kernel
theorem dX6_readPlayer_6 : decode cX6_readPlayer 6 = .ok (.getfield 87, 3) := by decide +kernel
theorem dX6_readPlayer_9 : decode cX6_readPlayer 9 = .ok (.iload_n 2, 1) := by decide +kernel
theorem dX6_readPlayer_10 : decode cX6_readPlayer 10 = .ok (.aload_n 0, 1) := by decide +kernel
theorem dX6_readPlayer_11 : decode cX6_readPlayer 11 = .ok (.invokevirtual 64, 3) := by decide +kernel
theorem dX6_readPlayer_14 : decode cX6_readPlayer 14 = .ok (.invokestatic 78, 3) := by decide +kernel
theorem dX6_readPlayer_17 : decode cX6_readPlayer 17 = .ok (.iastore, 1) := by decide +kernel
theorem dX6_readPlayer_18 : decode cX6_readPlayer 18 = .ok (.aload_n 0, 1) := by decide +kernel
theorem dX6_readPlayer_19 : decode cX6_readPlayer 19 = .ok (.dup, 1) := by decide +kernel
theorem dX6_readPlayer_20 : decode cX6_readPlayer 20 = .ok (.getfield 19, 3) := by decide +kernel
theorem dX6_readPlayer_23 : decode cX6_readPlayer 23 = .ok (.iconst 1, 1) := by decide +kernel
theorem dX6_readPlayer_24 : decode cX6_readPlayer 24 = .ok (.iadd, 1) := by decide +kernel
theorem dX6_readPlayer_25 : decode cX6_readPlayer 25 = .ok (.putfield 19, 3) := by decide +kernel
theorem dX6_readPlayer_28 : decode cX6_readPlayer 28 = .ok (.aload_n 0, 1) := by decide +kernel
theorem dX6_readPlayer_29 : decode cX6_readPlayer 29 = .ok (.bipush 40, 2) := by decide +kernel
theorem dX6_readPlayer_31 : decode cX6_readPlayer 31 = .ok (.bipush 99, 2) := by decide +kernel
theorem dX6_readPlayer_33 : decode cX6_readPlayer 33 = .ok (.invokevirtual 44, 3) := by decide +kernel
theorem dX6_readPlayer_36 : decode cX6_readPlayer 36 = .ok (.ifCond .ne 5, 3) := by decide +kernel
theorem dX6_readPlayer_39 : decode cX6_readPlayer 39 = .ok (.iconst 0, 1) := by decide +kernel
theorem dX6_readPlayer_40 : decode cX6_readPlayer 40 = .ok (.ireturn, 1) := by decide +kernel
theorem dX6_readPlayer_41 : decode cX6_readPlayer 41 = .ok (.aload_n 1, 1) := by decide +kernel
theorem dX6_readPlayer_42 : decode cX6_readPlayer 42 = .ok (.getfield 90, 3) := by decide +kernel
theorem dX6_readPlayer_45 : decode cX6_readPlayer 45 = .ok (.iload_n 2, 1) := by decide +kernel
theorem dX6_readPlayer_46 : decode cX6_readPlayer 46 = .ok (.bipush 10, 2) := by decide +kernel
theorem dX6_readPlayer_48 : decode cX6_readPlayer 48 = .ok (.aload_n 0, 1) := by decide +kernel
theorem dX6_readPlayer_49 : decode cX6_readPlayer 49 = .ok (.getfield 48, 3) := by decide +kernel
theorem dX6_readPlayer_52 : decode cX6_readPlayer 52 = .ok (.imul, 1) := by decide +kernel
theorem dX6_readPlayer_53 : decode cX6_readPlayer 53 = .ok (.iastore, 1) := by decide +kernel
theorem dX6_readPlayer_54 : decode cX6_readPlayer 54 = .ok (.aload_n 0, 1) := by decide +kernel
theorem dX6_readPlayer_55 : decode cX6_readPlayer 55 = .ok (.bipush 44, 2) := by decide +kernel
theorem dX6_readPlayer_57 : decode cX6_readPlayer 57 = .ok (.invokevirtual 40, 3) := by decide +kernel
theorem dX6_readPlayer_60 : decode cX6_readPlayer 60 = .ok (.ifCond .eq 13, 3) := by decide +kernel
theorem dX6_readPlayer_63 : decode cX6_readPlayer 63 = .ok (.aload_n 0, 1) := by decide +kernel
theorem dX6_readPlayer_64 : decode cX6_readPlayer 64 = .ok (.iconst 0, 1) := by decide +kernel
theorem dX6_readPlayer_65 : decode cX6_readPlayer 65 = .ok (.bipush 9, 2) := by decide +kernel
theorem dX6_readPlayer_67 : decode cX6_readPlayer 67 = .ok (.invokevirtual 44, 3) := by decide +kernel
theorem dX6_readPlayer_70 : decode cX6_readPlayer 70 = .ok (.ifCond .ne 5, 3) := by decide +kernel
theorem dX6_readPlayer_73 : decode cX6_readPlayer 73 = .ok (.iconst 0, 1) := by decide +kernel
theorem dX6_readPlayer_74 : decode cX6_readPlayer 74 = .ok (.ireturn, 1) := by decide +kernel
theorem dX6_readPlayer_75 : decode cX6_readPlayer 75 = .ok (.aload_n 1, 1) := by decide +kernel
theorem dX6_readPlayer_76 : decode cX6_readPlayer 76 = .ok (.getfield 93, 3) := by decide +kernel
theorem dX6_readPlayer_79 : decode cX6_readPlayer 79 = .ok (.iload_n 2, 1) := by decide +kernel
theorem dX6_readPlayer_80 : decode cX6_readPlayer 80 = .ok (.aload_n 0, 1) := by decide +kernel
theorem dX6_readPlayer_81 : decode cX6_readPlayer 81 = .ok (.getfield 48, 3) := by decide +kernel
theorem dX6_readPlayer_84 : decode cX6_readPlayer 84 = .ok (.iastore, 1) := by decide +kernel
theorem dX6_readPlayer_85 : decode cX6_readPlayer 85 = .ok (.aload_n 1, 1) := by decide +kernel
theorem dX6_readPlayer_86 : decode cX6_readPlayer 86 = .ok (.dup, 1) := by decide +kernel
theorem dX6_readPlayer_87 : decode cX6_readPlayer 87 = .ok (.getfield 84, 3) := by decide +kernel
theorem dX6_readPlayer_90 : decode cX6_readPlayer 90 = .ok (.iconst 1, 1) := by decide +kernel
theorem dX6_readPlayer_91 : decode cX6_readPlayer 91 = .ok (.iadd, 1) := by decide +kernel
theorem dX6_readPlayer_92 : decode cX6_readPlayer 92 = .ok (.putfield 84, 3) := by decide +kernel
theorem dX6_readPlayer_95 : decode cX6_readPlayer 95 = .ok (.aload_n 0, 1) := by decide +kernel
theorem dX6_readPlayer_96 : decode cX6_readPlayer 96 = .ok (.bipush 59, 2) := by decide +kernel
theorem dX6_readPlayer_98 : decode cX6_readPlayer 98 = .ok (.invokevirtual 40, 3) := by decide +kernel
theorem dX6_readPlayer_101 : decode cX6_readPlayer 101 = .ok (.ireturn, 1) := by decide +kernel
theorem dX6_readEars_0 : decode cX6_readEars 0 = .ok (.iconst 0, 1) := by decide +kernel
theorem dX6_readEars_1 : decode cX6_readEars 1 = .ok (.istore_n 2, 1) := by decide +kernel
theorem dX6_readEars_2 : decode cX6_readEars 2 = .ok (.iload_n 2, 1) := by decide +kernel
theorem dX6_readEars_3 : decode cX6_readEars 3 = .ok (.bipush 12, 2) := by decide +kernel
theorem dX6_readEars_5 : decode cX6_readEars 5 = .ok (.if_icmp .ge 28, 3) := by decide +kernel
theorem dX6_readEars_8 : decode cX6_readEars 8 = .ok (.aload_n 0, 1) := by decide +kernel
theorem dX6_readEars_9 : decode cX6_readEars 9 = .ok (.invokevirtual 64, 3) := by decide +kernel
theorem dX6_readEars_12 : decode cX6_readEars 12 = .ok (.bipush 119, 2) := by decide +kernel
theorem dX6_readEars_14 : decode cX6_readEars 14 = .ok (.if_icmp .ne 19, 3) := by decide +kernel
theorem dX6_readEars_17 : decode cX6_readEars 17 = .ok (.aload_n 0, 1) := by decide +kernel
theorem dX6_readEars_18 : decode cX6_readEars 18 = .ok (.aload_n 1, 1) := by decide +kernel
theorem dX6_readEars_19 : decode cX6_readEars 19 = .ok (.invokevirtual 96, 3) := by decide +kernel
theorem dX6_readEars_22 : decode cX6_readEars 22 = .ok (.ifCond .ne 5, 3) := by decide +kernel
theorem dX6_readEars_25 : decode cX6_readEars 25 = .ok (.iconst 0, 1) := by decide +kernel
theorem dX6_readEars_26 : decode cX6_readEars 26 = .ok (.ireturn, 1) := by decide +kernel
theorem dX6_readEars_27 : decode cX6_readEars 27 = .ok (.iinc 2 1, 3) := by decide +kernel
theorem dX6_readEars_30 : decode cX6_readEars 30 = .ok (.goto (-28), 3) := by decide +kernel
theorem dX6_readEars_33 : decode cX6_readEars 33 = .ok (.aload_n 0, 1) := by decide +kernel
theorem dX6_readEars_34 : decode cX6_readEars 34 = .ok (.invokevirtual 64, 3) := by decide +kernel
theorem dX6_readEars_37 : decode cX6_readEars 37 = .ok (.bipush 119, 2) := by decide +kernel
theorem dX6_readEars_39 : decode cX6_readEars 39 = .ok (.if_icmp .ne 9, 3) := by decide +kernel
theorem dX6_readEars_42 : decode cX6_readEars 42 = .ok (.aload_n 0, 1) := by decide +kernel
theorem dX6_readEars_43 : decode cX6_readEars 43 = .ok (.iconst 3, 1) := by decide +kernel
theorem dX6_readEars_44 : decode cX6_readEars 44 = .ok (.invokevirtual 75, 3) := by decide +kernel
theorem dX6_readEars_47 : decode cX6_readEars 47 = .ok (.ireturn, 1) := by decide +kernel
theorem dX6_readEars_48 : decode cX6_readEars 48 = .ok (.aload_n 0, 1) := by decide +kernel
theorem dX6_readEars_49 : decode cX6_readEars 49 = .ok (.invokevirtual 64, 3) := by decide +kernel
theorem dX6_readEars_52 : decode cX6_readEars 52 = .ok (.iconst (-1), 1) := by decide +kernel
theorem dX6_readEars_53 : decode cX6_readEars 53 = .ok (.if_icmp .eq 11, 3) := by decide +kernel
theorem dX6_readEars_56 : decode cX6_readEars 56 = .ok (.aload_n 0, 1) := by decide +kernel
theorem dX6_readEars_57 : decode cX6_readEars 57 = .ok (.iconst 1, 1) := by decide +kernel
theorem dX6_readEars_58 : decode cX6_readEars 58 = .ok (.invokevirtual 75, 3) := by decide +kernel
theorem dX6_readEars_61 : decode cX6_readEars 61 = .ok (.ifCond .eq 7, 3) := by decide +kernel
theorem dX6_readEars_64 : decode cX6_readEars 64 = .ok (.iconst 1, 1) := by decide +kernel
theorem dX6_readEars_65 : decode cX6_readEars 65 = .ok (.goto 4, 3) := by decide +kernel
theorem dX6_readEars_68 : decode cX6_readEars 68 = .ok (.iconst 0, 1) := by decide +kernel
theorem dX6_readEars_69 : decode cX6_readEars 69 = .ok (.ireturn, 1) := by decide +kernel
theorem dX6_readEar_0 : decode cX6_readEar 0 = .ok (.aload_n 0, 1) := by decide +kernel
theorem dX6_readEar_1 : decode cX6_readEar 1 = .ok (.bipush 119, 2) := by decide +kernel
theorem dX6_readEar_3 : decode cX6_readEar 3 = .ok (.invokevirtual 40, 3) := by decide +kernel
theorem dX6_readEar_6 : decode cX6_readEar 6 = .ok (.ifCond .eq 17, 3) := by decide +kernel
theorem dX6_readEar_9 : decode cX6_readEar 9 = .ok (.aload_n 0, 1) := by decide +kernel
theorem dX6_readEar_10 : decode cX6_readEar 10 = .ok (.iconst 0, 1) := by decide +kernel
theorem dX6_readEar_11 : decode cX6_readEar 11 = .ok (.aload_n 1, 1) := by decide +kernel
theorem dX6_readEar_12 : decode cX6_readEar 12 = .ok (.getfield 84, 3) := by decide +kernel
theorem dX6_readEar_15 : decode cX6_readEar 15 = .ok (.iconst 1, 1) := by decide +kernel
theorem dX6_readEar_16 : decode cX6_readEar 16 = .ok (.isub, 1) := by decide +kernel
theorem dX6_readEar_17 : decode cX6_readEar 17 = .ok (.invokevirtual 44, 3) := by decide +kernel
theorem dX6_readEar_20 : decode cX6_readEar 20 = .ok (.ifCond .ne 5, 3) := by decide +kernel
theorem dX6_readEar_23 : decode cX6_readEar 23 = .ok (.iconst 0, 1) := by decide +kernel
theorem dX6_readEar_24 : decode cX6_readEar 24 = .ok (.ireturn, 1) := by decide +kernel
theorem dX6_readEar_25 : decode cX6_readEar 25 = .ok (.aload_n 0, 1) := by decide +kernel
theorem dX6_readEar_26 : decode cX6_readEar 26 = .ok (.getfield 48, 3) := by decide +kernel
theorem dX6_readEar_29 : decode cX6_readEar 29 = .ok (.istore_n 2, 1) := by decide +kernel
theorem dX6_readEar_30 : decode cX6_readEar 30 = .ok (.aload_n 0, 1) := by decide +kernel
theorem dX6_readEar_31 : decode cX6_readEar 31 = .ok (.bipush 44, 2) := by decide +kernel
theorem dX6_readEar_33 : decode cX6_readEar 33 = .ok (.invokevirtual 40, 3) := by decide +kernel
theorem dX6_readEar_36 : decode cX6_readEar 36 = .ok (.ifCond .eq 12, 3) := by decide +kernel
theorem dX6_readEar_39 : decode cX6_readEar 39 = .ok (.aload_n 0, 1) := by decide +kernel
theorem dX6_readEar_40 : decode cX6_readEar 40 = .ok (.aload_n 1, 1) := by decide +kernel
theorem dX6_readEar_41 : decode cX6_readEar 41 = .ok (.iload_n 2, 1) := by decide +kernel
theorem dX6_readEar_42 : decode cX6_readEar 42 = .ok (.invokevirtual 99, 3) := by decide +kernel
theorem dX6_readEar_45 : decode cX6_readEar 45 = .ok (.ifCond .ne 5, 3) := by decide +kernel
theorem dX6_readEar_48 : decode cX6_readEar 48 = .ok (.iconst 0, 1) := by decide +kernel
theorem dX6_readEar_49 : decode cX6_readEar 49 = .ok (.ireturn, 1) := by decide +kernel
theorem dX6_readEar_50 : decode cX6_readEar 50 = .ok (.aload_n 0, 1) := by decide +kernel
theorem dX6_readEar_51 : decode cX6_readEar 51 = .ok (.getfield 48, 3) := by decide +kernel
theorem dX6_readEar_54 : decode cX6_readEar 54 = .ok (.istore_n 3, 1) := by decide +kernel
theorem dX6_readEar_55 : decode cX6_readEar 55 = .ok (.aload_n 0, 1) := by decide +kernel
theorem dX6_readEar_56 : decode cX6_readEar 56 = .ok (.bipush 44, 2) := by decide +kernel
theorem dX6_readEar_58 : decode cX6_readEar 58 = .ok (.invokevirtual 40, 3) := by decide +kernel
theorem dX6_readEar_61 : decode cX6_readEar 61 = .ok (.ifCond .eq 13, 3) := by decide +kernel
theorem dX6_readEar_64 : decode cX6_readEar 64 = .ok (.aload_n 0, 1) := by decide +kernel
theorem dX6_readEar_65 : decode cX6_readEar 65 = .ok (.iconst 1, 1) := by decide +kernel
theorem dX6_readEar_66 : decode cX6_readEar 66 = .ok (.bipush 9, 2) := by decide +kernel
theorem dX6_readEar_68 : decode cX6_readEar 68 = .ok (.invokevirtual 44, 3) := by decide +kernel
theorem dX6_readEar_71 : decode cX6_readEar 71 = .ok (.ifCond .ne 5, 3) := by decide +kernel
theorem dX6_readEar_74 : decode cX6_readEar 74 = .ok (.iconst 0, 1) := by decide +kernel
theorem dX6_readEar_75 : decode cX6_readEar 75 = .ok (.ireturn, 1) := by decide +kernel
theorem dX6_readEar_76 : decode cX6_readEar 76 = .ok (.aload_n 1, 1) := by decide +kernel
theorem dX6_readEar_77 : decode cX6_readEar 77 = .ok (.iload_n 2, 1) := by decide +kernel
theorem dX6_readEar_78 : decode cX6_readEar 78 = .ok (.iload_n 3, 1) := by decide +kernel
theorem dX6_readEar_79 : decode cX6_readEar 79 = .ok (.aload_n 0, 1) := by decide +kernel
theorem dX6_readEar_80 : decode cX6_readEar 80 = .ok (.getfield 48, 3) := by decide +kernel
theorem dX6_readEar_83 : decode cX6_readEar 83 = .ok (.invokevirtual 103, 3) := by decide +kernel
theorem dX6_readEar_86 : decode cX6_readEar 86 = .ok (.aload_n 0, 1) := by decide +kernel
theorem dX6_readEar_87 : decode cX6_readEar 87 = .ok (.bipush 59, 2) := by decide +kernel
theorem dX6_readEar_89 : decode cX6_readEar 89 = .ok (.invokevirtual 40, 3) := by decide +kernel
theorem dX6_readEar_92 : decode cX6_readEar 92 = .ok (.ireturn, 1) := by decide +kernel
theorem dX6_takesHeard_0 : decode cX6_takesHeard 0 = .ok (.aload_n 0, 1) := by decide +kernel
theorem dX6_takesHeard_1 : decode cX6_takesHeard 1 = .ok (.invokevirtual 107, 3) := by decide +kernel
theorem dX6_takesHeard_4 : decode cX6_takesHeard 4 = .ok (.ifCond .ne 9, 3) := by decide +kernel
theorem dX6_takesHeard_7 : decode cX6_takesHeard 7 = .ok (.aload_n 0, 1) := by decide +kernel
theorem dX6_takesHeard_8 : decode cX6_takesHeard 8 = .ok (.iconst 1, 1) := by decide +kernel
theorem dX6_takesHeard_9 : decode cX6_takesHeard 9 = .ok (.invokevirtual 75, 3) := by decide +kernel
theorem dX6_takesHeard_12 : decode cX6_takesHeard 12 = .ok (.ireturn, 1) := by decide +kernel
theorem dX6_takesHeard_13 : decode cX6_takesHeard 13 = .ok (.aload_n 1, 1) := by decide +kernel
theorem dX6_takesHeard_14 : decode cX6_takesHeard 14 = .ok (.iload_n 2, 1) := by decide +kernel
theorem dX6_takesHeard_15 : decode cX6_takesHeard 15 = .ok (.aload_n 0, 1) := by decide +kernel
theorem dX6_takesHeard_16 : decode cX6_takesHeard 16 = .ok (.getfield 48, 3) := by decide +kernel
theorem dX6_takesHeard_19 : decode cX6_takesHeard 19 = .ok (.invokevirtual 111, 3) := by decide +kernel
theorem dX6_takesHeard_22 : decode cX6_takesHeard 22 = .ok (.ifCond .eq 15, 3) := by decide +kernel
theorem dX6_takesHeard_25 : decode cX6_takesHeard 25 = .ok (.aload_n 1, 1) := by decide +kernel
theorem dX6_takesHeard_26 : decode cX6_takesHeard 26 = .ok (.iload_n 2, 1) := by decide +kernel
theorem dX6_takesHeard_27 : decode cX6_takesHeard 27 = .ok (.aload_n 0, 1) := by decide +kernel
theorem dX6_takesHeard_28 : decode cX6_takesHeard 28 = .ok (.getfield 48, 3) := by decide +kernel
theorem dX6_takesHeard_31 : decode cX6_takesHeard 31 = .ok (.invokevirtual 114, 3) := by decide +kernel
theorem dX6_takesHeard_34 : decode cX6_takesHeard 34 = .ok (.ifCond .eq 9, 3) := by decide +kernel
theorem dX6_takesHeard_37 : decode cX6_takesHeard 37 = .ok (.aload_n 0, 1) := by decide +kernel
theorem dX6_takesHeard_38 : decode cX6_takesHeard 38 = .ok (.iconst 2, 1) := by decide +kernel
theorem dX6_takesHeard_39 : decode cX6_takesHeard 39 = .ok (.invokevirtual 75, 3) := by decide +kernel
theorem dX6_takesHeard_42 : decode cX6_takesHeard 42 = .ok (.ireturn, 1) := by decide +kernel
theorem dX6_takesHeard_43 : decode cX6_takesHeard 43 = .ok (.aload_n 0, 1) := by decide +kernel
theorem dX6_takesHeard_44 : decode cX6_takesHeard 44 = .ok (.dup, 1) := by decide +kernel
theorem dX6_takesHeard_45 : decode cX6_takesHeard 45 = .ok (.getfield 19, 3) := by decide +kernel
theorem dX6_takesHeard_48 : decode cX6_takesHeard 48 = .ok (.aload_n 0, 1) := by decide +kernel
theorem dX6_takesHeard_49 : decode cX6_takesHeard 49 = .ok (.getfield 118, 3) := by decide +kernel
theorem dX6_takesHeard_52 : decode cX6_takesHeard 52 = .ok (.iadd, 1) := by decide +kernel
theorem dX6_takesHeard_53 : decode cX6_takesHeard 53 = .ok (.putfield 19, 3) := by decide +kernel
theorem dX6_takesHeard_56 : decode cX6_takesHeard 56 = .ok (.iconst 1, 1) := by decide +kernel
theorem dX6_takesHeard_57 : decode cX6_takesHeard 57 = .ok (.ireturn, 1) := by decide +kernel
theorem dX6_takesNumber_0 : decode cX6_takesNumber 0 = .ok (.aload_n 0, 1) := by decide +kernel
theorem dX6_takesNumber_1 : decode cX6_takesNumber 1 = .ok (.invokevirtual 107, 3) := by decide +kernel
theorem dX6_takesNumber_4 : decode cX6_takesNumber 4 = .ok (.ifCond .ne 9, 3) := by decide +kernel
theorem dX6_takesNumber_7 : decode cX6_takesNumber 7 = .ok (.aload_n 0, 1) := by decide +kernel
theorem dX6_takesNumber_8 : decode cX6_takesNumber 8 = .ok (.iconst 1, 1) := by decide +kernel
theorem dX6_takesNumber_9 : decode cX6_takesNumber 9 = .ok (.invokevirtual 75, 3) := by decide +kernel
theorem dX6_takesNumber_12 : decode cX6_takesNumber 12 = .ok (.ireturn, 1) := by decide +kernel
theorem dX6_takesNumber_13 : decode cX6_takesNumber 13 = .ok (.aload_n 0, 1) := by decide +kernel
theorem dX6_takesNumber_14 : decode cX6_takesNumber 14 = .ok (.getfield 48, 3) := by decide +kernel
theorem dX6_takesNumber_17 : decode cX6_takesNumber 17 = .ok (.iload_n 1, 1) := by decide +kernel
theorem dX6_takesNumber_18 : decode cX6_takesNumber 18 = .ok (.iload_n 2, 1) := by decide +kernel
theorem dX6_takesNumber_19 : decode cX6_takesNumber 19 = .ok (.invokestatic 121, 3) := by decide +kernel
theorem dX6_takesNumber_22 : decode cX6_takesNumber 22 = .ok (.ifCond .ne 9, 3) := by decide +kernel
theorem dX6_takesNumber_25 : decode cX6_takesNumber 25 = .ok (.aload_n 0, 1) := by decide +kernel
theorem dX6_takesNumber_26 : decode cX6_takesNumber 26 = .ok (.iconst 2, 1) := by decide +kernel
theorem dX6_takesNumber_27 : decode cX6_takesNumber 27 = .ok (.invokevirtual 75, 3) := by decide +kernel
theorem dX6_takesNumber_30 : decode cX6_takesNumber 30 = .ok (.ireturn, 1) := by decide +kernel
theorem dX6_takesNumber_31 : decode cX6_takesNumber 31 = .ok (.aload_n 0, 1) := by decide +kernel
theorem dX6_takesNumber_32 : decode cX6_takesNumber 32 = .ok (.dup, 1) := by decide +kernel
theorem dX6_takesNumber_33 : decode cX6_takesNumber 33 = .ok (.getfield 19, 3) := by decide +kernel
theorem dX6_takesNumber_36 : decode cX6_takesNumber 36 = .ok (.aload_n 0, 1) := by decide +kernel
theorem dX6_takesNumber_37 : decode cX6_takesNumber 37 = .ok (.getfield 118, 3) := by decide +kernel
theorem dX6_takesNumber_40 : decode cX6_takesNumber 40 = .ok (.iadd, 1) := by decide +kernel
theorem dX6_takesNumber_41 : decode cX6_takesNumber 41 = .ok (.putfield 19, 3) := by decide +kernel
theorem dX6_takesNumber_44 : decode cX6_takesNumber 44 = .ok (.iconst 1, 1) := by decide +kernel
theorem dX6_takesNumber_45 : decode cX6_takesNumber 45 = .ok (.ireturn, 1) := by decide +kernel
theorem dX6_seesNumber_0 : decode cX6_seesNumber 0 = .ok (.aload_n 0, 1) := by decide +kernel
theorem dX6_seesNumber_1 : decode cX6_seesNumber 1 = .ok (.iconst 0, 1) := by decide +kernel
theorem dX6_seesNumber_2 : decode cX6_seesNumber 2 = .ok (.putfield 48, 3) := by decide +kernel
theorem dX6_seesNumber_5 : decode cX6_seesNumber 5 = .ok (.aload_n 0, 1) := by decide +kernel
theorem dX6_seesNumber_6 : decode cX6_seesNumber 6 = .ok (.iconst 0, 1) := by decide +kernel
theorem dX6_seesNumber_7 : decode cX6_seesNumber 7 = .ok (.putfield 118, 3) := by decide +kernel
theorem dX6_seesNumber_10 : decode cX6_seesNumber 10 = .ok (.aload_n 0, 1) := by decide +kernel
theorem dX6_seesNumber_11 : decode cX6_seesNumber 11 = .ok (.getfield 118, 3) := by decide +kernel
theorem dX6_seesNumber_14 : decode cX6_seesNumber 14 = .ok (.iconst 3, 1) := by decide +kernel
theorem dX6_seesNumber_15 : decode cX6_seesNumber 15 = .ok (.if_icmp .ge 63, 3) := by decide +kernel
theorem dX6_seesNumber_18 : decode cX6_seesNumber 18 = .ok (.aload_n 0, 1) := by decide +kernel
theorem dX6_seesNumber_19 : decode cX6_seesNumber 19 = .ok (.aload_n 0, 1) := by decide +kernel
theorem dX6_seesNumber_20 : decode cX6_seesNumber 20 = .ok (.getfield 19, 3) := by decide +kernel
theorem dX6_seesNumber_23 : decode cX6_seesNumber 23 = .ok (.aload_n 0, 1) := by decide +kernel
theorem dX6_seesNumber_24 : decode cX6_seesNumber 24 = .ok (.getfield 118, 3) := by decide +kernel
theorem dX6_seesNumber_27 : decode cX6_seesNumber 27 = .ok (.iadd, 1) := by decide +kernel
theorem dX6_seesNumber_28 : decode cX6_seesNumber 28 = .ok (.invokevirtual 125, 3) := by decide +kernel
theorem dX6_seesNumber_31 : decode cX6_seesNumber 31 = .ok (.invokestatic 128, 3) := by decide +kernel
theorem dX6_seesNumber_34 : decode cX6_seesNumber 34 = .ok (.ifCond .eq 44, 3) := by decide +kernel
theorem dX6_seesNumber_37 : decode cX6_seesNumber 37 = .ok (.aload_n 0, 1) := by decide +kernel
theorem dX6_seesNumber_38 : decode cX6_seesNumber 38 = .ok (.bipush 10, 2) := by decide +kernel
theorem dX6_seesNumber_40 : decode cX6_seesNumber 40 = .ok (.aload_n 0, 1) := by decide +kernel
theorem dX6_seesNumber_41 : decode cX6_seesNumber 41 = .ok (.getfield 48, 3) := by decide +kernel
theorem dX6_seesNumber_44 : decode cX6_seesNumber 44 = .ok (.imul, 1) := by decide +kernel
theorem dX6_seesNumber_45 : decode cX6_seesNumber 45 = .ok (.aload_n 0, 1) := by decide +kernel
theorem dX6_seesNumber_46 : decode cX6_seesNumber 46 = .ok (.aload_n 0, 1) := by decide +kernel
theorem dX6_seesNumber_47 : decode cX6_seesNumber 47 = .ok (.getfield 19, 3) := by decide +kernel
theorem dX6_seesNumber_50 : decode cX6_seesNumber 50 = .ok (.aload_n 0, 1) := by decide +kernel
theorem dX6_seesNumber_51 : decode cX6_seesNumber 51 = .ok (.getfield 118, 3) := by decide +kernel
theorem dX6_seesNumber_54 : decode cX6_seesNumber 54 = .ok (.iadd, 1) := by decide +kernel
theorem dX6_seesNumber_55 : decode cX6_seesNumber 55 = .ok (.invokevirtual 125, 3) := by decide +kernel
theorem dX6_seesNumber_58 : decode cX6_seesNumber 58 = .ok (.iadd, 1) := by decide +kernel
theorem dX6_seesNumber_59 : decode cX6_seesNumber 59 = .ok (.bipush 48, 2) := by decide +kernel
theorem dX6_seesNumber_61 : decode cX6_seesNumber 61 = .ok (.isub, 1) := by decide +kernel
theorem dX6_seesNumber_62 : decode cX6_seesNumber 62 = .ok (.putfield 48, 3) := by decide +kernel
theorem dX6_seesNumber_65 : decode cX6_seesNumber 65 = .ok (.aload_n 0, 1) := by decide +kernel
theorem dX6_seesNumber_66 : decode cX6_seesNumber 66 = .ok (.dup, 1) := by decide +kernel
theorem dX6_seesNumber_67 : decode cX6_seesNumber 67 = .ok (.getfield 118, 3) := by decide +kernel
theorem dX6_seesNumber_70 : decode cX6_seesNumber 70 = .ok (.iconst 1, 1) := by decide +kernel
theorem dX6_seesNumber_71 : decode cX6_seesNumber 71 = .ok (.iadd, 1) := by decide +kernel
theorem dX6_seesNumber_72 : decode cX6_seesNumber 72 = .ok (.putfield 118, 3) := by decide +kernel
theorem dX6_seesNumber_75 : decode cX6_seesNumber 75 = .ok (.goto (-65), 3) := by decide +kernel
theorem dX6_seesNumber_78 : decode cX6_seesNumber 78 = .ok (.aload_n 0, 1) := by decide +kernel
theorem dX6_seesNumber_79 : decode cX6_seesNumber 79 = .ok (.getfield 118, 3) := by decide +kernel
theorem dX6_seesNumber_82 : decode cX6_seesNumber 82 = .ok (.iconst 1, 1) := by decide +kernel
theorem dX6_seesNumber_83 : decode cX6_seesNumber 83 = .ok (.if_icmp .eq 11, 3) := by decide +kernel
theorem dX6_seesNumber_86 : decode cX6_seesNumber 86 = .ok (.aload_n 0, 1) := by decide +kernel
theorem dX6_seesNumber_87 : decode cX6_seesNumber 87 = .ok (.getfield 118, 3) := by decide +kernel
theorem dX6_seesNumber_90 : decode cX6_seesNumber 90 = .ok (.iconst 2, 1) := by decide +kernel
theorem dX6_seesNumber_91 : decode cX6_seesNumber 91 = .ok (.if_icmp .ne 7, 3) := by decide +kernel
theorem dX6_seesNumber_94 : decode cX6_seesNumber 94 = .ok (.iconst 1, 1) := by decide +kernel
theorem dX6_seesNumber_95 : decode cX6_seesNumber 95 = .ok (.goto 4, 3) := by decide +kernel
theorem dX6_seesNumber_98 : decode cX6_seesNumber 98 = .ok (.iconst 0, 1) := by decide +kernel
theorem dX6_seesNumber_99 : decode cX6_seesNumber 99 = .ok (.ireturn, 1) := by decide +kernel
theorem dX6_takes_0 : decode cX6_takes 0 = .ok (.aload_n 0, 1) := by decide +kernel
theorem dX6_takes_1 : decode cX6_takes 1 = .ok (.invokevirtual 64, 3) := by decide +kernel
theorem dX6_takes_4 : decode cX6_takes 4 = .ok (.iload_n 1, 1) := by decide +kernel
theorem dX6_takes_5 : decode cX6_takes 5 = .ok (.if_icmp .eq 9, 3) := by decide +kernel
theorem dX6_takes_8 : decode cX6_takes 8 = .ok (.aload_n 0, 1) := by decide +kernel
theorem dX6_takes_9 : decode cX6_takes 9 = .ok (.iconst 1, 1) := by decide +kernel
theorem dX6_takes_10 : decode cX6_takes 10 = .ok (.invokevirtual 75, 3) := by decide +kernel
theorem dX6_takes_13 : decode cX6_takes 13 = .ok (.ireturn, 1) := by decide +kernel
theorem dX6_takes_14 : decode cX6_takes 14 = .ok (.aload_n 0, 1) := by decide +kernel
theorem dX6_takes_15 : decode cX6_takes 15 = .ok (.dup, 1) := by decide +kernel
theorem dX6_takes_16 : decode cX6_takes 16 = .ok (.getfield 19, 3) := by decide +kernel
theorem dX6_takes_19 : decode cX6_takes 19 = .ok (.iconst 1, 1) := by decide +kernel
theorem dX6_takes_20 : decode cX6_takes 20 = .ok (.iadd, 1) := by decide +kernel
theorem dX6_takes_21 : decode cX6_takes 21 = .ok (.putfield 19, 3) := by decide +kernel
theorem dX6_takes_24 : decode cX6_takes 24 = .ok (.iconst 1, 1) := by decide +kernel
theorem dX6_takes_25 : decode cX6_takes 25 = .ok (.ireturn, 1) := by decide +kernel
theorem dX6_fails_0 : decode cX6_fails 0 = .ok (.aload_n 0, 1) := by decide +kernel
theorem dX6_fails_1 : decode cX6_fails 1 = .ok (.iload_n 1, 1) := by decide +kernel
theorem dX6_fails_2 : decode cX6_fails 2 = .ok (.putfield 131, 3) := by decide +kernel
theorem dX6_fails_5 : decode cX6_fails 5 = .ok (.aload_n 0, 1) := by decide +kernel
theorem dX6_fails_6 : decode cX6_fails 6 = .ok (.aload_n 0, 1) := by decide +kernel
theorem dX6_fails_7 : decode cX6_fails 7 = .ok (.getfield 19, 3) := by decide +kernel
theorem dX6_fails_10 : decode cX6_fails 10 = .ok (.putfield 134, 3) := by decide +kernel
theorem dX6_fails_13 : decode cX6_fails 13 = .ok (.iconst 0, 1) := by decide +kernel
theorem dX6_fails_14 : decode cX6_fails 14 = .ok (.ireturn, 1) := by decide +kernel
theorem dX6_sign_0 : decode cX6_sign 0 = .ok (.aload_n 0, 1) := by decide +kernel
theorem dX6_sign_1 : decode cX6_sign 1 = .ok (.aload_n 0, 1) := by decide +kernel
theorem dX6_sign_2 : decode cX6_sign 2 = .ok (.getfield 19, 3) := by decide +kernel
theorem dX6_sign_5 : decode cX6_sign 5 = .ok (.invokevirtual 125, 3) := by decide +kernel
theorem dX6_sign_8 : decode cX6_sign 8 = .ok (.ireturn, 1) := by decide +kernel
theorem dX6_signAt_0 : decode cX6_signAt 0 = .ok (.iload_n 1, 1) := by decide +kernel
theorem dX6_signAt_1 : decode cX6_signAt 1 = .ok (.ifCond .lt 20, 3) := by decide +kernel
theorem dX6_signAt_4 : decode cX6_signAt 4 = .ok (.iload_n 1, 1) := by decide +kernel
theorem dX6_signAt_5 : decode cX6_signAt 5 = .ok (.aload_n 0, 1) := by decide +kernel
theorem dX6_signAt_6 : decode cX6_signAt 6 = .ok (.getfield 15, 3) := by decide +kernel
theorem dX6_signAt_9 : decode cX6_signAt 9 = .ok (.if_icmp .ge 12, 3) := by decide +kernel
theorem dX6_signAt_12 : decode cX6_signAt 12 = .ok (.aload_n 0, 1) := by decide +kernel
theorem dX6_signAt_13 : decode cX6_signAt 13 = .ok (.getfield 9, 3) := by decide +kernel
theorem dX6_signAt_16 : decode cX6_signAt 16 = .ok (.iload_n 1, 1) := by decide +kernel
theorem dX6_signAt_17 : decode cX6_signAt 17 = .ok (.iaload, 1) := by decide +kernel
theorem dX6_signAt_18 : decode cX6_signAt 18 = .ok (.goto 4, 3) := by decide +kernel
theorem dX6_signAt_21 : decode cX6_signAt 21 = .ok (.iconst (-1), 1) := by decide +kernel
theorem dX6_signAt_22 : decode cX6_signAt 22 = .ok (.ireturn, 1) := by decide +kernel
theorem dX6_isFigure_0 : decode cX6_isFigure 0 = .ok (.iload_n 0, 1) := by decide +kernel
theorem dX6_isFigure_1 : decode cX6_isFigure 1 = .ok (.bipush 48, 2) := by decide +kernel
theorem dX6_isFigure_3 : decode cX6_isFigure 3 = .ok (.if_icmp .lt 13, 3) := by decide +kernel
theorem dX6_isFigure_6 : decode cX6_isFigure 6 = .ok (.iload_n 0, 1) := by decide +kernel
theorem dX6_isFigure_7 : decode cX6_isFigure 7 = .ok (.bipush 57, 2) := by decide +kernel
theorem dX6_isFigure_9 : decode cX6_isFigure 9 = .ok (.if_icmp .gt 7, 3) := by decide +kernel
theorem dX6_isFigure_12 : decode cX6_isFigure 12 = .ok (.iconst 1, 1) := by decide +kernel
theorem dX6_isFigure_13 : decode cX6_isFigure 13 = .ok (.goto 4, 3) := by decide +kernel
theorem dX6_isFigure_16 : decode cX6_isFigure 16 = .ok (.iconst 0, 1) := by decide +kernel
theorem dX6_isFigure_17 : decode cX6_isFigure 17 = .ok (.ireturn, 1) := by decide +kernel
theorem dX6_barOf_0 : decode cX6_barOf 0 = .ok (.iload_n 0, 1) := by decide +kernel
theorem dX6_barOf_1 : decode cX6_barOf 1 = .ok (.tableswitch 85 99 113 #[81, 85, 75, 77, 85, 83, 85, 85, 85, 85, 85, 85, 85, 85, 79], 75) := by decide +kernel
theorem dX6_barOf_76 : decode cX6_barOf 76 = .ok (.iconst 0, 1) := by decide +kernel
theorem dX6_barOf_77 : decode cX6_barOf 77 = .ok (.ireturn, 1) := by decide +kernel
theorem dX6_barOf_78 : decode cX6_barOf 78 = .ok (.iconst 1, 1) := by decide +kernel
theorem dX6_barOf_79 : decode cX6_barOf 79 = .ok (.ireturn, 1) := by decide +kernel
theorem dX6_barOf_80 : decode cX6_barOf 80 = .ok (.iconst 2, 1) := by decide +kernel
theorem dX6_barOf_81 : decode cX6_barOf 81 = .ok (.ireturn, 1) := by decide +kernel
theorem dX6_barOf_82 : decode cX6_barOf 82 = .ok (.iconst 3, 1) := by decide +kernel
theorem dX6_barOf_83 : decode cX6_barOf 83 = .ok (.ireturn, 1) := by decide +kernel
theorem dX6_barOf_84 : decode cX6_barOf 84 = .ok (.iconst 4, 1) := by decide +kernel
theorem dX6_barOf_85 : decode cX6_barOf 85 = .ok (.ireturn, 1) := by decide +kernel
theorem dX6_barOf_86 : decode cX6_barOf 86 = .ok (.iconst (-1), 1) := by decide +kernel
theorem dX6_barOf_87 : decode cX6_barOf 87 = .ok (.ireturn, 1) := by decide +kernel
theorem dX6_kindOf_0 : decode cX6_kindOf 0 = .ok (.iload_n 0, 1) := by decide +kernel
theorem dX6_kindOf_1 : decode cX6_kindOf 1 = .ok (.lookupswitch 61 #[(100, 55), (107, 57), (108, 59), (114, 53), (116, 51)], 51) := by decide +kernel
theorem dX6_kindOf_52 : decode cX6_kindOf 52 = .ok (.iconst 1, 1) := by decide +kernel
theorem dX6_kindOf_53 : decode cX6_kindOf 53 = .ok (.ireturn, 1) := by decide +kernel
theorem dX6_kindOf_54 : decode cX6_kindOf 54 = .ok (.iconst 2, 1) := by decide +kernel
theorem dX6_kindOf_55 : decode cX6_kindOf 55 = .ok (.ireturn, 1) := by decide +kernel
theorem dX6_kindOf_56 : decode cX6_kindOf 56 = .ok (.iconst 3, 1) := by decide +kernel
theorem dX6_kindOf_57 : decode cX6_kindOf 57 = .ok (.ireturn, 1) := by decide +kernel
theorem dX6_kindOf_58 : decode cX6_kindOf 58 = .ok (.iconst 4, 1) := by decide +kernel
theorem dX6_kindOf_59 : decode cX6_kindOf 59 = .ok (.ireturn, 1) := by decide +kernel
theorem dX6_kindOf_60 : decode cX6_kindOf 60 = .ok (.iconst 5, 1) := by decide +kernel
theorem dX6_kindOf_61 : decode cX6_kindOf 61 = .ok (.ireturn, 1) := by decide +kernel
theorem dX6_kindOf_62 : decode cX6_kindOf 62 = .ok (.iconst 0, 1) := by decide +kernel
theorem dX6_kindOf_63 : decode cX6_kindOf 63 = .ok (.ireturn, 1) := by decide +kernel
theorem dJ9_abs_0f7a4_0 : decode cJ9_abs_0f7a4 0 = .ok (.iload_n 0, 1) := by decide +kernel
theorem dJ9_abs_0f7a4_1 : decode cJ9_abs_0f7a4 1 = .ok (.ifCond .ge 8, 3) := by decide +kernel
theorem dJ9_abs_0f7a4_4 : decode cJ9_abs_0f7a4 4 = .ok (.iload_n 0, 1) := by decide +kernel
theorem dJ9_abs_0f7a4_5 : decode cJ9_abs_0f7a4 5 = .ok (.ineg, 1) := by decide +kernel
theorem dJ9_abs_0f7a4_6 : decode cJ9_abs_0f7a4 6 = .ok (.goto 4, 3) := by decide +kernel
theorem dJ9_abs_0f7a4_9 : decode cJ9_abs_0f7a4 9 = .ok (.iload_n 0, 1) := by decide +kernel
theorem dJ9_abs_0f7a4_10 : decode cJ9_abs_0f7a4 10 = .ok (.ireturn, 1) := by decide +kernel
end
section
theorem dX7_init_0 : decode cX7_init 0 = .ok (.aload_n 0, 1) := by decide +kernel
theorem dX7_init_1 : decode cX7_init 1 = .ok (.invokespecial 1, 3) := by decide +kernel
theorem dX7_init_4 : decode cX7_init 4 = .ok (.aload_n 0, 1) := by decide +kernel
theorem dX7_init_5 : decode cX7_init 5 = .ok (.new 7, 3) := by decide +kernel
theorem dX7_init_8 : decode cX7_init 8 = .ok (.dup, 1) := by decide +kernel
theorem dX7_init_9 : decode cX7_init 9 = .ok (.invokespecial 9, 3) := by decide +kernel
theorem dX7_init_12 : decode cX7_init 12 = .ok (.putfield 10, 3) := by decide +kernel
theorem dX7_init_15 : decode cX7_init 15 = .ok (.aload_n 0, 1) := by decide +kernel
theorem dX7_init_16 : decode cX7_init 16 = .ok (.new 16, 3) := by decide +kernel
theorem dX7_init_19 : decode cX7_init 19 = .ok (.dup, 1) := by decide +kernel
theorem dX7_init_20 : decode cX7_init 20 = .ok (.invokespecial 18, 3) := by decide +kernel
theorem dX7_init_23 : decode cX7_init 23 = .ok (.putfield 19, 3) := by decide +kernel
theorem dX7_init_26 : decode cX7_init 26 = .ok (.aload_n 0, 1) := by decide +kernel
theorem dX7_init_27 : decode cX7_init 27 = .ok (.new 23, 3) := by decide +kernel
theorem dX7_init_30 : decode cX7_init 30 = .ok (.dup, 1) := by decide +kernel
theorem dX7_init_31 : decode cX7_init 31 = .ok (.invokespecial 25, 3) := by decide +kernel
theorem dX7_init_34 : decode cX7_init 34 = .ok (.putfield 26, 3) := by decide +kernel
theorem dX7_init_37 : decode cX7_init 37 = .ok (.aload_n 0, 1) := by decide +kernel
theorem dX7_init_38 : decode cX7_init 38 = .ok (.new 23, 3) := by decide +kernel
theorem dX7_init_41 : decode cX7_init 41 = .ok (.dup, 1) := by decide +kernel
theorem dX7_init_42 : decode cX7_init 42 = .ok (.invokespecial 25, 3) := by decide +kernel
theorem dX7_init_45 : decode cX7_init 45 = .ok (.putfield 30, 3) := by decide +kernel
theorem dX7_init_48 : decode cX7_init 48 = .ok (.aload_n 0, 1) := by decide +kernel
theorem dX7_init_49 : decode cX7_init 49 = .ok (.new 33, 3) := by decide +kernel
theorem dX7_init_52 : decode cX7_init 52 = .ok (.dup, 1) := by decide +kernel
theorem dX7_init_53 : decode cX7_init 53 = .ok (.invokespecial 35, 3) := by decide +kernel
theorem dX7_init_56 : decode cX7_init 56 = .ok (.putfield 36, 3) := by decide +kernel
theorem dX7_init_59 : decode cX7_init 59 = .ok (.aload_n 0, 1) := by decide +kernel
theorem dX7_init_60 : decode cX7_init 60 = .ok (.new 40, 3) := by decide +kernel
theorem dX7_init_63 : decode cX7_init 63 = .ok (.dup, 1) := by decide +kernel
theorem dX7_init_64 : decode cX7_init 64 = .ok (.invokespecial 42, 3) := by decide +kernel
theorem dX7_init_67 : decode cX7_init 67 = .ok (.putfield 43, 3) := by decide +kernel
theorem dX7_init_70 : decode cX7_init 70 = .ok (.aload_n 0, 1) := by decide +kernel
theorem dX7_init_71 : decode cX7_init 71 = .ok (.new 47, 3) := by decide +kernel
theorem dX7_init_74 : decode cX7_init 74 = .ok (.dup, 1) := by decide +kernel
theorem dX7_init_75 : decode cX7_init 75 = .ok (.invokespecial 49, 3) := by decide +kernel
theorem dX7_init_78 : decode cX7_init 78 = .ok (.putfield 50, 3) := by decide +kernel
theorem dX7_init_81 : decode cX7_init 81 = .ok (.aload_n 0, 1) := by decide +kernel
theorem dX7_init_82 : decode cX7_init 82 = .ok (.new 54, 3) := by decide +kernel
theorem dX7_init_85 : decode cX7_init 85 = .ok (.dup, 1) := by decide +kernel
theorem dX7_init_86 : decode cX7_init 86 = .ok (.invokespecial 56, 3) := by decide +kernel
theorem dX7_init_89 : decode cX7_init 89 = .ok (.putfield 57, 3) := by decide +kernel
theorem dX7_init_92 : decode cX7_init 92 = .ok (.aload_n 0, 1) := by decide +kernel
theorem dX7_init_93 : decode cX7_init 93 = .ok (.iconst 2, 1) := by decide +kernel
theorem dX7_init_94 : decode cX7_init 94 = .ok (.anewarray 23, 3) := by decide +kernel
theorem dX7_init_97 : decode cX7_init 97 = .ok (.putfield 61, 3) := by decide +kernel
theorem dX7_init_100 : decode cX7_init 100 = .ok (.iconst 0, 1) := by decide +kernel
theorem dX7_init_101 : decode cX7_init 101 = .ok (.istore_n 1, 1) := by decide +kernel
theorem dX7_init_102 : decode cX7_init 102 = .ok (.iload_n 1, 1) := by decide +kernel
theorem dX7_init_103 : decode cX7_init 103 = .ok (.iconst 2, 1) := by decide +kernel
theorem dX7_init_104 : decode cX7_init 104 = .ok (.if_icmp .ge 22, 3) := by decide +kernel
theorem dX7_init_107 : decode cX7_init 107 = .ok (.aload_n 0, 1) := by decide +kernel
theorem dX7_init_108 : decode cX7_init 108 = .ok (.getfield 61, 3) := by decide +kernel
theorem dX7_init_111 : decode cX7_init 111 = .ok (.iload_n 1, 1) := by decide +kernel
theorem dX7_init_112 : decode cX7_init 112 = .ok (.new 23, 3) := by decide +kernel
theorem dX7_init_115 : decode cX7_init 115 = .ok (.dup, 1) := by decide +kernel
theorem dX7_init_116 : decode cX7_init 116 = .ok (.invokespecial 25, 3) := by decide +kernel
theorem dX7_init_119 : decode cX7_init 119 = .ok (.aastore, 1) := by decide +kernel
theorem dX7_init_120 : decode cX7_init 120 = .ok (.iinc 1 1, 3) := by decide +kernel
theorem dX7_init_123 : decode cX7_init 123 = .ok (.goto (-21), 3) := by decide +kernel
theorem dX7_init_126 : decode cX7_init 126 = .ok (.return_, 1) := by decide +kernel
theorem dX7_row_0 : decode cX7_row 0 = .ok (.aload_n 0, 1) := by decide +kernel
theorem dX7_row_1 : decode cX7_row 1 = .ok (.getfield 10, 3) := by decide +kernel
theorem dX7_row_4 : decode cX7_row 4 = .ok (.iload_n 1, 1) := by decide +kernel
theorem dX7_row_5 : decode cX7_row 5 = .ok (.invokevirtual 65, 3) := by decide +kernel
theorem dX7_row_8 : decode cX7_row 8 = .ok (.ifCond .eq 18, 3) := by decide +kernel
theorem dX7_row_11 : decode cX7_row 11 = .ok (.iload_n 2, 1) := by decide +kernel
theorem dX7_row_12 : decode cX7_row 12 = .ok (.iconst 0, 1) := by decide +kernel
theorem dX7_row_13 : decode cX7_row 13 = .ok (.iconst 2, 1) := by decide +kernel
theorem dX7_row_14 : decode cX7_row 14 = .ok (.invokestatic 69, 3) := by decide +kernel
theorem dX7_row_17 : decode cX7_row 17 = .ok (.ifCond .eq 9, 3) := by decide +kernel
theorem dX7_row_20 : decode cX7_row 20 = .ok (.iload_n 3, 1) := by decide +kernel
theorem dX7_row_21 : decode cX7_row 21 = .ok (.bipush 40, 2) := by decide +kernel
theorem dX7_row_23 : decode cX7_row 23 = .ok (.if_icmp .le 6, 3) := by decide +kernel
theorem dX7_row_26 : decode cX7_row 26 = .ok (.ldc 73, 2) := by decide +kernel
theorem dX7_row_28 : decode cX7_row 28 = .ok (.ireturn, 1) := by decide +kernel
theorem dX7_row_29 : decode cX7_row 29 = .ok (.iload_n 3, 1) := by decide +kernel
theorem dX7_row_30 : decode cX7_row 30 = .ok (.ifCond .ge 9, 3) := by decide +kernel
theorem dX7_row_33 : decode cX7_row 33 = .ok (.aload_n 0, 1) := by decide +kernel
theorem dX7_row_34 : decode cX7_row 34 = .ok (.iconst 4, 1) := by decide +kernel
theorem dX7_row_35 : decode cX7_row 35 = .ok (.invokevirtual 74, 3) := by decide +kernel
theorem dX7_row_38 : decode cX7_row 38 = .ok (.ireturn, 1) := by decide +kernel
theorem dX7_row_39 : decode cX7_row 39 = .ok (.aload_n 0, 1) := by decide +kernel
theorem dX7_row_40 : decode cX7_row 40 = .ok (.getfield 10, 3) := by decide +kernel
theorem dX7_row_43 : decode cX7_row 43 = .ok (.iload_n 1, 1) := by decide +kernel
theorem dX7_row_44 : decode cX7_row 44 = .ok (.iload_n 2, 1) := by decide +kernel
theorem dX7_row_45 : decode cX7_row 45 = .ok (.iload_n 3, 1) := by decide +kernel
theorem dX7_row_46 : decode cX7_row 46 = .ok (.invokevirtual 78, 3) := by decide +kernel
theorem dX7_row_49 : decode cX7_row 49 = .ok (.aload_n 0, 1) := by decide +kernel
theorem dX7_row_50 : decode cX7_row 50 = .ok (.iload_n 3, 1) := by decide +kernel
theorem dX7_row_51 : decode cX7_row 51 = .ok (.invokevirtual 82, 3) := by decide +kernel
theorem dX7_row_54 : decode cX7_row 54 = .ok (.ireturn, 1) := by decide +kernel
theorem dX7_set_0 : decode cX7_set 0 = .ok (.aload_n 0, 1) := by decide +kernel
theorem dX7_set_1 : decode cX7_set 1 = .ok (.getfield 10, 3) := by decide +kernel
theorem dX7_set_4 : decode cX7_set 4 = .ok (.iload_n 1, 1) := by decide +kernel
theorem dX7_set_5 : decode cX7_set 5 = .ok (.invokevirtual 65, 3) := by decide +kernel
theorem dX7_set_8 : decode cX7_set 8 = .ok (.ifCond .ne 6, 3) := by decide +kernel
theorem dX7_set_11 : decode cX7_set 11 = .ok (.ldc 73, 2) := by decide +kernel
theorem dX7_set_13 : decode cX7_set 13 = .ok (.ireturn, 1) := by decide +kernel
theorem dX7_set_14 : decode cX7_set 14 = .ok (.aload_n 0, 1) := by decide +kernel
theorem dX7_set_15 : decode cX7_set 15 = .ok (.getfield 10, 3) := by decide +kernel
theorem dX7_set_18 : decode cX7_set 18 = .ok (.iload_n 1, 1) := by decide +kernel
theorem dX7_set_19 : decode cX7_set 19 = .ok (.invokevirtual 85, 3) := by decide +kernel
theorem dX7_set_22 : decode cX7_set 22 = .ok (.ifCond .eq 9, 3) := by decide +kernel
theorem dX7_set_25 : decode cX7_set 25 = .ok (.aload_n 0, 1) := by decide +kernel
theorem dX7_set_26 : decode cX7_set 26 = .ok (.iconst 1, 1) := by decide +kernel
theorem dX7_set_27 : decode cX7_set 27 = .ok (.invokevirtual 74, 3) := by decide +kernel
theorem dX7_set_30 : decode cX7_set 30 = .ok (.ireturn, 1) := by decide +kernel
theorem dX7_set_31 : decode cX7_set 31 = .ok (.aload_n 0, 1) := by decide +kernel
theorem dX7_set_32 : decode cX7_set 32 = .ok (.getfield 10, 3) := by decide +kernel
theorem dX7_set_35 : decode cX7_set 35 = .ok (.iload_n 1, 1) := by decide +kernel
theorem dX7_set_36 : decode cX7_set 36 = .ok (.iload_n 2, 1) := by decide +kernel
theorem dX7_set_37 : decode cX7_set 37 = .ok (.iconst 1, 1) := by decide +kernel
theorem dX7_set_38 : decode cX7_set 38 = .ok (.invokevirtual 88, 3) := by decide +kernel
theorem dX7_set_41 : decode cX7_set 41 = .ok (.ifCond .ne 9, 3) := by decide +kernel
theorem dX7_set_44 : decode cX7_set 44 = .ok (.aload_n 0, 1) := by decide +kernel
theorem dX7_set_45 : decode cX7_set 45 = .ok (.iconst 2, 1) := by decide +kernel
theorem dX7_set_46 : decode cX7_set 46 = .ok (.invokevirtual 74, 3) := by decide +kernel
theorem dX7_set_49 : decode cX7_set 49 = .ok (.ireturn, 1) := by decide +kernel
theorem dX7_set_50 : decode cX7_set 50 = .ok (.aload_n 0, 1) := by decide +kernel
theorem dX7_set_51 : decode cX7_set 51 = .ok (.aload_n 0, 1) := by decide +kernel
theorem dX7_set_52 : decode cX7_set 52 = .ok (.getfield 10, 3) := by decide +kernel
theorem dX7_set_55 : decode cX7_set 55 = .ok (.iload_n 1, 1) := by decide +kernel
theorem dX7_set_56 : decode cX7_set 56 = .ok (.iload_n 2, 1) := by decide +kernel
theorem dX7_set_57 : decode cX7_set 57 = .ok (.iload_n 3, 1) := by decide +kernel
theorem dX7_set_58 : decode cX7_set 58 = .ok (.invokevirtual 91, 3) := by decide +kernel
theorem dX7_set_61 : decode cX7_set 61 = .ok (.invokevirtual 82, 3) := by decide +kernel
theorem dX7_set_64 : decode cX7_set 64 = .ok (.ireturn, 1) := by decide +kernel
theorem dX7_copy_0 : decode cX7_copy 0 = .ok (.aload_n 0, 1) := by decide +kernel
theorem dX7_copy_1 : decode cX7_copy 1 = .ok (.getfield 10, 3) := by decide +kernel
theorem dX7_copy_4 : decode cX7_copy 4 = .ok (.iload_n 1, 1) := by decide +kernel
theorem dX7_copy_5 : decode cX7_copy 5 = .ok (.invokevirtual 65, 3) := by decide +kernel
theorem dX7_copy_8 : decode cX7_copy 8 = .ok (.ifCond .eq 14, 3) := by decide +kernel
theorem dX7_copy_11 : decode cX7_copy 11 = .ok (.aload_n 0, 1) := by decide +kernel
theorem dX7_copy_12 : decode cX7_copy 12 = .ok (.getfield 10, 3) := by decide +kernel
theorem dX7_copy_15 : decode cX7_copy 15 = .ok (.iload_n 3, 1) := by decide +kernel
theorem dX7_copy_16 : decode cX7_copy 16 = .ok (.invokevirtual 65, 3) := by decide +kernel
theorem dX7_copy_19 : decode cX7_copy 19 = .ok (.ifCond .ne 6, 3) := by decide +kernel
theorem dX7_copy_22 : decode cX7_copy 22 = .ok (.ldc 73, 2) := by decide +kernel
theorem dX7_copy_24 : decode cX7_copy 24 = .ok (.ireturn, 1) := by decide +kernel
theorem dX7_copy_25 : decode cX7_copy 25 = .ok (.aload_n 0, 1) := by decide +kernel
theorem dX7_copy_26 : decode cX7_copy 26 = .ok (.getfield 10, 3) := by decide +kernel
theorem dX7_copy_29 : decode cX7_copy 29 = .ok (.iload_n 1, 1) := by decide +kernel
theorem dX7_copy_30 : decode cX7_copy 30 = .ok (.invokevirtual 85, 3) := by decide +kernel
theorem dX7_copy_33 : decode cX7_copy 33 = .ok (.ifCond .ne 14, 3) := by decide +kernel
theorem dX7_copy_36 : decode cX7_copy 36 = .ok (.aload_n 0, 1) := by decide +kernel
theorem dX7_copy_37 : decode cX7_copy 37 = .ok (.getfield 10, 3) := by decide +kernel
theorem dX7_copy_40 : decode cX7_copy 40 = .ok (.iload_n 3, 1) := by decide +kernel
theorem dX7_copy_41 : decode cX7_copy 41 = .ok (.invokevirtual 85, 3) := by decide +kernel
theorem dX7_copy_44 : decode cX7_copy 44 = .ok (.ifCond .eq 9, 3) := by decide +kernel
theorem dX7_copy_47 : decode cX7_copy 47 = .ok (.aload_n 0, 1) := by decide +kernel
theorem dX7_copy_48 : decode cX7_copy 48 = .ok (.iconst 1, 1) := by decide +kernel
theorem dX7_copy_49 : decode cX7_copy 49 = .ok (.invokevirtual 74, 3) := by decide +kernel
theorem dX7_copy_52 : decode cX7_copy 52 = .ok (.ireturn, 1) := by decide +kernel
theorem dX7_copy_53 : decode cX7_copy 53 = .ok (.aload_n 0, 1) := by decide +kernel
theorem dX7_copy_54 : decode cX7_copy 54 = .ok (.getfield 10, 3) := by decide +kernel
theorem dX7_copy_57 : decode cX7_copy 57 = .ok (.iload_n 1, 1) := by decide +kernel
theorem dX7_copy_58 : decode cX7_copy 58 = .ok (.invokevirtual 95, 3) := by decide +kernel
theorem dX7_copy_61 : decode cX7_copy 61 = .ok (.aload_n 0, 1) := by decide +kernel
theorem dX7_copy_62 : decode cX7_copy 62 = .ok (.getfield 10, 3) := by decide +kernel
theorem dX7_copy_65 : decode cX7_copy 65 = .ok (.iload_n 3, 1) := by decide +kernel
theorem dX7_copy_66 : decode cX7_copy 66 = .ok (.invokevirtual 95, 3) := by decide +kernel
theorem dX7_copy_69 : decode cX7_copy 69 = .ok (.if_icmp .eq 9, 3) := by decide +kernel
theorem dX7_copy_72 : decode cX7_copy 72 = .ok (.aload_n 0, 1) := by decide +kernel
theorem dX7_copy_73 : decode cX7_copy 73 = .ok (.iconst 5, 1) := by decide +kernel
theorem dX7_copy_74 : decode cX7_copy 74 = .ok (.invokevirtual 74, 3) := by decide +kernel
theorem dX7_copy_77 : decode cX7_copy 77 = .ok (.ireturn, 1) := by decide +kernel
theorem dX7_copy_78 : decode cX7_copy 78 = .ok (.aload_n 0, 1) := by decide +kernel
theorem dX7_copy_79 : decode cX7_copy 79 = .ok (.getfield 10, 3) := by decide +kernel
theorem dX7_copy_82 : decode cX7_copy 82 = .ok (.iload_n 1, 1) := by decide +kernel
theorem dX7_copy_83 : decode cX7_copy 83 = .ok (.iload_n 2, 1) := by decide +kernel
theorem dX7_copy_84 : decode cX7_copy 84 = .ok (.iload 5, 2) := by decide +kernel
theorem dX7_copy_86 : decode cX7_copy 86 = .ok (.invokevirtual 88, 3) := by decide +kernel
theorem dX7_copy_89 : decode cX7_copy 89 = .ok (.ifCond .eq 18, 3) := by decide +kernel
theorem dX7_copy_92 : decode cX7_copy 92 = .ok (.aload_n 0, 1) := by decide +kernel
theorem dX7_copy_93 : decode cX7_copy 93 = .ok (.getfield 10, 3) := by decide +kernel
theorem dX7_copy_96 : decode cX7_copy 96 = .ok (.iload_n 3, 1) := by decide +kernel
theorem dX7_copy_97 : decode cX7_copy 97 = .ok (.iload 4, 2) := by decide +kernel
theorem dX7_copy_99 : decode cX7_copy 99 = .ok (.iload 5, 2) := by decide +kernel
theorem dX7_copy_101 : decode cX7_copy 101 = .ok (.invokevirtual 88, 3) := by decide +kernel
theorem dX7_copy_104 : decode cX7_copy 104 = .ok (.ifCond .ne 9, 3) := by decide +kernel
theorem dX7_copy_107 : decode cX7_copy 107 = .ok (.aload_n 0, 1) := by decide +kernel
theorem dX7_copy_108 : decode cX7_copy 108 = .ok (.iconst 2, 1) := by decide +kernel
theorem dX7_copy_109 : decode cX7_copy 109 = .ok (.invokevirtual 74, 3) := by decide +kernel
theorem dX7_copy_112 : decode cX7_copy 112 = .ok (.ireturn, 1) := by decide +kernel
theorem dX7_copy_113 : decode cX7_copy 113 = .ok (.aload_n 0, 1) := by decide +kernel
theorem dX7_copy_114 : decode cX7_copy 114 = .ok (.getfield 10, 3) := by decide +kernel
theorem dX7_copy_117 : decode cX7_copy 117 = .ok (.iload_n 1, 1) := by decide +kernel
theorem dX7_copy_118 : decode cX7_copy 118 = .ok (.iload_n 2, 1) := by decide +kernel
theorem dX7_copy_119 : decode cX7_copy 119 = .ok (.iload_n 3, 1) := by decide +kernel
theorem dX7_copy_120 : decode cX7_copy 120 = .ok (.iload 4, 2) := by decide +kernel
theorem dX7_copy_122 : decode cX7_copy 122 = .ok (.iload 5, 2) := by decide +kernel
theorem dX7_copy_124 : decode cX7_copy 124 = .ok (.invokevirtual 98, 3) := by decide +kernel
theorem dX7_copy_127 : decode cX7_copy 127 = .ok (.aload_n 0, 1) := by decide +kernel
theorem dX7_copy_128 : decode cX7_copy 128 = .ok (.iload 5, 2) := by decide +kernel
theorem dX7_copy_130 : decode cX7_copy 130 = .ok (.invokevirtual 82, 3) := by decide +kernel
theorem dX7_copy_133 : decode cX7_copy 133 = .ok (.ireturn, 1) := by decide +kernel
theorem dX7_drop_0 : decode cX7_drop 0 = .ok (.aload_n 0, 1) := by decide +kernel
theorem dX7_drop_1 : decode cX7_drop 1 = .ok (.getfield 10, 3) := by decide +kernel
theorem dX7_drop_4 : decode cX7_drop 4 = .ok (.iload_n 1, 1) := by decide +kernel
theorem dX7_drop_5 : decode cX7_drop 5 = .ok (.invokevirtual 65, 3) := by decide +kernel
theorem dX7_drop_8 : decode cX7_drop 8 = .ok (.ifCond .ne 6, 3) := by decide +kernel
theorem dX7_drop_11 : decode cX7_drop 11 = .ok (.ldc 73, 2) := by decide +kernel
theorem dX7_drop_13 : decode cX7_drop 13 = .ok (.ireturn, 1) := by decide +kernel
theorem dX7_drop_14 : decode cX7_drop 14 = .ok (.aload_n 0, 1) := by decide +kernel
theorem dX7_drop_15 : decode cX7_drop 15 = .ok (.getfield 10, 3) := by decide +kernel
theorem dX7_drop_18 : decode cX7_drop 18 = .ok (.iload_n 1, 1) := by decide +kernel
theorem dX7_drop_19 : decode cX7_drop 19 = .ok (.invokevirtual 85, 3) := by decide +kernel
theorem dX7_drop_22 : decode cX7_drop 22 = .ok (.ifCond .eq 9, 3) := by decide +kernel
theorem dX7_drop_25 : decode cX7_drop 25 = .ok (.aload_n 0, 1) := by decide +kernel
theorem dX7_drop_26 : decode cX7_drop 26 = .ok (.iconst 1, 1) := by decide +kernel
theorem dX7_drop_27 : decode cX7_drop 27 = .ok (.invokevirtual 74, 3) := by decide +kernel
theorem dX7_drop_30 : decode cX7_drop 30 = .ok (.ireturn, 1) := by decide +kernel
theorem dX7_drop_31 : decode cX7_drop 31 = .ok (.aload_n 0, 1) := by decide +kernel
theorem dX7_drop_32 : decode cX7_drop 32 = .ok (.aload_n 0, 1) := by decide +kernel
theorem dX7_drop_33 : decode cX7_drop 33 = .ok (.getfield 10, 3) := by decide +kernel
theorem dX7_drop_36 : decode cX7_drop 36 = .ok (.iload_n 1, 1) := by decide +kernel
theorem dX7_drop_37 : decode cX7_drop 37 = .ok (.invokevirtual 102, 3) := by decide +kernel
theorem dX7_drop_40 : decode cX7_drop 40 = .ok (.invokevirtual 82, 3) := by decide +kernel
theorem dX7_drop_43 : decode cX7_drop 43 = .ok (.ireturn, 1) := by decide +kernel
theorem dX7_feed_0 : decode cX7_feed 0 = .ok (.iload_n 1, 1) := by decide +kernel
theorem dX7_feed_1 : decode cX7_feed 1 = .ok (.iconst 0, 1) := by decide +kernel
theorem dX7_feed_2 : decode cX7_feed 2 = .ok (.sipush 255, 3) := by decide +kernel
theorem dX7_feed_5 : decode cX7_feed 5 = .ok (.invokestatic 69, 3) := by decide +kernel
theorem dX7_feed_8 : decode cX7_feed 8 = .ok (.ifCond .ne 6, 3) := by decide +kernel
theorem dX7_feed_11 : decode cX7_feed 11 = .ok (.ldc 73, 2) := by decide +kernel
theorem dX7_feed_13 : decode cX7_feed 13 = .ok (.ireturn, 1) := by decide +kernel
theorem dX7_feed_14 : decode cX7_feed 14 = .ok (.aload_n 0, 1) := by decide +kernel
theorem dX7_feed_15 : decode cX7_feed 15 = .ok (.getfield 19, 3) := by decide +kernel
theorem dX7_feed_18 : decode cX7_feed 18 = .ok (.iload_n 1, 1) := by decide +kernel
theorem dX7_feed_19 : decode cX7_feed 19 = .ok (.invokevirtual 105, 3) := by decide +kernel
theorem dX7_feed_22 : decode cX7_feed 22 = .ok (.ifCond .eq 13, 3) := by decide +kernel
theorem dX7_feed_25 : decode cX7_feed 25 = .ok (.aload_n 0, 1) := by decide +kernel
theorem dX7_feed_26 : decode cX7_feed 26 = .ok (.getfield 19, 3) := by decide +kernel
theorem dX7_feed_29 : decode cX7_feed 29 = .ok (.getfield 108, 3) := by decide +kernel
theorem dX7_feed_32 : decode cX7_feed 32 = .ok (.goto 5, 3) := by decide +kernel
theorem dX7_feed_35 : decode cX7_feed 35 = .ok (.ldc 112, 2) := by decide +kernel
theorem dX7_feed_37 : decode cX7_feed 37 = .ok (.ireturn, 1) := by decide +kernel
theorem dX7_band_0 : decode cX7_band 0 = .ok (.aload_n 0, 1) := by decide +kernel
theorem dX7_band_1 : decode cX7_band 1 = .ok (.getfield 19, 3) := by decide +kernel
theorem dX7_band_4 : decode cX7_band 4 = .ok (.aload_n 0, 1) := by decide +kernel
theorem dX7_band_5 : decode cX7_band 5 = .ok (.getfield 30, 3) := by decide +kernel
theorem dX7_band_8 : decode cX7_band 8 = .ok (.invokevirtual 113, 3) := by decide +kernel
theorem dX7_band_11 : decode cX7_band 11 = .ok (.istore_n 1, 1) := by decide +kernel
theorem dX7_band_12 : decode cX7_band 12 = .ok (.aload_n 0, 1) := by decide +kernel
theorem dX7_band_13 : decode cX7_band 13 = .ok (.getfield 19, 3) := by decide +kernel
theorem dX7_band_16 : decode cX7_band 16 = .ok (.iconst 0, 1) := by decide +kernel
theorem dX7_band_17 : decode cX7_band 17 = .ok (.putfield 108, 3) := by decide +kernel
theorem dX7_band_20 : decode cX7_band 20 = .ok (.iload_n 1, 1) := by decide +kernel
theorem dX7_band_21 : decode cX7_band 21 = .ok (.ifCond .ne 25, 3) := by decide +kernel
theorem dX7_band_24 : decode cX7_band 24 = .ok (.aload_n 0, 1) := by decide +kernel
theorem dX7_band_25 : decode cX7_band 25 = .ok (.aload_n 0, 1) := by decide +kernel
theorem dX7_band_26 : decode cX7_band 26 = .ok (.getfield 19, 3) := by decide +kernel
theorem dX7_band_29 : decode cX7_band 29 = .ok (.getfield 117, 3) := by decide +kernel
theorem dX7_band_32 : decode cX7_band 32 = .ok (.putfield 120, 3) := by decide +kernel
theorem dX7_band_35 : decode cX7_band 35 = .ok (.ldc 123, 2) := by decide +kernel
theorem dX7_band_37 : decode cX7_band 37 = .ok (.aload_n 0, 1) := by decide +kernel
theorem dX7_band_38 : decode cX7_band 38 = .ok (.getfield 19, 3) := by decide +kernel
theorem dX7_band_41 : decode cX7_band 41 = .ok (.getfield 124, 3) := by decide +kernel
theorem dX7_band_44 : decode cX7_band 44 = .ok (.isub, 1) := by decide +kernel
theorem dX7_band_45 : decode cX7_band 45 = .ok (.ireturn, 1) := by decide +kernel
theorem dX7_band_46 : decode cX7_band 46 = .ok (.aload_n 0, 1) := by decide +kernel
theorem dX7_band_47 : decode cX7_band 47 = .ok (.getfield 26, 3) := by decide +kernel
theorem dX7_band_50 : decode cX7_band 50 = .ok (.aload_n 0, 1) := by decide +kernel
theorem dX7_band_51 : decode cX7_band 51 = .ok (.getfield 30, 3) := by decide +kernel
theorem dX7_band_54 : decode cX7_band 54 = .ok (.invokevirtual 127, 3) := by decide +kernel
theorem dX7_band_57 : decode cX7_band 57 = .ok (.aload_n 0, 1) := by decide +kernel
theorem dX7_band_58 : decode cX7_band 58 = .ok (.getfield 36, 3) := by decide +kernel
theorem dX7_band_61 : decode cX7_band 61 = .ok (.invokevirtual 131, 3) := by decide +kernel
theorem dX7_band_64 : decode cX7_band 64 = .ok (.aload_n 0, 1) := by decide +kernel
theorem dX7_band_65 : decode cX7_band 65 = .ok (.getfield 26, 3) := by decide +kernel
theorem dX7_band_68 : decode cX7_band 68 = .ok (.getfield 133, 3) := by decide +kernel
theorem dX7_band_71 : decode cX7_band 71 = .ok (.ireturn, 1) := by decide +kernel
theorem dX7_fault_0 : decode cX7_fault 0 = .ok (.aload_n 0, 1) := by decide +kernel
theorem dX7_fault_1 : decode cX7_fault 1 = .ok (.getfield 120, 3) := by decide +kernel
theorem dX7_fault_4 : decode cX7_fault 4 = .ok (.ireturn, 1) := by decide +kernel
theorem dX7_undo_0 : decode cX7_undo 0 = .ok (.aload_n 0, 1) := by decide +kernel
theorem dX7_undo_1 : decode cX7_undo 1 = .ok (.getfield 36, 3) := by decide +kernel
theorem dX7_undo_4 : decode cX7_undo 4 = .ok (.aload_n 0, 1) := by decide +kernel
theorem dX7_undo_5 : decode cX7_undo 5 = .ok (.getfield 26, 3) := by decide +kernel
theorem dX7_undo_8 : decode cX7_undo 8 = .ok (.invokevirtual 136, 3) := by decide +kernel
theorem dX7_undo_11 : decode cX7_undo 11 = .ok (.ifCond .eq 13, 3) := by decide +kernel
theorem dX7_undo_14 : decode cX7_undo 14 = .ok (.aload_n 0, 1) := by decide +kernel
theorem dX7_undo_15 : decode cX7_undo 15 = .ok (.getfield 36, 3) := by decide +kernel
theorem dX7_undo_18 : decode cX7_undo 18 = .ok (.getfield 139, 3) := by decide +kernel
theorem dX7_undo_21 : decode cX7_undo 21 = .ok (.goto 5, 3) := by decide +kernel
theorem dX7_undo_24 : decode cX7_undo 24 = .ok (.ldc 142, 2) := by decide +kernel
theorem dX7_undo_26 : decode cX7_undo 26 = .ok (.ireturn, 1) := by decide +kernel
theorem dX7_bars_0 : decode cX7_bars 0 = .ok (.aload_n 0, 1) := by decide +kernel
theorem dX7_bars_1 : decode cX7_bars 1 = .ok (.getfield 26, 3) := by decide +kernel
theorem dX7_bars_4 : decode cX7_bars 4 = .ok (.invokevirtual 143, 3) := by decide +kernel
theorem dX7_bars_7 : decode cX7_bars 7 = .ok (.ifCond .ne 6, 3) := by decide +kernel
theorem dX7_bars_10 : decode cX7_bars 10 = .ok (.ldc 142, 2) := by decide +kernel
theorem dX7_bars_12 : decode cX7_bars 12 = .ok (.ireturn, 1) := by decide +kernel
theorem dX7_bars_13 : decode cX7_bars 13 = .ok (.iload_n 1, 1) := by decide +kernel
theorem dX7_bars_14 : decode cX7_bars 14 = .ok (.iconst 1, 1) := by decide +kernel
theorem dX7_bars_15 : decode cX7_bars 15 = .ok (.bipush 24, 2) := by decide +kernel
theorem dX7_bars_17 : decode cX7_bars 17 = .ok (.invokestatic 69, 3) := by decide +kernel
theorem dX7_bars_20 : decode cX7_bars 20 = .ok (.ifCond .ne 6, 3) := by decide +kernel
theorem dX7_bars_23 : decode cX7_bars 23 = .ok (.ldc 73, 2) := by decide +kernel
theorem dX7_bars_25 : decode cX7_bars 25 = .ok (.ireturn, 1) := by decide +kernel
theorem dX7_bars_26 : decode cX7_bars 26 = .ok (.aload_n 0, 1) := by decide +kernel
theorem dX7_bars_27 : decode cX7_bars 27 = .ok (.getfield 26, 3) := by decide +kernel
theorem dX7_bars_30 : decode cX7_bars 30 = .ok (.getfield 147, 3) := by decide +kernel
theorem dX7_bars_33 : decode cX7_bars 33 = .ok (.iload_n 1, 1) := by decide +kernel
theorem dX7_bars_34 : decode cX7_bars 34 = .ok (.iadd, 1) := by decide +kernel
theorem dX7_bars_35 : decode cX7_bars 35 = .ok (.sipush 999, 3) := by decide +kernel
theorem dX7_bars_38 : decode cX7_bars 38 = .ok (.if_icmp .le 6, 3) := by decide +kernel
theorem dX7_bars_41 : decode cX7_bars 41 = .ok (.ldc 112, 2) := by decide +kernel
theorem dX7_bars_43 : decode cX7_bars 43 = .ok (.ireturn, 1) := by decide +kernel
theorem dX7_bars_44 : decode cX7_bars 44 = .ok (.iconst 0, 1) := by decide +kernel
theorem dX7_bars_45 : decode cX7_bars 45 = .ok (.istore_n 2, 1) := by decide +kernel
theorem dX7_bars_46 : decode cX7_bars 46 = .ok (.iload_n 2, 1) := by decide +kernel
theorem dX7_bars_47 : decode cX7_bars 47 = .ok (.iload_n 1, 1) := by decide +kernel
theorem dX7_bars_48 : decode cX7_bars 48 = .ok (.if_icmp .ge 27, 3) := by decide +kernel
theorem dX7_bars_51 : decode cX7_bars 51 = .ok (.aload_n 0, 1) := by decide +kernel
theorem dX7_bars_52 : decode cX7_bars 52 = .ok (.getfield 36, 3) := by decide +kernel
theorem dX7_bars_55 : decode cX7_bars 55 = .ok (.aload_n 0, 1) := by decide +kernel
theorem dX7_bars_56 : decode cX7_bars 56 = .ok (.getfield 26, 3) := by decide +kernel
theorem dX7_bars_59 : decode cX7_bars 59 = .ok (.invokevirtual 150, 3) := by decide +kernel
theorem dX7_bars_62 : decode cX7_bars 62 = .ok (.aload_n 0, 1) := by decide +kernel
theorem dX7_bars_63 : decode cX7_bars 63 = .ok (.getfield 26, 3) := by decide +kernel
theorem dX7_bars_66 : decode cX7_bars 66 = .ok (.invokevirtual 153, 3) := by decide +kernel
theorem dX7_bars_69 : decode cX7_bars 69 = .ok (.iinc 2 1, 3) := by decide +kernel
theorem dX7_bars_72 : decode cX7_bars 72 = .ok (.goto (-26), 3) := by decide +kernel
theorem dX7_bars_75 : decode cX7_bars 75 = .ok (.aload_n 0, 1) := by decide +kernel
theorem dX7_bars_76 : decode cX7_bars 76 = .ok (.getfield 26, 3) := by decide +kernel
theorem dX7_bars_79 : decode cX7_bars 79 = .ok (.invokevirtual 156, 3) := by decide +kernel
theorem dX7_bars_82 : decode cX7_bars 82 = .ok (.ireturn, 1) := by decide +kernel
theorem dX7_pace_0 : decode cX7_pace 0 = .ok (.aload_n 0, 1) := by decide +kernel
theorem dX7_pace_1 : decode cX7_pace 1 = .ok (.getfield 26, 3) := by decide +kernel
theorem dX7_pace_4 : decode cX7_pace 4 = .ok (.iload_n 1, 1) := by decide +kernel
theorem dX7_pace_5 : decode cX7_pace 5 = .ok (.invokevirtual 160, 3) := by decide +kernel
theorem dX7_pace_8 : decode cX7_pace 8 = .ok (.ifCond .eq 16, 3) := by decide +kernel
theorem dX7_pace_11 : decode cX7_pace 11 = .ok (.iload_n 2, 1) := by decide +kernel
theorem dX7_pace_12 : decode cX7_pace 12 = .ok (.sipush 300, 3) := by decide +kernel
theorem dX7_pace_15 : decode cX7_pace 15 = .ok (.sipush 2500, 3) := by decide +kernel
theorem dX7_pace_18 : decode cX7_pace 18 = .ok (.invokestatic 69, 3) := by decide +kernel
theorem dX7_pace_21 : decode cX7_pace 21 = .ok (.ifCond .ne 6, 3) := by decide +kernel
theorem dX7_pace_24 : decode cX7_pace 24 = .ok (.ldc 73, 2) := by decide +kernel
theorem dX7_pace_26 : decode cX7_pace 26 = .ok (.ireturn, 1) := by decide +kernel
theorem dX7_pace_27 : decode cX7_pace 27 = .ok (.aload_n 0, 1) := by decide +kernel
theorem dX7_pace_28 : decode cX7_pace 28 = .ok (.getfield 36, 3) := by decide +kernel
theorem dX7_pace_31 : decode cX7_pace 31 = .ok (.aload_n 0, 1) := by decide +kernel
theorem dX7_pace_32 : decode cX7_pace 32 = .ok (.getfield 26, 3) := by decide +kernel
theorem dX7_pace_35 : decode cX7_pace 35 = .ok (.invokevirtual 150, 3) := by decide +kernel
theorem dX7_pace_38 : decode cX7_pace 38 = .ok (.aload_n 0, 1) := by decide +kernel
theorem dX7_pace_39 : decode cX7_pace 39 = .ok (.getfield 26, 3) := by decide +kernel
theorem dX7_pace_42 : decode cX7_pace 42 = .ok (.getfield 163, 3) := by decide +kernel
theorem dX7_pace_45 : decode cX7_pace 45 = .ok (.iload_n 1, 1) := by decide +kernel
theorem dX7_pace_46 : decode cX7_pace 46 = .ok (.iaload, 1) := by decide +kernel
theorem dX7_pace_47 : decode cX7_pace 47 = .ok (.istore_n 3, 1) := by decide +kernel
theorem dX7_pace_48 : decode cX7_pace 48 = .ok (.aload_n 0, 1) := by decide +kernel
theorem dX7_pace_49 : decode cX7_pace 49 = .ok (.getfield 26, 3) := by decide +kernel
theorem dX7_pace_52 : decode cX7_pace 52 = .ok (.getfield 163, 3) := by decide +kernel
theorem dX7_pace_55 : decode cX7_pace 55 = .ok (.iload_n 1, 1) := by decide +kernel
theorem dX7_pace_56 : decode cX7_pace 56 = .ok (.iload_n 2, 1) := by decide +kernel
theorem dX7_pace_57 : decode cX7_pace 57 = .ok (.iastore, 1) := by decide +kernel
theorem dX7_pace_58 : decode cX7_pace 58 = .ok (.iload_n 3, 1) := by decide +kernel
theorem dX7_pace_59 : decode cX7_pace 59 = .ok (.ireturn, 1) := by decide +kernel
theorem dX7_hears_0 : decode cX7_hears 0 = .ok (.aload_n 0, 1) := by decide +kernel
theorem dX7_hears_1 : decode cX7_hears 1 = .ok (.getfield 26, 3) := by decide +kernel
theorem dX7_hears_4 : decode cX7_hears 4 = .ok (.iload_n 1, 1) := by decide +kernel
theorem dX7_hears_5 : decode cX7_hears 5 = .ok (.iload_n 2, 1) := by decide +kernel
theorem dX7_hears_6 : decode cX7_hears 6 = .ok (.invokevirtual 167, 3) := by decide +kernel
theorem dX7_hears_9 : decode cX7_hears 9 = .ok (.ifCond .eq 13, 3) := by decide +kernel
theorem dX7_hears_12 : decode cX7_hears 12 = .ok (.iload_n 3, 1) := by decide +kernel
theorem dX7_hears_13 : decode cX7_hears 13 = .ok (.iconst 0, 1) := by decide +kernel
theorem dX7_hears_14 : decode cX7_hears 14 = .ok (.bipush 9, 2) := by decide +kernel
theorem dX7_hears_16 : decode cX7_hears 16 = .ok (.invokestatic 69, 3) := by decide +kernel
theorem dX7_hears_19 : decode cX7_hears 19 = .ok (.ifCond .ne 6, 3) := by decide +kernel
theorem dX7_hears_22 : decode cX7_hears 22 = .ok (.ldc 73, 2) := by decide +kernel
theorem dX7_hears_24 : decode cX7_hears 24 = .ok (.ireturn, 1) := by decide +kernel
theorem dX7_hears_25 : decode cX7_hears 25 = .ok (.aload_n 0, 1) := by decide +kernel
theorem dX7_hears_26 : decode cX7_hears 26 = .ok (.getfield 36, 3) := by decide +kernel
theorem dX7_hears_29 : decode cX7_hears 29 = .ok (.aload_n 0, 1) := by decide +kernel
theorem dX7_hears_30 : decode cX7_hears 30 = .ok (.getfield 26, 3) := by decide +kernel
theorem dX7_hears_33 : decode cX7_hears 33 = .ok (.invokevirtual 150, 3) := by decide +kernel
theorem dX7_hears_36 : decode cX7_hears 36 = .ok (.aload_n 0, 1) := by decide +kernel
theorem dX7_hears_37 : decode cX7_hears 37 = .ok (.getfield 26, 3) := by decide +kernel
theorem dX7_hears_40 : decode cX7_hears 40 = .ok (.iload_n 1, 1) := by decide +kernel
theorem dX7_hears_41 : decode cX7_hears 41 = .ok (.iload_n 2, 1) := by decide +kernel
theorem dX7_hears_42 : decode cX7_hears 42 = .ok (.invokevirtual 171, 3) := by decide +kernel
theorem dX7_hears_45 : decode cX7_hears 45 = .ok (.istore 4, 2) := by decide +kernel
theorem dX7_hears_47 : decode cX7_hears 47 = .ok (.aload_n 0, 1) := by decide +kernel
theorem dX7_hears_48 : decode cX7_hears 48 = .ok (.getfield 26, 3) := by decide +kernel
theorem dX7_hears_51 : decode cX7_hears 51 = .ok (.iload_n 1, 1) := by decide +kernel
theorem dX7_hears_52 : decode cX7_hears 52 = .ok (.iload_n 2, 1) := by decide +kernel
theorem dX7_hears_53 : decode cX7_hears 53 = .ok (.iload_n 3, 1) := by decide +kernel
theorem dX7_hears_54 : decode cX7_hears 54 = .ok (.invokevirtual 175, 3) := by decide +kernel
theorem dX7_hears_57 : decode cX7_hears 57 = .ok (.iload 4, 2) := by decide +kernel
theorem dX7_hears_59 : decode cX7_hears 59 = .ok (.ireturn, 1) := by decide +kernel
theorem dX7_click_0 : decode cX7_click 0 = .ok (.aload_n 0, 1) := by decide +kernel
theorem dX7_click_1 : decode cX7_click 1 = .ok (.getfield 26, 3) := by decide +kernel
theorem dX7_click_4 : decode cX7_click 4 = .ok (.invokevirtual 143, 3) := by decide +kernel
theorem dX7_click_7 : decode cX7_click 7 = .ok (.ifCond .ne 6, 3) := by decide +kernel
theorem dX7_click_10 : decode cX7_click 10 = .ok (.ldc 142, 2) := by decide +kernel
theorem dX7_click_12 : decode cX7_click 12 = .ok (.ireturn, 1) := by decide +kernel
theorem dX7_click_13 : decode cX7_click 13 = .ok (.iload_n 1, 1) := by decide +kernel
theorem dX7_click_14 : decode cX7_click 14 = .ok (.bipush 40, 2) := by decide +kernel
theorem dX7_click_16 : decode cX7_click 16 = .ok (.bipush 99, 2) := by decide +kernel
theorem dX7_click_18 : decode cX7_click 18 = .ok (.invokestatic 69, 3) := by decide +kernel
theorem dX7_click_21 : decode cX7_click 21 = .ok (.ifCond .ne 6, 3) := by decide +kernel
theorem dX7_click_24 : decode cX7_click 24 = .ok (.ldc 73, 2) := by decide +kernel
theorem dX7_click_26 : decode cX7_click 26 = .ok (.ireturn, 1) := by decide +kernel
theorem dX7_click_27 : decode cX7_click 27 = .ok (.aload_n 0, 1) := by decide +kernel
theorem dX7_click_28 : decode cX7_click 28 = .ok (.getfield 36, 3) := by decide +kernel
theorem dX7_click_31 : decode cX7_click 31 = .ok (.aload_n 0, 1) := by decide +kernel
theorem dX7_click_32 : decode cX7_click 32 = .ok (.getfield 26, 3) := by decide +kernel
theorem dX7_click_35 : decode cX7_click 35 = .ok (.invokevirtual 150, 3) := by decide +kernel
theorem dX7_click_38 : decode cX7_click 38 = .ok (.aload_n 0, 1) := by decide +kernel
theorem dX7_click_39 : decode cX7_click 39 = .ok (.getfield 26, 3) := by decide +kernel
theorem dX7_click_42 : decode cX7_click 42 = .ok (.getfield 178, 3) := by decide +kernel
theorem dX7_click_45 : decode cX7_click 45 = .ok (.istore_n 2, 1) := by decide +kernel
theorem dX7_click_46 : decode cX7_click 46 = .ok (.aload_n 0, 1) := by decide +kernel
theorem dX7_click_47 : decode cX7_click 47 = .ok (.getfield 26, 3) := by decide +kernel
theorem dX7_click_50 : decode cX7_click 50 = .ok (.iload_n 1, 1) := by decide +kernel
theorem dX7_click_51 : decode cX7_click 51 = .ok (.putfield 178, 3) := by decide +kernel
theorem dX7_click_54 : decode cX7_click 54 = .ok (.iload_n 2, 1) := by decide +kernel
theorem dX7_click_55 : decode cX7_click 55 = .ok (.ireturn, 1) := by decide +kernel
theorem dX7_claps_0 : decode cX7_claps 0 = .ok (.aload_n 0, 1) := by decide +kernel
theorem dX7_claps_1 : decode cX7_claps 1 = .ok (.getfield 26, 3) := by decide +kernel
theorem dX7_claps_4 : decode cX7_claps 4 = .ok (.invokevirtual 143, 3) := by decide +kernel
theorem dX7_claps_7 : decode cX7_claps 7 = .ok (.ifCond .ne 6, 3) := by decide +kernel
theorem dX7_claps_10 : decode cX7_claps 10 = .ok (.ldc 142, 2) := by decide +kernel
theorem dX7_claps_12 : decode cX7_claps 12 = .ok (.ireturn, 1) := by decide +kernel
theorem dX7_claps_13 : decode cX7_claps 13 = .ok (.iload_n 1, 1) := by decide +kernel
theorem dX7_claps_14 : decode cX7_claps 14 = .ok (.iconst 1, 1) := by decide +kernel
theorem dX7_claps_15 : decode cX7_claps 15 = .ok (.bipush 99, 2) := by decide +kernel
theorem dX7_claps_17 : decode cX7_claps 17 = .ok (.invokestatic 69, 3) := by decide +kernel
theorem dX7_claps_20 : decode cX7_claps 20 = .ok (.ifCond .ne 6, 3) := by decide +kernel
theorem dX7_claps_23 : decode cX7_claps 23 = .ok (.ldc 73, 2) := by decide +kernel
theorem dX7_claps_25 : decode cX7_claps 25 = .ok (.ireturn, 1) := by decide +kernel
theorem dX7_claps_26 : decode cX7_claps 26 = .ok (.aload_n 0, 1) := by decide +kernel
theorem dX7_claps_27 : decode cX7_claps 27 = .ok (.getfield 36, 3) := by decide +kernel
theorem dX7_claps_30 : decode cX7_claps 30 = .ok (.aload_n 0, 1) := by decide +kernel
theorem dX7_claps_31 : decode cX7_claps 31 = .ok (.getfield 26, 3) := by decide +kernel
theorem dX7_claps_34 : decode cX7_claps 34 = .ok (.invokevirtual 150, 3) := by decide +kernel
theorem dX7_claps_37 : decode cX7_claps 37 = .ok (.aload_n 0, 1) := by decide +kernel
theorem dX7_claps_38 : decode cX7_claps 38 = .ok (.getfield 26, 3) := by decide +kernel
theorem dX7_claps_41 : decode cX7_claps 41 = .ok (.iload_n 1, 1) := by decide +kernel
theorem dX7_claps_42 : decode cX7_claps 42 = .ok (.invokevirtual 181, 3) := by decide +kernel
theorem dX7_claps_45 : decode cX7_claps 45 = .ok (.aload_n 0, 1) := by decide +kernel
theorem dX7_claps_46 : decode cX7_claps 46 = .ok (.getfield 26, 3) := by decide +kernel
theorem dX7_claps_49 : decode cX7_claps 49 = .ok (.invokevirtual 156, 3) := by decide +kernel
theorem dX7_claps_52 : decode cX7_claps 52 = .ok (.ireturn, 1) := by decide +kernel
theorem dX7_player_0 : decode cX7_player 0 = .ok (.aload_n 0, 1) := by decide +kernel
theorem dX7_player_1 : decode cX7_player 1 = .ok (.getfield 26, 3) := by decide +kernel
theorem dX7_player_4 : decode cX7_player 4 = .ok (.iload_n 1, 1) := by decide +kernel
theorem dX7_player_5 : decode cX7_player 5 = .ok (.invokevirtual 160, 3) := by decide +kernel
theorem dX7_player_8 : decode cX7_player 8 = .ok (.ifCond .ne 6, 3) := by decide +kernel
theorem dX7_player_11 : decode cX7_player 11 = .ok (.ldc 73, 2) := by decide +kernel
theorem dX7_player_13 : decode cX7_player 13 = .ok (.ireturn, 1) := by decide +kernel
theorem dX7_player_14 : decode cX7_player 14 = .ok (.iload_n 2, 1) := by decide +kernel
theorem dX7_player_15 : decode cX7_player 15 = .ok (.tableswitch 81 0 3 #[29, 39, 49, 72], 29) := by decide +kernel
theorem dX7_player_44 : decode cX7_player 44 = .ok (.aload_n 0, 1) := by decide +kernel
theorem dX7_player_45 : decode cX7_player 45 = .ok (.getfield 26, 3) := by decide +kernel
theorem dX7_player_48 : decode cX7_player 48 = .ok (.getfield 163, 3) := by decide +kernel
theorem dX7_player_51 : decode cX7_player 51 = .ok (.iload_n 1, 1) := by decide +kernel
theorem dX7_player_52 : decode cX7_player 52 = .ok (.iaload, 1) := by decide +kernel
theorem dX7_player_53 : decode cX7_player 53 = .ok (.ireturn, 1) := by decide +kernel
theorem dX7_player_54 : decode cX7_player 54 = .ok (.aload_n 0, 1) := by decide +kernel
theorem dX7_player_55 : decode cX7_player 55 = .ok (.getfield 26, 3) := by decide +kernel
theorem dX7_player_58 : decode cX7_player 58 = .ok (.getfield 185, 3) := by decide +kernel
theorem dX7_player_61 : decode cX7_player 61 = .ok (.iload_n 1, 1) := by decide +kernel
theorem dX7_player_62 : decode cX7_player 62 = .ok (.iaload, 1) := by decide +kernel
theorem dX7_player_63 : decode cX7_player 63 = .ok (.ireturn, 1) := by decide +kernel
theorem dX7_player_64 : decode cX7_player 64 = .ok (.aload_n 0, 1) := by decide +kernel
theorem dX7_player_65 : decode cX7_player 65 = .ok (.getfield 26, 3) := by decide +kernel
theorem dX7_player_68 : decode cX7_player 68 = .ok (.iload_n 1, 1) := by decide +kernel
theorem dX7_player_69 : decode cX7_player 69 = .ok (.aload_n 0, 1) := by decide +kernel
theorem dX7_player_70 : decode cX7_player 70 = .ok (.getfield 26, 3) := by decide +kernel
theorem dX7_player_73 : decode cX7_player 73 = .ok (.aload_n 0, 1) := by decide +kernel
theorem dX7_player_74 : decode cX7_player 74 = .ok (.getfield 26, 3) := by decide +kernel
theorem dX7_player_77 : decode cX7_player 77 = .ok (.getfield 188, 3) := by decide +kernel
theorem dX7_player_80 : decode cX7_player 80 = .ok (.invokevirtual 191, 3) := by decide +kernel
theorem dX7_player_83 : decode cX7_player 83 = .ok (.invokevirtual 194, 3) := by decide +kernel
theorem dX7_player_86 : decode cX7_player 86 = .ok (.ireturn, 1) := by decide +kernel
theorem dX7_player_87 : decode cX7_player 87 = .ok (.aload_n 0, 1) := by decide +kernel
theorem dX7_player_88 : decode cX7_player 88 = .ok (.getfield 26, 3) := by decide +kernel
theorem dX7_player_91 : decode cX7_player 91 = .ok (.iload_n 1, 1) := by decide +kernel
theorem dX7_player_92 : decode cX7_player 92 = .ok (.invokevirtual 197, 3) := by decide +kernel
theorem dX7_player_95 : decode cX7_player 95 = .ok (.ireturn, 1) := by decide +kernel
theorem dX7_player_96 : decode cX7_player 96 = .ok (.ldc 73, 2) := by decide +kernel
theorem dX7_player_98 : decode cX7_player 98 = .ok (.ireturn, 1) := by decide +kernel
theorem dX7_ear_0 : decode cX7_ear 0 = .ok (.aload_n 0, 1) := by decide +kernel
theorem dX7_ear_1 : decode cX7_ear 1 = .ok (.getfield 26, 3) := by decide +kernel
theorem dX7_ear_4 : decode cX7_ear 4 = .ok (.iload_n 1, 1) := by decide +kernel
theorem dX7_ear_5 : decode cX7_ear 5 = .ok (.iload_n 2, 1) := by decide +kernel
theorem dX7_ear_6 : decode cX7_ear 6 = .ok (.invokevirtual 167, 3) := by decide +kernel
theorem dX7_ear_9 : decode cX7_ear 9 = .ok (.ifCond .eq 15, 3) := by decide +kernel
theorem dX7_ear_12 : decode cX7_ear 12 = .ok (.aload_n 0, 1) := by decide +kernel
theorem dX7_ear_13 : decode cX7_ear 13 = .ok (.getfield 26, 3) := by decide +kernel
theorem dX7_ear_16 : decode cX7_ear 16 = .ok (.iload_n 1, 1) := by decide +kernel
theorem dX7_ear_17 : decode cX7_ear 17 = .ok (.iload_n 2, 1) := by decide +kernel
theorem dX7_ear_18 : decode cX7_ear 18 = .ok (.invokevirtual 171, 3) := by decide +kernel
theorem dX7_ear_21 : decode cX7_ear 21 = .ok (.goto 5, 3) := by decide +kernel
theorem dX7_ear_24 : decode cX7_ear 24 = .ok (.ldc 73, 2) := by decide +kernel
theorem dX7_ear_26 : decode cX7_ear 26 = .ok (.ireturn, 1) := by decide +kernel
theorem dX7_bar_0 : decode cX7_bar 0 = .ok (.iload_n 1, 1) := by decide +kernel
theorem dX7_bar_1 : decode cX7_bar 1 = .ok (.iconst 0, 1) := by decide +kernel
theorem dX7_bar_2 : decode cX7_bar 2 = .ok (.aload_n 0, 1) := by decide +kernel
theorem dX7_bar_3 : decode cX7_bar 3 = .ok (.getfield 26, 3) := by decide +kernel
theorem dX7_bar_6 : decode cX7_bar 6 = .ok (.getfield 200, 3) := by decide +kernel
theorem dX7_bar_9 : decode cX7_bar 9 = .ok (.iconst 1, 1) := by decide +kernel
theorem dX7_bar_10 : decode cX7_bar 10 = .ok (.isub, 1) := by decide +kernel
theorem dX7_bar_11 : decode cX7_bar 11 = .ok (.invokestatic 69, 3) := by decide +kernel
theorem dX7_bar_14 : decode cX7_bar 14 = .ok (.ifCond .eq 14, 3) := by decide +kernel
theorem dX7_bar_17 : decode cX7_bar 17 = .ok (.aload_n 0, 1) := by decide +kernel
theorem dX7_bar_18 : decode cX7_bar 18 = .ok (.getfield 26, 3) := by decide +kernel
theorem dX7_bar_21 : decode cX7_bar 21 = .ok (.iload_n 1, 1) := by decide +kernel
theorem dX7_bar_22 : decode cX7_bar 22 = .ok (.invokevirtual 191, 3) := by decide +kernel
theorem dX7_bar_25 : decode cX7_bar 25 = .ok (.goto 5, 3) := by decide +kernel
theorem dX7_bar_28 : decode cX7_bar 28 = .ok (.ldc 73, 2) := by decide +kernel
theorem dX7_bar_30 : decode cX7_bar 30 = .ok (.ireturn, 1) := by decide +kernel
theorem dX7_ahead_0 : decode cX7_ahead 0 = .ok (.aload_n 0, 1) := by decide +kernel
theorem dX7_ahead_1 : decode cX7_ahead 1 = .ok (.getfield 26, 3) := by decide +kernel
theorem dX7_ahead_4 : decode cX7_ahead 4 = .ok (.invokevirtual 143, 3) := by decide +kernel
theorem dX7_ahead_7 : decode cX7_ahead 7 = .ok (.ifCond .ne 6, 3) := by decide +kernel
theorem dX7_ahead_10 : decode cX7_ahead 10 = .ok (.ldc 142, 2) := by decide +kernel
theorem dX7_ahead_12 : decode cX7_ahead 12 = .ok (.ireturn, 1) := by decide +kernel
theorem dX7_ahead_13 : decode cX7_ahead 13 = .ok (.iload_n 1, 1) := by decide +kernel
theorem dX7_ahead_14 : decode cX7_ahead 14 = .ok (.iconst (-1), 1) := by decide +kernel
theorem dX7_ahead_15 : decode cX7_ahead 15 = .ok (.if_icmp .eq 14, 3) := by decide +kernel
theorem dX7_ahead_18 : decode cX7_ahead 18 = .ok (.aload_n 0, 1) := by decide +kernel
theorem dX7_ahead_19 : decode cX7_ahead 19 = .ok (.getfield 26, 3) := by decide +kernel
theorem dX7_ahead_22 : decode cX7_ahead 22 = .ok (.iload_n 1, 1) := by decide +kernel
theorem dX7_ahead_23 : decode cX7_ahead 23 = .ok (.invokevirtual 160, 3) := by decide +kernel
theorem dX7_ahead_26 : decode cX7_ahead 26 = .ok (.ifCond .eq 14, 3) := by decide +kernel
theorem dX7_ahead_29 : decode cX7_ahead 29 = .ok (.iload_n 2, 1) := by decide +kernel
theorem dX7_ahead_30 : decode cX7_ahead 30 = .ok (.iconst 0, 1) := by decide +kernel
theorem dX7_ahead_31 : decode cX7_ahead 31 = .ok (.sipush 200, 3) := by decide +kernel
theorem dX7_ahead_34 : decode cX7_ahead 34 = .ok (.invokestatic 69, 3) := by decide +kernel
theorem dX7_ahead_37 : decode cX7_ahead 37 = .ok (.ifCond .ne 6, 3) := by decide +kernel
theorem dX7_ahead_40 : decode cX7_ahead 40 = .ok (.ldc 73, 2) := by decide +kernel
theorem dX7_ahead_42 : decode cX7_ahead 42 = .ok (.ireturn, 1) := by decide +kernel
theorem dX7_ahead_43 : decode cX7_ahead 43 = .ok (.aload_n 0, 1) := by decide +kernel
theorem dX7_ahead_44 : decode cX7_ahead 44 = .ok (.getfield 43, 3) := by decide +kernel
theorem dX7_ahead_47 : decode cX7_ahead 47 = .ok (.aload_n 0, 1) := by decide +kernel
theorem dX7_ahead_48 : decode cX7_ahead 48 = .ok (.getfield 26, 3) := by decide +kernel
theorem dX7_ahead_51 : decode cX7_ahead 51 = .ok (.iload_n 2, 1) := by decide +kernel
theorem dX7_ahead_52 : decode cX7_ahead 52 = .ok (.invokevirtual 201, 3) := by decide +kernel
theorem dX7_ahead_55 : decode cX7_ahead 55 = .ok (.astore_n 3, 1) := by decide +kernel
theorem dX7_ahead_56 : decode cX7_ahead 56 = .ok (.iload_n 1, 1) := by decide +kernel
theorem dX7_ahead_57 : decode cX7_ahead 57 = .ok (.iconst (-1), 1) := by decide +kernel
theorem dX7_ahead_58 : decode cX7_ahead 58 = .ok (.if_icmp .ne 10, 3) := by decide +kernel
theorem dX7_ahead_61 : decode cX7_ahead 61 = .ok (.aload_n 3, 1) := by decide +kernel
theorem dX7_ahead_62 : decode cX7_ahead 62 = .ok (.invokevirtual 156, 3) := by decide +kernel
theorem dX7_ahead_65 : decode cX7_ahead 65 = .ok (.goto 9, 3) := by decide +kernel
theorem dX7_ahead_68 : decode cX7_ahead 68 = .ok (.aload_n 3, 1) := by decide +kernel
theorem dX7_ahead_69 : decode cX7_ahead 69 = .ok (.getfield 163, 3) := by decide +kernel
theorem dX7_ahead_72 : decode cX7_ahead 72 = .ok (.iload_n 1, 1) := by decide +kernel
theorem dX7_ahead_73 : decode cX7_ahead 73 = .ok (.iaload, 1) := by decide +kernel
theorem dX7_ahead_74 : decode cX7_ahead 74 = .ok (.ireturn, 1) := by decide +kernel
theorem dX7_drift_0 : decode cX7_drift 0 = .ok (.aload_n 0, 1) := by decide +kernel
theorem dX7_drift_1 : decode cX7_drift 1 = .ok (.getfield 26, 3) := by decide +kernel
theorem dX7_drift_4 : decode cX7_drift 4 = .ok (.invokevirtual 143, 3) := by decide +kernel
theorem dX7_drift_7 : decode cX7_drift 7 = .ok (.ifCond .eq 17, 3) := by decide +kernel
theorem dX7_drift_10 : decode cX7_drift 10 = .ok (.aload_n 0, 1) := by decide +kernel
theorem dX7_drift_11 : decode cX7_drift 11 = .ok (.getfield 43, 3) := by decide +kernel
theorem dX7_drift_14 : decode cX7_drift 14 = .ok (.aload_n 0, 1) := by decide +kernel
theorem dX7_drift_15 : decode cX7_drift 15 = .ok (.getfield 26, 3) := by decide +kernel
theorem dX7_drift_18 : decode cX7_drift 18 = .ok (.invokevirtual 205, 3) := by decide +kernel
theorem dX7_drift_21 : decode cX7_drift 21 = .ok (.goto 5, 3) := by decide +kernel
theorem dX7_drift_24 : decode cX7_drift 24 = .ok (.ldc 142, 2) := by decide +kernel
theorem dX7_drift_26 : decode cX7_drift 26 = .ok (.ireturn, 1) := by decide +kernel
theorem dX7_round_0 : decode cX7_round 0 = .ok (.aload_n 0, 1) := by decide +kernel
theorem dX7_round_1 : decode cX7_round 1 = .ok (.getfield 26, 3) := by decide +kernel
theorem dX7_round_4 : decode cX7_round 4 = .ok (.invokevirtual 143, 3) := by decide +kernel
theorem dX7_round_7 : decode cX7_round 7 = .ok (.ifCond .ne 6, 3) := by decide +kernel
theorem dX7_round_10 : decode cX7_round 10 = .ok (.ldc 142, 2) := by decide +kernel
theorem dX7_round_12 : decode cX7_round 12 = .ok (.ireturn, 1) := by decide +kernel
theorem dX7_round_13 : decode cX7_round 13 = .ok (.iload_n 1, 1) := by decide +kernel
theorem dX7_round_14 : decode cX7_round 14 = .ok (.iconst 0, 1) := by decide +kernel
theorem dX7_round_15 : decode cX7_round 15 = .ok (.iconst 1, 1) := by decide +kernel
theorem dX7_round_16 : decode cX7_round 16 = .ok (.invokestatic 69, 3) := by decide +kernel
theorem dX7_round_19 : decode cX7_round 19 = .ok (.ifCond .ne 6, 3) := by decide +kernel
theorem dX7_round_22 : decode cX7_round 22 = .ok (.ldc 73, 2) := by decide +kernel
theorem dX7_round_24 : decode cX7_round 24 = .ok (.ireturn, 1) := by decide +kernel
theorem dX7_round_25 : decode cX7_round 25 = .ok (.aload_n 0, 1) := by decide +kernel
theorem dX7_round_26 : decode cX7_round 26 = .ok (.getfield 43, 3) := by decide +kernel
theorem dX7_round_29 : decode cX7_round 29 = .ok (.aload_n 0, 1) := by decide +kernel
theorem dX7_round_30 : decode cX7_round 30 = .ok (.getfield 26, 3) := by decide +kernel
theorem dX7_round_33 : decode cX7_round 33 = .ok (.invokevirtual 209, 3) := by decide +kernel
theorem dX7_round_36 : decode cX7_round 36 = .ok (.ifCond .ne 6, 3) := by decide +kernel
theorem dX7_round_39 : decode cX7_round 39 = .ok (.ldc 212, 2) := by decide +kernel
theorem dX7_round_41 : decode cX7_round 41 = .ok (.ireturn, 1) := by decide +kernel
theorem dX7_round_42 : decode cX7_round 42 = .ok (.iload_n 1, 1) := by decide +kernel
theorem dX7_round_43 : decode cX7_round 43 = .ok (.ifCond .ne 13, 3) := by decide +kernel
theorem dX7_round_46 : decode cX7_round 46 = .ok (.aload_n 0, 1) := by decide +kernel
theorem dX7_round_47 : decode cX7_round 47 = .ok (.getfield 43, 3) := by decide +kernel
theorem dX7_round_50 : decode cX7_round 50 = .ok (.getfield 213, 3) := by decide +kernel
theorem dX7_round_53 : decode cX7_round 53 = .ok (.goto 10, 3) := by decide +kernel
theorem dX7_round_56 : decode cX7_round 56 = .ok (.aload_n 0, 1) := by decide +kernel
theorem dX7_round_57 : decode cX7_round 57 = .ok (.getfield 43, 3) := by decide +kernel
theorem dX7_round_60 : decode cX7_round 60 = .ok (.getfield 216, 3) := by decide +kernel
theorem dX7_round_63 : decode cX7_round 63 = .ok (.ireturn, 1) := by decide +kernel
theorem dX7_noticed_0 : decode cX7_noticed 0 = .ok (.aload_n 0, 1) := by decide +kernel
theorem dX7_noticed_1 : decode cX7_noticed 1 = .ok (.getfield 26, 3) := by decide +kernel
theorem dX7_noticed_4 : decode cX7_noticed 4 = .ok (.invokevirtual 143, 3) := by decide +kernel
theorem dX7_noticed_7 : decode cX7_noticed 7 = .ok (.ifCond .ne 6, 3) := by decide +kernel
theorem dX7_noticed_10 : decode cX7_noticed 10 = .ok (.ldc 142, 2) := by decide +kernel
theorem dX7_noticed_12 : decode cX7_noticed 12 = .ok (.ireturn, 1) := by decide +kernel
theorem dX7_noticed_13 : decode cX7_noticed 13 = .ok (.iload_n 1, 1) := by decide +kernel
theorem dX7_noticed_14 : decode cX7_noticed 14 = .ok (.iconst 1, 1) := by decide +kernel
theorem dX7_noticed_15 : decode cX7_noticed 15 = .ok (.sipush 200, 3) := by decide +kernel
theorem dX7_noticed_18 : decode cX7_noticed 18 = .ok (.invokestatic 69, 3) := by decide +kernel
theorem dX7_noticed_21 : decode cX7_noticed 21 = .ok (.ifCond .eq 13, 3) := by decide +kernel
theorem dX7_noticed_24 : decode cX7_noticed 24 = .ok (.iload_n 2, 1) := by decide +kernel
theorem dX7_noticed_25 : decode cX7_noticed 25 = .ok (.iconst 0, 1) := by decide +kernel
theorem dX7_noticed_26 : decode cX7_noticed 26 = .ok (.bipush 99, 2) := by decide +kernel
theorem dX7_noticed_28 : decode cX7_noticed 28 = .ok (.invokestatic 69, 3) := by decide +kernel
theorem dX7_noticed_31 : decode cX7_noticed 31 = .ok (.ifCond .ne 6, 3) := by decide +kernel
theorem dX7_noticed_34 : decode cX7_noticed 34 = .ok (.ldc 73, 2) := by decide +kernel
theorem dX7_noticed_36 : decode cX7_noticed 36 = .ok (.ireturn, 1) := by decide +kernel
theorem dX7_noticed_37 : decode cX7_noticed 37 = .ok (.aload_n 0, 1) := by decide +kernel
theorem dX7_noticed_38 : decode cX7_noticed 38 = .ok (.getfield 43, 3) := by decide +kernel
theorem dX7_noticed_41 : decode cX7_noticed 41 = .ok (.aload_n 0, 1) := by decide +kernel
theorem dX7_noticed_42 : decode cX7_noticed 42 = .ok (.getfield 26, 3) := by decide +kernel
theorem dX7_noticed_45 : decode cX7_noticed 45 = .ok (.iload_n 1, 1) := by decide +kernel
theorem dX7_noticed_46 : decode cX7_noticed 46 = .ok (.iload_n 2, 1) := by decide +kernel
theorem dX7_noticed_47 : decode cX7_noticed 47 = .ok (.invokevirtual 219, 3) := by decide +kernel
theorem dX7_noticed_50 : decode cX7_noticed 50 = .ok (.ireturn, 1) := by decide +kernel
theorem dX7_dancers_0 : decode cX7_dancers 0 = .ok (.aload_n 0, 1) := by decide +kernel
theorem dX7_dancers_1 : decode cX7_dancers 1 = .ok (.getfield 26, 3) := by decide +kernel
theorem dX7_dancers_4 : decode cX7_dancers 4 = .ok (.invokevirtual 143, 3) := by decide +kernel
theorem dX7_dancers_7 : decode cX7_dancers 7 = .ok (.ifCond .ne 6, 3) := by decide +kernel
theorem dX7_dancers_10 : decode cX7_dancers 10 = .ok (.ldc 142, 2) := by decide +kernel
theorem dX7_dancers_12 : decode cX7_dancers 12 = .ok (.ireturn, 1) := by decide +kernel
theorem dX7_dancers_13 : decode cX7_dancers 13 = .ok (.aload_n 0, 1) := by decide +kernel
theorem dX7_dancers_14 : decode cX7_dancers 14 = .ok (.getfield 10, 3) := by decide +kernel
theorem dX7_dancers_17 : decode cX7_dancers 17 = .ok (.iload_n 1, 1) := by decide +kernel
theorem dX7_dancers_18 : decode cX7_dancers 18 = .ok (.invokevirtual 65, 3) := by decide +kernel
theorem dX7_dancers_21 : decode cX7_dancers 21 = .ok (.ifCond .eq 35, 3) := by decide +kernel
theorem dX7_dancers_24 : decode cX7_dancers 24 = .ok (.iload_n 3, 1) := by decide +kernel
theorem dX7_dancers_25 : decode cX7_dancers 25 = .ok (.iconst 1, 1) := by decide +kernel
theorem dX7_dancers_26 : decode cX7_dancers 26 = .ok (.bipush 10, 2) := by decide +kernel
theorem dX7_dancers_28 : decode cX7_dancers 28 = .ok (.invokestatic 69, 3) := by decide +kernel
theorem dX7_dancers_31 : decode cX7_dancers 31 = .ok (.ifCond .eq 25, 3) := by decide +kernel
theorem dX7_dancers_34 : decode cX7_dancers 34 = .ok (.iload 4, 2) := by decide +kernel
theorem dX7_dancers_36 : decode cX7_dancers 36 = .ok (.iconst 0, 1) := by decide +kernel
theorem dX7_dancers_37 : decode cX7_dancers 37 = .ok (.sipush 200, 3) := by decide +kernel
theorem dX7_dancers_40 : decode cX7_dancers 40 = .ok (.invokestatic 69, 3) := by decide +kernel
theorem dX7_dancers_43 : decode cX7_dancers 43 = .ok (.ifCond .eq 13, 3) := by decide +kernel
theorem dX7_dancers_46 : decode cX7_dancers 46 = .ok (.iload 5, 2) := by decide +kernel
theorem dX7_dancers_48 : decode cX7_dancers 48 = .ok (.iconst 0, 1) := by decide +kernel
theorem dX7_dancers_49 : decode cX7_dancers 49 = .ok (.iconst 1, 1) := by decide +kernel
theorem dX7_dancers_50 : decode cX7_dancers 50 = .ok (.invokestatic 69, 3) := by decide +kernel
theorem dX7_dancers_53 : decode cX7_dancers 53 = .ok (.ifCond .ne 6, 3) := by decide +kernel
theorem dX7_dancers_56 : decode cX7_dancers 56 = .ok (.ldc 73, 2) := by decide +kernel
theorem dX7_dancers_58 : decode cX7_dancers 58 = .ok (.ireturn, 1) := by decide +kernel
theorem dX7_dancers_59 : decode cX7_dancers 59 = .ok (.aload_n 0, 1) := by decide +kernel
theorem dX7_dancers_60 : decode cX7_dancers 60 = .ok (.getfield 10, 3) := by decide +kernel
theorem dX7_dancers_63 : decode cX7_dancers 63 = .ok (.iload_n 1, 1) := by decide +kernel
theorem dX7_dancers_64 : decode cX7_dancers 64 = .ok (.invokevirtual 85, 3) := by decide +kernel
theorem dX7_dancers_67 : decode cX7_dancers 67 = .ok (.ifCond .eq 9, 3) := by decide +kernel
theorem dX7_dancers_70 : decode cX7_dancers 70 = .ok (.aload_n 0, 1) := by decide +kernel
theorem dX7_dancers_71 : decode cX7_dancers 71 = .ok (.iconst 1, 1) := by decide +kernel
theorem dX7_dancers_72 : decode cX7_dancers 72 = .ok (.invokevirtual 74, 3) := by decide +kernel
theorem dX7_dancers_75 : decode cX7_dancers 75 = .ok (.ireturn, 1) := by decide +kernel
theorem dX7_dancers_76 : decode cX7_dancers 76 = .ok (.aload_n 0, 1) := by decide +kernel
theorem dX7_dancers_77 : decode cX7_dancers 77 = .ok (.getfield 10, 3) := by decide +kernel
theorem dX7_dancers_80 : decode cX7_dancers 80 = .ok (.iload_n 1, 1) := by decide +kernel
theorem dX7_dancers_81 : decode cX7_dancers 81 = .ok (.iload_n 2, 1) := by decide +kernel
theorem dX7_dancers_82 : decode cX7_dancers 82 = .ok (.iconst 2, 1) := by decide +kernel
theorem dX7_dancers_83 : decode cX7_dancers 83 = .ok (.iload_n 3, 1) := by decide +kernel
theorem dX7_dancers_84 : decode cX7_dancers 84 = .ok (.imul, 1) := by decide +kernel
theorem dX7_dancers_85 : decode cX7_dancers 85 = .ok (.invokevirtual 88, 3) := by decide +kernel
theorem dX7_dancers_88 : decode cX7_dancers 88 = .ok (.ifCond .ne 9, 3) := by decide +kernel
theorem dX7_dancers_91 : decode cX7_dancers 91 = .ok (.aload_n 0, 1) := by decide +kernel
theorem dX7_dancers_92 : decode cX7_dancers 92 = .ok (.iconst 2, 1) := by decide +kernel
theorem dX7_dancers_93 : decode cX7_dancers 93 = .ok (.invokevirtual 74, 3) := by decide +kernel
theorem dX7_dancers_96 : decode cX7_dancers 96 = .ok (.ireturn, 1) := by decide +kernel
theorem dX7_dancers_97 : decode cX7_dancers 97 = .ok (.aload_n 0, 1) := by decide +kernel
theorem dX7_dancers_98 : decode cX7_dancers 98 = .ok (.getfield 10, 3) := by decide +kernel
theorem dX7_dancers_101 : decode cX7_dancers 101 = .ok (.iload_n 1, 1) := by decide +kernel
theorem dX7_dancers_102 : decode cX7_dancers 102 = .ok (.iload_n 2, 1) := by decide +kernel
theorem dX7_dancers_103 : decode cX7_dancers 103 = .ok (.iconst 2, 1) := by decide +kernel
theorem dX7_dancers_104 : decode cX7_dancers 104 = .ok (.iload_n 3, 1) := by decide +kernel
theorem dX7_dancers_105 : decode cX7_dancers 105 = .ok (.imul, 1) := by decide +kernel
theorem dX7_dancers_106 : decode cX7_dancers 106 = .ok (.invokevirtual 223, 3) := by decide +kernel
theorem dX7_dancers_109 : decode cX7_dancers 109 = .ok (.aload_n 0, 1) := by decide +kernel
theorem dX7_dancers_110 : decode cX7_dancers 110 = .ok (.getfield 43, 3) := by decide +kernel
theorem dX7_dancers_113 : decode cX7_dancers 113 = .ok (.aload_n 0, 1) := by decide +kernel
theorem dX7_dancers_114 : decode cX7_dancers 114 = .ok (.getfield 26, 3) := by decide +kernel
theorem dX7_dancers_117 : decode cX7_dancers 117 = .ok (.aload_n 0, 1) := by decide +kernel
theorem dX7_dancers_118 : decode cX7_dancers 118 = .ok (.getfield 10, 3) := by decide +kernel
theorem dX7_dancers_121 : decode cX7_dancers 121 = .ok (.getfield 226, 3) := by decide +kernel
theorem dX7_dancers_124 : decode cX7_dancers 124 = .ok (.iload_n 3, 1) := by decide +kernel
theorem dX7_dancers_125 : decode cX7_dancers 125 = .ok (.iload 4, 2) := by decide +kernel
theorem dX7_dancers_127 : decode cX7_dancers 127 = .ok (.invokevirtual 229, 3) := by decide +kernel
theorem dX7_dancers_130 : decode cX7_dancers 130 = .ok (.aload_n 0, 1) := by decide +kernel
theorem dX7_dancers_131 : decode cX7_dancers 131 = .ok (.iload 5, 2) := by decide +kernel
theorem dX7_dancers_133 : decode cX7_dancers 133 = .ok (.ifCond .ne 13, 3) := by decide +kernel
theorem dX7_dancers_136 : decode cX7_dancers 136 = .ok (.aload_n 0, 1) := by decide +kernel
theorem dX7_dancers_137 : decode cX7_dancers 137 = .ok (.getfield 43, 3) := by decide +kernel
theorem dX7_dancers_140 : decode cX7_dancers 140 = .ok (.getfield 213, 3) := by decide +kernel
theorem dX7_dancers_143 : decode cX7_dancers 143 = .ok (.goto 10, 3) := by decide +kernel
theorem dX7_dancers_146 : decode cX7_dancers 146 = .ok (.aload_n 0, 1) := by decide +kernel
theorem dX7_dancers_147 : decode cX7_dancers 147 = .ok (.getfield 43, 3) := by decide +kernel
theorem dX7_dancers_150 : decode cX7_dancers 150 = .ok (.getfield 216, 3) := by decide +kernel
theorem dX7_dancers_153 : decode cX7_dancers 153 = .ok (.invokevirtual 82, 3) := by decide +kernel
theorem dX7_dancers_156 : decode cX7_dancers 156 = .ok (.ireturn, 1) := by decide +kernel
theorem dX7_countIn_0 : decode cX7_countIn 0 = .ok (.aload_n 0, 1) := by decide +kernel
theorem dX7_countIn_1 : decode cX7_countIn 1 = .ok (.getfield 26, 3) := by decide +kernel
theorem dX7_countIn_4 : decode cX7_countIn 4 = .ok (.invokevirtual 143, 3) := by decide +kernel
theorem dX7_countIn_7 : decode cX7_countIn 7 = .ok (.ifCond .ne 6, 3) := by decide +kernel
theorem dX7_countIn_10 : decode cX7_countIn 10 = .ok (.ldc 142, 2) := by decide +kernel
theorem dX7_countIn_12 : decode cX7_countIn 12 = .ok (.ireturn, 1) := by decide +kernel
theorem dX7_countIn_13 : decode cX7_countIn 13 = .ok (.iload_n 1, 1) := by decide +kernel
theorem dX7_countIn_14 : decode cX7_countIn 14 = .ok (.iconst 0, 1) := by decide +kernel
theorem dX7_countIn_15 : decode cX7_countIn 15 = .ok (.sipush 200, 3) := by decide +kernel
theorem dX7_countIn_18 : decode cX7_countIn 18 = .ok (.invokestatic 69, 3) := by decide +kernel
theorem dX7_countIn_21 : decode cX7_countIn 21 = .ok (.ifCond .eq 16, 3) := by decide +kernel
theorem dX7_countIn_24 : decode cX7_countIn 24 = .ok (.iload_n 2, 1) := by decide +kernel
theorem dX7_countIn_25 : decode cX7_countIn 25 = .ok (.sipush 300, 3) := by decide +kernel
theorem dX7_countIn_28 : decode cX7_countIn 28 = .ok (.sipush 2500, 3) := by decide +kernel
theorem dX7_countIn_31 : decode cX7_countIn 31 = .ok (.invokestatic 69, 3) := by decide +kernel
theorem dX7_countIn_34 : decode cX7_countIn 34 = .ok (.ifCond .ne 6, 3) := by decide +kernel
theorem dX7_countIn_37 : decode cX7_countIn 37 = .ok (.ldc 73, 2) := by decide +kernel
theorem dX7_countIn_39 : decode cX7_countIn 39 = .ok (.ireturn, 1) := by decide +kernel
theorem dX7_countIn_40 : decode cX7_countIn 40 = .ok (.aload_n 0, 1) := by decide +kernel
theorem dX7_countIn_41 : decode cX7_countIn 41 = .ok (.getfield 43, 3) := by decide +kernel
theorem dX7_countIn_44 : decode cX7_countIn 44 = .ok (.aload_n 0, 1) := by decide +kernel
theorem dX7_countIn_45 : decode cX7_countIn 45 = .ok (.getfield 26, 3) := by decide +kernel
theorem dX7_countIn_48 : decode cX7_countIn 48 = .ok (.iload_n 1, 1) := by decide +kernel
theorem dX7_countIn_49 : decode cX7_countIn 49 = .ok (.iload_n 2, 1) := by decide +kernel
theorem dX7_countIn_50 : decode cX7_countIn 50 = .ok (.invokevirtual 233, 3) := by decide +kernel
theorem dX7_countIn_53 : decode cX7_countIn 53 = .ok (.ireturn, 1) := by decide +kernel
theorem dX7_deaf_0 : decode cX7_deaf 0 = .ok (.aload_n 0, 1) := by decide +kernel
theorem dX7_deaf_1 : decode cX7_deaf 1 = .ok (.getfield 26, 3) := by decide +kernel
theorem dX7_deaf_4 : decode cX7_deaf 4 = .ok (.invokevirtual 143, 3) := by decide +kernel
theorem dX7_deaf_7 : decode cX7_deaf 7 = .ok (.ifCond .ne 6, 3) := by decide +kernel
theorem dX7_deaf_10 : decode cX7_deaf 10 = .ok (.ldc 142, 2) := by decide +kernel
theorem dX7_deaf_12 : decode cX7_deaf 12 = .ok (.ireturn, 1) := by decide +kernel
theorem dX7_deaf_13 : decode cX7_deaf 13 = .ok (.iload_n 1, 1) := by decide +kernel
theorem dX7_deaf_14 : decode cX7_deaf 14 = .ok (.iconst 0, 1) := by decide +kernel
theorem dX7_deaf_15 : decode cX7_deaf 15 = .ok (.iconst 1, 1) := by decide +kernel
theorem dX7_deaf_16 : decode cX7_deaf 16 = .ok (.invokestatic 69, 3) := by decide +kernel
theorem dX7_deaf_19 : decode cX7_deaf 19 = .ok (.ifCond .ne 6, 3) := by decide +kernel
theorem dX7_deaf_22 : decode cX7_deaf 22 = .ok (.ldc 73, 2) := by decide +kernel
theorem dX7_deaf_24 : decode cX7_deaf 24 = .ok (.ireturn, 1) := by decide +kernel
theorem dX7_deaf_25 : decode cX7_deaf 25 = .ok (.aload_n 0, 1) := by decide +kernel
theorem dX7_deaf_26 : decode cX7_deaf 26 = .ok (.getfield 43, 3) := by decide +kernel
theorem dX7_deaf_29 : decode cX7_deaf 29 = .ok (.aload_n 0, 1) := by decide +kernel
theorem dX7_deaf_30 : decode cX7_deaf 30 = .ok (.getfield 26, 3) := by decide +kernel
theorem dX7_deaf_33 : decode cX7_deaf 33 = .ok (.invokevirtual 236, 3) := by decide +kernel
theorem dX7_deaf_36 : decode cX7_deaf 36 = .ok (.iload_n 1, 1) := by decide +kernel
theorem dX7_deaf_37 : decode cX7_deaf 37 = .ok (.ifCond .ne 13, 3) := by decide +kernel
theorem dX7_deaf_40 : decode cX7_deaf 40 = .ok (.aload_n 0, 1) := by decide +kernel
theorem dX7_deaf_41 : decode cX7_deaf 41 = .ok (.getfield 43, 3) := by decide +kernel
theorem dX7_deaf_44 : decode cX7_deaf 44 = .ok (.getfield 213, 3) := by decide +kernel
theorem dX7_deaf_47 : decode cX7_deaf 47 = .ok (.goto 10, 3) := by decide +kernel
theorem dX7_deaf_50 : decode cX7_deaf 50 = .ok (.aload_n 0, 1) := by decide +kernel
theorem dX7_deaf_51 : decode cX7_deaf 51 = .ok (.getfield 43, 3) := by decide +kernel
theorem dX7_deaf_54 : decode cX7_deaf 54 = .ok (.getfield 216, 3) := by decide +kernel
theorem dX7_deaf_57 : decode cX7_deaf 57 = .ok (.ireturn, 1) := by decide +kernel
theorem dX7_inEar_0 : decode cX7_inEar 0 = .ok (.aload_n 0, 1) := by decide +kernel
theorem dX7_inEar_1 : decode cX7_inEar 1 = .ok (.getfield 26, 3) := by decide +kernel
theorem dX7_inEar_4 : decode cX7_inEar 4 = .ok (.invokevirtual 143, 3) := by decide +kernel
theorem dX7_inEar_7 : decode cX7_inEar 7 = .ok (.ifCond .ne 6, 3) := by decide +kernel
theorem dX7_inEar_10 : decode cX7_inEar 10 = .ok (.ldc 142, 2) := by decide +kernel
theorem dX7_inEar_12 : decode cX7_inEar 12 = .ok (.ireturn, 1) := by decide +kernel
theorem dX7_inEar_13 : decode cX7_inEar 13 = .ok (.iload_n 1, 1) := by decide +kernel
theorem dX7_inEar_14 : decode cX7_inEar 14 = .ok (.iconst 0, 1) := by decide +kernel
theorem dX7_inEar_15 : decode cX7_inEar 15 = .ok (.iconst 1, 1) := by decide +kernel
theorem dX7_inEar_16 : decode cX7_inEar 16 = .ok (.invokestatic 69, 3) := by decide +kernel
theorem dX7_inEar_19 : decode cX7_inEar 19 = .ok (.ifCond .ne 6, 3) := by decide +kernel
theorem dX7_inEar_22 : decode cX7_inEar 22 = .ok (.ldc 73, 2) := by decide +kernel
theorem dX7_inEar_24 : decode cX7_inEar 24 = .ok (.ireturn, 1) := by decide +kernel
theorem dX7_inEar_25 : decode cX7_inEar 25 = .ok (.aload_n 0, 1) := by decide +kernel
theorem dX7_inEar_26 : decode cX7_inEar 26 = .ok (.getfield 43, 3) := by decide +kernel
theorem dX7_inEar_29 : decode cX7_inEar 29 = .ok (.aload_n 0, 1) := by decide +kernel
theorem dX7_inEar_30 : decode cX7_inEar 30 = .ok (.getfield 26, 3) := by decide +kernel
theorem dX7_inEar_33 : decode cX7_inEar 33 = .ok (.invokevirtual 239, 3) := by decide +kernel
theorem dX7_inEar_36 : decode cX7_inEar 36 = .ok (.iload_n 1, 1) := by decide +kernel
theorem dX7_inEar_37 : decode cX7_inEar 37 = .ok (.ifCond .ne 13, 3) := by decide +kernel
theorem dX7_inEar_40 : decode cX7_inEar 40 = .ok (.aload_n 0, 1) := by decide +kernel
theorem dX7_inEar_41 : decode cX7_inEar 41 = .ok (.getfield 43, 3) := by decide +kernel
theorem dX7_inEar_44 : decode cX7_inEar 44 = .ok (.getfield 213, 3) := by decide +kernel
theorem dX7_inEar_47 : decode cX7_inEar 47 = .ok (.goto 10, 3) := by decide +kernel
theorem dX7_inEar_50 : decode cX7_inEar 50 = .ok (.aload_n 0, 1) := by decide +kernel
theorem dX7_inEar_51 : decode cX7_inEar 51 = .ok (.getfield 43, 3) := by decide +kernel
theorem dX7_inEar_54 : decode cX7_inEar 54 = .ok (.getfield 216, 3) := by decide +kernel
theorem dX7_inEar_57 : decode cX7_inEar 57 = .ok (.ireturn, 1) := by decide +kernel
theorem dX7_blame_0 : decode cX7_blame 0 = .ok (.aload_n 0, 1) := by decide +kernel
theorem dX7_blame_1 : decode cX7_blame 1 = .ok (.getfield 26, 3) := by decide +kernel
theorem dX7_blame_4 : decode cX7_blame 4 = .ok (.iload_n 1, 1) := by decide +kernel
theorem dX7_blame_5 : decode cX7_blame 5 = .ok (.invokevirtual 160, 3) := by decide +kernel
theorem dX7_blame_8 : decode cX7_blame 8 = .ok (.ifCond .eq 18, 3) := by decide +kernel
theorem dX7_blame_11 : decode cX7_blame 11 = .ok (.aload_n 0, 1) := by decide +kernel
theorem dX7_blame_12 : decode cX7_blame 12 = .ok (.getfield 43, 3) := by decide +kernel
theorem dX7_blame_15 : decode cX7_blame 15 = .ok (.aload_n 0, 1) := by decide +kernel
theorem dX7_blame_16 : decode cX7_blame 16 = .ok (.getfield 26, 3) := by decide +kernel
theorem dX7_blame_19 : decode cX7_blame 19 = .ok (.iload_n 1, 1) := by decide +kernel
theorem dX7_blame_20 : decode cX7_blame 20 = .ok (.invokevirtual 242, 3) := by decide +kernel
theorem dX7_blame_23 : decode cX7_blame 23 = .ok (.goto 5, 3) := by decide +kernel
theorem dX7_blame_26 : decode cX7_blame 26 = .ok (.ldc 73, 2) := by decide +kernel
theorem dX7_blame_28 : decode cX7_blame 28 = .ok (.ireturn, 1) := by decide +kernel
theorem dX7_back_0 : decode cX7_back 0 = .ok (.aload_n 0, 1) := by decide +kernel
theorem dX7_back_1 : decode cX7_back 1 = .ok (.getfield 26, 3) := by decide +kernel
theorem dX7_back_4 : decode cX7_back 4 = .ok (.iload_n 1, 1) := by decide +kernel
theorem dX7_back_5 : decode cX7_back 5 = .ok (.invokevirtual 160, 3) := by decide +kernel
theorem dX7_back_8 : decode cX7_back 8 = .ok (.ifCond .eq 37, 3) := by decide +kernel
theorem dX7_back_11 : decode cX7_back 11 = .ok (.iload_n 2, 1) := by decide +kernel
theorem dX7_back_12 : decode cX7_back 12 = .ok (.iconst 1, 1) := by decide +kernel
theorem dX7_back_13 : decode cX7_back 13 = .ok (.bipush 99, 2) := by decide +kernel
theorem dX7_back_15 : decode cX7_back 15 = .ok (.invokestatic 69, 3) := by decide +kernel
theorem dX7_back_18 : decode cX7_back 18 = .ok (.ifCond .eq 27, 3) := by decide +kernel
theorem dX7_back_21 : decode cX7_back 21 = .ok (.iload_n 3, 1) := by decide +kernel
theorem dX7_back_22 : decode cX7_back 22 = .ok (.iconst 1, 1) := by decide +kernel
theorem dX7_back_23 : decode cX7_back 23 = .ok (.bipush 40, 2) := by decide +kernel
theorem dX7_back_25 : decode cX7_back 25 = .ok (.invokestatic 69, 3) := by decide +kernel
theorem dX7_back_28 : decode cX7_back 28 = .ok (.ifCond .eq 17, 3) := by decide +kernel
theorem dX7_back_31 : decode cX7_back 31 = .ok (.iload 4, 2) := by decide +kernel
theorem dX7_back_33 : decode cX7_back 33 = .ok (.sipush 300, 3) := by decide +kernel
theorem dX7_back_36 : decode cX7_back 36 = .ok (.sipush 2500, 3) := by decide +kernel
theorem dX7_back_39 : decode cX7_back 39 = .ok (.invokestatic 69, 3) := by decide +kernel
theorem dX7_back_42 : decode cX7_back 42 = .ok (.ifCond .ne 6, 3) := by decide +kernel
theorem dX7_back_45 : decode cX7_back 45 = .ok (.ldc 73, 2) := by decide +kernel
theorem dX7_back_47 : decode cX7_back 47 = .ok (.ireturn, 1) := by decide +kernel
theorem dX7_back_48 : decode cX7_back 48 = .ok (.aload_n 0, 1) := by decide +kernel
theorem dX7_back_49 : decode cX7_back 49 = .ok (.getfield 26, 3) := by decide +kernel
theorem dX7_back_52 : decode cX7_back 52 = .ok (.getfield 246, 3) := by decide +kernel
theorem dX7_back_55 : decode cX7_back 55 = .ok (.iload_n 1, 1) := by decide +kernel
theorem dX7_back_56 : decode cX7_back 56 = .ok (.iaload, 1) := by decide +kernel
theorem dX7_back_57 : decode cX7_back 57 = .ok (.iconst 4, 1) := by decide +kernel
theorem dX7_back_58 : decode cX7_back 58 = .ok (.invokestatic 249, 3) := by decide +kernel
theorem dX7_back_61 : decode cX7_back 61 = .ok (.ifCond .ne 6, 3) := by decide +kernel
theorem dX7_back_64 : decode cX7_back 64 = .ok (.ldc 142, 2) := by decide +kernel
theorem dX7_back_66 : decode cX7_back 66 = .ok (.ireturn, 1) := by decide +kernel
theorem dX7_back_67 : decode cX7_back 67 = .ok (.aload_n 0, 1) := by decide +kernel
theorem dX7_back_68 : decode cX7_back 68 = .ok (.getfield 43, 3) := by decide +kernel
theorem dX7_back_71 : decode cX7_back 71 = .ok (.aload_n 0, 1) := by decide +kernel
theorem dX7_back_72 : decode cX7_back 72 = .ok (.getfield 26, 3) := by decide +kernel
theorem dX7_back_75 : decode cX7_back 75 = .ok (.iload_n 1, 1) := by decide +kernel
theorem dX7_back_76 : decode cX7_back 76 = .ok (.iload_n 2, 1) := by decide +kernel
theorem dX7_back_77 : decode cX7_back 77 = .ok (.iload_n 3, 1) := by decide +kernel
theorem dX7_back_78 : decode cX7_back 78 = .ok (.iload 4, 2) := by decide +kernel
theorem dX7_back_80 : decode cX7_back 80 = .ok (.invokevirtual 252, 3) := by decide +kernel
theorem dX7_back_83 : decode cX7_back 83 = .ok (.ireturn, 1) := by decide +kernel
theorem dX7_songs_0 : decode cX7_songs 0 = .ok (.aload_n 0, 1) := by decide +kernel
theorem dX7_songs_1 : decode cX7_songs 1 = .ok (.getfield 10, 3) := by decide +kernel
theorem dX7_songs_4 : decode cX7_songs 4 = .ok (.iload_n 1, 1) := by decide +kernel
theorem dX7_songs_5 : decode cX7_songs 5 = .ok (.invokevirtual 65, 3) := by decide +kernel
theorem dX7_songs_8 : decode cX7_songs 8 = .ok (.ifCond .eq 25, 3) := by decide +kernel
theorem dX7_songs_11 : decode cX7_songs 11 = .ok (.iload_n 3, 1) := by decide +kernel
theorem dX7_songs_12 : decode cX7_songs 12 = .ok (.iconst 1, 1) := by decide +kernel
theorem dX7_songs_13 : decode cX7_songs 13 = .ok (.bipush 6, 2) := by decide +kernel
theorem dX7_songs_15 : decode cX7_songs 15 = .ok (.invokestatic 69, 3) := by decide +kernel
theorem dX7_songs_18 : decode cX7_songs 18 = .ok (.ifCond .eq 15, 3) := by decide +kernel
theorem dX7_songs_21 : decode cX7_songs 21 = .ok (.iload 4, 2) := by decide +kernel
theorem dX7_songs_23 : decode cX7_songs 23 = .ok (.iconst (-1), 1) := by decide +kernel
theorem dX7_songs_24 : decode cX7_songs 24 = .ok (.iload_n 3, 1) := by decide +kernel
theorem dX7_songs_25 : decode cX7_songs 25 = .ok (.iconst 1, 1) := by decide +kernel
theorem dX7_songs_26 : decode cX7_songs 26 = .ok (.isub, 1) := by decide +kernel
theorem dX7_songs_27 : decode cX7_songs 27 = .ok (.invokestatic 69, 3) := by decide +kernel
theorem dX7_songs_30 : decode cX7_songs 30 = .ok (.ifCond .ne 6, 3) := by decide +kernel
theorem dX7_songs_33 : decode cX7_songs 33 = .ok (.ldc 73, 2) := by decide +kernel
theorem dX7_songs_35 : decode cX7_songs 35 = .ok (.ireturn, 1) := by decide +kernel
theorem dX7_songs_36 : decode cX7_songs 36 = .ok (.aload_n 0, 1) := by decide +kernel
theorem dX7_songs_37 : decode cX7_songs 37 = .ok (.getfield 10, 3) := by decide +kernel
theorem dX7_songs_40 : decode cX7_songs 40 = .ok (.iload_n 1, 1) := by decide +kernel
theorem dX7_songs_41 : decode cX7_songs 41 = .ok (.invokevirtual 85, 3) := by decide +kernel
theorem dX7_songs_44 : decode cX7_songs 44 = .ok (.ifCond .eq 9, 3) := by decide +kernel
theorem dX7_songs_47 : decode cX7_songs 47 = .ok (.aload_n 0, 1) := by decide +kernel
theorem dX7_songs_48 : decode cX7_songs 48 = .ok (.iconst 1, 1) := by decide +kernel
theorem dX7_songs_49 : decode cX7_songs 49 = .ok (.invokevirtual 74, 3) := by decide +kernel
theorem dX7_songs_52 : decode cX7_songs 52 = .ok (.ireturn, 1) := by decide +kernel
theorem dX7_songs_53 : decode cX7_songs 53 = .ok (.aload_n 0, 1) := by decide +kernel
theorem dX7_songs_54 : decode cX7_songs 54 = .ok (.getfield 10, 3) := by decide +kernel
theorem dX7_songs_57 : decode cX7_songs 57 = .ok (.iload_n 1, 1) := by decide +kernel
theorem dX7_songs_58 : decode cX7_songs 58 = .ok (.iload_n 2, 1) := by decide +kernel
theorem dX7_songs_59 : decode cX7_songs 59 = .ok (.iload_n 3, 1) := by decide +kernel
theorem dX7_songs_60 : decode cX7_songs 60 = .ok (.invokevirtual 88, 3) := by decide +kernel
theorem dX7_songs_63 : decode cX7_songs 63 = .ok (.ifCond .ne 9, 3) := by decide +kernel
theorem dX7_songs_66 : decode cX7_songs 66 = .ok (.aload_n 0, 1) := by decide +kernel
theorem dX7_songs_67 : decode cX7_songs 67 = .ok (.iconst 2, 1) := by decide +kernel
theorem dX7_songs_68 : decode cX7_songs 68 = .ok (.invokevirtual 74, 3) := by decide +kernel
theorem dX7_songs_71 : decode cX7_songs 71 = .ok (.ireturn, 1) := by decide +kernel
theorem dX7_songs_72 : decode cX7_songs 72 = .ok (.aload_n 0, 1) := by decide +kernel
theorem dX7_songs_73 : decode cX7_songs 73 = .ok (.getfield 10, 3) := by decide +kernel
theorem dX7_songs_76 : decode cX7_songs 76 = .ok (.iload_n 1, 1) := by decide +kernel
theorem dX7_songs_77 : decode cX7_songs 77 = .ok (.iload_n 2, 1) := by decide +kernel
theorem dX7_songs_78 : decode cX7_songs 78 = .ok (.iload_n 3, 1) := by decide +kernel
theorem dX7_songs_79 : decode cX7_songs 79 = .ok (.invokevirtual 223, 3) := by decide +kernel
theorem dX7_songs_82 : decode cX7_songs 82 = .ok (.iconst 0, 1) := by decide +kernel
theorem dX7_songs_83 : decode cX7_songs 83 = .ok (.istore 5, 2) := by decide +kernel
theorem dX7_songs_85 : decode cX7_songs 85 = .ok (.iload 5, 2) := by decide +kernel
theorem dX7_songs_87 : decode cX7_songs 87 = .ok (.iload_n 3, 1) := by decide +kernel
theorem dX7_songs_88 : decode cX7_songs 88 = .ok (.if_icmp .ge 32, 3) := by decide +kernel
theorem dX7_songs_91 : decode cX7_songs 91 = .ok (.aload_n 0, 1) := by decide +kernel
theorem dX7_songs_92 : decode cX7_songs 92 = .ok (.getfield 10, 3) := by decide +kernel
theorem dX7_songs_95 : decode cX7_songs 95 = .ok (.getfield 226, 3) := by decide +kernel
theorem dX7_songs_98 : decode cX7_songs 98 = .ok (.iload 5, 2) := by decide +kernel
theorem dX7_songs_100 : decode cX7_songs 100 = .ok (.iaload, 1) := by decide +kernel
theorem dX7_songs_101 : decode cX7_songs 101 = .ok (.iconst 0, 1) := by decide +kernel
theorem dX7_songs_102 : decode cX7_songs 102 = .ok (.sipush 2500, 3) := by decide +kernel
theorem dX7_songs_105 : decode cX7_songs 105 = .ok (.invokestatic 69, 3) := by decide +kernel
theorem dX7_songs_108 : decode cX7_songs 108 = .ok (.ifCond .ne 6, 3) := by decide +kernel
theorem dX7_songs_111 : decode cX7_songs 111 = .ok (.ldc 73, 2) := by decide +kernel
theorem dX7_songs_113 : decode cX7_songs 113 = .ok (.ireturn, 1) := by decide +kernel
theorem dX7_songs_114 : decode cX7_songs 114 = .ok (.iinc 5 1, 3) := by decide +kernel
theorem dX7_songs_117 : decode cX7_songs 117 = .ok (.goto (-32), 3) := by decide +kernel
theorem dX7_songs_120 : decode cX7_songs 120 = .ok (.aload_n 0, 1) := by decide +kernel
theorem dX7_songs_121 : decode cX7_songs 121 = .ok (.getfield 50, 3) := by decide +kernel
theorem dX7_songs_124 : decode cX7_songs 124 = .ok (.aload_n 0, 1) := by decide +kernel
theorem dX7_songs_125 : decode cX7_songs 125 = .ok (.getfield 10, 3) := by decide +kernel
theorem dX7_songs_128 : decode cX7_songs 128 = .ok (.getfield 226, 3) := by decide +kernel
theorem dX7_songs_131 : decode cX7_songs 131 = .ok (.iload_n 3, 1) := by decide +kernel
theorem dX7_songs_132 : decode cX7_songs 132 = .ok (.invokevirtual 256, 3) := by decide +kernel
theorem dX7_songs_135 : decode cX7_songs 135 = .ok (.aload_n 0, 1) := by decide +kernel
theorem dX7_songs_136 : decode cX7_songs 136 = .ok (.iload 4, 2) := by decide +kernel
theorem dX7_songs_138 : decode cX7_songs 138 = .ok (.iconst (-1), 1) := by decide +kernel
theorem dX7_songs_139 : decode cX7_songs 139 = .ok (.if_icmp .ne 13, 3) := by decide +kernel
theorem dX7_songs_142 : decode cX7_songs 142 = .ok (.aload_n 0, 1) := by decide +kernel
theorem dX7_songs_143 : decode cX7_songs 143 = .ok (.getfield 50, 3) := by decide +kernel
theorem dX7_songs_146 : decode cX7_songs 146 = .ok (.getfield 260, 3) := by decide +kernel
theorem dX7_songs_149 : decode cX7_songs 149 = .ok (.goto 13, 3) := by decide +kernel
theorem dX7_songs_152 : decode cX7_songs 152 = .ok (.aload_n 0, 1) := by decide +kernel
theorem dX7_songs_153 : decode cX7_songs 153 = .ok (.getfield 50, 3) := by decide +kernel
theorem dX7_songs_156 : decode cX7_songs 156 = .ok (.getfield 263, 3) := by decide +kernel
theorem dX7_songs_159 : decode cX7_songs 159 = .ok (.iload 4, 2) := by decide +kernel
theorem dX7_songs_161 : decode cX7_songs 161 = .ok (.iaload, 1) := by decide +kernel
theorem dX7_songs_162 : decode cX7_songs 162 = .ok (.invokevirtual 82, 3) := by decide +kernel
theorem dX7_songs_165 : decode cX7_songs 165 = .ok (.ireturn, 1) := by decide +kernel
theorem dX7_clapped_0 : decode cX7_clapped 0 = .ok (.aload_n 0, 1) := by decide +kernel
theorem dX7_clapped_1 : decode cX7_clapped 1 = .ok (.getfield 26, 3) := by decide +kernel
theorem dX7_clapped_4 : decode cX7_clapped 4 = .ok (.invokevirtual 143, 3) := by decide +kernel
theorem dX7_clapped_7 : decode cX7_clapped 7 = .ok (.ifCond .ne 6, 3) := by decide +kernel
theorem dX7_clapped_10 : decode cX7_clapped 10 = .ok (.ldc 142, 2) := by decide +kernel
theorem dX7_clapped_12 : decode cX7_clapped 12 = .ok (.ireturn, 1) := by decide +kernel
theorem dX7_clapped_13 : decode cX7_clapped 13 = .ok (.iload_n 1, 1) := by decide +kernel
theorem dX7_clapped_14 : decode cX7_clapped 14 = .ok (.iconst 1, 1) := by decide +kernel
theorem dX7_clapped_15 : decode cX7_clapped 15 = .ok (.bipush 99, 2) := by decide +kernel
theorem dX7_clapped_17 : decode cX7_clapped 17 = .ok (.invokestatic 69, 3) := by decide +kernel
theorem dX7_clapped_20 : decode cX7_clapped 20 = .ok (.ifCond .eq 14, 3) := by decide +kernel
theorem dX7_clapped_23 : decode cX7_clapped 23 = .ok (.iload_n 2, 1) := by decide +kernel
theorem dX7_clapped_24 : decode cX7_clapped 24 = .ok (.iconst 0, 1) := by decide +kernel
theorem dX7_clapped_25 : decode cX7_clapped 25 = .ok (.sipush 200, 3) := by decide +kernel
theorem dX7_clapped_28 : decode cX7_clapped 28 = .ok (.invokestatic 69, 3) := by decide +kernel
theorem dX7_clapped_31 : decode cX7_clapped 31 = .ok (.ifCond .ne 6, 3) := by decide +kernel
theorem dX7_clapped_34 : decode cX7_clapped 34 = .ok (.ldc 73, 2) := by decide +kernel
theorem dX7_clapped_36 : decode cX7_clapped 36 = .ok (.ireturn, 1) := by decide +kernel
theorem dX7_clapped_37 : decode cX7_clapped 37 = .ok (.aload_n 0, 1) := by decide +kernel
theorem dX7_clapped_38 : decode cX7_clapped 38 = .ok (.getfield 43, 3) := by decide +kernel
theorem dX7_clapped_41 : decode cX7_clapped 41 = .ok (.aload_n 0, 1) := by decide +kernel
theorem dX7_clapped_42 : decode cX7_clapped 42 = .ok (.getfield 26, 3) := by decide +kernel
theorem dX7_clapped_45 : decode cX7_clapped 45 = .ok (.iload_n 1, 1) := by decide +kernel
theorem dX7_clapped_46 : decode cX7_clapped 46 = .ok (.iload_n 2, 1) := by decide +kernel
theorem dX7_clapped_47 : decode cX7_clapped 47 = .ok (.invokevirtual 266, 3) := by decide +kernel
theorem dX7_clapped_50 : decode cX7_clapped 50 = .ok (.ireturn, 1) := by decide +kernel
theorem dX7_whoPushed_0 : decode cX7_whoPushed 0 = .ok (.aload_n 0, 1) := by decide +kernel
theorem dX7_whoPushed_1 : decode cX7_whoPushed 1 = .ok (.getfield 26, 3) := by decide +kernel
theorem dX7_whoPushed_4 : decode cX7_whoPushed 4 = .ok (.invokevirtual 143, 3) := by decide +kernel
theorem dX7_whoPushed_7 : decode cX7_whoPushed 7 = .ok (.ifCond .ne 6, 3) := by decide +kernel
theorem dX7_whoPushed_10 : decode cX7_whoPushed 10 = .ok (.ldc 142, 2) := by decide +kernel
theorem dX7_whoPushed_12 : decode cX7_whoPushed 12 = .ok (.ireturn, 1) := by decide +kernel
theorem dX7_whoPushed_13 : decode cX7_whoPushed 13 = .ok (.aload_n 0, 1) := by decide +kernel
theorem dX7_whoPushed_14 : decode cX7_whoPushed 14 = .ok (.getfield 10, 3) := by decide +kernel
theorem dX7_whoPushed_17 : decode cX7_whoPushed 17 = .ok (.iload_n 1, 1) := by decide +kernel
theorem dX7_whoPushed_18 : decode cX7_whoPushed 18 = .ok (.invokevirtual 65, 3) := by decide +kernel
theorem dX7_whoPushed_21 : decode cX7_whoPushed 21 = .ok (.ifCond .eq 12, 3) := by decide +kernel
theorem dX7_whoPushed_24 : decode cX7_whoPushed 24 = .ok (.iload_n 3, 1) := by decide +kernel
theorem dX7_whoPushed_25 : decode cX7_whoPushed 25 = .ok (.iconst 0, 1) := by decide +kernel
theorem dX7_whoPushed_26 : decode cX7_whoPushed 26 = .ok (.iconst 1, 1) := by decide +kernel
theorem dX7_whoPushed_27 : decode cX7_whoPushed 27 = .ok (.invokestatic 69, 3) := by decide +kernel
theorem dX7_whoPushed_30 : decode cX7_whoPushed 30 = .ok (.ifCond .ne 6, 3) := by decide +kernel
theorem dX7_whoPushed_33 : decode cX7_whoPushed 33 = .ok (.ldc 73, 2) := by decide +kernel
theorem dX7_whoPushed_35 : decode cX7_whoPushed 35 = .ok (.ireturn, 1) := by decide +kernel
theorem dX7_whoPushed_36 : decode cX7_whoPushed 36 = .ok (.aload_n 0, 1) := by decide +kernel
theorem dX7_whoPushed_37 : decode cX7_whoPushed 37 = .ok (.getfield 10, 3) := by decide +kernel
theorem dX7_whoPushed_40 : decode cX7_whoPushed 40 = .ok (.iload_n 1, 1) := by decide +kernel
theorem dX7_whoPushed_41 : decode cX7_whoPushed 41 = .ok (.invokevirtual 85, 3) := by decide +kernel
theorem dX7_whoPushed_44 : decode cX7_whoPushed 44 = .ok (.ifCond .eq 9, 3) := by decide +kernel
theorem dX7_whoPushed_47 : decode cX7_whoPushed 47 = .ok (.aload_n 0, 1) := by decide +kernel
theorem dX7_whoPushed_48 : decode cX7_whoPushed 48 = .ok (.iconst 1, 1) := by decide +kernel
theorem dX7_whoPushed_49 : decode cX7_whoPushed 49 = .ok (.invokevirtual 74, 3) := by decide +kernel
theorem dX7_whoPushed_52 : decode cX7_whoPushed 52 = .ok (.ireturn, 1) := by decide +kernel
theorem dX7_whoPushed_53 : decode cX7_whoPushed 53 = .ok (.aload_n 0, 1) := by decide +kernel
theorem dX7_whoPushed_54 : decode cX7_whoPushed 54 = .ok (.getfield 10, 3) := by decide +kernel
theorem dX7_whoPushed_57 : decode cX7_whoPushed 57 = .ok (.iload_n 1, 1) := by decide +kernel
theorem dX7_whoPushed_58 : decode cX7_whoPushed 58 = .ok (.iload_n 2, 1) := by decide +kernel
theorem dX7_whoPushed_59 : decode cX7_whoPushed 59 = .ok (.aload_n 0, 1) := by decide +kernel
theorem dX7_whoPushed_60 : decode cX7_whoPushed 60 = .ok (.getfield 26, 3) := by decide +kernel
theorem dX7_whoPushed_63 : decode cX7_whoPushed 63 = .ok (.getfield 133, 3) := by decide +kernel
theorem dX7_whoPushed_66 : decode cX7_whoPushed 66 = .ok (.invokevirtual 88, 3) := by decide +kernel
theorem dX7_whoPushed_69 : decode cX7_whoPushed 69 = .ok (.ifCond .ne 9, 3) := by decide +kernel
theorem dX7_whoPushed_72 : decode cX7_whoPushed 72 = .ok (.aload_n 0, 1) := by decide +kernel
theorem dX7_whoPushed_73 : decode cX7_whoPushed 73 = .ok (.iconst 2, 1) := by decide +kernel
theorem dX7_whoPushed_74 : decode cX7_whoPushed 74 = .ok (.invokevirtual 74, 3) := by decide +kernel
theorem dX7_whoPushed_77 : decode cX7_whoPushed 77 = .ok (.ireturn, 1) := by decide +kernel
theorem dX7_whoPushed_78 : decode cX7_whoPushed 78 = .ok (.aload_n 0, 1) := by decide +kernel
theorem dX7_whoPushed_79 : decode cX7_whoPushed 79 = .ok (.getfield 10, 3) := by decide +kernel
theorem dX7_whoPushed_82 : decode cX7_whoPushed 82 = .ok (.iload_n 1, 1) := by decide +kernel
theorem dX7_whoPushed_83 : decode cX7_whoPushed 83 = .ok (.iload_n 2, 1) := by decide +kernel
theorem dX7_whoPushed_84 : decode cX7_whoPushed 84 = .ok (.aload_n 0, 1) := by decide +kernel
theorem dX7_whoPushed_85 : decode cX7_whoPushed 85 = .ok (.getfield 26, 3) := by decide +kernel
theorem dX7_whoPushed_88 : decode cX7_whoPushed 88 = .ok (.getfield 133, 3) := by decide +kernel
theorem dX7_whoPushed_91 : decode cX7_whoPushed 91 = .ok (.invokevirtual 223, 3) := by decide +kernel
theorem dX7_whoPushed_94 : decode cX7_whoPushed 94 = .ok (.aload_n 0, 1) := by decide +kernel
theorem dX7_whoPushed_95 : decode cX7_whoPushed 95 = .ok (.getfield 43, 3) := by decide +kernel
theorem dX7_whoPushed_98 : decode cX7_whoPushed 98 = .ok (.aload_n 0, 1) := by decide +kernel
theorem dX7_whoPushed_99 : decode cX7_whoPushed 99 = .ok (.getfield 26, 3) := by decide +kernel
theorem dX7_whoPushed_102 : decode cX7_whoPushed 102 = .ok (.aload_n 0, 1) := by decide +kernel
theorem dX7_whoPushed_103 : decode cX7_whoPushed 103 = .ok (.getfield 10, 3) := by decide +kernel
theorem dX7_whoPushed_106 : decode cX7_whoPushed 106 = .ok (.getfield 226, 3) := by decide +kernel
theorem dX7_whoPushed_109 : decode cX7_whoPushed 109 = .ok (.invokevirtual 269, 3) := by decide +kernel
theorem dX7_whoPushed_112 : decode cX7_whoPushed 112 = .ok (.aload_n 0, 1) := by decide +kernel
theorem dX7_whoPushed_113 : decode cX7_whoPushed 113 = .ok (.iload_n 3, 1) := by decide +kernel
theorem dX7_whoPushed_114 : decode cX7_whoPushed 114 = .ok (.ifCond .ne 13, 3) := by decide +kernel
theorem dX7_whoPushed_117 : decode cX7_whoPushed 117 = .ok (.aload_n 0, 1) := by decide +kernel
theorem dX7_whoPushed_118 : decode cX7_whoPushed 118 = .ok (.getfield 43, 3) := by decide +kernel
theorem dX7_whoPushed_121 : decode cX7_whoPushed 121 = .ok (.getfield 213, 3) := by decide +kernel
theorem dX7_whoPushed_124 : decode cX7_whoPushed 124 = .ok (.goto 10, 3) := by decide +kernel
theorem dX7_whoPushed_127 : decode cX7_whoPushed 127 = .ok (.aload_n 0, 1) := by decide +kernel
theorem dX7_whoPushed_128 : decode cX7_whoPushed 128 = .ok (.getfield 43, 3) := by decide +kernel
theorem dX7_whoPushed_131 : decode cX7_whoPushed 131 = .ok (.getfield 216, 3) := by decide +kernel
theorem dX7_whoPushed_134 : decode cX7_whoPushed 134 = .ok (.invokevirtual 82, 3) := by decide +kernel
theorem dX7_whoPushed_137 : decode cX7_whoPushed 137 = .ok (.ireturn, 1) := by decide +kernel
theorem dX7_night_0 : decode cX7_night 0 = .ok (.aload_n 0, 1) := by decide +kernel
theorem dX7_night_1 : decode cX7_night 1 = .ok (.getfield 26, 3) := by decide +kernel
theorem dX7_night_4 : decode cX7_night 4 = .ok (.invokevirtual 143, 3) := by decide +kernel
theorem dX7_night_7 : decode cX7_night 7 = .ok (.ifCond .ne 6, 3) := by decide +kernel
theorem dX7_night_10 : decode cX7_night 10 = .ok (.ldc 142, 2) := by decide +kernel
theorem dX7_night_12 : decode cX7_night 12 = .ok (.ireturn, 1) := by decide +kernel
theorem dX7_night_13 : decode cX7_night 13 = .ok (.iload_n 1, 1) := by decide +kernel
theorem dX7_night_14 : decode cX7_night 14 = .ok (.iconst 0, 1) := by decide +kernel
theorem dX7_night_15 : decode cX7_night 15 = .ok (.bipush 100, 2) := by decide +kernel
theorem dX7_night_17 : decode cX7_night 17 = .ok (.invokestatic 69, 3) := by decide +kernel
theorem dX7_night_20 : decode cX7_night 20 = .ok (.ifCond .eq 23, 3) := by decide +kernel
theorem dX7_night_23 : decode cX7_night 23 = .ok (.iload_n 2, 1) := by decide +kernel
theorem dX7_night_24 : decode cX7_night 24 = .ok (.iconst 1, 1) := by decide +kernel
theorem dX7_night_25 : decode cX7_night 25 = .ok (.ldc_w 273, 3) := by decide +kernel
theorem dX7_night_28 : decode cX7_night 28 = .ok (.invokestatic 69, 3) := by decide +kernel
theorem dX7_night_31 : decode cX7_night 31 = .ok (.ifCond .eq 12, 3) := by decide +kernel
theorem dX7_night_34 : decode cX7_night 34 = .ok (.iload_n 3, 1) := by decide +kernel
theorem dX7_night_35 : decode cX7_night 35 = .ok (.iconst 0, 1) := by decide +kernel
theorem dX7_night_36 : decode cX7_night 36 = .ok (.iconst 1, 1) := by decide +kernel
theorem dX7_night_37 : decode cX7_night 37 = .ok (.invokestatic 69, 3) := by decide +kernel
theorem dX7_night_40 : decode cX7_night 40 = .ok (.ifCond .ne 6, 3) := by decide +kernel
theorem dX7_night_43 : decode cX7_night 43 = .ok (.ldc 73, 2) := by decide +kernel
theorem dX7_night_45 : decode cX7_night 45 = .ok (.ireturn, 1) := by decide +kernel
theorem dX7_night_46 : decode cX7_night 46 = .ok (.aload_n 0, 1) := by decide +kernel
theorem dX7_night_47 : decode cX7_night 47 = .ok (.getfield 43, 3) := by decide +kernel
theorem dX7_night_50 : decode cX7_night 50 = .ok (.aload_n 0, 1) := by decide +kernel
theorem dX7_night_51 : decode cX7_night 51 = .ok (.getfield 26, 3) := by decide +kernel
theorem dX7_night_54 : decode cX7_night 54 = .ok (.iload_n 1, 1) := by decide +kernel
theorem dX7_night_55 : decode cX7_night 55 = .ok (.iload_n 2, 1) := by decide +kernel
theorem dX7_night_56 : decode cX7_night 56 = .ok (.invokevirtual 274, 3) := by decide +kernel
theorem dX7_night_59 : decode cX7_night 59 = .ok (.iload_n 3, 1) := by decide +kernel
theorem dX7_night_60 : decode cX7_night 60 = .ok (.ifCond .ne 13, 3) := by decide +kernel
theorem dX7_night_63 : decode cX7_night 63 = .ok (.aload_n 0, 1) := by decide +kernel
theorem dX7_night_64 : decode cX7_night 64 = .ok (.getfield 43, 3) := by decide +kernel
theorem dX7_night_67 : decode cX7_night 67 = .ok (.getfield 213, 3) := by decide +kernel
theorem dX7_night_70 : decode cX7_night 70 = .ok (.goto 10, 3) := by decide +kernel
theorem dX7_night_73 : decode cX7_night 73 = .ok (.aload_n 0, 1) := by decide +kernel
theorem dX7_night_74 : decode cX7_night 74 = .ok (.getfield 43, 3) := by decide +kernel
theorem dX7_night_77 : decode cX7_night 77 = .ok (.getfield 216, 3) := by decide +kernel
theorem dX7_night_80 : decode cX7_night 80 = .ok (.ireturn, 1) := by decide +kernel
theorem dX7_image_0 : decode cX7_image 0 = .ok (.iload_n 1, 1) := by decide +kernel
theorem dX7_image_1 : decode cX7_image 1 = .ok (.iconst 0, 1) := by decide +kernel
theorem dX7_image_2 : decode cX7_image 2 = .ok (.iconst 1, 1) := by decide +kernel
theorem dX7_image_3 : decode cX7_image 3 = .ok (.invokestatic 69, 3) := by decide +kernel
theorem dX7_image_6 : decode cX7_image 6 = .ok (.ifCond .ne 6, 3) := by decide +kernel
theorem dX7_image_9 : decode cX7_image 9 = .ok (.ldc 73, 2) := by decide +kernel
theorem dX7_image_11 : decode cX7_image 11 = .ok (.ireturn, 1) := by decide +kernel
theorem dX7_image_12 : decode cX7_image 12 = .ok (.aload_n 0, 1) := by decide +kernel
theorem dX7_image_13 : decode cX7_image 13 = .ok (.getfield 26, 3) := by decide +kernel
theorem dX7_image_16 : decode cX7_image 16 = .ok (.invokevirtual 143, 3) := by decide +kernel
theorem dX7_image_19 : decode cX7_image 19 = .ok (.ifCond .ne 6, 3) := by decide +kernel
theorem dX7_image_22 : decode cX7_image 22 = .ok (.ldc 142, 2) := by decide +kernel
theorem dX7_image_24 : decode cX7_image 24 = .ok (.ireturn, 1) := by decide +kernel
theorem dX7_image_25 : decode cX7_image 25 = .ok (.aload_n 0, 1) := by decide +kernel
theorem dX7_image_26 : decode cX7_image 26 = .ok (.getfield 61, 3) := by decide +kernel
theorem dX7_image_29 : decode cX7_image 29 = .ok (.iload_n 1, 1) := by decide +kernel
theorem dX7_image_30 : decode cX7_image 30 = .ok (.aaload, 1) := by decide +kernel
theorem dX7_image_31 : decode cX7_image 31 = .ok (.aload_n 0, 1) := by decide +kernel
theorem dX7_image_32 : decode cX7_image 32 = .ok (.getfield 26, 3) := by decide +kernel
theorem dX7_image_35 : decode cX7_image 35 = .ok (.invokevirtual 127, 3) := by decide +kernel
theorem dX7_image_38 : decode cX7_image 38 = .ok (.iconst 1, 1) := by decide +kernel
theorem dX7_image_39 : decode cX7_image 39 = .ok (.ireturn, 1) := by decide +kernel
theorem dX7_restore_0 : decode cX7_restore 0 = .ok (.iload_n 1, 1) := by decide +kernel
theorem dX7_restore_1 : decode cX7_restore 1 = .ok (.iconst 0, 1) := by decide +kernel
theorem dX7_restore_2 : decode cX7_restore 2 = .ok (.iconst 1, 1) := by decide +kernel
theorem dX7_restore_3 : decode cX7_restore 3 = .ok (.invokestatic 69, 3) := by decide +kernel
theorem dX7_restore_6 : decode cX7_restore 6 = .ok (.ifCond .ne 6, 3) := by decide +kernel
theorem dX7_restore_9 : decode cX7_restore 9 = .ok (.ldc 73, 2) := by decide +kernel
theorem dX7_restore_11 : decode cX7_restore 11 = .ok (.ireturn, 1) := by decide +kernel
theorem dX7_restore_12 : decode cX7_restore 12 = .ok (.aload_n 0, 1) := by decide +kernel
theorem dX7_restore_13 : decode cX7_restore 13 = .ok (.getfield 61, 3) := by decide +kernel
theorem dX7_restore_16 : decode cX7_restore 16 = .ok (.iload_n 1, 1) := by decide +kernel
theorem dX7_restore_17 : decode cX7_restore 17 = .ok (.aaload, 1) := by decide +kernel
theorem dX7_restore_18 : decode cX7_restore 18 = .ok (.invokevirtual 143, 3) := by decide +kernel
theorem dX7_restore_21 : decode cX7_restore 21 = .ok (.ifCond .ne 6, 3) := by decide +kernel
theorem dX7_restore_24 : decode cX7_restore 24 = .ok (.ldc 142, 2) := by decide +kernel
theorem dX7_restore_26 : decode cX7_restore 26 = .ok (.ireturn, 1) := by decide +kernel
theorem dX7_restore_27 : decode cX7_restore 27 = .ok (.aload_n 0, 1) := by decide +kernel
theorem dX7_restore_28 : decode cX7_restore 28 = .ok (.getfield 26, 3) := by decide +kernel
theorem dX7_restore_31 : decode cX7_restore 31 = .ok (.aload_n 0, 1) := by decide +kernel
theorem dX7_restore_32 : decode cX7_restore 32 = .ok (.getfield 61, 3) := by decide +kernel
theorem dX7_restore_35 : decode cX7_restore 35 = .ok (.iload_n 1, 1) := by decide +kernel
theorem dX7_restore_36 : decode cX7_restore 36 = .ok (.aaload, 1) := by decide +kernel
theorem dX7_restore_37 : decode cX7_restore 37 = .ok (.invokevirtual 127, 3) := by decide +kernel
theorem dX7_restore_40 : decode cX7_restore 40 = .ok (.aload_n 0, 1) := by decide +kernel
theorem dX7_restore_41 : decode cX7_restore 41 = .ok (.getfield 36, 3) := by decide +kernel
theorem dX7_restore_44 : decode cX7_restore 44 = .ok (.invokevirtual 131, 3) := by decide +kernel
theorem dX7_restore_47 : decode cX7_restore 47 = .ok (.iconst 1, 1) := by decide +kernel
theorem dX7_restore_48 : decode cX7_restore 48 = .ok (.ireturn, 1) := by decide +kernel
theorem dX7_kind_0 : decode cX7_kind 0 = .ok (.aload_n 0, 1) := by decide +kernel
theorem dX7_kind_1 : decode cX7_kind 1 = .ok (.getfield 26, 3) := by decide +kernel
theorem dX7_kind_4 : decode cX7_kind 4 = .ok (.iload_n 1, 1) := by decide +kernel
theorem dX7_kind_5 : decode cX7_kind 5 = .ok (.invokevirtual 160, 3) := by decide +kernel
theorem dX7_kind_8 : decode cX7_kind 8 = .ok (.ifCond .eq 15, 3) := by decide +kernel
theorem dX7_kind_11 : decode cX7_kind 11 = .ok (.aload_n 0, 1) := by decide +kernel
theorem dX7_kind_12 : decode cX7_kind 12 = .ok (.getfield 26, 3) := by decide +kernel
theorem dX7_kind_15 : decode cX7_kind 15 = .ok (.getfield 246, 3) := by decide +kernel
theorem dX7_kind_18 : decode cX7_kind 18 = .ok (.iload_n 1, 1) := by decide +kernel
theorem dX7_kind_19 : decode cX7_kind 19 = .ok (.iaload, 1) := by decide +kernel
theorem dX7_kind_20 : decode cX7_kind 20 = .ok (.goto 5, 3) := by decide +kernel
theorem dX7_kind_23 : decode cX7_kind 23 = .ok (.ldc 73, 2) := by decide +kernel
theorem dX7_kind_25 : decode cX7_kind 25 = .ok (.ireturn, 1) := by decide +kernel
theorem dX7_as_0 : decode cX7_as 0 = .ok (.aload_n 0, 1) := by decide +kernel
theorem dX7_as_1 : decode cX7_as 1 = .ok (.getfield 26, 3) := by decide +kernel
theorem dX7_as_4 : decode cX7_as 4 = .ok (.iload_n 1, 1) := by decide +kernel
theorem dX7_as_5 : decode cX7_as 5 = .ok (.invokevirtual 160, 3) := by decide +kernel
theorem dX7_as_8 : decode cX7_as 8 = .ok (.ifCond .eq 12, 3) := by decide +kernel
theorem dX7_as_11 : decode cX7_as 11 = .ok (.iload_n 2, 1) := by decide +kernel
theorem dX7_as_12 : decode cX7_as 12 = .ok (.iconst 0, 1) := by decide +kernel
theorem dX7_as_13 : decode cX7_as 13 = .ok (.iconst 5, 1) := by decide +kernel
theorem dX7_as_14 : decode cX7_as 14 = .ok (.invokestatic 69, 3) := by decide +kernel
theorem dX7_as_17 : decode cX7_as 17 = .ok (.ifCond .ne 6, 3) := by decide +kernel
theorem dX7_as_20 : decode cX7_as 20 = .ok (.ldc 73, 2) := by decide +kernel
theorem dX7_as_22 : decode cX7_as 22 = .ok (.ireturn, 1) := by decide +kernel
theorem dX7_as_23 : decode cX7_as 23 = .ok (.aload_n 0, 1) := by decide +kernel
theorem dX7_as_24 : decode cX7_as 24 = .ok (.getfield 26, 3) := by decide +kernel
theorem dX7_as_27 : decode cX7_as 27 = .ok (.getfield 246, 3) := by decide +kernel
theorem dX7_as_30 : decode cX7_as 30 = .ok (.iload_n 1, 1) := by decide +kernel
theorem dX7_as_31 : decode cX7_as 31 = .ok (.iaload, 1) := by decide +kernel
theorem dX7_as_32 : decode cX7_as 32 = .ok (.iload_n 2, 1) := by decide +kernel
theorem dX7_as_33 : decode cX7_as 33 = .ok (.invokestatic 249, 3) := by decide +kernel
theorem dX7_as_36 : decode cX7_as 36 = .ok (.ifCond .ne 9, 3) := by decide +kernel
theorem dX7_as_39 : decode cX7_as 39 = .ok (.aload_n 0, 1) := by decide +kernel
theorem dX7_as_40 : decode cX7_as 40 = .ok (.iconst 3, 1) := by decide +kernel
theorem dX7_as_41 : decode cX7_as 41 = .ok (.invokevirtual 74, 3) := by decide +kernel
theorem dX7_as_44 : decode cX7_as 44 = .ok (.ireturn, 1) := by decide +kernel
theorem dX7_as_45 : decode cX7_as 45 = .ok (.aload_n 0, 1) := by decide +kernel
theorem dX7_as_46 : decode cX7_as 46 = .ok (.iload_n 1, 1) := by decide +kernel
theorem dX7_as_47 : decode cX7_as 47 = .ok (.invokevirtual 82, 3) := by decide +kernel
theorem dX7_as_50 : decode cX7_as 50 = .ok (.ireturn, 1) := by decide +kernel
theorem dX7_ask_0 : decode cX7_ask 0 = .ok (.aload_n 0, 1) := by decide +kernel
theorem dX7_ask_1 : decode cX7_ask 1 = .ok (.getfield 26, 3) := by decide +kernel
theorem dX7_ask_4 : decode cX7_ask 4 = .ok (.iload_n 1, 1) := by decide +kernel
theorem dX7_ask_5 : decode cX7_ask 5 = .ok (.invokevirtual 160, 3) := by decide +kernel
theorem dX7_ask_8 : decode cX7_ask 8 = .ok (.ifCond .eq 12, 3) := by decide +kernel
theorem dX7_ask_11 : decode cX7_ask 11 = .ok (.iload_n 2, 1) := by decide +kernel
theorem dX7_ask_12 : decode cX7_ask 12 = .ok (.iconst 0, 1) := by decide +kernel
theorem dX7_ask_13 : decode cX7_ask 13 = .ok (.iconst 1, 1) := by decide +kernel
theorem dX7_ask_14 : decode cX7_ask 14 = .ok (.invokestatic 69, 3) := by decide +kernel
theorem dX7_ask_17 : decode cX7_ask 17 = .ok (.ifCond .ne 6, 3) := by decide +kernel
theorem dX7_ask_20 : decode cX7_ask 20 = .ok (.ldc 73, 2) := by decide +kernel
theorem dX7_ask_22 : decode cX7_ask 22 = .ok (.ireturn, 1) := by decide +kernel
theorem dX7_ask_23 : decode cX7_ask 23 = .ok (.aload_n 0, 1) := by decide +kernel
theorem dX7_ask_24 : decode cX7_ask 24 = .ok (.getfield 57, 3) := by decide +kernel
theorem dX7_ask_27 : decode cX7_ask 27 = .ok (.aload_n 0, 1) := by decide +kernel
theorem dX7_ask_28 : decode cX7_ask 28 = .ok (.getfield 26, 3) := by decide +kernel
theorem dX7_ask_31 : decode cX7_ask 31 = .ok (.iload_n 1, 1) := by decide +kernel
theorem dX7_ask_32 : decode cX7_ask 32 = .ok (.iload_n 2, 1) := by decide +kernel
theorem dX7_ask_33 : decode cX7_ask 33 = .ok (.invokevirtual 278, 3) := by decide +kernel
theorem dX7_ask_36 : decode cX7_ask 36 = .ok (.ireturn, 1) := by decide +kernel
theorem dX7_trace_0 : decode cX7_trace 0 = .ok (.iload_n 1, 1) := by decide +kernel
theorem dX7_trace_1 : decode cX7_trace 1 = .ok (.iconst 0, 1) := by decide +kernel
theorem dX7_trace_2 : decode cX7_trace 2 = .ok (.aload_n 0, 1) := by decide +kernel
theorem dX7_trace_3 : decode cX7_trace 3 = .ok (.getfield 57, 3) := by decide +kernel
theorem dX7_trace_6 : decode cX7_trace 6 = .ok (.getfield 281, 3) := by decide +kernel
theorem dX7_trace_9 : decode cX7_trace 9 = .ok (.iconst 1, 1) := by decide +kernel
theorem dX7_trace_10 : decode cX7_trace 10 = .ok (.isub, 1) := by decide +kernel
theorem dX7_trace_11 : decode cX7_trace 11 = .ok (.invokestatic 69, 3) := by decide +kernel
theorem dX7_trace_14 : decode cX7_trace 14 = .ok (.ifCond .eq 15, 3) := by decide +kernel
theorem dX7_trace_17 : decode cX7_trace 17 = .ok (.aload_n 0, 1) := by decide +kernel
theorem dX7_trace_18 : decode cX7_trace 18 = .ok (.getfield 57, 3) := by decide +kernel
theorem dX7_trace_21 : decode cX7_trace 21 = .ok (.getfield 284, 3) := by decide +kernel
theorem dX7_trace_24 : decode cX7_trace 24 = .ok (.iload_n 1, 1) := by decide +kernel
theorem dX7_trace_25 : decode cX7_trace 25 = .ok (.iaload, 1) := by decide +kernel
theorem dX7_trace_26 : decode cX7_trace 26 = .ok (.goto 5, 3) := by decide +kernel
theorem dX7_trace_29 : decode cX7_trace 29 = .ok (.ldc 212, 2) := by decide +kernel
theorem dX7_trace_31 : decode cX7_trace 31 = .ok (.ireturn, 1) := by decide +kernel
theorem dX7_count_0 : decode cX7_count 0 = .ok (.iload_n 1, 1) := by decide +kernel
theorem dX7_count_1 : decode cX7_count 1 = .ok (.tableswitch 123 0 8 #[51, 59, 67, 75, 83, 91, 99, 107, 115], 51) := by decide +kernel
theorem dX7_count_52 : decode cX7_count 52 = .ok (.aload_n 0, 1) := by decide +kernel
theorem dX7_count_53 : decode cX7_count 53 = .ok (.getfield 10, 3) := by decide +kernel
theorem dX7_count_56 : decode cX7_count 56 = .ok (.invokevirtual 287, 3) := by decide +kernel
theorem dX7_count_59 : decode cX7_count 59 = .ok (.ireturn, 1) := by decide +kernel
theorem dX7_count_60 : decode cX7_count 60 = .ok (.aload_n 0, 1) := by decide +kernel
theorem dX7_count_61 : decode cX7_count 61 = .ok (.getfield 26, 3) := by decide +kernel
theorem dX7_count_64 : decode cX7_count 64 = .ok (.getfield 133, 3) := by decide +kernel
theorem dX7_count_67 : decode cX7_count 67 = .ok (.ireturn, 1) := by decide +kernel
theorem dX7_count_68 : decode cX7_count 68 = .ok (.aload_n 0, 1) := by decide +kernel
theorem dX7_count_69 : decode cX7_count 69 = .ok (.getfield 26, 3) := by decide +kernel
theorem dX7_count_72 : decode cX7_count 72 = .ok (.getfield 200, 3) := by decide +kernel
theorem dX7_count_75 : decode cX7_count 75 = .ok (.ireturn, 1) := by decide +kernel
theorem dX7_count_76 : decode cX7_count 76 = .ok (.aload_n 0, 1) := by decide +kernel
theorem dX7_count_77 : decode cX7_count 77 = .ok (.getfield 26, 3) := by decide +kernel
theorem dX7_count_80 : decode cX7_count 80 = .ok (.getfield 188, 3) := by decide +kernel
theorem dX7_count_83 : decode cX7_count 83 = .ok (.ireturn, 1) := by decide +kernel
theorem dX7_count_84 : decode cX7_count 84 = .ok (.aload_n 0, 1) := by decide +kernel
theorem dX7_count_85 : decode cX7_count 85 = .ok (.getfield 26, 3) := by decide +kernel
theorem dX7_count_88 : decode cX7_count 88 = .ok (.getfield 147, 3) := by decide +kernel
theorem dX7_count_91 : decode cX7_count 91 = .ok (.ireturn, 1) := by decide +kernel
theorem dX7_count_92 : decode cX7_count 92 = .ok (.aload_n 0, 1) := by decide +kernel
theorem dX7_count_93 : decode cX7_count 93 = .ok (.getfield 26, 3) := by decide +kernel
theorem dX7_count_96 : decode cX7_count 96 = .ok (.invokevirtual 156, 3) := by decide +kernel
theorem dX7_count_99 : decode cX7_count 99 = .ok (.ireturn, 1) := by decide +kernel
theorem dX7_count_100 : decode cX7_count 100 = .ok (.aload_n 0, 1) := by decide +kernel
theorem dX7_count_101 : decode cX7_count 101 = .ok (.getfield 26, 3) := by decide +kernel
theorem dX7_count_104 : decode cX7_count 104 = .ok (.getfield 178, 3) := by decide +kernel
theorem dX7_count_107 : decode cX7_count 107 = .ok (.ireturn, 1) := by decide +kernel
theorem dX7_count_108 : decode cX7_count 108 = .ok (.aload_n 0, 1) := by decide +kernel
theorem dX7_count_109 : decode cX7_count 109 = .ok (.getfield 36, 3) := by decide +kernel
theorem dX7_count_112 : decode cX7_count 112 = .ok (.getfield 139, 3) := by decide +kernel
theorem dX7_count_115 : decode cX7_count 115 = .ok (.ireturn, 1) := by decide +kernel
theorem dX7_count_116 : decode cX7_count 116 = .ok (.aload_n 0, 1) := by decide +kernel
theorem dX7_count_117 : decode cX7_count 117 = .ok (.getfield 19, 3) := by decide +kernel
theorem dX7_count_120 : decode cX7_count 120 = .ok (.getfield 108, 3) := by decide +kernel
theorem dX7_count_123 : decode cX7_count 123 = .ok (.ireturn, 1) := by decide +kernel
theorem dX7_count_124 : decode cX7_count 124 = .ok (.ldc 73, 2) := by decide +kernel
theorem dX7_count_126 : decode cX7_count 126 = .ok (.ireturn, 1) := by decide +kernel
theorem dX7_status_0 : decode cX7_status 0 = .ok (.aload_n 0, 1) := by decide +kernel
theorem dX7_status_1 : decode cX7_status 1 = .ok (.getfield 290, 3) := by decide +kernel
theorem dX7_status_4 : decode cX7_status 4 = .ok (.ireturn, 1) := by decide +kernel
theorem dX7_found_0 : decode cX7_found 0 = .ok (.aload_n 0, 1) := by decide +kernel
theorem dX7_found_1 : decode cX7_found 1 = .ok (.iload_n 1, 1) := by decide +kernel
theorem dX7_found_2 : decode cX7_found 2 = .ok (.putfield 290, 3) := by decide +kernel
theorem dX7_found_5 : decode cX7_found 5 = .ok (.ldc_w 293, 3) := by decide +kernel
theorem dX7_found_8 : decode cX7_found 8 = .ok (.iload_n 1, 1) := by decide +kernel
theorem dX7_found_9 : decode cX7_found 9 = .ok (.isub, 1) := by decide +kernel
theorem dX7_found_10 : decode cX7_found 10 = .ok (.ireturn, 1) := by decide +kernel
theorem dX7_withoutFinding_0 : decode cX7_withoutFinding 0 = .ok (.aload_n 0, 1) := by decide +kernel
theorem dX7_withoutFinding_1 : decode cX7_withoutFinding 1 = .ok (.iconst 0, 1) := by decide +kernel
theorem dX7_withoutFinding_2 : decode cX7_withoutFinding 2 = .ok (.putfield 290, 3) := by decide +kernel
theorem dX7_withoutFinding_5 : decode cX7_withoutFinding 5 = .ok (.iload_n 1, 1) := by decide +kernel
theorem dX7_withoutFinding_6 : decode cX7_withoutFinding 6 = .ok (.ireturn, 1) := by decide +kernel
theorem dX7_within_0 : decode cX7_within 0 = .ok (.iload_n 0, 1) := by decide +kernel
theorem dX7_within_1 : decode cX7_within 1 = .ok (.iload_n 1, 1) := by decide +kernel
theorem dX7_within_2 : decode cX7_within 2 = .ok (.if_icmp .lt 12, 3) := by decide +kernel
theorem dX7_within_5 : decode cX7_within 5 = .ok (.iload_n 0, 1) := by decide +kernel
theorem dX7_within_6 : decode cX7_within 6 = .ok (.iload_n 2, 1) := by decide +kernel
theorem dX7_within_7 : decode cX7_within 7 = .ok (.if_icmp .gt 7, 3) := by decide +kernel
theorem dX7_within_10 : decode cX7_within 10 = .ok (.iconst 1, 1) := by decide +kernel
theorem dX7_within_11 : decode cX7_within 11 = .ok (.goto 4, 3) := by decide +kernel
theorem dX7_within_14 : decode cX7_within 14 = .ok (.iconst 0, 1) := by decide +kernel
theorem dX7_within_15 : decode cX7_within 15 = .ok (.ireturn, 1) := by decide +kernel
theorem dX7_bounded_0 : decode cX7_bounded 0 = .ok (.iload_n 0, 1) := by decide +kernel
theorem dX7_bounded_1 : decode cX7_bounded 1 = .ok (.sipush 300, 3) := by decide +kernel
theorem dX7_bounded_4 : decode cX7_bounded 4 = .ok (.if_icmp .ge 9, 3) := by decide +kernel
theorem dX7_bounded_7 : decode cX7_bounded 7 = .ok (.sipush 300, 3) := by decide +kernel
theorem dX7_bounded_10 : decode cX7_bounded 10 = .ok (.goto 17, 3) := by decide +kernel
theorem dX7_bounded_13 : decode cX7_bounded 13 = .ok (.iload_n 0, 1) := by decide +kernel
theorem dX7_bounded_14 : decode cX7_bounded 14 = .ok (.sipush 2500, 3) := by decide +kernel
theorem dX7_bounded_17 : decode cX7_bounded 17 = .ok (.if_icmp .le 9, 3) := by decide +kernel
theorem dX7_bounded_20 : decode cX7_bounded 20 = .ok (.sipush 2500, 3) := by decide +kernel
theorem dX7_bounded_23 : decode cX7_bounded 23 = .ok (.goto 4, 3) := by decide +kernel
theorem dX7_bounded_26 : decode cX7_bounded 26 = .ok (.iload_n 0, 1) := by decide +kernel
theorem dX7_bounded_27 : decode cX7_bounded 27 = .ok (.ireturn, 1) := by decide +kernel
theorem dX7_isOf_0 : decode cX7_isOf 0 = .ok (.iload_n 1, 1) := by decide +kernel
theorem dX7_isOf_1 : decode cX7_isOf 1 = .ok (.ifCond .eq 8, 3) := by decide +kernel
theorem dX7_isOf_4 : decode cX7_isOf 4 = .ok (.iload_n 1, 1) := by decide +kernel
theorem dX7_isOf_5 : decode cX7_isOf 5 = .ok (.iload_n 0, 1) := by decide +kernel
theorem dX7_isOf_6 : decode cX7_isOf 6 = .ok (.if_icmp .ne 5, 3) := by decide +kernel
theorem dX7_isOf_9 : decode cX7_isOf 9 = .ok (.iconst 1, 1) := by decide +kernel
theorem dX7_isOf_10 : decode cX7_isOf 10 = .ok (.ireturn, 1) := by decide +kernel
theorem dX7_isOf_11 : decode cX7_isOf 11 = .ok (.iload_n 1, 1) := by decide +kernel
theorem dX7_isOf_12 : decode cX7_isOf 12 = .ok (.iconst 1, 1) := by decide +kernel
theorem dX7_isOf_13 : decode cX7_isOf 13 = .ok (.if_icmp .ne 19, 3) := by decide +kernel
theorem dX7_isOf_16 : decode cX7_isOf 16 = .ok (.iload_n 0, 1) := by decide +kernel
theorem dX7_isOf_17 : decode cX7_isOf 17 = .ok (.iconst 2, 1) := by decide +kernel
theorem dX7_isOf_18 : decode cX7_isOf 18 = .ok (.if_icmp .eq 8, 3) := by decide +kernel
theorem dX7_isOf_21 : decode cX7_isOf 21 = .ok (.iload_n 0, 1) := by decide +kernel
theorem dX7_isOf_22 : decode cX7_isOf 22 = .ok (.iconst 3, 1) := by decide +kernel
theorem dX7_isOf_23 : decode cX7_isOf 23 = .ok (.if_icmp .ne 7, 3) := by decide +kernel
theorem dX7_isOf_26 : decode cX7_isOf 26 = .ok (.iconst 1, 1) := by decide +kernel
theorem dX7_isOf_27 : decode cX7_isOf 27 = .ok (.goto 4, 3) := by decide +kernel
theorem dX7_isOf_30 : decode cX7_isOf 30 = .ok (.iconst 0, 1) := by decide +kernel
theorem dX7_isOf_31 : decode cX7_isOf 31 = .ok (.ireturn, 1) := by decide +kernel
theorem dX7_isOf_32 : decode cX7_isOf 32 = .ok (.iload_n 1, 1) := by decide +kernel
theorem dX7_isOf_33 : decode cX7_isOf 33 = .ok (.iconst 4, 1) := by decide +kernel
theorem dX7_isOf_34 : decode cX7_isOf 34 = .ok (.if_icmp .ne 12, 3) := by decide +kernel
theorem dX7_isOf_37 : decode cX7_isOf 37 = .ok (.iload_n 0, 1) := by decide +kernel
theorem dX7_isOf_38 : decode cX7_isOf 38 = .ok (.iconst 5, 1) := by decide +kernel
theorem dX7_isOf_39 : decode cX7_isOf 39 = .ok (.if_icmp .ne 7, 3) := by decide +kernel
theorem dX7_isOf_42 : decode cX7_isOf 42 = .ok (.iconst 1, 1) := by decide +kernel
theorem dX7_isOf_43 : decode cX7_isOf 43 = .ok (.goto 4, 3) := by decide +kernel
theorem dX7_isOf_46 : decode cX7_isOf 46 = .ok (.iconst 0, 1) := by decide +kernel
theorem dX7_isOf_47 : decode cX7_isOf 47 = .ok (.ireturn, 1) := by decide +kernel
end
section
theorem dX8_init_0 : decode cX8_init 0 = .ok (.aload_n 0, 1) := by decide +kernel
theorem dX8_init_1 : decode cX8_init 1 = .ok (.invokespecial 1, 3) := by decide +kernel
theorem dX8_init_4 : decode cX8_init 4 = .ok (.aload_n 0, 1) := by decide +kernel
theorem dX8_init_5 : decode cX8_init 5 = .ok (.sipush 1708, 3) := by decide +kernel
theorem dX8_init_8 : decode cX8_init 8 = .ok (.newarray .int, 2) := by decide +kernel
theorem dX8_init_10 : decode cX8_init 10 = .ok (.putfield 7, 3) := by decide +kernel
theorem dX8_init_13 : decode cX8_init 13 = .ok (.aload_n 0, 1) := by decide +kernel
theorem dX8_init_14 : decode cX8_init 14 = .ok (.iconst 2, 1) := by decide +kernel
theorem dX8_init_15 : decode cX8_init 15 = .ok (.newarray .boolean, 2) := by decide +kernel
theorem dX8_init_17 : decode cX8_init 17 = .ok (.putfield 13, 3) := by decide +kernel
theorem dX8_init_20 : decode cX8_init 20 = .ok (.aload_n 0, 1) := by decide +kernel
theorem dX8_init_21 : decode cX8_init 21 = .ok (.bipush 8, 2) := by decide +kernel
theorem dX8_init_23 : decode cX8_init 23 = .ok (.newarray .int, 2) := by decide +kernel
theorem dX8_init_25 : decode cX8_init 25 = .ok (.putfield 17, 3) := by decide +kernel
theorem dX8_init_28 : decode cX8_init 28 = .ok (.aload_n 0, 1) := by decide +kernel
theorem dX8_init_29 : decode cX8_init 29 = .ok (.bipush 8, 2) := by decide +kernel
theorem dX8_init_31 : decode cX8_init 31 = .ok (.newarray .int, 2) := by decide +kernel
theorem dX8_init_33 : decode cX8_init 33 = .ok (.putfield 20, 3) := by decide +kernel
theorem dX8_init_36 : decode cX8_init 36 = .ok (.aload_n 0, 1) := by decide +kernel
theorem dX8_init_37 : decode cX8_init 37 = .ok (.sipush 320, 3) := by decide +kernel
theorem dX8_init_40 : decode cX8_init 40 = .ok (.newarray .int, 2) := by decide +kernel
theorem dX8_init_42 : decode cX8_init 42 = .ok (.putfield 23, 3) := by decide +kernel
theorem dX8_init_45 : decode cX8_init 45 = .ok (.aload_n 0, 1) := by decide +kernel
theorem dX8_init_46 : decode cX8_init 46 = .ok (.bipush 40, 2) := by decide +kernel
theorem dX8_init_48 : decode cX8_init 48 = .ok (.newarray .int, 2) := by decide +kernel
theorem dX8_init_50 : decode cX8_init 50 = .ok (.putfield 26, 3) := by decide +kernel
theorem dX8_init_53 : decode cX8_init 53 = .ok (.aload_n 0, 1) := by decide +kernel
theorem dX8_init_54 : decode cX8_init 54 = .ok (.sipush 140, 3) := by decide +kernel
theorem dX8_init_57 : decode cX8_init 57 = .ok (.newarray .int, 2) := by decide +kernel
theorem dX8_init_59 : decode cX8_init 59 = .ok (.putfield 29, 3) := by decide +kernel
theorem dX8_init_62 : decode cX8_init 62 = .ok (.aload_n 0, 1) := by decide +kernel
theorem dX8_init_63 : decode cX8_init 63 = .ok (.iconst 5, 1) := by decide +kernel
theorem dX8_init_64 : decode cX8_init 64 = .ok (.newarray .int, 2) := by decide +kernel
theorem dX8_init_66 : decode cX8_init 66 = .ok (.putfield 32, 3) := by decide +kernel
theorem dX8_init_69 : decode cX8_init 69 = .ok (.aload_n 0, 1) := by decide +kernel
theorem dX8_init_70 : decode cX8_init 70 = .ok (.iconst 5, 1) := by decide +kernel
theorem dX8_init_71 : decode cX8_init 71 = .ok (.newarray .int, 2) := by decide +kernel
theorem dX8_init_73 : decode cX8_init 73 = .ok (.putfield 35, 3) := by decide +kernel
theorem dX8_init_76 : decode cX8_init 76 = .ok (.aload_n 0, 1) := by decide +kernel
theorem dX8_init_77 : decode cX8_init 77 = .ok (.iconst 5, 1) := by decide +kernel
theorem dX8_init_78 : decode cX8_init 78 = .ok (.newarray .int, 2) := by decide +kernel
theorem dX8_init_80 : decode cX8_init 80 = .ok (.putfield 38, 3) := by decide +kernel
theorem dX8_init_83 : decode cX8_init 83 = .ok (.aload_n 0, 1) := by decide +kernel
theorem dX8_init_84 : decode cX8_init 84 = .ok (.iconst 5, 1) := by decide +kernel
theorem dX8_init_85 : decode cX8_init 85 = .ok (.newarray .int, 2) := by decide +kernel
theorem dX8_init_87 : decode cX8_init 87 = .ok (.putfield 41, 3) := by decide +kernel
theorem dX8_init_90 : decode cX8_init 90 = .ok (.aload_n 0, 1) := by decide +kernel
theorem dX8_init_91 : decode cX8_init 91 = .ok (.bipush 25, 2) := by decide +kernel
theorem dX8_init_93 : decode cX8_init 93 = .ok (.newarray .int, 2) := by decide +kernel
theorem dX8_init_95 : decode cX8_init 95 = .ok (.putfield 44, 3) := by decide +kernel
theorem dX8_init_98 : decode cX8_init 98 = .ok (.aload_n 0, 1) := by decide +kernel
theorem dX8_init_99 : decode cX8_init 99 = .ok (.sipush 1206, 3) := by decide +kernel
theorem dX8_init_102 : decode cX8_init 102 = .ok (.newarray .int, 2) := by decide +kernel
theorem dX8_init_104 : decode cX8_init 104 = .ok (.putfield 47, 3) := by decide +kernel
theorem dX8_init_107 : decode cX8_init 107 = .ok (.aload_n 0, 1) := by decide +kernel
theorem dX8_init_108 : decode cX8_init 108 = .ok (.bipush 16, 2) := by decide +kernel
theorem dX8_init_110 : decode cX8_init 110 = .ok (.newarray .int, 2) := by decide +kernel
theorem dX8_init_112 : decode cX8_init 112 = .ok (.putfield 50, 3) := by decide +kernel
theorem dX8_init_115 : decode cX8_init 115 = .ok (.iconst 0, 1) := by decide +kernel
theorem dX8_init_116 : decode cX8_init 116 = .ok (.istore_n 1, 1) := by decide +kernel
theorem dX8_init_117 : decode cX8_init 117 = .ok (.iload_n 1, 1) := by decide +kernel
theorem dX8_init_118 : decode cX8_init 118 = .ok (.bipush 8, 2) := by decide +kernel
theorem dX8_init_120 : decode cX8_init 120 = .ok (.if_icmp .ge 16, 3) := by decide +kernel
theorem dX8_init_123 : decode cX8_init 123 = .ok (.aload_n 0, 1) := by decide +kernel
theorem dX8_init_124 : decode cX8_init 124 = .ok (.getfield 17, 3) := by decide +kernel
theorem dX8_init_127 : decode cX8_init 127 = .ok (.iload_n 1, 1) := by decide +kernel
theorem dX8_init_128 : decode cX8_init 128 = .ok (.iconst (-1), 1) := by decide +kernel
theorem dX8_init_129 : decode cX8_init 129 = .ok (.iastore, 1) := by decide +kernel
theorem dX8_init_130 : decode cX8_init 130 = .ok (.iinc 1 1, 3) := by decide +kernel
theorem dX8_init_133 : decode cX8_init 133 = .ok (.goto (-16), 3) := by decide +kernel
theorem dX8_init_136 : decode cX8_init 136 = .ok (.return_, 1) := by decide +kernel
theorem dX8_in_0 : decode cX8_in 0 = .ok (.lload_n 0, 1) := by decide +kernel
theorem dX8_in_1 : decode cX8_in 1 = .ok (.lload_n 2, 1) := by decide +kernel
theorem dX8_in_2 : decode cX8_in 2 = .ok (.lcmp, 1) := by decide +kernel
theorem dX8_in_3 : decode cX8_in 3 = .ok (.ifCond .lt 14, 3) := by decide +kernel
theorem dX8_in_6 : decode cX8_in 6 = .ok (.lload_n 0, 1) := by decide +kernel
theorem dX8_in_7 : decode cX8_in 7 = .ok (.lload 4, 2) := by decide +kernel
theorem dX8_in_9 : decode cX8_in 9 = .ok (.lcmp, 1) := by decide +kernel
theorem dX8_in_10 : decode cX8_in 10 = .ok (.ifCond .gt 7, 3) := by decide +kernel
theorem dX8_in_13 : decode cX8_in 13 = .ok (.iconst 1, 1) := by decide +kernel
theorem dX8_in_14 : decode cX8_in 14 = .ok (.goto 4, 3) := by decide +kernel
theorem dX8_in_17 : decode cX8_in 17 = .ok (.iconst 0, 1) := by decide +kernel
theorem dX8_in_18 : decode cX8_in 18 = .ok (.ireturn, 1) := by decide +kernel
theorem dX8_plain_0 : decode cX8_plain 0 = .ok (.iload_n 0, 1) := by decide +kernel
theorem dX8_plain_1 : decode cX8_plain 1 = .ok (.ifCond .ge 8, 3) := by decide +kernel
theorem dX8_plain_4 : decode cX8_plain 4 = .ok (.iload_n 0, 1) := by decide +kernel
theorem dX8_plain_5 : decode cX8_plain 5 = .ok (.ineg, 1) := by decide +kernel
theorem dX8_plain_6 : decode cX8_plain 6 = .ok (.goto 4, 3) := by decide +kernel
theorem dX8_plain_9 : decode cX8_plain 9 = .ok (.iload_n 0, 1) := by decide +kernel
theorem dX8_plain_10 : decode cX8_plain 10 = .ok (.ireturn, 1) := by decide +kernel
theorem dX8_bound_0 : decode cX8_bound 0 = .ok (.iload_n 0, 1) := by decide +kernel
theorem dX8_bound_1 : decode cX8_bound 1 = .ok (.sipush 300, 3) := by decide +kernel
theorem dX8_bound_4 : decode cX8_bound 4 = .ok (.if_icmp .ge 9, 3) := by decide +kernel
theorem dX8_bound_7 : decode cX8_bound 7 = .ok (.sipush 300, 3) := by decide +kernel
theorem dX8_bound_10 : decode cX8_bound 10 = .ok (.goto 17, 3) := by decide +kernel
theorem dX8_bound_13 : decode cX8_bound 13 = .ok (.iload_n 0, 1) := by decide +kernel
theorem dX8_bound_14 : decode cX8_bound 14 = .ok (.sipush 2500, 3) := by decide +kernel
theorem dX8_bound_17 : decode cX8_bound 17 = .ok (.if_icmp .le 9, 3) := by decide +kernel
theorem dX8_bound_20 : decode cX8_bound 20 = .ok (.sipush 2500, 3) := by decide +kernel
theorem dX8_bound_23 : decode cX8_bound 23 = .ok (.goto 4, 3) := by decide +kernel
theorem dX8_bound_26 : decode cX8_bound 26 = .ok (.iload_n 0, 1) := by decide +kernel
theorem dX8_bound_27 : decode cX8_bound 27 = .ok (.ireturn, 1) := by decide +kernel
theorem dX8_found_0 : decode cX8_found 0 = .ok (.aload_n 0, 1) := by decide +kernel
theorem dX8_found_1 : decode cX8_found 1 = .ok (.iload_n 1, 1) := by decide +kernel
theorem dX8_found_2 : decode cX8_found 2 = .ok (.putfield 53, 3) := by decide +kernel
theorem dX8_found_5 : decode cX8_found 5 = .ok (.ldc 57, 2) := by decide +kernel
theorem dX8_found_7 : decode cX8_found 7 = .ok (.iload_n 1, 1) := by decide +kernel
theorem dX8_found_8 : decode cX8_found 8 = .ok (.isub, 1) := by decide +kernel
theorem dX8_found_9 : decode cX8_found 9 = .ok (.ireturn, 1) := by decide +kernel
theorem dX8_well_0 : decode cX8_well 0 = .ok (.aload_n 0, 1) := by decide +kernel
theorem dX8_well_1 : decode cX8_well 1 = .ok (.iconst 0, 1) := by decide +kernel
theorem dX8_well_2 : decode cX8_well 2 = .ok (.putfield 53, 3) := by decide +kernel
theorem dX8_well_5 : decode cX8_well 5 = .ok (.iload_n 1, 1) := by decide +kernel
theorem dX8_well_6 : decode cX8_well 6 = .ok (.ireturn, 1) := by decide +kernel
theorem dX8_isRow_0 : decode cX8_isRow 0 = .ok (.iload_n 0, 1) := by decide +kernel
theorem dX8_isRow_1 : decode cX8_isRow 1 = .ok (.i2l, 1) := by decide +kernel
theorem dX8_isRow_2 : decode cX8_isRow 2 = .ok (.lconst 0, 1) := by decide +kernel
theorem dX8_isRow_3 : decode cX8_isRow 3 = .ok (.ldc2_w 58, 3) := by decide +kernel
theorem dX8_isRow_6 : decode cX8_isRow 6 = .ok (.invokestatic 60, 3) := by decide +kernel
theorem dX8_isRow_9 : decode cX8_isRow 9 = .ok (.ireturn, 1) := by decide +kernel
theorem dX8_row_0 : decode cX8_row 0 = .ok (.iload_n 1, 1) := by decide +kernel
theorem dX8_row_1 : decode cX8_row 1 = .ok (.invokestatic 64, 3) := by decide +kernel
theorem dX8_row_4 : decode cX8_row 4 = .ok (.ifCond .eq 21, 3) := by decide +kernel
theorem dX8_row_7 : decode cX8_row 7 = .ok (.iload_n 2, 1) := by decide +kernel
theorem dX8_row_8 : decode cX8_row 8 = .ok (.i2l, 1) := by decide +kernel
theorem dX8_row_9 : decode cX8_row 9 = .ok (.lconst 0, 1) := by decide +kernel
theorem dX8_row_10 : decode cX8_row 10 = .ok (.ldc2_w 68, 3) := by decide +kernel
theorem dX8_row_13 : decode cX8_row 13 = .ok (.invokestatic 60, 3) := by decide +kernel
theorem dX8_row_16 : decode cX8_row 16 = .ok (.ifCond .eq 9, 3) := by decide +kernel
theorem dX8_row_19 : decode cX8_row 19 = .ok (.iload_n 3, 1) := by decide +kernel
theorem dX8_row_20 : decode cX8_row 20 = .ok (.bipush 40, 2) := by decide +kernel
theorem dX8_row_22 : decode cX8_row 22 = .ok (.if_icmp .le 6, 3) := by decide +kernel
theorem dX8_row_25 : decode cX8_row 25 = .ok (.ldc 70, 2) := by decide +kernel
theorem dX8_row_27 : decode cX8_row 27 = .ok (.ireturn, 1) := by decide +kernel
theorem dX8_row_28 : decode cX8_row 28 = .ok (.iload_n 3, 1) := by decide +kernel
theorem dX8_row_29 : decode cX8_row 29 = .ok (.ifCond .ge 9, 3) := by decide +kernel
theorem dX8_row_32 : decode cX8_row 32 = .ok (.aload_n 0, 1) := by decide +kernel
theorem dX8_row_33 : decode cX8_row 33 = .ok (.iconst 4, 1) := by decide +kernel
theorem dX8_row_34 : decode cX8_row 34 = .ok (.invokevirtual 71, 3) := by decide +kernel
theorem dX8_row_37 : decode cX8_row 37 = .ok (.ireturn, 1) := by decide +kernel
theorem dX8_row_38 : decode cX8_row 38 = .ok (.aload_n 0, 1) := by decide +kernel
theorem dX8_row_39 : decode cX8_row 39 = .ok (.getfield 17, 3) := by decide +kernel
theorem dX8_row_42 : decode cX8_row 42 = .ok (.iload_n 1, 1) := by decide +kernel
theorem dX8_row_43 : decode cX8_row 43 = .ok (.iload_n 2, 1) := by decide +kernel
theorem dX8_row_44 : decode cX8_row 44 = .ok (.iastore, 1) := by decide +kernel
theorem dX8_row_45 : decode cX8_row 45 = .ok (.aload_n 0, 1) := by decide +kernel
theorem dX8_row_46 : decode cX8_row 46 = .ok (.getfield 20, 3) := by decide +kernel
theorem dX8_row_49 : decode cX8_row 49 = .ok (.iload_n 1, 1) := by decide +kernel
theorem dX8_row_50 : decode cX8_row 50 = .ok (.iload_n 3, 1) := by decide +kernel
theorem dX8_row_51 : decode cX8_row 51 = .ok (.iastore, 1) := by decide +kernel
theorem dX8_row_52 : decode cX8_row 52 = .ok (.iconst 0, 1) := by decide +kernel
theorem dX8_row_53 : decode cX8_row 53 = .ok (.istore 4, 2) := by decide +kernel
theorem dX8_row_55 : decode cX8_row 55 = .ok (.iload 4, 2) := by decide +kernel
theorem dX8_row_57 : decode cX8_row 57 = .ok (.bipush 40, 2) := by decide +kernel
theorem dX8_row_59 : decode cX8_row 59 = .ok (.if_icmp .ge 22, 3) := by decide +kernel
theorem dX8_row_62 : decode cX8_row 62 = .ok (.aload_n 0, 1) := by decide +kernel
theorem dX8_row_63 : decode cX8_row 63 = .ok (.getfield 23, 3) := by decide +kernel
theorem dX8_row_66 : decode cX8_row 66 = .ok (.bipush 40, 2) := by decide +kernel
theorem dX8_row_68 : decode cX8_row 68 = .ok (.iload_n 1, 1) := by decide +kernel
theorem dX8_row_69 : decode cX8_row 69 = .ok (.imul, 1) := by decide +kernel
theorem dX8_row_70 : decode cX8_row 70 = .ok (.iload 4, 2) := by decide +kernel
theorem dX8_row_72 : decode cX8_row 72 = .ok (.iadd, 1) := by decide +kernel
theorem dX8_row_73 : decode cX8_row 73 = .ok (.iconst 0, 1) := by decide +kernel
theorem dX8_row_74 : decode cX8_row 74 = .ok (.iastore, 1) := by decide +kernel
theorem dX8_row_75 : decode cX8_row 75 = .ok (.iinc 4 1, 3) := by decide +kernel
theorem dX8_row_78 : decode cX8_row 78 = .ok (.goto (-23), 3) := by decide +kernel
theorem dX8_row_81 : decode cX8_row 81 = .ok (.aload_n 0, 1) := by decide +kernel
theorem dX8_row_82 : decode cX8_row 82 = .ok (.iload_n 3, 1) := by decide +kernel
theorem dX8_row_83 : decode cX8_row 83 = .ok (.invokevirtual 75, 3) := by decide +kernel
theorem dX8_row_86 : decode cX8_row 86 = .ok (.ireturn, 1) := by decide +kernel
theorem dX8_cutTo_0 : decode cX8_cutTo 0 = .ok (.iload_n 0, 1) := by decide +kernel
theorem dX8_cutTo_1 : decode cX8_cutTo 1 = .ok (.ifCond .ne 8, 3) := by decide +kernel
theorem dX8_cutTo_4 : decode cX8_cutTo 4 = .ok (.iload_n 1, 1) := by decide +kernel
theorem dX8_cutTo_5 : decode cX8_cutTo 5 = .ok (.i2b, 1) := by decide +kernel
theorem dX8_cutTo_6 : decode cX8_cutTo 6 = .ok (.goto 14, 3) := by decide +kernel
theorem dX8_cutTo_9 : decode cX8_cutTo 9 = .ok (.iload_n 0, 1) := by decide +kernel
theorem dX8_cutTo_10 : decode cX8_cutTo 10 = .ok (.iconst 1, 1) := by decide +kernel
theorem dX8_cutTo_11 : decode cX8_cutTo 11 = .ok (.if_icmp .ne 8, 3) := by decide +kernel
theorem dX8_cutTo_14 : decode cX8_cutTo 14 = .ok (.iload_n 1, 1) := by decide +kernel
theorem dX8_cutTo_15 : decode cX8_cutTo 15 = .ok (.i2s, 1) := by decide +kernel
theorem dX8_cutTo_16 : decode cX8_cutTo 16 = .ok (.goto 4, 3) := by decide +kernel
theorem dX8_cutTo_19 : decode cX8_cutTo 19 = .ok (.iload_n 1, 1) := by decide +kernel
theorem dX8_cutTo_20 : decode cX8_cutTo 20 = .ok (.ireturn, 1) := by decide +kernel
theorem dX8_against_0 : decode cX8_against 0 = .ok (.aload_n 0, 1) := by decide +kernel
theorem dX8_against_1 : decode cX8_against 1 = .ok (.getfield 17, 3) := by decide +kernel
theorem dX8_against_4 : decode cX8_against 4 = .ok (.iload_n 1, 1) := by decide +kernel
theorem dX8_against_5 : decode cX8_against 5 = .ok (.iaload, 1) := by decide +kernel
theorem dX8_against_6 : decode cX8_against 6 = .ok (.ifCond .ge 7, 3) := by decide +kernel
theorem dX8_against_9 : decode cX8_against 9 = .ok (.iconst 1, 1) := by decide +kernel
theorem dX8_against_10 : decode cX8_against 10 = .ok (.goto 32, 3) := by decide +kernel
theorem dX8_against_13 : decode cX8_against 13 = .ok (.iload_n 2, 1) := by decide +kernel
theorem dX8_against_14 : decode cX8_against 14 = .ok (.ifCond .lt 23, 3) := by decide +kernel
theorem dX8_against_17 : decode cX8_against 17 = .ok (.iload_n 3, 1) := by decide +kernel
theorem dX8_against_18 : decode cX8_against 18 = .ok (.ifCond .lt 19, 3) := by decide +kernel
theorem dX8_against_21 : decode cX8_against 21 = .ok (.iload_n 2, 1) := by decide +kernel
theorem dX8_against_22 : decode cX8_against 22 = .ok (.i2l, 1) := by decide +kernel
theorem dX8_against_23 : decode cX8_against 23 = .ok (.iload_n 3, 1) := by decide +kernel
theorem dX8_against_24 : decode cX8_against 24 = .ok (.i2l, 1) := by decide +kernel
theorem dX8_against_25 : decode cX8_against 25 = .ok (.ladd, 1) := by decide +kernel
theorem dX8_against_26 : decode cX8_against 26 = .ok (.aload_n 0, 1) := by decide +kernel
theorem dX8_against_27 : decode cX8_against 27 = .ok (.getfield 20, 3) := by decide +kernel
theorem dX8_against_30 : decode cX8_against 30 = .ok (.iload_n 1, 1) := by decide +kernel
theorem dX8_against_31 : decode cX8_against 31 = .ok (.iaload, 1) := by decide +kernel
theorem dX8_against_32 : decode cX8_against 32 = .ok (.i2l, 1) := by decide +kernel
theorem dX8_against_33 : decode cX8_against 33 = .ok (.lcmp, 1) := by decide +kernel
theorem dX8_against_34 : decode cX8_against 34 = .ok (.ifCond .le 7, 3) := by decide +kernel
theorem dX8_against_37 : decode cX8_against 37 = .ok (.iconst 2, 1) := by decide +kernel
theorem dX8_against_38 : decode cX8_against 38 = .ok (.goto 4, 3) := by decide +kernel
theorem dX8_against_41 : decode cX8_against 41 = .ok (.iconst 0, 1) := by decide +kernel
theorem dX8_against_42 : decode cX8_against 42 = .ok (.ireturn, 1) := by decide +kernel
theorem dX8_set_0 : decode cX8_set 0 = .ok (.iload_n 1, 1) := by decide +kernel
theorem dX8_set_1 : decode cX8_set 1 = .ok (.invokestatic 64, 3) := by decide +kernel
theorem dX8_set_4 : decode cX8_set 4 = .ok (.ifCond .ne 6, 3) := by decide +kernel
theorem dX8_set_7 : decode cX8_set 7 = .ok (.ldc 70, 2) := by decide +kernel
theorem dX8_set_9 : decode cX8_set 9 = .ok (.ireturn, 1) := by decide +kernel
theorem dX8_set_10 : decode cX8_set 10 = .ok (.aload_n 0, 1) := by decide +kernel
theorem dX8_set_11 : decode cX8_set 11 = .ok (.iload_n 1, 1) := by decide +kernel
theorem dX8_set_12 : decode cX8_set 12 = .ok (.iload_n 2, 1) := by decide +kernel
theorem dX8_set_13 : decode cX8_set 13 = .ok (.iconst 1, 1) := by decide +kernel
theorem dX8_set_14 : decode cX8_set 14 = .ok (.invokevirtual 78, 3) := by decide +kernel
theorem dX8_set_17 : decode cX8_set 17 = .ok (.istore 4, 2) := by decide +kernel
theorem dX8_set_19 : decode cX8_set 19 = .ok (.iload 4, 2) := by decide +kernel
theorem dX8_set_21 : decode cX8_set 21 = .ok (.ifCond .le 10, 3) := by decide +kernel
theorem dX8_set_24 : decode cX8_set 24 = .ok (.aload_n 0, 1) := by decide +kernel
theorem dX8_set_25 : decode cX8_set 25 = .ok (.iload 4, 2) := by decide +kernel
theorem dX8_set_27 : decode cX8_set 27 = .ok (.invokevirtual 71, 3) := by decide +kernel
theorem dX8_set_30 : decode cX8_set 30 = .ok (.ireturn, 1) := by decide +kernel
theorem dX8_set_31 : decode cX8_set 31 = .ok (.aload_n 0, 1) := by decide +kernel
theorem dX8_set_32 : decode cX8_set 32 = .ok (.getfield 23, 3) := by decide +kernel
theorem dX8_set_35 : decode cX8_set 35 = .ok (.bipush 40, 2) := by decide +kernel
theorem dX8_set_37 : decode cX8_set 37 = .ok (.iload_n 1, 1) := by decide +kernel
theorem dX8_set_38 : decode cX8_set 38 = .ok (.imul, 1) := by decide +kernel
theorem dX8_set_39 : decode cX8_set 39 = .ok (.iload_n 2, 1) := by decide +kernel
theorem dX8_set_40 : decode cX8_set 40 = .ok (.iadd, 1) := by decide +kernel
theorem dX8_set_41 : decode cX8_set 41 = .ok (.aload_n 0, 1) := by decide +kernel
theorem dX8_set_42 : decode cX8_set 42 = .ok (.getfield 17, 3) := by decide +kernel
theorem dX8_set_45 : decode cX8_set 45 = .ok (.iload_n 1, 1) := by decide +kernel
theorem dX8_set_46 : decode cX8_set 46 = .ok (.iaload, 1) := by decide +kernel
theorem dX8_set_47 : decode cX8_set 47 = .ok (.iload_n 3, 1) := by decide +kernel
theorem dX8_set_48 : decode cX8_set 48 = .ok (.invokestatic 82, 3) := by decide +kernel
theorem dX8_set_51 : decode cX8_set 51 = .ok (.iastore, 1) := by decide +kernel
theorem dX8_set_52 : decode cX8_set 52 = .ok (.aload_n 0, 1) := by decide +kernel
theorem dX8_set_53 : decode cX8_set 53 = .ok (.aload_n 0, 1) := by decide +kernel
theorem dX8_set_54 : decode cX8_set 54 = .ok (.getfield 23, 3) := by decide +kernel
theorem dX8_set_57 : decode cX8_set 57 = .ok (.bipush 40, 2) := by decide +kernel
theorem dX8_set_59 : decode cX8_set 59 = .ok (.iload_n 1, 1) := by decide +kernel
theorem dX8_set_60 : decode cX8_set 60 = .ok (.imul, 1) := by decide +kernel
theorem dX8_set_61 : decode cX8_set 61 = .ok (.iload_n 2, 1) := by decide +kernel
theorem dX8_set_62 : decode cX8_set 62 = .ok (.iadd, 1) := by decide +kernel
theorem dX8_set_63 : decode cX8_set 63 = .ok (.iaload, 1) := by decide +kernel
theorem dX8_set_64 : decode cX8_set 64 = .ok (.invokevirtual 75, 3) := by decide +kernel
theorem dX8_set_67 : decode cX8_set 67 = .ok (.ireturn, 1) := by decide +kernel
theorem dX8_copy_0 : decode cX8_copy 0 = .ok (.iload_n 1, 1) := by decide +kernel
theorem dX8_copy_1 : decode cX8_copy 1 = .ok (.invokestatic 64, 3) := by decide +kernel
theorem dX8_copy_4 : decode cX8_copy 4 = .ok (.ifCond .eq 10, 3) := by decide +kernel
theorem dX8_copy_7 : decode cX8_copy 7 = .ok (.iload_n 3, 1) := by decide +kernel
theorem dX8_copy_8 : decode cX8_copy 8 = .ok (.invokestatic 64, 3) := by decide +kernel
theorem dX8_copy_11 : decode cX8_copy 11 = .ok (.ifCond .ne 6, 3) := by decide +kernel
theorem dX8_copy_14 : decode cX8_copy 14 = .ok (.ldc 70, 2) := by decide +kernel
theorem dX8_copy_16 : decode cX8_copy 16 = .ok (.ireturn, 1) := by decide +kernel
theorem dX8_copy_17 : decode cX8_copy 17 = .ok (.aload_n 0, 1) := by decide +kernel
theorem dX8_copy_18 : decode cX8_copy 18 = .ok (.getfield 17, 3) := by decide +kernel
theorem dX8_copy_21 : decode cX8_copy 21 = .ok (.iload_n 1, 1) := by decide +kernel
theorem dX8_copy_22 : decode cX8_copy 22 = .ok (.iaload, 1) := by decide +kernel
theorem dX8_copy_23 : decode cX8_copy 23 = .ok (.ifCond .lt 12, 3) := by decide +kernel
theorem dX8_copy_26 : decode cX8_copy 26 = .ok (.aload_n 0, 1) := by decide +kernel
theorem dX8_copy_27 : decode cX8_copy 27 = .ok (.getfield 17, 3) := by decide +kernel
theorem dX8_copy_30 : decode cX8_copy 30 = .ok (.iload_n 3, 1) := by decide +kernel
theorem dX8_copy_31 : decode cX8_copy 31 = .ok (.iaload, 1) := by decide +kernel
theorem dX8_copy_32 : decode cX8_copy 32 = .ok (.ifCond .ge 9, 3) := by decide +kernel
theorem dX8_copy_35 : decode cX8_copy 35 = .ok (.aload_n 0, 1) := by decide +kernel
theorem dX8_copy_36 : decode cX8_copy 36 = .ok (.iconst 1, 1) := by decide +kernel
theorem dX8_copy_37 : decode cX8_copy 37 = .ok (.invokevirtual 71, 3) := by decide +kernel
theorem dX8_copy_40 : decode cX8_copy 40 = .ok (.ireturn, 1) := by decide +kernel
theorem dX8_copy_41 : decode cX8_copy 41 = .ok (.aload_n 0, 1) := by decide +kernel
theorem dX8_copy_42 : decode cX8_copy 42 = .ok (.getfield 17, 3) := by decide +kernel
theorem dX8_copy_45 : decode cX8_copy 45 = .ok (.iload_n 1, 1) := by decide +kernel
theorem dX8_copy_46 : decode cX8_copy 46 = .ok (.iaload, 1) := by decide +kernel
theorem dX8_copy_47 : decode cX8_copy 47 = .ok (.aload_n 0, 1) := by decide +kernel
theorem dX8_copy_48 : decode cX8_copy 48 = .ok (.getfield 17, 3) := by decide +kernel
theorem dX8_copy_51 : decode cX8_copy 51 = .ok (.iload_n 3, 1) := by decide +kernel
theorem dX8_copy_52 : decode cX8_copy 52 = .ok (.iaload, 1) := by decide +kernel
theorem dX8_copy_53 : decode cX8_copy 53 = .ok (.if_icmp .eq 9, 3) := by decide +kernel
theorem dX8_copy_56 : decode cX8_copy 56 = .ok (.aload_n 0, 1) := by decide +kernel
theorem dX8_copy_57 : decode cX8_copy 57 = .ok (.iconst 5, 1) := by decide +kernel
theorem dX8_copy_58 : decode cX8_copy 58 = .ok (.invokevirtual 71, 3) := by decide +kernel
theorem dX8_copy_61 : decode cX8_copy 61 = .ok (.ireturn, 1) := by decide +kernel
theorem dX8_copy_62 : decode cX8_copy 62 = .ok (.aload_n 0, 1) := by decide +kernel
theorem dX8_copy_63 : decode cX8_copy 63 = .ok (.iload_n 1, 1) := by decide +kernel
theorem dX8_copy_64 : decode cX8_copy 64 = .ok (.iload_n 2, 1) := by decide +kernel
theorem dX8_copy_65 : decode cX8_copy 65 = .ok (.iload 5, 2) := by decide +kernel
theorem dX8_copy_67 : decode cX8_copy 67 = .ok (.invokevirtual 78, 3) := by decide +kernel
theorem dX8_copy_70 : decode cX8_copy 70 = .ok (.ifCond .gt 15, 3) := by decide +kernel
theorem dX8_copy_73 : decode cX8_copy 73 = .ok (.aload_n 0, 1) := by decide +kernel
theorem dX8_copy_74 : decode cX8_copy 74 = .ok (.iload_n 3, 1) := by decide +kernel
theorem dX8_copy_75 : decode cX8_copy 75 = .ok (.iload 4, 2) := by decide +kernel
theorem dX8_copy_77 : decode cX8_copy 77 = .ok (.iload 5, 2) := by decide +kernel
theorem dX8_copy_79 : decode cX8_copy 79 = .ok (.invokevirtual 78, 3) := by decide +kernel
theorem dX8_copy_82 : decode cX8_copy 82 = .ok (.ifCond .le 9, 3) := by decide +kernel
theorem dX8_copy_85 : decode cX8_copy 85 = .ok (.aload_n 0, 1) := by decide +kernel
theorem dX8_copy_86 : decode cX8_copy 86 = .ok (.iconst 2, 1) := by decide +kernel
theorem dX8_copy_87 : decode cX8_copy 87 = .ok (.invokevirtual 71, 3) := by decide +kernel
theorem dX8_copy_90 : decode cX8_copy 90 = .ok (.ireturn, 1) := by decide +kernel
theorem dX8_copy_91 : decode cX8_copy 91 = .ok (.iconst 0, 1) := by decide +kernel
theorem dX8_copy_92 : decode cX8_copy 92 = .ok (.istore 6, 2) := by decide +kernel
theorem dX8_copy_94 : decode cX8_copy 94 = .ok (.iload 6, 2) := by decide +kernel
theorem dX8_copy_96 : decode cX8_copy 96 = .ok (.iload 5, 2) := by decide +kernel
theorem dX8_copy_98 : decode cX8_copy 98 = .ok (.if_icmp .ge 30, 3) := by decide +kernel
theorem dX8_copy_101 : decode cX8_copy 101 = .ok (.aload_n 0, 1) := by decide +kernel
theorem dX8_copy_102 : decode cX8_copy 102 = .ok (.getfield 26, 3) := by decide +kernel
theorem dX8_copy_105 : decode cX8_copy 105 = .ok (.iload 6, 2) := by decide +kernel
theorem dX8_copy_107 : decode cX8_copy 107 = .ok (.aload_n 0, 1) := by decide +kernel
theorem dX8_copy_108 : decode cX8_copy 108 = .ok (.getfield 23, 3) := by decide +kernel
theorem dX8_copy_111 : decode cX8_copy 111 = .ok (.bipush 40, 2) := by decide +kernel
theorem dX8_copy_113 : decode cX8_copy 113 = .ok (.iload_n 1, 1) := by decide +kernel
theorem dX8_copy_114 : decode cX8_copy 114 = .ok (.imul, 1) := by decide +kernel
theorem dX8_copy_115 : decode cX8_copy 115 = .ok (.iload_n 2, 1) := by decide +kernel
theorem dX8_copy_116 : decode cX8_copy 116 = .ok (.iadd, 1) := by decide +kernel
theorem dX8_copy_117 : decode cX8_copy 117 = .ok (.iload 6, 2) := by decide +kernel
theorem dX8_copy_119 : decode cX8_copy 119 = .ok (.iadd, 1) := by decide +kernel
theorem dX8_copy_120 : decode cX8_copy 120 = .ok (.iaload, 1) := by decide +kernel
theorem dX8_copy_121 : decode cX8_copy 121 = .ok (.iastore, 1) := by decide +kernel
theorem dX8_copy_122 : decode cX8_copy 122 = .ok (.iinc 6 1, 3) := by decide +kernel
theorem dX8_copy_125 : decode cX8_copy 125 = .ok (.goto (-31), 3) := by decide +kernel
theorem dX8_copy_128 : decode cX8_copy 128 = .ok (.iconst 0, 1) := by decide +kernel
theorem dX8_copy_129 : decode cX8_copy 129 = .ok (.istore 6, 2) := by decide +kernel
theorem dX8_copy_131 : decode cX8_copy 131 = .ok (.iload 6, 2) := by decide +kernel
theorem dX8_copy_133 : decode cX8_copy 133 = .ok (.iload 5, 2) := by decide +kernel
theorem dX8_copy_135 : decode cX8_copy 135 = .ok (.if_icmp .ge 31, 3) := by decide +kernel
theorem dX8_copy_138 : decode cX8_copy 138 = .ok (.aload_n 0, 1) := by decide +kernel
theorem dX8_copy_139 : decode cX8_copy 139 = .ok (.getfield 23, 3) := by decide +kernel
theorem dX8_copy_142 : decode cX8_copy 142 = .ok (.bipush 40, 2) := by decide +kernel
theorem dX8_copy_144 : decode cX8_copy 144 = .ok (.iload_n 3, 1) := by decide +kernel
theorem dX8_copy_145 : decode cX8_copy 145 = .ok (.imul, 1) := by decide +kernel
theorem dX8_copy_146 : decode cX8_copy 146 = .ok (.iload 4, 2) := by decide +kernel
theorem dX8_copy_148 : decode cX8_copy 148 = .ok (.iadd, 1) := by decide +kernel
theorem dX8_copy_149 : decode cX8_copy 149 = .ok (.iload 6, 2) := by decide +kernel
theorem dX8_copy_151 : decode cX8_copy 151 = .ok (.iadd, 1) := by decide +kernel
theorem dX8_copy_152 : decode cX8_copy 152 = .ok (.aload_n 0, 1) := by decide +kernel
theorem dX8_copy_153 : decode cX8_copy 153 = .ok (.getfield 26, 3) := by decide +kernel
theorem dX8_copy_156 : decode cX8_copy 156 = .ok (.iload 6, 2) := by decide +kernel
theorem dX8_copy_158 : decode cX8_copy 158 = .ok (.iaload, 1) := by decide +kernel
theorem dX8_copy_159 : decode cX8_copy 159 = .ok (.iastore, 1) := by decide +kernel
theorem dX8_copy_160 : decode cX8_copy 160 = .ok (.iinc 6 1, 3) := by decide +kernel
theorem dX8_copy_163 : decode cX8_copy 163 = .ok (.goto (-32), 3) := by decide +kernel
theorem dX8_copy_166 : decode cX8_copy 166 = .ok (.aload_n 0, 1) := by decide +kernel
theorem dX8_copy_167 : decode cX8_copy 167 = .ok (.iload 5, 2) := by decide +kernel
theorem dX8_copy_169 : decode cX8_copy 169 = .ok (.invokevirtual 75, 3) := by decide +kernel
theorem dX8_copy_172 : decode cX8_copy 172 = .ok (.ireturn, 1) := by decide +kernel
theorem dX8_drop_0 : decode cX8_drop 0 = .ok (.iload_n 1, 1) := by decide +kernel
theorem dX8_drop_1 : decode cX8_drop 1 = .ok (.invokestatic 64, 3) := by decide +kernel
theorem dX8_drop_4 : decode cX8_drop 4 = .ok (.ifCond .ne 6, 3) := by decide +kernel
theorem dX8_drop_7 : decode cX8_drop 7 = .ok (.ldc 70, 2) := by decide +kernel
theorem dX8_drop_9 : decode cX8_drop 9 = .ok (.ireturn, 1) := by decide +kernel
theorem dX8_drop_10 : decode cX8_drop 10 = .ok (.aload_n 0, 1) := by decide +kernel
theorem dX8_drop_11 : decode cX8_drop 11 = .ok (.getfield 17, 3) := by decide +kernel
theorem dX8_drop_14 : decode cX8_drop 14 = .ok (.iload_n 1, 1) := by decide +kernel
theorem dX8_drop_15 : decode cX8_drop 15 = .ok (.iaload, 1) := by decide +kernel
theorem dX8_drop_16 : decode cX8_drop 16 = .ok (.ifCond .ge 9, 3) := by decide +kernel
theorem dX8_drop_19 : decode cX8_drop 19 = .ok (.aload_n 0, 1) := by decide +kernel
theorem dX8_drop_20 : decode cX8_drop 20 = .ok (.iconst 1, 1) := by decide +kernel
theorem dX8_drop_21 : decode cX8_drop 21 = .ok (.invokevirtual 71, 3) := by decide +kernel
theorem dX8_drop_24 : decode cX8_drop 24 = .ok (.ireturn, 1) := by decide +kernel
theorem dX8_drop_25 : decode cX8_drop 25 = .ok (.aload_n 0, 1) := by decide +kernel
theorem dX8_drop_26 : decode cX8_drop 26 = .ok (.getfield 17, 3) := by decide +kernel
theorem dX8_drop_29 : decode cX8_drop 29 = .ok (.iload_n 1, 1) := by decide +kernel
theorem dX8_drop_30 : decode cX8_drop 30 = .ok (.iconst (-1), 1) := by decide +kernel
theorem dX8_drop_31 : decode cX8_drop 31 = .ok (.iastore, 1) := by decide +kernel
theorem dX8_drop_32 : decode cX8_drop 32 = .ok (.aload_n 0, 1) := by decide +kernel
theorem dX8_drop_33 : decode cX8_drop 33 = .ok (.aload_n 0, 1) := by decide +kernel
theorem dX8_drop_34 : decode cX8_drop 34 = .ok (.getfield 20, 3) := by decide +kernel
theorem dX8_drop_37 : decode cX8_drop 37 = .ok (.iload_n 1, 1) := by decide +kernel
theorem dX8_drop_38 : decode cX8_drop 38 = .ok (.iaload, 1) := by decide +kernel
theorem dX8_drop_39 : decode cX8_drop 39 = .ok (.invokevirtual 75, 3) := by decide +kernel
theorem dX8_drop_42 : decode cX8_drop 42 = .ok (.ireturn, 1) := by decide +kernel
theorem dX8_feed_0 : decode cX8_feed 0 = .ok (.iload_n 1, 1) := by decide +kernel
theorem dX8_feed_1 : decode cX8_feed 1 = .ok (.i2l, 1) := by decide +kernel
theorem dX8_feed_2 : decode cX8_feed 2 = .ok (.lconst 0, 1) := by decide +kernel
theorem dX8_feed_3 : decode cX8_feed 3 = .ok (.ldc2_w 86, 3) := by decide +kernel
theorem dX8_feed_6 : decode cX8_feed 6 = .ok (.invokestatic 60, 3) := by decide +kernel
theorem dX8_feed_9 : decode cX8_feed 9 = .ok (.ifCond .ne 6, 3) := by decide +kernel
theorem dX8_feed_12 : decode cX8_feed 12 = .ok (.ldc 70, 2) := by decide +kernel
theorem dX8_feed_14 : decode cX8_feed 14 = .ok (.ireturn, 1) := by decide +kernel
theorem dX8_feed_15 : decode cX8_feed 15 = .ok (.aload_n 0, 1) := by decide +kernel
theorem dX8_feed_16 : decode cX8_feed 16 = .ok (.getfield 88, 3) := by decide +kernel
theorem dX8_feed_19 : decode cX8_feed 19 = .ok (.sipush 140, 3) := by decide +kernel
theorem dX8_feed_22 : decode cX8_feed 22 = .ok (.if_icmp .ne 6, 3) := by decide +kernel
theorem dX8_feed_25 : decode cX8_feed 25 = .ok (.ldc 91, 2) := by decide +kernel
theorem dX8_feed_27 : decode cX8_feed 27 = .ok (.ireturn, 1) := by decide +kernel
theorem dX8_feed_28 : decode cX8_feed 28 = .ok (.aload_n 0, 1) := by decide +kernel
theorem dX8_feed_29 : decode cX8_feed 29 = .ok (.getfield 29, 3) := by decide +kernel
theorem dX8_feed_32 : decode cX8_feed 32 = .ok (.aload_n 0, 1) := by decide +kernel
theorem dX8_feed_33 : decode cX8_feed 33 = .ok (.getfield 88, 3) := by decide +kernel
theorem dX8_feed_36 : decode cX8_feed 36 = .ok (.iload_n 1, 1) := by decide +kernel
theorem dX8_feed_37 : decode cX8_feed 37 = .ok (.iastore, 1) := by decide +kernel
theorem dX8_feed_38 : decode cX8_feed 38 = .ok (.aload_n 0, 1) := by decide +kernel
theorem dX8_feed_39 : decode cX8_feed 39 = .ok (.dup, 1) := by decide +kernel
theorem dX8_feed_40 : decode cX8_feed 40 = .ok (.getfield 88, 3) := by decide +kernel
theorem dX8_feed_43 : decode cX8_feed 43 = .ok (.iconst 1, 1) := by decide +kernel
theorem dX8_feed_44 : decode cX8_feed 44 = .ok (.iadd, 1) := by decide +kernel
theorem dX8_feed_45 : decode cX8_feed 45 = .ok (.putfield 88, 3) := by decide +kernel
theorem dX8_feed_48 : decode cX8_feed 48 = .ok (.aload_n 0, 1) := by decide +kernel
theorem dX8_feed_49 : decode cX8_feed 49 = .ok (.getfield 88, 3) := by decide +kernel
theorem dX8_feed_52 : decode cX8_feed 52 = .ok (.ireturn, 1) := by decide +kernel
theorem dX8_byteAt_0 : decode cX8_byteAt 0 = .ok (.iload_n 1, 1) := by decide +kernel
theorem dX8_byteAt_1 : decode cX8_byteAt 1 = .ok (.aload_n 0, 1) := by decide +kernel
theorem dX8_byteAt_2 : decode cX8_byteAt 2 = .ok (.getfield 88, 3) := by decide +kernel
theorem dX8_byteAt_5 : decode cX8_byteAt 5 = .ok (.if_icmp .ge 12, 3) := by decide +kernel
theorem dX8_byteAt_8 : decode cX8_byteAt 8 = .ok (.aload_n 0, 1) := by decide +kernel
theorem dX8_byteAt_9 : decode cX8_byteAt 9 = .ok (.getfield 29, 3) := by decide +kernel
theorem dX8_byteAt_12 : decode cX8_byteAt 12 = .ok (.iload_n 1, 1) := by decide +kernel
theorem dX8_byteAt_13 : decode cX8_byteAt 13 = .ok (.iaload, 1) := by decide +kernel
theorem dX8_byteAt_14 : decode cX8_byteAt 14 = .ok (.goto 4, 3) := by decide +kernel
theorem dX8_byteAt_17 : decode cX8_byteAt 17 = .ok (.iconst (-1), 1) := by decide +kernel
theorem dX8_byteAt_18 : decode cX8_byteAt 18 = .ok (.ireturn, 1) := by decide +kernel
theorem dX8_isFigure_0 : decode cX8_isFigure 0 = .ok (.aload_n 0, 1) := by decide +kernel
theorem dX8_isFigure_1 : decode cX8_isFigure 1 = .ok (.iload_n 1, 1) := by decide +kernel
theorem dX8_isFigure_2 : decode cX8_isFigure 2 = .ok (.invokevirtual 92, 3) := by decide +kernel
theorem dX8_isFigure_5 : decode cX8_isFigure 5 = .ok (.i2l, 1) := by decide +kernel
theorem dX8_isFigure_6 : decode cX8_isFigure 6 = .ok (.ldc2_w 95, 3) := by decide +kernel
theorem dX8_isFigure_9 : decode cX8_isFigure 9 = .ok (.ldc2_w 97, 3) := by decide +kernel
theorem dX8_isFigure_12 : decode cX8_isFigure 12 = .ok (.invokestatic 60, 3) := by decide +kernel
theorem dX8_isFigure_15 : decode cX8_isFigure 15 = .ok (.ireturn, 1) := by decide +kernel
theorem dX8_takes_0 : decode cX8_takes 0 = .ok (.aload_n 0, 1) := by decide +kernel
theorem dX8_takes_1 : decode cX8_takes 1 = .ok (.aload_n 0, 1) := by decide +kernel
theorem dX8_takes_2 : decode cX8_takes 2 = .ok (.getfield 99, 3) := by decide +kernel
theorem dX8_takes_5 : decode cX8_takes 5 = .ok (.putfield 102, 3) := by decide +kernel
theorem dX8_takes_8 : decode cX8_takes 8 = .ok (.aload_n 0, 1) := by decide +kernel
theorem dX8_takes_9 : decode cX8_takes 9 = .ok (.iconst 1, 1) := by decide +kernel
theorem dX8_takes_10 : decode cX8_takes 10 = .ok (.putfield 105, 3) := by decide +kernel
theorem dX8_takes_13 : decode cX8_takes 13 = .ok (.aload_n 0, 1) := by decide +kernel
theorem dX8_takes_14 : decode cX8_takes 14 = .ok (.aload_n 0, 1) := by decide +kernel
theorem dX8_takes_15 : decode cX8_takes 15 = .ok (.getfield 99, 3) := by decide +kernel
theorem dX8_takes_18 : decode cX8_takes 18 = .ok (.invokevirtual 92, 3) := by decide +kernel
theorem dX8_takes_21 : decode cX8_takes 21 = .ok (.iload_n 1, 1) := by decide +kernel
theorem dX8_takes_22 : decode cX8_takes 22 = .ok (.if_icmp .ne 7, 3) := by decide +kernel
theorem dX8_takes_25 : decode cX8_takes 25 = .ok (.iconst 1, 1) := by decide +kernel
theorem dX8_takes_26 : decode cX8_takes 26 = .ok (.goto 4, 3) := by decide +kernel
theorem dX8_takes_29 : decode cX8_takes 29 = .ok (.iconst 0, 1) := by decide +kernel
theorem dX8_takes_30 : decode cX8_takes 30 = .ok (.istore_n 2, 1) := by decide +kernel
theorem dX8_takes_31 : decode cX8_takes 31 = .ok (.aload_n 0, 1) := by decide +kernel
theorem dX8_takes_32 : decode cX8_takes 32 = .ok (.dup, 1) := by decide +kernel
theorem dX8_takes_33 : decode cX8_takes 33 = .ok (.getfield 99, 3) := by decide +kernel
theorem dX8_takes_36 : decode cX8_takes 36 = .ok (.iload_n 2, 1) := by decide +kernel
theorem dX8_takes_37 : decode cX8_takes 37 = .ok (.ifCond .eq 7, 3) := by decide +kernel
theorem dX8_takes_40 : decode cX8_takes 40 = .ok (.iconst 1, 1) := by decide +kernel
theorem dX8_takes_41 : decode cX8_takes 41 = .ok (.goto 4, 3) := by decide +kernel
theorem dX8_takes_44 : decode cX8_takes 44 = .ok (.iconst 0, 1) := by decide +kernel
theorem dX8_takes_45 : decode cX8_takes 45 = .ok (.iadd, 1) := by decide +kernel
theorem dX8_takes_46 : decode cX8_takes 46 = .ok (.putfield 99, 3) := by decide +kernel
theorem dX8_takes_49 : decode cX8_takes 49 = .ok (.iload_n 2, 1) := by decide +kernel
theorem dX8_takes_50 : decode cX8_takes 50 = .ok (.ireturn, 1) := by decide +kernel
theorem dX8_takesNumber_0 : decode cX8_takesNumber 0 = .ok (.aload_n 0, 1) := by decide +kernel
theorem dX8_takesNumber_1 : decode cX8_takesNumber 1 = .ok (.aload_n 0, 1) := by decide +kernel
theorem dX8_takesNumber_2 : decode cX8_takesNumber 2 = .ok (.getfield 99, 3) := by decide +kernel
theorem dX8_takesNumber_5 : decode cX8_takesNumber 5 = .ok (.putfield 102, 3) := by decide +kernel
theorem dX8_takesNumber_8 : decode cX8_takesNumber 8 = .ok (.aload_n 0, 1) := by decide +kernel
theorem dX8_takesNumber_9 : decode cX8_takesNumber 9 = .ok (.iconst 1, 1) := by decide +kernel
theorem dX8_takesNumber_10 : decode cX8_takesNumber 10 = .ok (.putfield 105, 3) := by decide +kernel
theorem dX8_takesNumber_13 : decode cX8_takesNumber 13 = .ok (.iconst 0, 1) := by decide +kernel
theorem dX8_takesNumber_14 : decode cX8_takesNumber 14 = .ok (.istore_n 3, 1) := by decide +kernel
theorem dX8_takesNumber_15 : decode cX8_takesNumber 15 = .ok (.aload_n 0, 1) := by decide +kernel
theorem dX8_takesNumber_16 : decode cX8_takesNumber 16 = .ok (.iconst 0, 1) := by decide +kernel
theorem dX8_takesNumber_17 : decode cX8_takesNumber 17 = .ok (.putfield 108, 3) := by decide +kernel
theorem dX8_takesNumber_20 : decode cX8_takesNumber 20 = .ok (.aload_n 0, 1) := by decide +kernel
theorem dX8_takesNumber_21 : decode cX8_takesNumber 21 = .ok (.aload_n 0, 1) := by decide +kernel
theorem dX8_takesNumber_22 : decode cX8_takesNumber 22 = .ok (.getfield 99, 3) := by decide +kernel
theorem dX8_takesNumber_25 : decode cX8_takesNumber 25 = .ok (.iload_n 3, 1) := by decide +kernel
theorem dX8_takesNumber_26 : decode cX8_takesNumber 26 = .ok (.iadd, 1) := by decide +kernel
theorem dX8_takesNumber_27 : decode cX8_takesNumber 27 = .ok (.invokevirtual 111, 3) := by decide +kernel
theorem dX8_takesNumber_30 : decode cX8_takesNumber 30 = .ok (.ifCond .eq 46, 3) := by decide +kernel
theorem dX8_takesNumber_33 : decode cX8_takesNumber 33 = .ok (.aload_n 0, 1) := by decide +kernel
theorem dX8_takesNumber_34 : decode cX8_takesNumber 34 = .ok (.iload_n 3, 1) := by decide +kernel
theorem dX8_takesNumber_35 : decode cX8_takesNumber 35 = .ok (.iconst 2, 1) := by decide +kernel
theorem dX8_takesNumber_36 : decode cX8_takesNumber 36 = .ok (.if_icmp .ge 27, 3) := by decide +kernel
theorem dX8_takesNumber_39 : decode cX8_takesNumber 39 = .ok (.bipush 10, 2) := by decide +kernel
theorem dX8_takesNumber_41 : decode cX8_takesNumber 41 = .ok (.aload_n 0, 1) := by decide +kernel
theorem dX8_takesNumber_42 : decode cX8_takesNumber 42 = .ok (.getfield 108, 3) := by decide +kernel
theorem dX8_takesNumber_45 : decode cX8_takesNumber 45 = .ok (.imul, 1) := by decide +kernel
theorem dX8_takesNumber_46 : decode cX8_takesNumber 46 = .ok (.aload_n 0, 1) := by decide +kernel
theorem dX8_takesNumber_47 : decode cX8_takesNumber 47 = .ok (.aload_n 0, 1) := by decide +kernel
theorem dX8_takesNumber_48 : decode cX8_takesNumber 48 = .ok (.getfield 99, 3) := by decide +kernel
theorem dX8_takesNumber_51 : decode cX8_takesNumber 51 = .ok (.iload_n 3, 1) := by decide +kernel
theorem dX8_takesNumber_52 : decode cX8_takesNumber 52 = .ok (.iadd, 1) := by decide +kernel
theorem dX8_takesNumber_53 : decode cX8_takesNumber 53 = .ok (.invokevirtual 92, 3) := by decide +kernel
theorem dX8_takesNumber_56 : decode cX8_takesNumber 56 = .ok (.iadd, 1) := by decide +kernel
theorem dX8_takesNumber_57 : decode cX8_takesNumber 57 = .ok (.bipush 48, 2) := by decide +kernel
theorem dX8_takesNumber_59 : decode cX8_takesNumber 59 = .ok (.isub, 1) := by decide +kernel
theorem dX8_takesNumber_60 : decode cX8_takesNumber 60 = .ok (.goto 7, 3) := by decide +kernel
theorem dX8_takesNumber_63 : decode cX8_takesNumber 63 = .ok (.aload_n 0, 1) := by decide +kernel
theorem dX8_takesNumber_64 : decode cX8_takesNumber 64 = .ok (.getfield 108, 3) := by decide +kernel
theorem dX8_takesNumber_67 : decode cX8_takesNumber 67 = .ok (.putfield 108, 3) := by decide +kernel
theorem dX8_takesNumber_70 : decode cX8_takesNumber 70 = .ok (.iinc 3 1, 3) := by decide +kernel
theorem dX8_takesNumber_73 : decode cX8_takesNumber 73 = .ok (.goto (-53), 3) := by decide +kernel
theorem dX8_takesNumber_76 : decode cX8_takesNumber 76 = .ok (.iload_n 3, 1) := by decide +kernel
theorem dX8_takesNumber_77 : decode cX8_takesNumber 77 = .ok (.ifCond .eq 8, 3) := by decide +kernel
theorem dX8_takesNumber_80 : decode cX8_takesNumber 80 = .ok (.iload_n 3, 1) := by decide +kernel
theorem dX8_takesNumber_81 : decode cX8_takesNumber 81 = .ok (.iconst 2, 1) := by decide +kernel
theorem dX8_takesNumber_82 : decode cX8_takesNumber 82 = .ok (.if_icmp .le 5, 3) := by decide +kernel
theorem dX8_takesNumber_85 : decode cX8_takesNumber 85 = .ok (.iconst 0, 1) := by decide +kernel
theorem dX8_takesNumber_86 : decode cX8_takesNumber 86 = .ok (.ireturn, 1) := by decide +kernel
theorem dX8_takesNumber_87 : decode cX8_takesNumber 87 = .ok (.aload_n 0, 1) := by decide +kernel
theorem dX8_takesNumber_88 : decode cX8_takesNumber 88 = .ok (.dup, 1) := by decide +kernel
theorem dX8_takesNumber_89 : decode cX8_takesNumber 89 = .ok (.getfield 99, 3) := by decide +kernel
theorem dX8_takesNumber_92 : decode cX8_takesNumber 92 = .ok (.iload_n 3, 1) := by decide +kernel
theorem dX8_takesNumber_93 : decode cX8_takesNumber 93 = .ok (.iadd, 1) := by decide +kernel
theorem dX8_takesNumber_94 : decode cX8_takesNumber 94 = .ok (.putfield 99, 3) := by decide +kernel
theorem dX8_takesNumber_97 : decode cX8_takesNumber 97 = .ok (.aload_n 0, 1) := by decide +kernel
theorem dX8_takesNumber_98 : decode cX8_takesNumber 98 = .ok (.iconst 2, 1) := by decide +kernel
theorem dX8_takesNumber_99 : decode cX8_takesNumber 99 = .ok (.putfield 105, 3) := by decide +kernel
theorem dX8_takesNumber_102 : decode cX8_takesNumber 102 = .ok (.aload_n 0, 1) := by decide +kernel
theorem dX8_takesNumber_103 : decode cX8_takesNumber 103 = .ok (.getfield 108, 3) := by decide +kernel
theorem dX8_takesNumber_106 : decode cX8_takesNumber 106 = .ok (.i2l, 1) := by decide +kernel
theorem dX8_takesNumber_107 : decode cX8_takesNumber 107 = .ok (.iload_n 1, 1) := by decide +kernel
theorem dX8_takesNumber_108 : decode cX8_takesNumber 108 = .ok (.i2l, 1) := by decide +kernel
theorem dX8_takesNumber_109 : decode cX8_takesNumber 109 = .ok (.iload_n 2, 1) := by decide +kernel
theorem dX8_takesNumber_110 : decode cX8_takesNumber 110 = .ok (.i2l, 1) := by decide +kernel
theorem dX8_takesNumber_111 : decode cX8_takesNumber 111 = .ok (.invokestatic 60, 3) := by decide +kernel
theorem dX8_takesNumber_114 : decode cX8_takesNumber 114 = .ok (.ireturn, 1) := by decide +kernel
theorem dX8_isMore_0 : decode cX8_isMore 0 = .ok (.aload_n 0, 1) := by decide +kernel
theorem dX8_isMore_1 : decode cX8_isMore 1 = .ok (.aload_n 0, 1) := by decide +kernel
theorem dX8_isMore_2 : decode cX8_isMore 2 = .ok (.getfield 99, 3) := by decide +kernel
theorem dX8_isMore_5 : decode cX8_isMore 5 = .ok (.iconst 1, 1) := by decide +kernel
theorem dX8_isMore_6 : decode cX8_isMore 6 = .ok (.isub, 1) := by decide +kernel
theorem dX8_isMore_7 : decode cX8_isMore 7 = .ok (.putfield 102, 3) := by decide +kernel
theorem dX8_isMore_10 : decode cX8_isMore 10 = .ok (.aload_n 0, 1) := by decide +kernel
theorem dX8_isMore_11 : decode cX8_isMore 11 = .ok (.iconst 3, 1) := by decide +kernel
theorem dX8_isMore_12 : decode cX8_isMore 12 = .ok (.putfield 105, 3) := by decide +kernel
theorem dX8_isMore_15 : decode cX8_isMore 15 = .ok (.iconst 0, 1) := by decide +kernel
theorem dX8_isMore_16 : decode cX8_isMore 16 = .ok (.ireturn, 1) := by decide +kernel
theorem dX8_takesLaw_0 : decode cX8_takesLaw 0 = .ok (.aload_n 0, 1) := by decide +kernel
theorem dX8_takesLaw_1 : decode cX8_takesLaw 1 = .ok (.bipush 98, 2) := by decide +kernel
theorem dX8_takesLaw_3 : decode cX8_takesLaw 3 = .ok (.invokevirtual 114, 3) := by decide +kernel
theorem dX8_takesLaw_6 : decode cX8_takesLaw 6 = .ok (.ifCond .ne 5, 3) := by decide +kernel
theorem dX8_takesLaw_9 : decode cX8_takesLaw 9 = .ok (.iconst 0, 1) := by decide +kernel
theorem dX8_takesLaw_10 : decode cX8_takesLaw 10 = .ok (.ireturn, 1) := by decide +kernel
theorem dX8_takesLaw_11 : decode cX8_takesLaw 11 = .ok (.iconst 0, 1) := by decide +kernel
theorem dX8_takesLaw_12 : decode cX8_takesLaw 12 = .ok (.istore_n 1, 1) := by decide +kernel
theorem dX8_takesLaw_13 : decode cX8_takesLaw 13 = .ok (.iload_n 1, 1) := by decide +kernel
theorem dX8_takesLaw_14 : decode cX8_takesLaw 14 = .ok (.iconst 4, 1) := by decide +kernel
theorem dX8_takesLaw_15 : decode cX8_takesLaw 15 = .ok (.if_icmp .ge 76, 3) := by decide +kernel
theorem dX8_takesLaw_18 : decode cX8_takesLaw 18 = .ok (.aload_n 0, 1) := by decide +kernel
theorem dX8_takesLaw_19 : decode cX8_takesLaw 19 = .ok (.iload_n 1, 1) := by decide +kernel
theorem dX8_takesLaw_20 : decode cX8_takesLaw 20 = .ok (.iconst 3, 1) := by decide +kernel
theorem dX8_takesLaw_21 : decode cX8_takesLaw 21 = .ok (.if_icmp .ge 7, 3) := by decide +kernel
theorem dX8_takesLaw_24 : decode cX8_takesLaw 24 = .ok (.iconst 0, 1) := by decide +kernel
theorem dX8_takesLaw_25 : decode cX8_takesLaw 25 = .ok (.goto 5, 3) := by decide +kernel
theorem dX8_takesLaw_28 : decode cX8_takesLaw 28 = .ok (.bipush 40, 2) := by decide +kernel
theorem dX8_takesLaw_30 : decode cX8_takesLaw 30 = .ok (.iload_n 1, 1) := by decide +kernel
theorem dX8_takesLaw_31 : decode cX8_takesLaw 31 = .ok (.iconst 3, 1) := by decide +kernel
theorem dX8_takesLaw_32 : decode cX8_takesLaw 32 = .ok (.if_icmp .ge 8, 3) := by decide +kernel
theorem dX8_takesLaw_35 : decode cX8_takesLaw 35 = .ok (.bipush 20, 2) := by decide +kernel
theorem dX8_takesLaw_37 : decode cX8_takesLaw 37 = .ok (.goto 5, 3) := by decide +kernel
theorem dX8_takesLaw_40 : decode cX8_takesLaw 40 = .ok (.bipush 99, 2) := by decide +kernel
theorem dX8_takesLaw_42 : decode cX8_takesLaw 42 = .ok (.invokevirtual 117, 3) := by decide +kernel
theorem dX8_takesLaw_45 : decode cX8_takesLaw 45 = .ok (.ifCond .ne 5, 3) := by decide +kernel
theorem dX8_takesLaw_48 : decode cX8_takesLaw 48 = .ok (.iconst 0, 1) := by decide +kernel
theorem dX8_takesLaw_49 : decode cX8_takesLaw 49 = .ok (.ireturn, 1) := by decide +kernel
theorem dX8_takesLaw_50 : decode cX8_takesLaw 50 = .ok (.aload_n 0, 1) := by decide +kernel
theorem dX8_takesLaw_51 : decode cX8_takesLaw 51 = .ok (.getfield 7, 3) := by decide +kernel
theorem dX8_takesLaw_54 : decode cX8_takesLaw 54 = .ok (.sipush 183, 3) := by decide +kernel
theorem dX8_takesLaw_57 : decode cX8_takesLaw 57 = .ok (.iload_n 1, 1) := by decide +kernel
theorem dX8_takesLaw_58 : decode cX8_takesLaw 58 = .ok (.iadd, 1) := by decide +kernel
theorem dX8_takesLaw_59 : decode cX8_takesLaw 59 = .ok (.aload_n 0, 1) := by decide +kernel
theorem dX8_takesLaw_60 : decode cX8_takesLaw 60 = .ok (.getfield 108, 3) := by decide +kernel
theorem dX8_takesLaw_63 : decode cX8_takesLaw 63 = .ok (.iastore, 1) := by decide +kernel
theorem dX8_takesLaw_64 : decode cX8_takesLaw 64 = .ok (.aload_n 0, 1) := by decide +kernel
theorem dX8_takesLaw_65 : decode cX8_takesLaw 65 = .ok (.iload_n 1, 1) := by decide +kernel
theorem dX8_takesLaw_66 : decode cX8_takesLaw 66 = .ok (.iconst 3, 1) := by decide +kernel
theorem dX8_takesLaw_67 : decode cX8_takesLaw 67 = .ok (.if_icmp .ge 8, 3) := by decide +kernel
theorem dX8_takesLaw_70 : decode cX8_takesLaw 70 = .ok (.bipush 44, 2) := by decide +kernel
theorem dX8_takesLaw_72 : decode cX8_takesLaw 72 = .ok (.goto 5, 3) := by decide +kernel
theorem dX8_takesLaw_75 : decode cX8_takesLaw 75 = .ok (.bipush 59, 2) := by decide +kernel
theorem dX8_takesLaw_77 : decode cX8_takesLaw 77 = .ok (.invokevirtual 114, 3) := by decide +kernel
theorem dX8_takesLaw_80 : decode cX8_takesLaw 80 = .ok (.ifCond .ne 5, 3) := by decide +kernel
theorem dX8_takesLaw_83 : decode cX8_takesLaw 83 = .ok (.iconst 0, 1) := by decide +kernel
theorem dX8_takesLaw_84 : decode cX8_takesLaw 84 = .ok (.ireturn, 1) := by decide +kernel
theorem dX8_takesLaw_85 : decode cX8_takesLaw 85 = .ok (.iinc 1 1, 3) := by decide +kernel
theorem dX8_takesLaw_88 : decode cX8_takesLaw 88 = .ok (.goto (-75), 3) := by decide +kernel
theorem dX8_takesLaw_91 : decode cX8_takesLaw 91 = .ok (.iconst 1, 1) := by decide +kernel
theorem dX8_takesLaw_92 : decode cX8_takesLaw 92 = .ok (.ireturn, 1) := by decide +kernel
theorem dX8_barOf_0 : decode cX8_barOf 0 = .ok (.iload_n 0, 1) := by decide +kernel
theorem dX8_barOf_1 : decode cX8_barOf 1 = .ok (.bipush 101, 2) := by decide +kernel
theorem dX8_barOf_3 : decode cX8_barOf 3 = .ok (.if_icmp .ne 7, 3) := by decide +kernel
theorem dX8_barOf_6 : decode cX8_barOf 6 = .ok (.iconst 0, 1) := by decide +kernel
theorem dX8_barOf_7 : decode cX8_barOf 7 = .ok (.goto 44, 3) := by decide +kernel
theorem dX8_barOf_10 : decode cX8_barOf 10 = .ok (.iload_n 0, 1) := by decide +kernel
theorem dX8_barOf_11 : decode cX8_barOf 11 = .ok (.bipush 102, 2) := by decide +kernel
theorem dX8_barOf_13 : decode cX8_barOf 13 = .ok (.if_icmp .ne 7, 3) := by decide +kernel
theorem dX8_barOf_16 : decode cX8_barOf 16 = .ok (.iconst 1, 1) := by decide +kernel
theorem dX8_barOf_17 : decode cX8_barOf 17 = .ok (.goto 34, 3) := by decide +kernel
theorem dX8_barOf_20 : decode cX8_barOf 20 = .ok (.iload_n 0, 1) := by decide +kernel
theorem dX8_barOf_21 : decode cX8_barOf 21 = .ok (.bipush 113, 2) := by decide +kernel
theorem dX8_barOf_23 : decode cX8_barOf 23 = .ok (.if_icmp .ne 7, 3) := by decide +kernel
theorem dX8_barOf_26 : decode cX8_barOf 26 = .ok (.iconst 2, 1) := by decide +kernel
theorem dX8_barOf_27 : decode cX8_barOf 27 = .ok (.goto 24, 3) := by decide +kernel
theorem dX8_barOf_30 : decode cX8_barOf 30 = .ok (.iload_n 0, 1) := by decide +kernel
theorem dX8_barOf_31 : decode cX8_barOf 31 = .ok (.bipush 99, 2) := by decide +kernel
theorem dX8_barOf_33 : decode cX8_barOf 33 = .ok (.if_icmp .ne 7, 3) := by decide +kernel
theorem dX8_barOf_36 : decode cX8_barOf 36 = .ok (.iconst 3, 1) := by decide +kernel
theorem dX8_barOf_37 : decode cX8_barOf 37 = .ok (.goto 14, 3) := by decide +kernel
theorem dX8_barOf_40 : decode cX8_barOf 40 = .ok (.iload_n 0, 1) := by decide +kernel
theorem dX8_barOf_41 : decode cX8_barOf 41 = .ok (.bipush 104, 2) := by decide +kernel
theorem dX8_barOf_43 : decode cX8_barOf 43 = .ok (.if_icmp .ne 7, 3) := by decide +kernel
theorem dX8_barOf_46 : decode cX8_barOf 46 = .ok (.iconst 4, 1) := by decide +kernel
theorem dX8_barOf_47 : decode cX8_barOf 47 = .ok (.goto 4, 3) := by decide +kernel
theorem dX8_barOf_50 : decode cX8_barOf 50 = .ok (.iconst (-1), 1) := by decide +kernel
theorem dX8_barOf_51 : decode cX8_barOf 51 = .ok (.ireturn, 1) := by decide +kernel
theorem dX8_takesSong_0 : decode cX8_takesSong 0 = .ok (.aload_n 0, 1) := by decide +kernel
theorem dX8_takesSong_1 : decode cX8_takesSong 1 = .ok (.bipush 122, 2) := by decide +kernel
theorem dX8_takesSong_3 : decode cX8_takesSong 3 = .ok (.invokevirtual 114, 3) := by decide +kernel
theorem dX8_takesSong_6 : decode cX8_takesSong 6 = .ok (.ifCond .ne 5, 3) := by decide +kernel
theorem dX8_takesSong_9 : decode cX8_takesSong 9 = .ok (.iconst 0, 1) := by decide +kernel
theorem dX8_takesSong_10 : decode cX8_takesSong 10 = .ok (.ireturn, 1) := by decide +kernel
theorem dX8_takesSong_11 : decode cX8_takesSong 11 = .ok (.aload_n 0, 1) := by decide +kernel
theorem dX8_takesSong_12 : decode cX8_takesSong 12 = .ok (.aload_n 0, 1) := by decide +kernel
theorem dX8_takesSong_13 : decode cX8_takesSong 13 = .ok (.getfield 99, 3) := by decide +kernel
theorem dX8_takesSong_16 : decode cX8_takesSong 16 = .ok (.invokevirtual 92, 3) := by decide +kernel
theorem dX8_takesSong_19 : decode cX8_takesSong 19 = .ok (.invokestatic 121, 3) := by decide +kernel
theorem dX8_takesSong_22 : decode cX8_takesSong 22 = .ok (.ifCond .lt 76, 3) := by decide +kernel
theorem dX8_takesSong_25 : decode cX8_takesSong 25 = .ok (.aload_n 0, 1) := by decide +kernel
theorem dX8_takesSong_26 : decode cX8_takesSong 26 = .ok (.dup, 1) := by decide +kernel
theorem dX8_takesSong_27 : decode cX8_takesSong 27 = .ok (.getfield 99, 3) := by decide +kernel
theorem dX8_takesSong_30 : decode cX8_takesSong 30 = .ok (.iconst 1, 1) := by decide +kernel
theorem dX8_takesSong_31 : decode cX8_takesSong 31 = .ok (.iadd, 1) := by decide +kernel
theorem dX8_takesSong_32 : decode cX8_takesSong 32 = .ok (.putfield 99, 3) := by decide +kernel
theorem dX8_takesSong_35 : decode cX8_takesSong 35 = .ok (.aload_n 0, 1) := by decide +kernel
theorem dX8_takesSong_36 : decode cX8_takesSong 36 = .ok (.getfield 7, 3) := by decide +kernel
theorem dX8_takesSong_39 : decode cX8_takesSong 39 = .ok (.sipush 187, 3) := by decide +kernel
theorem dX8_takesSong_42 : decode cX8_takesSong 42 = .ok (.iaload, 1) := by decide +kernel
theorem dX8_takesSong_43 : decode cX8_takesSong 43 = .ok (.bipush 12, 2) := by decide +kernel
theorem dX8_takesSong_45 : decode cX8_takesSong 45 = .ok (.if_icmp .ne 8, 3) := by decide +kernel
theorem dX8_takesSong_48 : decode cX8_takesSong 48 = .ok (.aload_n 0, 1) := by decide +kernel
theorem dX8_takesSong_49 : decode cX8_takesSong 49 = .ok (.invokevirtual 124, 3) := by decide +kernel
theorem dX8_takesSong_52 : decode cX8_takesSong 52 = .ok (.ireturn, 1) := by decide +kernel
theorem dX8_takesSong_53 : decode cX8_takesSong 53 = .ok (.aload_n 0, 1) := by decide +kernel
theorem dX8_takesSong_54 : decode cX8_takesSong 54 = .ok (.getfield 7, 3) := by decide +kernel
theorem dX8_takesSong_57 : decode cX8_takesSong 57 = .ok (.sipush 192, 3) := by decide +kernel
theorem dX8_takesSong_60 : decode cX8_takesSong 60 = .ok (.aload_n 0, 1) := by decide +kernel
theorem dX8_takesSong_61 : decode cX8_takesSong 61 = .ok (.getfield 7, 3) := by decide +kernel
theorem dX8_takesSong_64 : decode cX8_takesSong 64 = .ok (.sipush 187, 3) := by decide +kernel
theorem dX8_takesSong_67 : decode cX8_takesSong 67 = .ok (.iaload, 1) := by decide +kernel
theorem dX8_takesSong_68 : decode cX8_takesSong 68 = .ok (.iadd, 1) := by decide +kernel
theorem dX8_takesSong_69 : decode cX8_takesSong 69 = .ok (.aload_n 0, 1) := by decide +kernel
theorem dX8_takesSong_70 : decode cX8_takesSong 70 = .ok (.aload_n 0, 1) := by decide +kernel
theorem dX8_takesSong_71 : decode cX8_takesSong 71 = .ok (.getfield 99, 3) := by decide +kernel
theorem dX8_takesSong_74 : decode cX8_takesSong 74 = .ok (.iconst 1, 1) := by decide +kernel
theorem dX8_takesSong_75 : decode cX8_takesSong 75 = .ok (.isub, 1) := by decide +kernel
theorem dX8_takesSong_76 : decode cX8_takesSong 76 = .ok (.invokevirtual 92, 3) := by decide +kernel
theorem dX8_takesSong_79 : decode cX8_takesSong 79 = .ok (.invokestatic 121, 3) := by decide +kernel
theorem dX8_takesSong_82 : decode cX8_takesSong 82 = .ok (.iastore, 1) := by decide +kernel
theorem dX8_takesSong_83 : decode cX8_takesSong 83 = .ok (.aload_n 0, 1) := by decide +kernel
theorem dX8_takesSong_84 : decode cX8_takesSong 84 = .ok (.getfield 7, 3) := by decide +kernel
theorem dX8_takesSong_87 : decode cX8_takesSong 87 = .ok (.sipush 187, 3) := by decide +kernel
theorem dX8_takesSong_90 : decode cX8_takesSong 90 = .ok (.dup2, 1) := by decide +kernel
theorem dX8_takesSong_91 : decode cX8_takesSong 91 = .ok (.iaload, 1) := by decide +kernel
theorem dX8_takesSong_92 : decode cX8_takesSong 92 = .ok (.iconst 1, 1) := by decide +kernel
theorem dX8_takesSong_93 : decode cX8_takesSong 93 = .ok (.iadd, 1) := by decide +kernel
theorem dX8_takesSong_94 : decode cX8_takesSong 94 = .ok (.iastore, 1) := by decide +kernel
theorem dX8_takesSong_95 : decode cX8_takesSong 95 = .ok (.goto (-84), 3) := by decide +kernel
theorem dX8_takesSong_98 : decode cX8_takesSong 98 = .ok (.aload_n 0, 1) := by decide +kernel
theorem dX8_takesSong_99 : decode cX8_takesSong 99 = .ok (.aload_n 0, 1) := by decide +kernel
theorem dX8_takesSong_100 : decode cX8_takesSong 100 = .ok (.getfield 99, 3) := by decide +kernel
theorem dX8_takesSong_103 : decode cX8_takesSong 103 = .ok (.putfield 102, 3) := by decide +kernel
theorem dX8_takesSong_106 : decode cX8_takesSong 106 = .ok (.aload_n 0, 1) := by decide +kernel
theorem dX8_takesSong_107 : decode cX8_takesSong 107 = .ok (.iconst 1, 1) := by decide +kernel
theorem dX8_takesSong_108 : decode cX8_takesSong 108 = .ok (.putfield 105, 3) := by decide +kernel
theorem dX8_takesSong_111 : decode cX8_takesSong 111 = .ok (.aload_n 0, 1) := by decide +kernel
theorem dX8_takesSong_112 : decode cX8_takesSong 112 = .ok (.getfield 7, 3) := by decide +kernel
theorem dX8_takesSong_115 : decode cX8_takesSong 115 = .ok (.sipush 187, 3) := by decide +kernel
theorem dX8_takesSong_118 : decode cX8_takesSong 118 = .ok (.iaload, 1) := by decide +kernel
theorem dX8_takesSong_119 : decode cX8_takesSong 119 = .ok (.ifCond .le 16, 3) := by decide +kernel
theorem dX8_takesSong_122 : decode cX8_takesSong 122 = .ok (.aload_n 0, 1) := by decide +kernel
theorem dX8_takesSong_123 : decode cX8_takesSong 123 = .ok (.bipush 59, 2) := by decide +kernel
theorem dX8_takesSong_125 : decode cX8_takesSong 125 = .ok (.invokevirtual 114, 3) := by decide +kernel
theorem dX8_takesSong_128 : decode cX8_takesSong 128 = .ok (.ifCond .eq 7, 3) := by decide +kernel
theorem dX8_takesSong_131 : decode cX8_takesSong 131 = .ok (.iconst 1, 1) := by decide +kernel
theorem dX8_takesSong_132 : decode cX8_takesSong 132 = .ok (.goto 4, 3) := by decide +kernel
theorem dX8_takesSong_135 : decode cX8_takesSong 135 = .ok (.iconst 0, 1) := by decide +kernel
theorem dX8_takesSong_136 : decode cX8_takesSong 136 = .ok (.ireturn, 1) := by decide +kernel
theorem dX8_sortOf_0 : decode cX8_sortOf 0 = .ok (.iload_n 0, 1) := by decide +kernel
theorem dX8_sortOf_1 : decode cX8_sortOf 1 = .ok (.bipush 116, 2) := by decide +kernel
theorem dX8_sortOf_3 : decode cX8_sortOf 3 = .ok (.if_icmp .ne 7, 3) := by decide +kernel
theorem dX8_sortOf_6 : decode cX8_sortOf 6 = .ok (.iconst 1, 1) := by decide +kernel
theorem dX8_sortOf_7 : decode cX8_sortOf 7 = .ok (.goto 44, 3) := by decide +kernel
theorem dX8_sortOf_10 : decode cX8_sortOf 10 = .ok (.iload_n 0, 1) := by decide +kernel
theorem dX8_sortOf_11 : decode cX8_sortOf 11 = .ok (.bipush 114, 2) := by decide +kernel
theorem dX8_sortOf_13 : decode cX8_sortOf 13 = .ok (.if_icmp .ne 7, 3) := by decide +kernel
theorem dX8_sortOf_16 : decode cX8_sortOf 16 = .ok (.iconst 2, 1) := by decide +kernel
theorem dX8_sortOf_17 : decode cX8_sortOf 17 = .ok (.goto 34, 3) := by decide +kernel
theorem dX8_sortOf_20 : decode cX8_sortOf 20 = .ok (.iload_n 0, 1) := by decide +kernel
theorem dX8_sortOf_21 : decode cX8_sortOf 21 = .ok (.bipush 100, 2) := by decide +kernel
theorem dX8_sortOf_23 : decode cX8_sortOf 23 = .ok (.if_icmp .ne 7, 3) := by decide +kernel
theorem dX8_sortOf_26 : decode cX8_sortOf 26 = .ok (.iconst 3, 1) := by decide +kernel
theorem dX8_sortOf_27 : decode cX8_sortOf 27 = .ok (.goto 24, 3) := by decide +kernel
theorem dX8_sortOf_30 : decode cX8_sortOf 30 = .ok (.iload_n 0, 1) := by decide +kernel
theorem dX8_sortOf_31 : decode cX8_sortOf 31 = .ok (.bipush 107, 2) := by decide +kernel
theorem dX8_sortOf_33 : decode cX8_sortOf 33 = .ok (.if_icmp .ne 7, 3) := by decide +kernel
theorem dX8_sortOf_36 : decode cX8_sortOf 36 = .ok (.iconst 4, 1) := by decide +kernel
theorem dX8_sortOf_37 : decode cX8_sortOf 37 = .ok (.goto 14, 3) := by decide +kernel
theorem dX8_sortOf_40 : decode cX8_sortOf 40 = .ok (.iload_n 0, 1) := by decide +kernel
theorem dX8_sortOf_41 : decode cX8_sortOf 41 = .ok (.bipush 108, 2) := by decide +kernel
theorem dX8_sortOf_43 : decode cX8_sortOf 43 = .ok (.if_icmp .ne 7, 3) := by decide +kernel
theorem dX8_sortOf_46 : decode cX8_sortOf 46 = .ok (.iconst 5, 1) := by decide +kernel
theorem dX8_sortOf_47 : decode cX8_sortOf 47 = .ok (.goto 4, 3) := by decide +kernel
theorem dX8_sortOf_50 : decode cX8_sortOf 50 = .ok (.iconst 0, 1) := by decide +kernel
theorem dX8_sortOf_51 : decode cX8_sortOf 51 = .ok (.ireturn, 1) := by decide +kernel
theorem dX8_takesPlayer_0 : decode cX8_takesPlayer 0 = .ok (.aload_n 0, 1) := by decide +kernel
theorem dX8_takesPlayer_1 : decode cX8_takesPlayer 1 = .ok (.aload_n 0, 1) := by decide +kernel
theorem dX8_takesPlayer_2 : decode cX8_takesPlayer 2 = .ok (.getfield 99, 3) := by decide +kernel
theorem dX8_takesPlayer_5 : decode cX8_takesPlayer 5 = .ok (.putfield 102, 3) := by decide +kernel
theorem dX8_takesPlayer_8 : decode cX8_takesPlayer 8 = .ok (.aload_n 0, 1) := by decide +kernel
theorem dX8_takesPlayer_9 : decode cX8_takesPlayer 9 = .ok (.iconst 1, 1) := by decide +kernel
theorem dX8_takesPlayer_10 : decode cX8_takesPlayer 10 = .ok (.putfield 105, 3) := by decide +kernel
theorem dX8_takesPlayer_13 : decode cX8_takesPlayer 13 = .ok (.aload_n 0, 1) := by decide +kernel
theorem dX8_takesPlayer_14 : decode cX8_takesPlayer 14 = .ok (.aload_n 0, 1) := by decide +kernel
theorem dX8_takesPlayer_15 : decode cX8_takesPlayer 15 = .ok (.getfield 99, 3) := by decide +kernel
theorem dX8_takesPlayer_18 : decode cX8_takesPlayer 18 = .ok (.invokevirtual 92, 3) := by decide +kernel
theorem dX8_takesPlayer_21 : decode cX8_takesPlayer 21 = .ok (.invokestatic 128, 3) := by decide +kernel
theorem dX8_takesPlayer_24 : decode cX8_takesPlayer 24 = .ok (.istore_n 1, 1) := by decide +kernel
theorem dX8_takesPlayer_25 : decode cX8_takesPlayer 25 = .ok (.iload_n 1, 1) := by decide +kernel
theorem dX8_takesPlayer_26 : decode cX8_takesPlayer 26 = .ok (.ifCond .ne 5, 3) := by decide +kernel
theorem dX8_takesPlayer_29 : decode cX8_takesPlayer 29 = .ok (.iconst 0, 1) := by decide +kernel
theorem dX8_takesPlayer_30 : decode cX8_takesPlayer 30 = .ok (.ireturn, 1) := by decide +kernel
theorem dX8_takesPlayer_31 : decode cX8_takesPlayer 31 = .ok (.aload_n 0, 1) := by decide +kernel
theorem dX8_takesPlayer_32 : decode cX8_takesPlayer 32 = .ok (.dup, 1) := by decide +kernel
theorem dX8_takesPlayer_33 : decode cX8_takesPlayer 33 = .ok (.getfield 99, 3) := by decide +kernel
theorem dX8_takesPlayer_36 : decode cX8_takesPlayer 36 = .ok (.iconst 1, 1) := by decide +kernel
theorem dX8_takesPlayer_37 : decode cX8_takesPlayer 37 = .ok (.iadd, 1) := by decide +kernel
theorem dX8_takesPlayer_38 : decode cX8_takesPlayer 38 = .ok (.putfield 99, 3) := by decide +kernel
theorem dX8_takesPlayer_41 : decode cX8_takesPlayer 41 = .ok (.aload_n 0, 1) := by decide +kernel
theorem dX8_takesPlayer_42 : decode cX8_takesPlayer 42 = .ok (.getfield 7, 3) := by decide +kernel
theorem dX8_takesPlayer_45 : decode cX8_takesPlayer 45 = .ok (.sipush 188, 3) := by decide +kernel
theorem dX8_takesPlayer_48 : decode cX8_takesPlayer 48 = .ok (.iaload, 1) := by decide +kernel
theorem dX8_takesPlayer_49 : decode cX8_takesPlayer 49 = .ok (.istore_n 2, 1) := by decide +kernel
theorem dX8_takesPlayer_50 : decode cX8_takesPlayer 50 = .ok (.iload_n 2, 1) := by decide +kernel
theorem dX8_takesPlayer_51 : decode cX8_takesPlayer 51 = .ok (.iconst 5, 1) := by decide +kernel
theorem dX8_takesPlayer_52 : decode cX8_takesPlayer 52 = .ok (.if_icmp .ne 8, 3) := by decide +kernel
theorem dX8_takesPlayer_55 : decode cX8_takesPlayer 55 = .ok (.aload_n 0, 1) := by decide +kernel
theorem dX8_takesPlayer_56 : decode cX8_takesPlayer 56 = .ok (.invokevirtual 124, 3) := by decide +kernel
theorem dX8_takesPlayer_59 : decode cX8_takesPlayer 59 = .ok (.ireturn, 1) := by decide +kernel
theorem dX8_takesPlayer_60 : decode cX8_takesPlayer 60 = .ok (.aload_n 0, 1) := by decide +kernel
theorem dX8_takesPlayer_61 : decode cX8_takesPlayer 61 = .ok (.getfield 7, 3) := by decide +kernel
theorem dX8_takesPlayer_64 : decode cX8_takesPlayer 64 = .ok (.sipush 204, 3) := by decide +kernel
theorem dX8_takesPlayer_67 : decode cX8_takesPlayer 67 = .ok (.iload_n 2, 1) := by decide +kernel
theorem dX8_takesPlayer_68 : decode cX8_takesPlayer 68 = .ok (.iadd, 1) := by decide +kernel
theorem dX8_takesPlayer_69 : decode cX8_takesPlayer 69 = .ok (.iload_n 1, 1) := by decide +kernel
theorem dX8_takesPlayer_70 : decode cX8_takesPlayer 70 = .ok (.iastore, 1) := by decide +kernel
theorem dX8_takesPlayer_71 : decode cX8_takesPlayer 71 = .ok (.aload_n 0, 1) := by decide +kernel
theorem dX8_takesPlayer_72 : decode cX8_takesPlayer 72 = .ok (.bipush 40, 2) := by decide +kernel
theorem dX8_takesPlayer_74 : decode cX8_takesPlayer 74 = .ok (.bipush 99, 2) := by decide +kernel
theorem dX8_takesPlayer_76 : decode cX8_takesPlayer 76 = .ok (.invokevirtual 117, 3) := by decide +kernel
theorem dX8_takesPlayer_79 : decode cX8_takesPlayer 79 = .ok (.ifCond .ne 5, 3) := by decide +kernel
theorem dX8_takesPlayer_82 : decode cX8_takesPlayer 82 = .ok (.iconst 0, 1) := by decide +kernel
theorem dX8_takesPlayer_83 : decode cX8_takesPlayer 83 = .ok (.ireturn, 1) := by decide +kernel
theorem dX8_takesPlayer_84 : decode cX8_takesPlayer 84 = .ok (.aload_n 0, 1) := by decide +kernel
theorem dX8_takesPlayer_85 : decode cX8_takesPlayer 85 = .ok (.getfield 7, 3) := by decide +kernel
theorem dX8_takesPlayer_88 : decode cX8_takesPlayer 88 = .ok (.sipush 209, 3) := by decide +kernel
theorem dX8_takesPlayer_91 : decode cX8_takesPlayer 91 = .ok (.iload_n 2, 1) := by decide +kernel
theorem dX8_takesPlayer_92 : decode cX8_takesPlayer 92 = .ok (.iadd, 1) := by decide +kernel
theorem dX8_takesPlayer_93 : decode cX8_takesPlayer 93 = .ok (.bipush 10, 2) := by decide +kernel
theorem dX8_takesPlayer_95 : decode cX8_takesPlayer 95 = .ok (.aload_n 0, 1) := by decide +kernel
theorem dX8_takesPlayer_96 : decode cX8_takesPlayer 96 = .ok (.getfield 108, 3) := by decide +kernel
theorem dX8_takesPlayer_99 : decode cX8_takesPlayer 99 = .ok (.imul, 1) := by decide +kernel
theorem dX8_takesPlayer_100 : decode cX8_takesPlayer 100 = .ok (.iastore, 1) := by decide +kernel
theorem dX8_takesPlayer_101 : decode cX8_takesPlayer 101 = .ok (.aload_n 0, 1) := by decide +kernel
theorem dX8_takesPlayer_102 : decode cX8_takesPlayer 102 = .ok (.bipush 44, 2) := by decide +kernel
theorem dX8_takesPlayer_104 : decode cX8_takesPlayer 104 = .ok (.invokevirtual 114, 3) := by decide +kernel
theorem dX8_takesPlayer_107 : decode cX8_takesPlayer 107 = .ok (.ifCond .eq 13, 3) := by decide +kernel
theorem dX8_takesPlayer_110 : decode cX8_takesPlayer 110 = .ok (.aload_n 0, 1) := by decide +kernel
theorem dX8_takesPlayer_111 : decode cX8_takesPlayer 111 = .ok (.iconst 0, 1) := by decide +kernel
theorem dX8_takesPlayer_112 : decode cX8_takesPlayer 112 = .ok (.bipush 9, 2) := by decide +kernel
theorem dX8_takesPlayer_114 : decode cX8_takesPlayer 114 = .ok (.invokevirtual 117, 3) := by decide +kernel
theorem dX8_takesPlayer_117 : decode cX8_takesPlayer 117 = .ok (.ifCond .ne 5, 3) := by decide +kernel
theorem dX8_takesPlayer_120 : decode cX8_takesPlayer 120 = .ok (.iconst 0, 1) := by decide +kernel
theorem dX8_takesPlayer_121 : decode cX8_takesPlayer 121 = .ok (.ireturn, 1) := by decide +kernel
theorem dX8_takesPlayer_122 : decode cX8_takesPlayer 122 = .ok (.aload_n 0, 1) := by decide +kernel
theorem dX8_takesPlayer_123 : decode cX8_takesPlayer 123 = .ok (.getfield 7, 3) := by decide +kernel
theorem dX8_takesPlayer_126 : decode cX8_takesPlayer 126 = .ok (.sipush 214, 3) := by decide +kernel
theorem dX8_takesPlayer_129 : decode cX8_takesPlayer 129 = .ok (.iload_n 2, 1) := by decide +kernel
theorem dX8_takesPlayer_130 : decode cX8_takesPlayer 130 = .ok (.iadd, 1) := by decide +kernel
theorem dX8_takesPlayer_131 : decode cX8_takesPlayer 131 = .ok (.aload_n 0, 1) := by decide +kernel
theorem dX8_takesPlayer_132 : decode cX8_takesPlayer 132 = .ok (.getfield 108, 3) := by decide +kernel
theorem dX8_takesPlayer_135 : decode cX8_takesPlayer 135 = .ok (.iastore, 1) := by decide +kernel
theorem dX8_takesPlayer_136 : decode cX8_takesPlayer 136 = .ok (.aload_n 0, 1) := by decide +kernel
theorem dX8_takesPlayer_137 : decode cX8_takesPlayer 137 = .ok (.getfield 7, 3) := by decide +kernel
theorem dX8_takesPlayer_140 : decode cX8_takesPlayer 140 = .ok (.sipush 188, 3) := by decide +kernel
theorem dX8_takesPlayer_143 : decode cX8_takesPlayer 143 = .ok (.dup2, 1) := by decide +kernel
theorem dX8_takesPlayer_144 : decode cX8_takesPlayer 144 = .ok (.iaload, 1) := by decide +kernel
theorem dX8_takesPlayer_145 : decode cX8_takesPlayer 145 = .ok (.iconst 1, 1) := by decide +kernel
theorem dX8_takesPlayer_146 : decode cX8_takesPlayer 146 = .ok (.iadd, 1) := by decide +kernel
theorem dX8_takesPlayer_147 : decode cX8_takesPlayer 147 = .ok (.iastore, 1) := by decide +kernel
theorem dX8_takesPlayer_148 : decode cX8_takesPlayer 148 = .ok (.aload_n 0, 1) := by decide +kernel
theorem dX8_takesPlayer_149 : decode cX8_takesPlayer 149 = .ok (.bipush 59, 2) := by decide +kernel
theorem dX8_takesPlayer_151 : decode cX8_takesPlayer 151 = .ok (.invokevirtual 114, 3) := by decide +kernel
theorem dX8_takesPlayer_154 : decode cX8_takesPlayer 154 = .ok (.ireturn, 1) := by decide +kernel
theorem dX8_takesEar_0 : decode cX8_takesEar 0 = .ok (.aload_n 0, 1) := by decide +kernel
theorem dX8_takesEar_1 : decode cX8_takesEar 1 = .ok (.bipush 119, 2) := by decide +kernel
theorem dX8_takesEar_3 : decode cX8_takesEar 3 = .ok (.invokevirtual 114, 3) := by decide +kernel
theorem dX8_takesEar_6 : decode cX8_takesEar 6 = .ok (.ifCond .ne 5, 3) := by decide +kernel
theorem dX8_takesEar_9 : decode cX8_takesEar 9 = .ok (.iconst 0, 1) := by decide +kernel
theorem dX8_takesEar_10 : decode cX8_takesEar 10 = .ok (.ireturn, 1) := by decide +kernel
theorem dX8_takesEar_11 : decode cX8_takesEar 11 = .ok (.aload_n 0, 1) := by decide +kernel
theorem dX8_takesEar_12 : decode cX8_takesEar 12 = .ok (.getfield 131, 3) := by decide +kernel
theorem dX8_takesEar_15 : decode cX8_takesEar 15 = .ok (.bipush 12, 2) := by decide +kernel
theorem dX8_takesEar_17 : decode cX8_takesEar 17 = .ok (.if_icmp .ne 8, 3) := by decide +kernel
theorem dX8_takesEar_20 : decode cX8_takesEar 20 = .ok (.aload_n 0, 1) := by decide +kernel
theorem dX8_takesEar_21 : decode cX8_takesEar 21 = .ok (.invokevirtual 124, 3) := by decide +kernel
theorem dX8_takesEar_24 : decode cX8_takesEar 24 = .ok (.ireturn, 1) := by decide +kernel
theorem dX8_takesEar_25 : decode cX8_takesEar 25 = .ok (.aload_n 0, 1) := by decide +kernel
theorem dX8_takesEar_26 : decode cX8_takesEar 26 = .ok (.getfield 7, 3) := by decide +kernel
theorem dX8_takesEar_29 : decode cX8_takesEar 29 = .ok (.sipush 188, 3) := by decide +kernel
theorem dX8_takesEar_32 : decode cX8_takesEar 32 = .ok (.iaload, 1) := by decide +kernel
theorem dX8_takesEar_33 : decode cX8_takesEar 33 = .ok (.istore_n 1, 1) := by decide +kernel
theorem dX8_takesEar_34 : decode cX8_takesEar 34 = .ok (.aload_n 0, 1) := by decide +kernel
theorem dX8_takesEar_35 : decode cX8_takesEar 35 = .ok (.iconst 0, 1) := by decide +kernel
theorem dX8_takesEar_36 : decode cX8_takesEar 36 = .ok (.iload_n 1, 1) := by decide +kernel
theorem dX8_takesEar_37 : decode cX8_takesEar 37 = .ok (.iconst 1, 1) := by decide +kernel
theorem dX8_takesEar_38 : decode cX8_takesEar 38 = .ok (.isub, 1) := by decide +kernel
theorem dX8_takesEar_39 : decode cX8_takesEar 39 = .ok (.invokevirtual 117, 3) := by decide +kernel
theorem dX8_takesEar_42 : decode cX8_takesEar 42 = .ok (.ifCond .ne 5, 3) := by decide +kernel
theorem dX8_takesEar_45 : decode cX8_takesEar 45 = .ok (.iconst 0, 1) := by decide +kernel
theorem dX8_takesEar_46 : decode cX8_takesEar 46 = .ok (.ireturn, 1) := by decide +kernel
theorem dX8_takesEar_47 : decode cX8_takesEar 47 = .ok (.aload_n 0, 1) := by decide +kernel
theorem dX8_takesEar_48 : decode cX8_takesEar 48 = .ok (.getfield 108, 3) := by decide +kernel
theorem dX8_takesEar_51 : decode cX8_takesEar 51 = .ok (.istore_n 2, 1) := by decide +kernel
theorem dX8_takesEar_52 : decode cX8_takesEar 52 = .ok (.aload_n 0, 1) := by decide +kernel
theorem dX8_takesEar_53 : decode cX8_takesEar 53 = .ok (.bipush 44, 2) := by decide +kernel
theorem dX8_takesEar_55 : decode cX8_takesEar 55 = .ok (.invokevirtual 114, 3) := by decide +kernel
theorem dX8_takesEar_58 : decode cX8_takesEar 58 = .ok (.ifCond .eq 42, 3) := by decide +kernel
theorem dX8_takesEar_61 : decode cX8_takesEar 61 = .ok (.aload_n 0, 1) := by decide +kernel
theorem dX8_takesEar_62 : decode cX8_takesEar 62 = .ok (.iconst 0, 1) := by decide +kernel
theorem dX8_takesEar_63 : decode cX8_takesEar 63 = .ok (.iload_n 1, 1) := by decide +kernel
theorem dX8_takesEar_64 : decode cX8_takesEar 64 = .ok (.iconst 1, 1) := by decide +kernel
theorem dX8_takesEar_65 : decode cX8_takesEar 65 = .ok (.isub, 1) := by decide +kernel
theorem dX8_takesEar_66 : decode cX8_takesEar 66 = .ok (.invokevirtual 117, 3) := by decide +kernel
theorem dX8_takesEar_69 : decode cX8_takesEar 69 = .ok (.ifCond .eq 31, 3) := by decide +kernel
theorem dX8_takesEar_72 : decode cX8_takesEar 72 = .ok (.aload_n 0, 1) := by decide +kernel
theorem dX8_takesEar_73 : decode cX8_takesEar 73 = .ok (.getfield 108, 3) := by decide +kernel
theorem dX8_takesEar_76 : decode cX8_takesEar 76 = .ok (.iload_n 2, 1) := by decide +kernel
theorem dX8_takesEar_77 : decode cX8_takesEar 77 = .ok (.if_icmp .eq 23, 3) := by decide +kernel
theorem dX8_takesEar_80 : decode cX8_takesEar 80 = .ok (.aload_n 0, 1) := by decide +kernel
theorem dX8_takesEar_81 : decode cX8_takesEar 81 = .ok (.getfield 7, 3) := by decide +kernel
theorem dX8_takesEar_84 : decode cX8_takesEar 84 = .ok (.sipush 219, 3) := by decide +kernel
theorem dX8_takesEar_87 : decode cX8_takesEar 87 = .ok (.iconst 5, 1) := by decide +kernel
theorem dX8_takesEar_88 : decode cX8_takesEar 88 = .ok (.iload_n 2, 1) := by decide +kernel
theorem dX8_takesEar_89 : decode cX8_takesEar 89 = .ok (.imul, 1) := by decide +kernel
theorem dX8_takesEar_90 : decode cX8_takesEar 90 = .ok (.iadd, 1) := by decide +kernel
theorem dX8_takesEar_91 : decode cX8_takesEar 91 = .ok (.aload_n 0, 1) := by decide +kernel
theorem dX8_takesEar_92 : decode cX8_takesEar 92 = .ok (.getfield 108, 3) := by decide +kernel
theorem dX8_takesEar_95 : decode cX8_takesEar 95 = .ok (.iadd, 1) := by decide +kernel
theorem dX8_takesEar_96 : decode cX8_takesEar 96 = .ok (.iaload, 1) := by decide +kernel
theorem dX8_takesEar_97 : decode cX8_takesEar 97 = .ok (.ifCond .le 5, 3) := by decide +kernel
theorem dX8_takesEar_100 : decode cX8_takesEar 100 = .ok (.iconst 0, 1) := by decide +kernel
theorem dX8_takesEar_101 : decode cX8_takesEar 101 = .ok (.ireturn, 1) := by decide +kernel
theorem dX8_takesEar_102 : decode cX8_takesEar 102 = .ok (.aload_n 0, 1) := by decide +kernel
theorem dX8_takesEar_103 : decode cX8_takesEar 103 = .ok (.getfield 108, 3) := by decide +kernel
theorem dX8_takesEar_106 : decode cX8_takesEar 106 = .ok (.istore_n 3, 1) := by decide +kernel
theorem dX8_takesEar_107 : decode cX8_takesEar 107 = .ok (.aload_n 0, 1) := by decide +kernel
theorem dX8_takesEar_108 : decode cX8_takesEar 108 = .ok (.bipush 44, 2) := by decide +kernel
theorem dX8_takesEar_110 : decode cX8_takesEar 110 = .ok (.invokevirtual 114, 3) := by decide +kernel
theorem dX8_takesEar_113 : decode cX8_takesEar 113 = .ok (.ifCond .eq 13, 3) := by decide +kernel
theorem dX8_takesEar_116 : decode cX8_takesEar 116 = .ok (.aload_n 0, 1) := by decide +kernel
theorem dX8_takesEar_117 : decode cX8_takesEar 117 = .ok (.iconst 1, 1) := by decide +kernel
theorem dX8_takesEar_118 : decode cX8_takesEar 118 = .ok (.bipush 9, 2) := by decide +kernel
theorem dX8_takesEar_120 : decode cX8_takesEar 120 = .ok (.invokevirtual 117, 3) := by decide +kernel
theorem dX8_takesEar_123 : decode cX8_takesEar 123 = .ok (.ifCond .ne 5, 3) := by decide +kernel
theorem dX8_takesEar_126 : decode cX8_takesEar 126 = .ok (.iconst 0, 1) := by decide +kernel
theorem dX8_takesEar_127 : decode cX8_takesEar 127 = .ok (.ireturn, 1) := by decide +kernel
theorem dX8_takesEar_128 : decode cX8_takesEar 128 = .ok (.aload_n 0, 1) := by decide +kernel
theorem dX8_takesEar_129 : decode cX8_takesEar 129 = .ok (.getfield 7, 3) := by decide +kernel
theorem dX8_takesEar_132 : decode cX8_takesEar 132 = .ok (.sipush 219, 3) := by decide +kernel
theorem dX8_takesEar_135 : decode cX8_takesEar 135 = .ok (.iconst 5, 1) := by decide +kernel
theorem dX8_takesEar_136 : decode cX8_takesEar 136 = .ok (.iload_n 2, 1) := by decide +kernel
theorem dX8_takesEar_137 : decode cX8_takesEar 137 = .ok (.imul, 1) := by decide +kernel
theorem dX8_takesEar_138 : decode cX8_takesEar 138 = .ok (.iadd, 1) := by decide +kernel
theorem dX8_takesEar_139 : decode cX8_takesEar 139 = .ok (.iload_n 3, 1) := by decide +kernel
theorem dX8_takesEar_140 : decode cX8_takesEar 140 = .ok (.iadd, 1) := by decide +kernel
theorem dX8_takesEar_141 : decode cX8_takesEar 141 = .ok (.aload_n 0, 1) := by decide +kernel
theorem dX8_takesEar_142 : decode cX8_takesEar 142 = .ok (.getfield 108, 3) := by decide +kernel
theorem dX8_takesEar_145 : decode cX8_takesEar 145 = .ok (.iastore, 1) := by decide +kernel
theorem dX8_takesEar_146 : decode cX8_takesEar 146 = .ok (.aload_n 0, 1) := by decide +kernel
theorem dX8_takesEar_147 : decode cX8_takesEar 147 = .ok (.dup, 1) := by decide +kernel
theorem dX8_takesEar_148 : decode cX8_takesEar 148 = .ok (.getfield 131, 3) := by decide +kernel
theorem dX8_takesEar_151 : decode cX8_takesEar 151 = .ok (.iconst 1, 1) := by decide +kernel
theorem dX8_takesEar_152 : decode cX8_takesEar 152 = .ok (.iadd, 1) := by decide +kernel
theorem dX8_takesEar_153 : decode cX8_takesEar 153 = .ok (.putfield 131, 3) := by decide +kernel
theorem dX8_takesEar_156 : decode cX8_takesEar 156 = .ok (.aload_n 0, 1) := by decide +kernel
theorem dX8_takesEar_157 : decode cX8_takesEar 157 = .ok (.bipush 59, 2) := by decide +kernel
theorem dX8_takesEar_159 : decode cX8_takesEar 159 = .ok (.invokevirtual 114, 3) := by decide +kernel
theorem dX8_takesEar_162 : decode cX8_takesEar 162 = .ok (.ireturn, 1) := by decide +kernel
theorem dX8_isBand_0 : decode cX8_isBand 0 = .ok (.iconst 0, 1) := by decide +kernel
theorem dX8_isBand_1 : decode cX8_isBand 1 = .ok (.istore_n 1, 1) := by decide +kernel
theorem dX8_isBand_2 : decode cX8_isBand 2 = .ok (.iload_n 1, 1) := by decide +kernel
theorem dX8_isBand_3 : decode cX8_isBand 3 = .ok (.bipush 61, 2) := by decide +kernel
theorem dX8_isBand_5 : decode cX8_isBand 5 = .ok (.if_icmp .ge 20, 3) := by decide +kernel
theorem dX8_isBand_8 : decode cX8_isBand 8 = .ok (.aload_n 0, 1) := by decide +kernel
theorem dX8_isBand_9 : decode cX8_isBand 9 = .ok (.getfield 7, 3) := by decide +kernel
theorem dX8_isBand_12 : decode cX8_isBand 12 = .ok (.sipush 183, 3) := by decide +kernel
theorem dX8_isBand_15 : decode cX8_isBand 15 = .ok (.iload_n 1, 1) := by decide +kernel
theorem dX8_isBand_16 : decode cX8_isBand 16 = .ok (.iadd, 1) := by decide +kernel
theorem dX8_isBand_17 : decode cX8_isBand 17 = .ok (.iconst 0, 1) := by decide +kernel
theorem dX8_isBand_18 : decode cX8_isBand 18 = .ok (.iastore, 1) := by decide +kernel
theorem dX8_isBand_19 : decode cX8_isBand 19 = .ok (.iinc 1 1, 3) := by decide +kernel
theorem dX8_isBand_22 : decode cX8_isBand 22 = .ok (.goto (-20), 3) := by decide +kernel
theorem dX8_isBand_25 : decode cX8_isBand 25 = .ok (.aload_n 0, 1) := by decide +kernel
theorem dX8_isBand_26 : decode cX8_isBand 26 = .ok (.iconst 0, 1) := by decide +kernel
theorem dX8_isBand_27 : decode cX8_isBand 27 = .ok (.putfield 99, 3) := by decide +kernel
theorem dX8_isBand_30 : decode cX8_isBand 30 = .ok (.aload_n 0, 1) := by decide +kernel
theorem dX8_isBand_31 : decode cX8_isBand 31 = .ok (.iconst 0, 1) := by decide +kernel
theorem dX8_isBand_32 : decode cX8_isBand 32 = .ok (.putfield 131, 3) := by decide +kernel
theorem dX8_isBand_35 : decode cX8_isBand 35 = .ok (.aload_n 0, 1) := by decide +kernel
theorem dX8_isBand_36 : decode cX8_isBand 36 = .ok (.invokevirtual 134, 3) := by decide +kernel
theorem dX8_isBand_39 : decode cX8_isBand 39 = .ok (.ifCond .eq 21, 3) := by decide +kernel
theorem dX8_isBand_42 : decode cX8_isBand 42 = .ok (.aload_n 0, 1) := by decide +kernel
theorem dX8_isBand_43 : decode cX8_isBand 43 = .ok (.invokevirtual 137, 3) := by decide +kernel
theorem dX8_isBand_46 : decode cX8_isBand 46 = .ok (.ifCond .eq 14, 3) := by decide +kernel
theorem dX8_isBand_49 : decode cX8_isBand 49 = .ok (.aload_n 0, 1) := by decide +kernel
theorem dX8_isBand_50 : decode cX8_isBand 50 = .ok (.invokevirtual 140, 3) := by decide +kernel
theorem dX8_isBand_53 : decode cX8_isBand 53 = .ok (.ifCond .eq 7, 3) := by decide +kernel
theorem dX8_isBand_56 : decode cX8_isBand 56 = .ok (.iconst 1, 1) := by decide +kernel
theorem dX8_isBand_57 : decode cX8_isBand 57 = .ok (.goto 4, 3) := by decide +kernel
theorem dX8_isBand_60 : decode cX8_isBand 60 = .ok (.iconst 0, 1) := by decide +kernel
theorem dX8_isBand_61 : decode cX8_isBand 61 = .ok (.istore_n 1, 1) := by decide +kernel
theorem dX8_isBand_62 : decode cX8_isBand 62 = .ok (.iload_n 1, 1) := by decide +kernel
theorem dX8_isBand_63 : decode cX8_isBand 63 = .ok (.ifCond .eq 25, 3) := by decide +kernel
theorem dX8_isBand_66 : decode cX8_isBand 66 = .ok (.aload_n 0, 1) := by decide +kernel
theorem dX8_isBand_67 : decode cX8_isBand 67 = .ok (.aload_n 0, 1) := by decide +kernel
theorem dX8_isBand_68 : decode cX8_isBand 68 = .ok (.getfield 99, 3) := by decide +kernel
theorem dX8_isBand_71 : decode cX8_isBand 71 = .ok (.invokevirtual 92, 3) := by decide +kernel
theorem dX8_isBand_74 : decode cX8_isBand 74 = .ok (.invokestatic 128, 3) := by decide +kernel
theorem dX8_isBand_77 : decode cX8_isBand 77 = .ok (.ifCond .le 11, 3) := by decide +kernel
theorem dX8_isBand_80 : decode cX8_isBand 80 = .ok (.aload_n 0, 1) := by decide +kernel
theorem dX8_isBand_81 : decode cX8_isBand 81 = .ok (.invokevirtual 140, 3) := by decide +kernel
theorem dX8_isBand_84 : decode cX8_isBand 84 = .ok (.istore_n 1, 1) := by decide +kernel
theorem dX8_isBand_85 : decode cX8_isBand 85 = .ok (.goto (-23), 3) := by decide +kernel
theorem dX8_isBand_88 : decode cX8_isBand 88 = .ok (.iload_n 1, 1) := by decide +kernel
theorem dX8_isBand_89 : decode cX8_isBand 89 = .ok (.ifCond .eq 22, 3) := by decide +kernel
theorem dX8_isBand_92 : decode cX8_isBand 92 = .ok (.aload_n 0, 1) := by decide +kernel
theorem dX8_isBand_93 : decode cX8_isBand 93 = .ok (.getfield 99, 3) := by decide +kernel
theorem dX8_isBand_96 : decode cX8_isBand 96 = .ok (.aload_n 0, 1) := by decide +kernel
theorem dX8_isBand_97 : decode cX8_isBand 97 = .ok (.getfield 88, 3) := by decide +kernel
theorem dX8_isBand_100 : decode cX8_isBand 100 = .ok (.if_icmp .ge 11, 3) := by decide +kernel
theorem dX8_isBand_103 : decode cX8_isBand 103 = .ok (.aload_n 0, 1) := by decide +kernel
theorem dX8_isBand_104 : decode cX8_isBand 104 = .ok (.invokevirtual 143, 3) := by decide +kernel
theorem dX8_isBand_107 : decode cX8_isBand 107 = .ok (.istore_n 1, 1) := by decide +kernel
theorem dX8_isBand_108 : decode cX8_isBand 108 = .ok (.goto (-20), 3) := by decide +kernel
theorem dX8_isBand_111 : decode cX8_isBand 111 = .ok (.iload_n 1, 1) := by decide +kernel
theorem dX8_isBand_112 : decode cX8_isBand 112 = .ok (.ireturn, 1) := by decide +kernel
theorem dX8_band_0 : decode cX8_band 0 = .ok (.aload_n 0, 1) := by decide +kernel
theorem dX8_band_1 : decode cX8_band 1 = .ok (.invokevirtual 146, 3) := by decide +kernel
theorem dX8_band_4 : decode cX8_band 4 = .ok (.istore_n 1, 1) := by decide +kernel
theorem dX8_band_5 : decode cX8_band 5 = .ok (.aload_n 0, 1) := by decide +kernel
theorem dX8_band_6 : decode cX8_band 6 = .ok (.iconst 0, 1) := by decide +kernel
theorem dX8_band_7 : decode cX8_band 7 = .ok (.putfield 88, 3) := by decide +kernel
theorem dX8_band_10 : decode cX8_band 10 = .ok (.iload_n 1, 1) := by decide +kernel
theorem dX8_band_11 : decode cX8_band 11 = .ok (.ifCond .ne 19, 3) := by decide +kernel
theorem dX8_band_14 : decode cX8_band 14 = .ok (.aload_n 0, 1) := by decide +kernel
theorem dX8_band_15 : decode cX8_band 15 = .ok (.aload_n 0, 1) := by decide +kernel
theorem dX8_band_16 : decode cX8_band 16 = .ok (.getfield 105, 3) := by decide +kernel
theorem dX8_band_19 : decode cX8_band 19 = .ok (.putfield 149, 3) := by decide +kernel
theorem dX8_band_22 : decode cX8_band 22 = .ok (.ldc 152, 2) := by decide +kernel
theorem dX8_band_24 : decode cX8_band 24 = .ok (.aload_n 0, 1) := by decide +kernel
theorem dX8_band_25 : decode cX8_band 25 = .ok (.getfield 102, 3) := by decide +kernel
theorem dX8_band_28 : decode cX8_band 28 = .ok (.isub, 1) := by decide +kernel
theorem dX8_band_29 : decode cX8_band 29 = .ok (.ireturn, 1) := by decide +kernel
theorem dX8_band_30 : decode cX8_band 30 = .ok (.iconst 0, 1) := by decide +kernel
theorem dX8_band_31 : decode cX8_band 31 = .ok (.istore_n 2, 1) := by decide +kernel
theorem dX8_band_32 : decode cX8_band 32 = .ok (.iload_n 2, 1) := by decide +kernel
theorem dX8_band_33 : decode cX8_band 33 = .ok (.bipush 61, 2) := by decide +kernel
theorem dX8_band_35 : decode cX8_band 35 = .ok (.if_icmp .ge 25, 3) := by decide +kernel
theorem dX8_band_38 : decode cX8_band 38 = .ok (.aload_n 0, 1) := by decide +kernel
theorem dX8_band_39 : decode cX8_band 39 = .ok (.getfield 7, 3) := by decide +kernel
theorem dX8_band_42 : decode cX8_band 42 = .ok (.iload_n 2, 1) := by decide +kernel
theorem dX8_band_43 : decode cX8_band 43 = .ok (.aload_n 0, 1) := by decide +kernel
theorem dX8_band_44 : decode cX8_band 44 = .ok (.getfield 7, 3) := by decide +kernel
theorem dX8_band_47 : decode cX8_band 47 = .ok (.sipush 183, 3) := by decide +kernel
theorem dX8_band_50 : decode cX8_band 50 = .ok (.iload_n 2, 1) := by decide +kernel
theorem dX8_band_51 : decode cX8_band 51 = .ok (.iadd, 1) := by decide +kernel
theorem dX8_band_52 : decode cX8_band 52 = .ok (.iaload, 1) := by decide +kernel
theorem dX8_band_53 : decode cX8_band 53 = .ok (.iastore, 1) := by decide +kernel
theorem dX8_band_54 : decode cX8_band 54 = .ok (.iinc 2 1, 3) := by decide +kernel
theorem dX8_band_57 : decode cX8_band 57 = .ok (.goto (-25), 3) := by decide +kernel
theorem dX8_band_60 : decode cX8_band 60 = .ok (.aload_n 0, 1) := by decide +kernel
theorem dX8_band_61 : decode cX8_band 61 = .ok (.getfield 7, 3) := by decide +kernel
theorem dX8_band_64 : decode cX8_band 64 = .ok (.bipush 8, 2) := by decide +kernel
theorem dX8_band_66 : decode cX8_band 66 = .ok (.iconst 1, 1) := by decide +kernel
theorem dX8_band_67 : decode cX8_band 67 = .ok (.iastore, 1) := by decide +kernel
theorem dX8_band_68 : decode cX8_band 68 = .ok (.aload_n 0, 1) := by decide +kernel
theorem dX8_band_69 : decode cX8_band 69 = .ok (.iconst 0, 1) := by decide +kernel
theorem dX8_band_70 : decode cX8_band 70 = .ok (.putfield 153, 3) := by decide +kernel
theorem dX8_band_73 : decode cX8_band 73 = .ok (.aload_n 0, 1) := by decide +kernel
theorem dX8_band_74 : decode cX8_band 74 = .ok (.getfield 7, 3) := by decide +kernel
theorem dX8_band_77 : decode cX8_band 77 = .ok (.iconst 5, 1) := by decide +kernel
theorem dX8_band_78 : decode cX8_band 78 = .ok (.iaload, 1) := by decide +kernel
theorem dX8_band_79 : decode cX8_band 79 = .ok (.ireturn, 1) := by decide +kernel
theorem dX8_fault_0 : decode cX8_fault 0 = .ok (.aload_n 0, 1) := by decide +kernel
theorem dX8_fault_1 : decode cX8_fault 1 = .ok (.getfield 149, 3) := by decide +kernel
theorem dX8_fault_4 : decode cX8_fault 4 = .ok (.ireturn, 1) := by decide +kernel
theorem dX8_layNow_0 : decode cX8_layNow 0 = .ok (.iconst 0, 1) := by decide +kernel
theorem dX8_layNow_1 : decode cX8_layNow 1 = .ok (.istore_n 1, 1) := by decide +kernel
theorem dX8_layNow_2 : decode cX8_layNow 2 = .ok (.iload_n 1, 1) := by decide +kernel
theorem dX8_layNow_3 : decode cX8_layNow 3 = .ok (.iconst 5, 1) := by decide +kernel
theorem dX8_layNow_4 : decode cX8_layNow 4 = .ok (.if_icmp .ge 54, 3) := by decide +kernel
theorem dX8_layNow_7 : decode cX8_layNow 7 = .ok (.aload_n 0, 1) := by decide +kernel
theorem dX8_layNow_8 : decode cX8_layNow 8 = .ok (.getfield 32, 3) := by decide +kernel
theorem dX8_layNow_11 : decode cX8_layNow 11 = .ok (.iload_n 1, 1) := by decide +kernel
theorem dX8_layNow_12 : decode cX8_layNow 12 = .ok (.aload_n 0, 1) := by decide +kernel
theorem dX8_layNow_13 : decode cX8_layNow 13 = .ok (.getfield 7, 3) := by decide +kernel
theorem dX8_layNow_16 : decode cX8_layNow 16 = .ok (.bipush 26, 2) := by decide +kernel
theorem dX8_layNow_18 : decode cX8_layNow 18 = .ok (.iload_n 1, 1) := by decide +kernel
theorem dX8_layNow_19 : decode cX8_layNow 19 = .ok (.iadd, 1) := by decide +kernel
theorem dX8_layNow_20 : decode cX8_layNow 20 = .ok (.iaload, 1) := by decide +kernel
theorem dX8_layNow_21 : decode cX8_layNow 21 = .ok (.iastore, 1) := by decide +kernel
theorem dX8_layNow_22 : decode cX8_layNow 22 = .ok (.aload_n 0, 1) := by decide +kernel
theorem dX8_layNow_23 : decode cX8_layNow 23 = .ok (.getfield 38, 3) := by decide +kernel
theorem dX8_layNow_26 : decode cX8_layNow 26 = .ok (.iload_n 1, 1) := by decide +kernel
theorem dX8_layNow_27 : decode cX8_layNow 27 = .ok (.aload_n 0, 1) := by decide +kernel
theorem dX8_layNow_28 : decode cX8_layNow 28 = .ok (.getfield 7, 3) := by decide +kernel
theorem dX8_layNow_31 : decode cX8_layNow 31 = .ok (.bipush 21, 2) := by decide +kernel
theorem dX8_layNow_33 : decode cX8_layNow 33 = .ok (.iload_n 1, 1) := by decide +kernel
theorem dX8_layNow_34 : decode cX8_layNow 34 = .ok (.iadd, 1) := by decide +kernel
theorem dX8_layNow_35 : decode cX8_layNow 35 = .ok (.iaload, 1) := by decide +kernel
theorem dX8_layNow_36 : decode cX8_layNow 36 = .ok (.iastore, 1) := by decide +kernel
theorem dX8_layNow_37 : decode cX8_layNow 37 = .ok (.aload_n 0, 1) := by decide +kernel
theorem dX8_layNow_38 : decode cX8_layNow 38 = .ok (.getfield 41, 3) := by decide +kernel
theorem dX8_layNow_41 : decode cX8_layNow 41 = .ok (.iload_n 1, 1) := by decide +kernel
theorem dX8_layNow_42 : decode cX8_layNow 42 = .ok (.aload_n 0, 1) := by decide +kernel
theorem dX8_layNow_43 : decode cX8_layNow 43 = .ok (.getfield 7, 3) := by decide +kernel
theorem dX8_layNow_46 : decode cX8_layNow 46 = .ok (.bipush 31, 2) := by decide +kernel
theorem dX8_layNow_48 : decode cX8_layNow 48 = .ok (.iload_n 1, 1) := by decide +kernel
theorem dX8_layNow_49 : decode cX8_layNow 49 = .ok (.iadd, 1) := by decide +kernel
theorem dX8_layNow_50 : decode cX8_layNow 50 = .ok (.iaload, 1) := by decide +kernel
theorem dX8_layNow_51 : decode cX8_layNow 51 = .ok (.iastore, 1) := by decide +kernel
theorem dX8_layNow_52 : decode cX8_layNow 52 = .ok (.iinc 1 1, 3) := by decide +kernel
theorem dX8_layNow_55 : decode cX8_layNow 55 = .ok (.goto (-53), 3) := by decide +kernel
theorem dX8_layNow_58 : decode cX8_layNow 58 = .ok (.iconst 0, 1) := by decide +kernel
theorem dX8_layNow_59 : decode cX8_layNow 59 = .ok (.istore_n 1, 1) := by decide +kernel
theorem dX8_layNow_60 : decode cX8_layNow 60 = .ok (.iload_n 1, 1) := by decide +kernel
theorem dX8_layNow_61 : decode cX8_layNow 61 = .ok (.bipush 25, 2) := by decide +kernel
theorem dX8_layNow_63 : decode cX8_layNow 63 = .ok (.if_icmp .ge 24, 3) := by decide +kernel
theorem dX8_layNow_66 : decode cX8_layNow 66 = .ok (.aload_n 0, 1) := by decide +kernel
theorem dX8_layNow_67 : decode cX8_layNow 67 = .ok (.getfield 44, 3) := by decide +kernel
theorem dX8_layNow_70 : decode cX8_layNow 70 = .ok (.iload_n 1, 1) := by decide +kernel
theorem dX8_layNow_71 : decode cX8_layNow 71 = .ok (.aload_n 0, 1) := by decide +kernel
theorem dX8_layNow_72 : decode cX8_layNow 72 = .ok (.getfield 7, 3) := by decide +kernel
theorem dX8_layNow_75 : decode cX8_layNow 75 = .ok (.bipush 36, 2) := by decide +kernel
theorem dX8_layNow_77 : decode cX8_layNow 77 = .ok (.iload_n 1, 1) := by decide +kernel
theorem dX8_layNow_78 : decode cX8_layNow 78 = .ok (.iadd, 1) := by decide +kernel
theorem dX8_layNow_79 : decode cX8_layNow 79 = .ok (.iaload, 1) := by decide +kernel
theorem dX8_layNow_80 : decode cX8_layNow 80 = .ok (.iastore, 1) := by decide +kernel
theorem dX8_layNow_81 : decode cX8_layNow 81 = .ok (.iinc 1 1, 3) := by decide +kernel
theorem dX8_layNow_84 : decode cX8_layNow 84 = .ok (.goto (-24), 3) := by decide +kernel
theorem dX8_layNow_87 : decode cX8_layNow 87 = .ok (.aload_n 0, 1) := by decide +kernel
theorem dX8_layNow_88 : decode cX8_layNow 88 = .ok (.aload_n 0, 1) := by decide +kernel
theorem dX8_layNow_89 : decode cX8_layNow 89 = .ok (.getfield 7, 3) := by decide +kernel
theorem dX8_layNow_92 : decode cX8_layNow 92 = .ok (.bipush 6, 2) := by decide +kernel
theorem dX8_layNow_94 : decode cX8_layNow 94 = .ok (.iaload, 1) := by decide +kernel
theorem dX8_layNow_95 : decode cX8_layNow 95 = .ok (.putfield 156, 3) := by decide +kernel
theorem dX8_layNow_98 : decode cX8_layNow 98 = .ok (.aload_n 0, 1) := by decide +kernel
theorem dX8_layNow_99 : decode cX8_layNow 99 = .ok (.iconst (-1), 1) := by decide +kernel
theorem dX8_layNow_100 : decode cX8_layNow 100 = .ok (.putfield 159, 3) := by decide +kernel
theorem dX8_layNow_103 : decode cX8_layNow 103 = .ok (.return_, 1) := by decide +kernel
theorem dX8_leanAt_0 : decode cX8_leanAt 0 = .ok (.iload_n 1, 1) := by decide +kernel
theorem dX8_leanAt_1 : decode cX8_leanAt 1 = .ok (.iconst 4, 1) := by decide +kernel
theorem dX8_leanAt_2 : decode cX8_leanAt 2 = .ok (.if_icmp .lt 5, 3) := by decide +kernel
theorem dX8_leanAt_5 : decode cX8_leanAt 5 = .ok (.iconst 0, 1) := by decide +kernel
theorem dX8_leanAt_6 : decode cX8_leanAt 6 = .ok (.ireturn, 1) := by decide +kernel
theorem dX8_leanAt_7 : decode cX8_leanAt 7 = .ok (.iload_n 2, 1) := by decide +kernel
theorem dX8_leanAt_8 : decode cX8_leanAt 8 = .ok (.iconst 1, 1) := by decide +kernel
theorem dX8_leanAt_9 : decode cX8_leanAt 9 = .ok (.if_icmp .ne 12, 3) := by decide +kernel
theorem dX8_leanAt_12 : decode cX8_leanAt 12 = .ok (.aload_n 0, 1) := by decide +kernel
theorem dX8_leanAt_13 : decode cX8_leanAt 13 = .ok (.getfield 7, 3) := by decide +kernel
theorem dX8_leanAt_16 : decode cX8_leanAt 16 = .ok (.iconst 0, 1) := by decide +kernel
theorem dX8_leanAt_17 : decode cX8_leanAt 17 = .ok (.iaload, 1) := by decide +kernel
theorem dX8_leanAt_18 : decode cX8_leanAt 18 = .ok (.goto 33, 3) := by decide +kernel
theorem dX8_leanAt_21 : decode cX8_leanAt 21 = .ok (.iload_n 2, 1) := by decide +kernel
theorem dX8_leanAt_22 : decode cX8_leanAt 22 = .ok (.iconst 2, 1) := by decide +kernel
theorem dX8_leanAt_23 : decode cX8_leanAt 23 = .ok (.if_icmp .ne 13, 3) := by decide +kernel
theorem dX8_leanAt_26 : decode cX8_leanAt 26 = .ok (.aload_n 0, 1) := by decide +kernel
theorem dX8_leanAt_27 : decode cX8_leanAt 27 = .ok (.getfield 7, 3) := by decide +kernel
theorem dX8_leanAt_30 : decode cX8_leanAt 30 = .ok (.iconst 1, 1) := by decide +kernel
theorem dX8_leanAt_31 : decode cX8_leanAt 31 = .ok (.iaload, 1) := by decide +kernel
theorem dX8_leanAt_32 : decode cX8_leanAt 32 = .ok (.ineg, 1) := by decide +kernel
theorem dX8_leanAt_33 : decode cX8_leanAt 33 = .ok (.goto 18, 3) := by decide +kernel
theorem dX8_leanAt_36 : decode cX8_leanAt 36 = .ok (.iload_n 2, 1) := by decide +kernel
theorem dX8_leanAt_37 : decode cX8_leanAt 37 = .ok (.iconst 3, 1) := by decide +kernel
theorem dX8_leanAt_38 : decode cX8_leanAt 38 = .ok (.if_icmp .ne 12, 3) := by decide +kernel
theorem dX8_leanAt_41 : decode cX8_leanAt 41 = .ok (.aload_n 0, 1) := by decide +kernel
theorem dX8_leanAt_42 : decode cX8_leanAt 42 = .ok (.getfield 7, 3) := by decide +kernel
theorem dX8_leanAt_45 : decode cX8_leanAt 45 = .ok (.iconst 2, 1) := by decide +kernel
theorem dX8_leanAt_46 : decode cX8_leanAt 46 = .ok (.iaload, 1) := by decide +kernel
theorem dX8_leanAt_47 : decode cX8_leanAt 47 = .ok (.goto 4, 3) := by decide +kernel
theorem dX8_leanAt_50 : decode cX8_leanAt 50 = .ok (.iconst 0, 1) := by decide +kernel
theorem dX8_leanAt_51 : decode cX8_leanAt 51 = .ok (.istore_n 3, 1) := by decide +kernel
theorem dX8_leanAt_52 : decode cX8_leanAt 52 = .ok (.iload_n 1, 1) := by decide +kernel
theorem dX8_leanAt_53 : decode cX8_leanAt 53 = .ok (.iconst 2, 1) := by decide +kernel
theorem dX8_leanAt_54 : decode cX8_leanAt 54 = .ok (.if_icmp .ne 8, 3) := by decide +kernel
theorem dX8_leanAt_57 : decode cX8_leanAt 57 = .ok (.iload_n 2, 1) := by decide +kernel
theorem dX8_leanAt_58 : decode cX8_leanAt 58 = .ok (.iconst 1, 1) := by decide +kernel
theorem dX8_leanAt_59 : decode cX8_leanAt 59 = .ok (.if_icmp .eq 13, 3) := by decide +kernel
theorem dX8_leanAt_62 : decode cX8_leanAt 62 = .ok (.iload_n 1, 1) := by decide +kernel
theorem dX8_leanAt_63 : decode cX8_leanAt 63 = .ok (.iconst 3, 1) := by decide +kernel
theorem dX8_leanAt_64 : decode cX8_leanAt 64 = .ok (.if_icmp .ne 14, 3) := by decide +kernel
theorem dX8_leanAt_67 : decode cX8_leanAt 67 = .ok (.iload_n 2, 1) := by decide +kernel
theorem dX8_leanAt_68 : decode cX8_leanAt 68 = .ok (.iconst 2, 1) := by decide +kernel
theorem dX8_leanAt_69 : decode cX8_leanAt 69 = .ok (.if_icmp .ne 9, 3) := by decide +kernel
theorem dX8_leanAt_72 : decode cX8_leanAt 72 = .ok (.iconst 2, 1) := by decide +kernel
theorem dX8_leanAt_73 : decode cX8_leanAt 73 = .ok (.iload_n 3, 1) := by decide +kernel
theorem dX8_leanAt_74 : decode cX8_leanAt 74 = .ok (.imul, 1) := by decide +kernel
theorem dX8_leanAt_75 : decode cX8_leanAt 75 = .ok (.goto 4, 3) := by decide +kernel
theorem dX8_leanAt_78 : decode cX8_leanAt 78 = .ok (.iload_n 3, 1) := by decide +kernel
theorem dX8_leanAt_79 : decode cX8_leanAt 79 = .ok (.ireturn, 1) := by decide +kernel
theorem dX8_paceBehind_0 : decode cX8_paceBehind 0 = .ok (.iconst 0, 1) := by decide +kernel
theorem dX8_paceBehind_1 : decode cX8_paceBehind 1 = .ok (.istore_n 3, 1) := by decide +kernel
theorem dX8_paceBehind_2 : decode cX8_paceBehind 2 = .ok (.iconst 0, 1) := by decide +kernel
theorem dX8_paceBehind_3 : decode cX8_paceBehind 3 = .ok (.istore 4, 2) := by decide +kernel
theorem dX8_paceBehind_5 : decode cX8_paceBehind 5 = .ok (.iload 4, 2) := by decide +kernel
theorem dX8_paceBehind_7 : decode cX8_paceBehind 7 = .ok (.aload_n 0, 1) := by decide +kernel
theorem dX8_paceBehind_8 : decode cX8_paceBehind 8 = .ok (.getfield 7, 3) := by decide +kernel
theorem dX8_paceBehind_11 : decode cX8_paceBehind 11 = .ok (.iconst 5, 1) := by decide +kernel
theorem dX8_paceBehind_12 : decode cX8_paceBehind 12 = .ok (.iaload, 1) := by decide +kernel
theorem dX8_paceBehind_13 : decode cX8_paceBehind 13 = .ok (.if_icmp .ge 38, 3) := by decide +kernel
theorem dX8_paceBehind_16 : decode cX8_paceBehind 16 = .ok (.iload_n 3, 1) := by decide +kernel
theorem dX8_paceBehind_17 : decode cX8_paceBehind 17 = .ok (.aload_n 0, 1) := by decide +kernel
theorem dX8_paceBehind_18 : decode cX8_paceBehind 18 = .ok (.getfield 44, 3) := by decide +kernel
theorem dX8_paceBehind_21 : decode cX8_paceBehind 21 = .ok (.iconst 5, 1) := by decide +kernel
theorem dX8_paceBehind_22 : decode cX8_paceBehind 22 = .ok (.iload_n 1, 1) := by decide +kernel
theorem dX8_paceBehind_23 : decode cX8_paceBehind 23 = .ok (.imul, 1) := by decide +kernel
theorem dX8_paceBehind_24 : decode cX8_paceBehind 24 = .ok (.iload 4, 2) := by decide +kernel
theorem dX8_paceBehind_26 : decode cX8_paceBehind 26 = .ok (.iadd, 1) := by decide +kernel
theorem dX8_paceBehind_27 : decode cX8_paceBehind 27 = .ok (.iaload, 1) := by decide +kernel
theorem dX8_paceBehind_28 : decode cX8_paceBehind 28 = .ok (.aload_n 0, 1) := by decide +kernel
theorem dX8_paceBehind_29 : decode cX8_paceBehind 29 = .ok (.getfield 32, 3) := by decide +kernel
theorem dX8_paceBehind_32 : decode cX8_paceBehind 32 = .ok (.iload 4, 2) := by decide +kernel
theorem dX8_paceBehind_34 : decode cX8_paceBehind 34 = .ok (.iaload, 1) := by decide +kernel
theorem dX8_paceBehind_35 : decode cX8_paceBehind 35 = .ok (.aload_n 0, 1) := by decide +kernel
theorem dX8_paceBehind_36 : decode cX8_paceBehind 36 = .ok (.getfield 32, 3) := by decide +kernel
theorem dX8_paceBehind_39 : decode cX8_paceBehind 39 = .ok (.iload_n 1, 1) := by decide +kernel
theorem dX8_paceBehind_40 : decode cX8_paceBehind 40 = .ok (.iaload, 1) := by decide +kernel
theorem dX8_paceBehind_41 : decode cX8_paceBehind 41 = .ok (.isub, 1) := by decide +kernel
theorem dX8_paceBehind_42 : decode cX8_paceBehind 42 = .ok (.imul, 1) := by decide +kernel
theorem dX8_paceBehind_43 : decode cX8_paceBehind 43 = .ok (.iadd, 1) := by decide +kernel
theorem dX8_paceBehind_44 : decode cX8_paceBehind 44 = .ok (.istore_n 3, 1) := by decide +kernel
theorem dX8_paceBehind_45 : decode cX8_paceBehind 45 = .ok (.iinc 4 1, 3) := by decide +kernel
theorem dX8_paceBehind_48 : decode cX8_paceBehind 48 = .ok (.goto (-43), 3) := by decide +kernel
theorem dX8_paceBehind_51 : decode cX8_paceBehind 51 = .ok (.aload_n 0, 1) := by decide +kernel
theorem dX8_paceBehind_52 : decode cX8_paceBehind 52 = .ok (.getfield 32, 3) := by decide +kernel
theorem dX8_paceBehind_55 : decode cX8_paceBehind 55 = .ok (.iload_n 1, 1) := by decide +kernel
theorem dX8_paceBehind_56 : decode cX8_paceBehind 56 = .ok (.iaload, 1) := by decide +kernel
theorem dX8_paceBehind_57 : decode cX8_paceBehind 57 = .ok (.iload_n 3, 1) := by decide +kernel
theorem dX8_paceBehind_58 : decode cX8_paceBehind 58 = .ok (.bipush 10, 2) := by decide +kernel
theorem dX8_paceBehind_60 : decode cX8_paceBehind 60 = .ok (.idiv, 1) := by decide +kernel
theorem dX8_paceBehind_61 : decode cX8_paceBehind 61 = .ok (.iadd, 1) := by decide +kernel
theorem dX8_paceBehind_62 : decode cX8_paceBehind 62 = .ok (.iload_n 2, 1) := by decide +kernel
theorem dX8_paceBehind_63 : decode cX8_paceBehind 63 = .ok (.iconst 4, 1) := by decide +kernel
theorem dX8_paceBehind_64 : decode cX8_paceBehind 64 = .ok (.if_icmp .ne 7, 3) := by decide +kernel
theorem dX8_paceBehind_67 : decode cX8_paceBehind 67 = .ok (.iconst 0, 1) := by decide +kernel
theorem dX8_paceBehind_68 : decode cX8_paceBehind 68 = .ok (.goto 9, 3) := by decide +kernel
theorem dX8_paceBehind_71 : decode cX8_paceBehind 71 = .ok (.aload_n 0, 1) := by decide +kernel
theorem dX8_paceBehind_72 : decode cX8_paceBehind 72 = .ok (.getfield 41, 3) := by decide +kernel
theorem dX8_paceBehind_75 : decode cX8_paceBehind 75 = .ok (.iload_n 1, 1) := by decide +kernel
theorem dX8_paceBehind_76 : decode cX8_paceBehind 76 = .ok (.iaload, 1) := by decide +kernel
theorem dX8_paceBehind_77 : decode cX8_paceBehind 77 = .ok (.iadd, 1) := by decide +kernel
theorem dX8_paceBehind_78 : decode cX8_paceBehind 78 = .ok (.iload_n 1, 1) := by decide +kernel
theorem dX8_paceBehind_79 : decode cX8_paceBehind 79 = .ok (.aload_n 0, 1) := by decide +kernel
theorem dX8_paceBehind_80 : decode cX8_paceBehind 80 = .ok (.getfield 159, 3) := by decide +kernel
theorem dX8_paceBehind_83 : decode cX8_paceBehind 83 = .ok (.if_icmp .ne 7, 3) := by decide +kernel
theorem dX8_paceBehind_86 : decode cX8_paceBehind 86 = .ok (.iconst 0, 1) := by decide +kernel
theorem dX8_paceBehind_87 : decode cX8_paceBehind 87 = .ok (.goto 14, 3) := by decide +kernel
theorem dX8_paceBehind_90 : decode cX8_paceBehind 90 = .ok (.aload_n 0, 1) := by decide +kernel
theorem dX8_paceBehind_91 : decode cX8_paceBehind 91 = .ok (.aload_n 0, 1) := by decide +kernel
theorem dX8_paceBehind_92 : decode cX8_paceBehind 92 = .ok (.getfield 38, 3) := by decide +kernel
theorem dX8_paceBehind_95 : decode cX8_paceBehind 95 = .ok (.iload_n 1, 1) := by decide +kernel
theorem dX8_paceBehind_96 : decode cX8_paceBehind 96 = .ok (.iaload, 1) := by decide +kernel
theorem dX8_paceBehind_97 : decode cX8_paceBehind 97 = .ok (.iload_n 2, 1) := by decide +kernel
theorem dX8_paceBehind_98 : decode cX8_paceBehind 98 = .ok (.invokevirtual 162, 3) := by decide +kernel
theorem dX8_paceBehind_101 : decode cX8_paceBehind 101 = .ok (.iadd, 1) := by decide +kernel
theorem dX8_paceBehind_102 : decode cX8_paceBehind 102 = .ok (.istore 4, 2) := by decide +kernel
theorem dX8_paceBehind_104 : decode cX8_paceBehind 104 = .ok (.bipush 10, 2) := by decide +kernel
theorem dX8_paceBehind_106 : decode cX8_paceBehind 106 = .ok (.aload_n 0, 1) := by decide +kernel
theorem dX8_paceBehind_107 : decode cX8_paceBehind 107 = .ok (.getfield 7, 3) := by decide +kernel
theorem dX8_paceBehind_110 : decode cX8_paceBehind 110 = .ok (.iconst 3, 1) := by decide +kernel
theorem dX8_paceBehind_111 : decode cX8_paceBehind 111 = .ok (.iaload, 1) := by decide +kernel
theorem dX8_paceBehind_112 : decode cX8_paceBehind 112 = .ok (.imul, 1) := by decide +kernel
theorem dX8_paceBehind_113 : decode cX8_paceBehind 113 = .ok (.iload 4, 2) := by decide +kernel
theorem dX8_paceBehind_115 : decode cX8_paceBehind 115 = .ok (.isub, 1) := by decide +kernel
theorem dX8_paceBehind_116 : decode cX8_paceBehind 116 = .ok (.iconst 2, 1) := by decide +kernel
theorem dX8_paceBehind_117 : decode cX8_paceBehind 117 = .ok (.idiv, 1) := by decide +kernel
theorem dX8_paceBehind_118 : decode cX8_paceBehind 118 = .ok (.istore 5, 2) := by decide +kernel
theorem dX8_paceBehind_120 : decode cX8_paceBehind 120 = .ok (.iload 4, 2) := by decide +kernel
theorem dX8_paceBehind_122 : decode cX8_paceBehind 122 = .ok (.aload_n 0, 1) := by decide +kernel
theorem dX8_paceBehind_123 : decode cX8_paceBehind 123 = .ok (.getfield 38, 3) := by decide +kernel
theorem dX8_paceBehind_126 : decode cX8_paceBehind 126 = .ok (.iload_n 1, 1) := by decide +kernel
theorem dX8_paceBehind_127 : decode cX8_paceBehind 127 = .ok (.iaload, 1) := by decide +kernel
theorem dX8_paceBehind_128 : decode cX8_paceBehind 128 = .ok (.iconst 4, 1) := by decide +kernel
theorem dX8_paceBehind_129 : decode cX8_paceBehind 129 = .ok (.if_icmp .ne 8, 3) := by decide +kernel
theorem dX8_paceBehind_132 : decode cX8_paceBehind 132 = .ok (.iload 5, 2) := by decide +kernel
theorem dX8_paceBehind_134 : decode cX8_paceBehind 134 = .ok (.goto 21, 3) := by decide +kernel
theorem dX8_paceBehind_137 : decode cX8_paceBehind 137 = .ok (.aload_n 0, 1) := by decide +kernel
theorem dX8_paceBehind_138 : decode cX8_paceBehind 138 = .ok (.getfield 38, 3) := by decide +kernel
theorem dX8_paceBehind_141 : decode cX8_paceBehind 141 = .ok (.iload_n 1, 1) := by decide +kernel
theorem dX8_paceBehind_142 : decode cX8_paceBehind 142 = .ok (.iaload, 1) := by decide +kernel
theorem dX8_paceBehind_143 : decode cX8_paceBehind 143 = .ok (.iconst 5, 1) := by decide +kernel
theorem dX8_paceBehind_144 : decode cX8_paceBehind 144 = .ok (.if_icmp .ne 10, 3) := by decide +kernel
theorem dX8_paceBehind_147 : decode cX8_paceBehind 147 = .ok (.iload 5, 2) := by decide +kernel
theorem dX8_paceBehind_149 : decode cX8_paceBehind 149 = .ok (.iconst 2, 1) := by decide +kernel
theorem dX8_paceBehind_150 : decode cX8_paceBehind 150 = .ok (.idiv, 1) := by decide +kernel
theorem dX8_paceBehind_151 : decode cX8_paceBehind 151 = .ok (.goto 4, 3) := by decide +kernel
theorem dX8_paceBehind_154 : decode cX8_paceBehind 154 = .ok (.iconst 0, 1) := by decide +kernel
theorem dX8_paceBehind_155 : decode cX8_paceBehind 155 = .ok (.iadd, 1) := by decide +kernel
theorem dX8_paceBehind_156 : decode cX8_paceBehind 156 = .ok (.istore 4, 2) := by decide +kernel
theorem dX8_paceBehind_158 : decode cX8_paceBehind 158 = .ok (.iload 4, 2) := by decide +kernel
theorem dX8_paceBehind_160 : decode cX8_paceBehind 160 = .ok (.invokestatic 165, 3) := by decide +kernel
theorem dX8_paceBehind_163 : decode cX8_paceBehind 163 = .ok (.ireturn, 1) := by decide +kernel
theorem dX8_plays_0 : decode cX8_plays 0 = .ok (.aload_n 0, 1) := by decide +kernel
theorem dX8_plays_1 : decode cX8_plays 1 = .ok (.getfield 7, 3) := by decide +kernel
theorem dX8_plays_4 : decode cX8_plays 4 = .ok (.bipush 9, 2) := by decide +kernel
theorem dX8_plays_6 : decode cX8_plays 6 = .ok (.aload_n 0, 1) := by decide +kernel
theorem dX8_plays_7 : decode cX8_plays 7 = .ok (.getfield 156, 3) := by decide +kernel
theorem dX8_plays_10 : decode cX8_plays 10 = .ok (.iadd, 1) := by decide +kernel
theorem dX8_plays_11 : decode cX8_plays 11 = .ok (.iaload, 1) := by decide +kernel
theorem dX8_plays_12 : decode cX8_plays 12 = .ok (.istore_n 1, 1) := by decide +kernel
theorem dX8_plays_13 : decode cX8_plays 13 = .ok (.iconst 0, 1) := by decide +kernel
theorem dX8_plays_14 : decode cX8_plays 14 = .ok (.istore_n 2, 1) := by decide +kernel
theorem dX8_plays_15 : decode cX8_plays 15 = .ok (.iload_n 2, 1) := by decide +kernel
theorem dX8_plays_16 : decode cX8_plays 16 = .ok (.aload_n 0, 1) := by decide +kernel
theorem dX8_plays_17 : decode cX8_plays 17 = .ok (.getfield 7, 3) := by decide +kernel
theorem dX8_plays_20 : decode cX8_plays 20 = .ok (.iconst 5, 1) := by decide +kernel
theorem dX8_plays_21 : decode cX8_plays 21 = .ok (.iaload, 1) := by decide +kernel
theorem dX8_plays_22 : decode cX8_plays 22 = .ok (.if_icmp .ge 21, 3) := by decide +kernel
theorem dX8_plays_25 : decode cX8_plays 25 = .ok (.aload_n 0, 1) := by decide +kernel
theorem dX8_plays_26 : decode cX8_plays 26 = .ok (.getfield 35, 3) := by decide +kernel
theorem dX8_plays_29 : decode cX8_plays 29 = .ok (.iload_n 2, 1) := by decide +kernel
theorem dX8_plays_30 : decode cX8_plays 30 = .ok (.aload_n 0, 1) := by decide +kernel
theorem dX8_plays_31 : decode cX8_plays 31 = .ok (.iload_n 2, 1) := by decide +kernel
theorem dX8_plays_32 : decode cX8_plays 32 = .ok (.iload_n 1, 1) := by decide +kernel
theorem dX8_plays_33 : decode cX8_plays 33 = .ok (.invokevirtual 168, 3) := by decide +kernel
theorem dX8_plays_36 : decode cX8_plays 36 = .ok (.iastore, 1) := by decide +kernel
theorem dX8_plays_37 : decode cX8_plays 37 = .ok (.iinc 2 1, 3) := by decide +kernel
theorem dX8_plays_40 : decode cX8_plays 40 = .ok (.goto (-25), 3) := by decide +kernel
theorem dX8_plays_43 : decode cX8_plays 43 = .ok (.iconst 0, 1) := by decide +kernel
theorem dX8_plays_44 : decode cX8_plays 44 = .ok (.istore_n 2, 1) := by decide +kernel
theorem dX8_plays_45 : decode cX8_plays 45 = .ok (.iload_n 2, 1) := by decide +kernel
theorem dX8_plays_46 : decode cX8_plays 46 = .ok (.aload_n 0, 1) := by decide +kernel
theorem dX8_plays_47 : decode cX8_plays 47 = .ok (.getfield 7, 3) := by decide +kernel
theorem dX8_plays_50 : decode cX8_plays 50 = .ok (.iconst 5, 1) := by decide +kernel
theorem dX8_plays_51 : decode cX8_plays 51 = .ok (.iaload, 1) := by decide +kernel
theorem dX8_plays_52 : decode cX8_plays 52 = .ok (.if_icmp .ge 21, 3) := by decide +kernel
theorem dX8_plays_55 : decode cX8_plays 55 = .ok (.aload_n 0, 1) := by decide +kernel
theorem dX8_plays_56 : decode cX8_plays 56 = .ok (.getfield 32, 3) := by decide +kernel
theorem dX8_plays_59 : decode cX8_plays 59 = .ok (.iload_n 2, 1) := by decide +kernel
theorem dX8_plays_60 : decode cX8_plays 60 = .ok (.aload_n 0, 1) := by decide +kernel
theorem dX8_plays_61 : decode cX8_plays 61 = .ok (.getfield 35, 3) := by decide +kernel
theorem dX8_plays_64 : decode cX8_plays 64 = .ok (.iload_n 2, 1) := by decide +kernel
theorem dX8_plays_65 : decode cX8_plays 65 = .ok (.iaload, 1) := by decide +kernel
theorem dX8_plays_66 : decode cX8_plays 66 = .ok (.iastore, 1) := by decide +kernel
theorem dX8_plays_67 : decode cX8_plays 67 = .ok (.iinc 2 1, 3) := by decide +kernel
theorem dX8_plays_70 : decode cX8_plays 70 = .ok (.goto (-25), 3) := by decide +kernel
theorem dX8_plays_73 : decode cX8_plays 73 = .ok (.aload_n 0, 1) := by decide +kernel
theorem dX8_plays_74 : decode cX8_plays 74 = .ok (.aload_n 0, 1) := by decide +kernel
theorem dX8_plays_75 : decode cX8_plays 75 = .ok (.getfield 156, 3) := by decide +kernel
theorem dX8_plays_78 : decode cX8_plays 78 = .ok (.iconst 1, 1) := by decide +kernel
theorem dX8_plays_79 : decode cX8_plays 79 = .ok (.iadd, 1) := by decide +kernel
theorem dX8_plays_80 : decode cX8_plays 80 = .ok (.aload_n 0, 1) := by decide +kernel
theorem dX8_plays_81 : decode cX8_plays 81 = .ok (.getfield 7, 3) := by decide +kernel
theorem dX8_plays_84 : decode cX8_plays 84 = .ok (.iconst 4, 1) := by decide +kernel
theorem dX8_plays_85 : decode cX8_plays 85 = .ok (.iaload, 1) := by decide +kernel
theorem dX8_plays_86 : decode cX8_plays 86 = .ok (.irem, 1) := by decide +kernel
theorem dX8_plays_87 : decode cX8_plays 87 = .ok (.putfield 156, 3) := by decide +kernel
theorem dX8_plays_90 : decode cX8_plays 90 = .ok (.return_, 1) := by decide +kernel
theorem dX8_mean_0 : decode cX8_mean 0 = .ok (.iconst 0, 1) := by decide +kernel
theorem dX8_mean_1 : decode cX8_mean 1 = .ok (.istore_n 1, 1) := by decide +kernel
theorem dX8_mean_2 : decode cX8_mean 2 = .ok (.iconst 0, 1) := by decide +kernel
theorem dX8_mean_3 : decode cX8_mean 3 = .ok (.istore_n 2, 1) := by decide +kernel
theorem dX8_mean_4 : decode cX8_mean 4 = .ok (.iload_n 2, 1) := by decide +kernel
theorem dX8_mean_5 : decode cX8_mean 5 = .ok (.aload_n 0, 1) := by decide +kernel
theorem dX8_mean_6 : decode cX8_mean 6 = .ok (.getfield 7, 3) := by decide +kernel
theorem dX8_mean_9 : decode cX8_mean 9 = .ok (.iconst 5, 1) := by decide +kernel
theorem dX8_mean_10 : decode cX8_mean 10 = .ok (.iaload, 1) := by decide +kernel
theorem dX8_mean_11 : decode cX8_mean 11 = .ok (.if_icmp .ge 18, 3) := by decide +kernel
theorem dX8_mean_14 : decode cX8_mean 14 = .ok (.iload_n 1, 1) := by decide +kernel
theorem dX8_mean_15 : decode cX8_mean 15 = .ok (.aload_n 0, 1) := by decide +kernel
theorem dX8_mean_16 : decode cX8_mean 16 = .ok (.getfield 32, 3) := by decide +kernel
theorem dX8_mean_19 : decode cX8_mean 19 = .ok (.iload_n 2, 1) := by decide +kernel
theorem dX8_mean_20 : decode cX8_mean 20 = .ok (.iaload, 1) := by decide +kernel
theorem dX8_mean_21 : decode cX8_mean 21 = .ok (.iadd, 1) := by decide +kernel
theorem dX8_mean_22 : decode cX8_mean 22 = .ok (.istore_n 1, 1) := by decide +kernel
theorem dX8_mean_23 : decode cX8_mean 23 = .ok (.iinc 2 1, 3) := by decide +kernel
theorem dX8_mean_26 : decode cX8_mean 26 = .ok (.goto (-22), 3) := by decide +kernel
theorem dX8_mean_29 : decode cX8_mean 29 = .ok (.aload_n 0, 1) := by decide +kernel
theorem dX8_mean_30 : decode cX8_mean 30 = .ok (.getfield 7, 3) := by decide +kernel
theorem dX8_mean_33 : decode cX8_mean 33 = .ok (.iconst 5, 1) := by decide +kernel
theorem dX8_mean_34 : decode cX8_mean 34 = .ok (.iaload, 1) := by decide +kernel
theorem dX8_mean_35 : decode cX8_mean 35 = .ok (.ifCond .ne 7, 3) := by decide +kernel
theorem dX8_mean_38 : decode cX8_mean 38 = .ok (.iconst 0, 1) := by decide +kernel
theorem dX8_mean_39 : decode cX8_mean 39 = .ok (.goto 11, 3) := by decide +kernel
theorem dX8_mean_42 : decode cX8_mean 42 = .ok (.iload_n 1, 1) := by decide +kernel
theorem dX8_mean_43 : decode cX8_mean 43 = .ok (.aload_n 0, 1) := by decide +kernel
theorem dX8_mean_44 : decode cX8_mean 44 = .ok (.getfield 7, 3) := by decide +kernel
theorem dX8_mean_47 : decode cX8_mean 47 = .ok (.iconst 5, 1) := by decide +kernel
theorem dX8_mean_48 : decode cX8_mean 48 = .ok (.iaload, 1) := by decide +kernel
theorem dX8_mean_49 : decode cX8_mean 49 = .ok (.idiv, 1) := by decide +kernel
theorem dX8_mean_50 : decode cX8_mean 50 = .ok (.ireturn, 1) := by decide +kernel
theorem dX8_playsMany_0 : decode cX8_playsMany 0 = .ok (.iconst 0, 1) := by decide +kernel
theorem dX8_playsMany_1 : decode cX8_playsMany 1 = .ok (.istore_n 2, 1) := by decide +kernel
theorem dX8_playsMany_2 : decode cX8_playsMany 2 = .ok (.iload_n 2, 1) := by decide +kernel
theorem dX8_playsMany_3 : decode cX8_playsMany 3 = .ok (.iload_n 1, 1) := by decide +kernel
theorem dX8_playsMany_4 : decode cX8_playsMany 4 = .ok (.if_icmp .ge 13, 3) := by decide +kernel
theorem dX8_playsMany_7 : decode cX8_playsMany 7 = .ok (.aload_n 0, 1) := by decide +kernel
theorem dX8_playsMany_8 : decode cX8_playsMany 8 = .ok (.invokevirtual 171, 3) := by decide +kernel
theorem dX8_playsMany_11 : decode cX8_playsMany 11 = .ok (.iinc 2 1, 3) := by decide +kernel
theorem dX8_playsMany_14 : decode cX8_playsMany 14 = .ok (.goto (-12), 3) := by decide +kernel
theorem dX8_playsMany_17 : decode cX8_playsMany 17 = .ok (.return_, 1) := by decide +kernel
theorem dX8_meanNow_0 : decode cX8_meanNow 0 = .ok (.iconst 0, 1) := by decide +kernel
theorem dX8_meanNow_1 : decode cX8_meanNow 1 = .ok (.istore_n 1, 1) := by decide +kernel
theorem dX8_meanNow_2 : decode cX8_meanNow 2 = .ok (.iconst 0, 1) := by decide +kernel
theorem dX8_meanNow_3 : decode cX8_meanNow 3 = .ok (.istore_n 2, 1) := by decide +kernel
theorem dX8_meanNow_4 : decode cX8_meanNow 4 = .ok (.iload_n 2, 1) := by decide +kernel
theorem dX8_meanNow_5 : decode cX8_meanNow 5 = .ok (.aload_n 0, 1) := by decide +kernel
theorem dX8_meanNow_6 : decode cX8_meanNow 6 = .ok (.getfield 7, 3) := by decide +kernel
theorem dX8_meanNow_9 : decode cX8_meanNow 9 = .ok (.iconst 5, 1) := by decide +kernel
theorem dX8_meanNow_10 : decode cX8_meanNow 10 = .ok (.iaload, 1) := by decide +kernel
theorem dX8_meanNow_11 : decode cX8_meanNow 11 = .ok (.if_icmp .ge 21, 3) := by decide +kernel
theorem dX8_meanNow_14 : decode cX8_meanNow 14 = .ok (.iload_n 1, 1) := by decide +kernel
theorem dX8_meanNow_15 : decode cX8_meanNow 15 = .ok (.aload_n 0, 1) := by decide +kernel
theorem dX8_meanNow_16 : decode cX8_meanNow 16 = .ok (.getfield 7, 3) := by decide +kernel
theorem dX8_meanNow_19 : decode cX8_meanNow 19 = .ok (.bipush 26, 2) := by decide +kernel
theorem dX8_meanNow_21 : decode cX8_meanNow 21 = .ok (.iload_n 2, 1) := by decide +kernel
theorem dX8_meanNow_22 : decode cX8_meanNow 22 = .ok (.iadd, 1) := by decide +kernel
theorem dX8_meanNow_23 : decode cX8_meanNow 23 = .ok (.iaload, 1) := by decide +kernel
theorem dX8_meanNow_24 : decode cX8_meanNow 24 = .ok (.iadd, 1) := by decide +kernel
theorem dX8_meanNow_25 : decode cX8_meanNow 25 = .ok (.istore_n 1, 1) := by decide +kernel
theorem dX8_meanNow_26 : decode cX8_meanNow 26 = .ok (.iinc 2 1, 3) := by decide +kernel
theorem dX8_meanNow_29 : decode cX8_meanNow 29 = .ok (.goto (-25), 3) := by decide +kernel
theorem dX8_meanNow_32 : decode cX8_meanNow 32 = .ok (.aload_n 0, 1) := by decide +kernel
theorem dX8_meanNow_33 : decode cX8_meanNow 33 = .ok (.getfield 7, 3) := by decide +kernel
theorem dX8_meanNow_36 : decode cX8_meanNow 36 = .ok (.iconst 5, 1) := by decide +kernel
theorem dX8_meanNow_37 : decode cX8_meanNow 37 = .ok (.iaload, 1) := by decide +kernel
theorem dX8_meanNow_38 : decode cX8_meanNow 38 = .ok (.ifCond .ne 7, 3) := by decide +kernel
theorem dX8_meanNow_41 : decode cX8_meanNow 41 = .ok (.iconst 0, 1) := by decide +kernel
theorem dX8_meanNow_42 : decode cX8_meanNow 42 = .ok (.goto 11, 3) := by decide +kernel
theorem dX8_meanNow_45 : decode cX8_meanNow 45 = .ok (.iload_n 1, 1) := by decide +kernel
theorem dX8_meanNow_46 : decode cX8_meanNow 46 = .ok (.aload_n 0, 1) := by decide +kernel
theorem dX8_meanNow_47 : decode cX8_meanNow 47 = .ok (.getfield 7, 3) := by decide +kernel
theorem dX8_meanNow_50 : decode cX8_meanNow 50 = .ok (.iconst 5, 1) := by decide +kernel
theorem dX8_meanNow_51 : decode cX8_meanNow 51 = .ok (.iaload, 1) := by decide +kernel
theorem dX8_meanNow_52 : decode cX8_meanNow 52 = .ok (.idiv, 1) := by decide +kernel
theorem dX8_meanNow_53 : decode cX8_meanNow 53 = .ok (.ireturn, 1) := by decide +kernel
theorem dX8_driftBy_0 : decode cX8_driftBy 0 = .ok (.aload_n 0, 1) := by decide +kernel
theorem dX8_driftBy_1 : decode cX8_driftBy 1 = .ok (.invokevirtual 174, 3) := by decide +kernel
theorem dX8_driftBy_4 : decode cX8_driftBy 4 = .ok (.istore_n 1, 1) := by decide +kernel
theorem dX8_driftBy_5 : decode cX8_driftBy 5 = .ok (.aload_n 0, 1) := by decide +kernel
theorem dX8_driftBy_6 : decode cX8_driftBy 6 = .ok (.aload_n 0, 1) := by decide +kernel
theorem dX8_driftBy_7 : decode cX8_driftBy 7 = .ok (.getfield 7, 3) := by decide +kernel
theorem dX8_driftBy_10 : decode cX8_driftBy 10 = .ok (.iconst 4, 1) := by decide +kernel
theorem dX8_driftBy_11 : decode cX8_driftBy 11 = .ok (.iaload, 1) := by decide +kernel
theorem dX8_driftBy_12 : decode cX8_driftBy 12 = .ok (.invokevirtual 178, 3) := by decide +kernel
theorem dX8_driftBy_15 : decode cX8_driftBy 15 = .ok (.aload_n 0, 1) := by decide +kernel
theorem dX8_driftBy_16 : decode cX8_driftBy 16 = .ok (.invokevirtual 174, 3) := by decide +kernel
theorem dX8_driftBy_19 : decode cX8_driftBy 19 = .ok (.iload_n 1, 1) := by decide +kernel
theorem dX8_driftBy_20 : decode cX8_driftBy 20 = .ok (.isub, 1) := by decide +kernel
theorem dX8_driftBy_21 : decode cX8_driftBy 21 = .ok (.ireturn, 1) := by decide +kernel
theorem dX8_minds_0 : decode cX8_minds 0 = .ok (.aload_n 0, 1) := by decide +kernel
theorem dX8_minds_1 : decode cX8_minds 1 = .ok (.getfield 153, 3) := by decide +kernel
theorem dX8_minds_4 : decode cX8_minds 4 = .ok (.bipush 24, 2) := by decide +kernel
theorem dX8_minds_6 : decode cX8_minds 6 = .ok (.if_icmp .ne 51, 3) := by decide +kernel
theorem dX8_minds_9 : decode cX8_minds 9 = .ok (.iconst 0, 1) := by decide +kernel
theorem dX8_minds_10 : decode cX8_minds 10 = .ok (.istore_n 1, 1) := by decide +kernel
theorem dX8_minds_11 : decode cX8_minds 11 = .ok (.iload_n 1, 1) := by decide +kernel
theorem dX8_minds_12 : decode cX8_minds 12 = .ok (.sipush 1403, 3) := by decide +kernel
theorem dX8_minds_15 : decode cX8_minds 15 = .ok (.if_icmp .ge 32, 3) := by decide +kernel
theorem dX8_minds_18 : decode cX8_minds 18 = .ok (.aload_n 0, 1) := by decide +kernel
theorem dX8_minds_19 : decode cX8_minds 19 = .ok (.getfield 7, 3) := by decide +kernel
theorem dX8_minds_22 : decode cX8_minds 22 = .ok (.sipush 244, 3) := by decide +kernel
theorem dX8_minds_25 : decode cX8_minds 25 = .ok (.iload_n 1, 1) := by decide +kernel
theorem dX8_minds_26 : decode cX8_minds 26 = .ok (.iadd, 1) := by decide +kernel
theorem dX8_minds_27 : decode cX8_minds 27 = .ok (.aload_n 0, 1) := by decide +kernel
theorem dX8_minds_28 : decode cX8_minds 28 = .ok (.getfield 7, 3) := by decide +kernel
theorem dX8_minds_31 : decode cX8_minds 31 = .ok (.sipush 244, 3) := by decide +kernel
theorem dX8_minds_34 : decode cX8_minds 34 = .ok (.iload_n 1, 1) := by decide +kernel
theorem dX8_minds_35 : decode cX8_minds 35 = .ok (.iadd, 1) := by decide +kernel
theorem dX8_minds_36 : decode cX8_minds 36 = .ok (.bipush 61, 2) := by decide +kernel
theorem dX8_minds_38 : decode cX8_minds 38 = .ok (.iadd, 1) := by decide +kernel
theorem dX8_minds_39 : decode cX8_minds 39 = .ok (.iaload, 1) := by decide +kernel
theorem dX8_minds_40 : decode cX8_minds 40 = .ok (.iastore, 1) := by decide +kernel
theorem dX8_minds_41 : decode cX8_minds 41 = .ok (.iinc 1 1, 3) := by decide +kernel
theorem dX8_minds_44 : decode cX8_minds 44 = .ok (.goto (-33), 3) := by decide +kernel
theorem dX8_minds_47 : decode cX8_minds 47 = .ok (.aload_n 0, 1) := by decide +kernel
theorem dX8_minds_48 : decode cX8_minds 48 = .ok (.dup, 1) := by decide +kernel
theorem dX8_minds_49 : decode cX8_minds 49 = .ok (.getfield 153, 3) := by decide +kernel
theorem dX8_minds_52 : decode cX8_minds 52 = .ok (.iconst 1, 1) := by decide +kernel
theorem dX8_minds_53 : decode cX8_minds 53 = .ok (.isub, 1) := by decide +kernel
theorem dX8_minds_54 : decode cX8_minds 54 = .ok (.putfield 153, 3) := by decide +kernel
theorem dX8_minds_57 : decode cX8_minds 57 = .ok (.iconst 0, 1) := by decide +kernel
theorem dX8_minds_58 : decode cX8_minds 58 = .ok (.istore_n 1, 1) := by decide +kernel
theorem dX8_minds_59 : decode cX8_minds 59 = .ok (.iload_n 1, 1) := by decide +kernel
theorem dX8_minds_60 : decode cX8_minds 60 = .ok (.bipush 61, 2) := by decide +kernel
theorem dX8_minds_62 : decode cX8_minds 62 = .ok (.if_icmp .ge 33, 3) := by decide +kernel
theorem dX8_minds_65 : decode cX8_minds 65 = .ok (.aload_n 0, 1) := by decide +kernel
theorem dX8_minds_66 : decode cX8_minds 66 = .ok (.getfield 7, 3) := by decide +kernel
theorem dX8_minds_69 : decode cX8_minds 69 = .ok (.sipush 244, 3) := by decide +kernel
theorem dX8_minds_72 : decode cX8_minds 72 = .ok (.bipush 61, 2) := by decide +kernel
theorem dX8_minds_74 : decode cX8_minds 74 = .ok (.aload_n 0, 1) := by decide +kernel
theorem dX8_minds_75 : decode cX8_minds 75 = .ok (.getfield 153, 3) := by decide +kernel
theorem dX8_minds_78 : decode cX8_minds 78 = .ok (.imul, 1) := by decide +kernel
theorem dX8_minds_79 : decode cX8_minds 79 = .ok (.iadd, 1) := by decide +kernel
theorem dX8_minds_80 : decode cX8_minds 80 = .ok (.iload_n 1, 1) := by decide +kernel
theorem dX8_minds_81 : decode cX8_minds 81 = .ok (.iadd, 1) := by decide +kernel
theorem dX8_minds_82 : decode cX8_minds 82 = .ok (.aload_n 0, 1) := by decide +kernel
theorem dX8_minds_83 : decode cX8_minds 83 = .ok (.getfield 7, 3) := by decide +kernel
theorem dX8_minds_86 : decode cX8_minds 86 = .ok (.iload_n 1, 1) := by decide +kernel
theorem dX8_minds_87 : decode cX8_minds 87 = .ok (.iaload, 1) := by decide +kernel
theorem dX8_minds_88 : decode cX8_minds 88 = .ok (.iastore, 1) := by decide +kernel
theorem dX8_minds_89 : decode cX8_minds 89 = .ok (.iinc 1 1, 3) := by decide +kernel
theorem dX8_minds_92 : decode cX8_minds 92 = .ok (.goto (-33), 3) := by decide +kernel
theorem dX8_minds_95 : decode cX8_minds 95 = .ok (.aload_n 0, 1) := by decide +kernel
theorem dX8_minds_96 : decode cX8_minds 96 = .ok (.dup, 1) := by decide +kernel
theorem dX8_minds_97 : decode cX8_minds 97 = .ok (.getfield 153, 3) := by decide +kernel
theorem dX8_minds_100 : decode cX8_minds 100 = .ok (.iconst 1, 1) := by decide +kernel
theorem dX8_minds_101 : decode cX8_minds 101 = .ok (.iadd, 1) := by decide +kernel
theorem dX8_minds_102 : decode cX8_minds 102 = .ok (.putfield 153, 3) := by decide +kernel
theorem dX8_minds_105 : decode cX8_minds 105 = .ok (.return_, 1) := by decide +kernel
theorem dX8_undo_0 : decode cX8_undo 0 = .ok (.aload_n 0, 1) := by decide +kernel
theorem dX8_undo_1 : decode cX8_undo 1 = .ok (.getfield 153, 3) := by decide +kernel
theorem dX8_undo_4 : decode cX8_undo 4 = .ok (.ifCond .ne 6, 3) := by decide +kernel
theorem dX8_undo_7 : decode cX8_undo 7 = .ok (.ldc 182, 2) := by decide +kernel
theorem dX8_undo_9 : decode cX8_undo 9 = .ok (.ireturn, 1) := by decide +kernel
theorem dX8_undo_10 : decode cX8_undo 10 = .ok (.aload_n 0, 1) := by decide +kernel
theorem dX8_undo_11 : decode cX8_undo 11 = .ok (.dup, 1) := by decide +kernel
theorem dX8_undo_12 : decode cX8_undo 12 = .ok (.getfield 153, 3) := by decide +kernel
theorem dX8_undo_15 : decode cX8_undo 15 = .ok (.iconst 1, 1) := by decide +kernel
theorem dX8_undo_16 : decode cX8_undo 16 = .ok (.isub, 1) := by decide +kernel
theorem dX8_undo_17 : decode cX8_undo 17 = .ok (.putfield 153, 3) := by decide +kernel
theorem dX8_undo_20 : decode cX8_undo 20 = .ok (.iconst 0, 1) := by decide +kernel
theorem dX8_undo_21 : decode cX8_undo 21 = .ok (.istore_n 1, 1) := by decide +kernel
theorem dX8_undo_22 : decode cX8_undo 22 = .ok (.iload_n 1, 1) := by decide +kernel
theorem dX8_undo_23 : decode cX8_undo 23 = .ok (.bipush 61, 2) := by decide +kernel
theorem dX8_undo_25 : decode cX8_undo 25 = .ok (.if_icmp .ge 33, 3) := by decide +kernel
theorem dX8_undo_28 : decode cX8_undo 28 = .ok (.aload_n 0, 1) := by decide +kernel
theorem dX8_undo_29 : decode cX8_undo 29 = .ok (.getfield 7, 3) := by decide +kernel
theorem dX8_undo_32 : decode cX8_undo 32 = .ok (.iload_n 1, 1) := by decide +kernel
theorem dX8_undo_33 : decode cX8_undo 33 = .ok (.aload_n 0, 1) := by decide +kernel
theorem dX8_undo_34 : decode cX8_undo 34 = .ok (.getfield 7, 3) := by decide +kernel
theorem dX8_undo_37 : decode cX8_undo 37 = .ok (.sipush 244, 3) := by decide +kernel
theorem dX8_undo_40 : decode cX8_undo 40 = .ok (.bipush 61, 2) := by decide +kernel
theorem dX8_undo_42 : decode cX8_undo 42 = .ok (.aload_n 0, 1) := by decide +kernel
theorem dX8_undo_43 : decode cX8_undo 43 = .ok (.getfield 153, 3) := by decide +kernel
theorem dX8_undo_46 : decode cX8_undo 46 = .ok (.imul, 1) := by decide +kernel
theorem dX8_undo_47 : decode cX8_undo 47 = .ok (.iadd, 1) := by decide +kernel
theorem dX8_undo_48 : decode cX8_undo 48 = .ok (.iload_n 1, 1) := by decide +kernel
theorem dX8_undo_49 : decode cX8_undo 49 = .ok (.iadd, 1) := by decide +kernel
theorem dX8_undo_50 : decode cX8_undo 50 = .ok (.iaload, 1) := by decide +kernel
theorem dX8_undo_51 : decode cX8_undo 51 = .ok (.iastore, 1) := by decide +kernel
theorem dX8_undo_52 : decode cX8_undo 52 = .ok (.iinc 1 1, 3) := by decide +kernel
theorem dX8_undo_55 : decode cX8_undo 55 = .ok (.goto (-33), 3) := by decide +kernel
theorem dX8_undo_58 : decode cX8_undo 58 = .ok (.aload_n 0, 1) := by decide +kernel
theorem dX8_undo_59 : decode cX8_undo 59 = .ok (.getfield 153, 3) := by decide +kernel
theorem dX8_undo_62 : decode cX8_undo 62 = .ok (.ireturn, 1) := by decide +kernel
theorem dX8_isPlayer_0 : decode cX8_isPlayer 0 = .ok (.iload_n 1, 1) := by decide +kernel
theorem dX8_isPlayer_1 : decode cX8_isPlayer 1 = .ok (.i2l, 1) := by decide +kernel
theorem dX8_isPlayer_2 : decode cX8_isPlayer 2 = .ok (.lconst 0, 1) := by decide +kernel
theorem dX8_isPlayer_3 : decode cX8_isPlayer 3 = .ok (.aload_n 0, 1) := by decide +kernel
theorem dX8_isPlayer_4 : decode cX8_isPlayer 4 = .ok (.getfield 7, 3) := by decide +kernel
theorem dX8_isPlayer_7 : decode cX8_isPlayer 7 = .ok (.iconst 5, 1) := by decide +kernel
theorem dX8_isPlayer_8 : decode cX8_isPlayer 8 = .ok (.iaload, 1) := by decide +kernel
theorem dX8_isPlayer_9 : decode cX8_isPlayer 9 = .ok (.iconst 1, 1) := by decide +kernel
theorem dX8_isPlayer_10 : decode cX8_isPlayer 10 = .ok (.isub, 1) := by decide +kernel
theorem dX8_isPlayer_11 : decode cX8_isPlayer 11 = .ok (.i2l, 1) := by decide +kernel
theorem dX8_isPlayer_12 : decode cX8_isPlayer 12 = .ok (.invokestatic 60, 3) := by decide +kernel
theorem dX8_isPlayer_15 : decode cX8_isPlayer 15 = .ok (.ireturn, 1) := by decide +kernel
theorem dX8_isNone_0 : decode cX8_isNone 0 = .ok (.aload_n 0, 1) := by decide +kernel
theorem dX8_isNone_1 : decode cX8_isNone 1 = .ok (.getfield 7, 3) := by decide +kernel
theorem dX8_isNone_4 : decode cX8_isNone 4 = .ok (.bipush 8, 2) := by decide +kernel
theorem dX8_isNone_6 : decode cX8_isNone 6 = .ok (.iaload, 1) := by decide +kernel
theorem dX8_isNone_7 : decode cX8_isNone 7 = .ok (.ifCond .ne 7, 3) := by decide +kernel
theorem dX8_isNone_10 : decode cX8_isNone 10 = .ok (.iconst 1, 1) := by decide +kernel
theorem dX8_isNone_11 : decode cX8_isNone 11 = .ok (.goto 4, 3) := by decide +kernel
theorem dX8_isNone_14 : decode cX8_isNone 14 = .ok (.iconst 0, 1) := by decide +kernel
theorem dX8_isNone_15 : decode cX8_isNone 15 = .ok (.ireturn, 1) := by decide +kernel
theorem dX8_bars_0 : decode cX8_bars 0 = .ok (.aload_n 0, 1) := by decide +kernel
theorem dX8_bars_1 : decode cX8_bars 1 = .ok (.invokevirtual 183, 3) := by decide +kernel
theorem dX8_bars_4 : decode cX8_bars 4 = .ok (.ifCond .eq 6, 3) := by decide +kernel
theorem dX8_bars_7 : decode cX8_bars 7 = .ok (.ldc 182, 2) := by decide +kernel
theorem dX8_bars_9 : decode cX8_bars 9 = .ok (.ireturn, 1) := by decide +kernel
theorem dX8_bars_10 : decode cX8_bars 10 = .ok (.iload_n 1, 1) := by decide +kernel
theorem dX8_bars_11 : decode cX8_bars 11 = .ok (.i2l, 1) := by decide +kernel
theorem dX8_bars_12 : decode cX8_bars 12 = .ok (.lconst 1, 1) := by decide +kernel
theorem dX8_bars_13 : decode cX8_bars 13 = .ok (.ldc2_w 186, 3) := by decide +kernel
theorem dX8_bars_16 : decode cX8_bars 16 = .ok (.invokestatic 60, 3) := by decide +kernel
theorem dX8_bars_19 : decode cX8_bars 19 = .ok (.ifCond .ne 6, 3) := by decide +kernel
theorem dX8_bars_22 : decode cX8_bars 22 = .ok (.ldc 70, 2) := by decide +kernel
theorem dX8_bars_24 : decode cX8_bars 24 = .ok (.ireturn, 1) := by decide +kernel
theorem dX8_bars_25 : decode cX8_bars 25 = .ok (.aload_n 0, 1) := by decide +kernel
theorem dX8_bars_26 : decode cX8_bars 26 = .ok (.getfield 7, 3) := by decide +kernel
theorem dX8_bars_29 : decode cX8_bars 29 = .ok (.bipush 7, 2) := by decide +kernel
theorem dX8_bars_31 : decode cX8_bars 31 = .ok (.iaload, 1) := by decide +kernel
theorem dX8_bars_32 : decode cX8_bars 32 = .ok (.iload_n 1, 1) := by decide +kernel
theorem dX8_bars_33 : decode cX8_bars 33 = .ok (.iadd, 1) := by decide +kernel
theorem dX8_bars_34 : decode cX8_bars 34 = .ok (.sipush 999, 3) := by decide +kernel
theorem dX8_bars_37 : decode cX8_bars 37 = .ok (.if_icmp .le 6, 3) := by decide +kernel
theorem dX8_bars_40 : decode cX8_bars 40 = .ok (.ldc 91, 2) := by decide +kernel
theorem dX8_bars_42 : decode cX8_bars 42 = .ok (.ireturn, 1) := by decide +kernel
theorem dX8_bars_43 : decode cX8_bars 43 = .ok (.iconst 0, 1) := by decide +kernel
theorem dX8_bars_44 : decode cX8_bars 44 = .ok (.istore_n 2, 1) := by decide +kernel
theorem dX8_bars_45 : decode cX8_bars 45 = .ok (.iload_n 2, 1) := by decide +kernel
theorem dX8_bars_46 : decode cX8_bars 46 = .ok (.iload_n 1, 1) := by decide +kernel
theorem dX8_bars_47 : decode cX8_bars 47 = .ok (.if_icmp .ge 76, 3) := by decide +kernel
theorem dX8_bars_50 : decode cX8_bars 50 = .ok (.aload_n 0, 1) := by decide +kernel
theorem dX8_bars_51 : decode cX8_bars 51 = .ok (.invokevirtual 188, 3) := by decide +kernel
theorem dX8_bars_54 : decode cX8_bars 54 = .ok (.aload_n 0, 1) := by decide +kernel
theorem dX8_bars_55 : decode cX8_bars 55 = .ok (.invokevirtual 191, 3) := by decide +kernel
theorem dX8_bars_58 : decode cX8_bars 58 = .ok (.aload_n 0, 1) := by decide +kernel
theorem dX8_bars_59 : decode cX8_bars 59 = .ok (.invokevirtual 171, 3) := by decide +kernel
theorem dX8_bars_62 : decode cX8_bars 62 = .ok (.iconst 0, 1) := by decide +kernel
theorem dX8_bars_63 : decode cX8_bars 63 = .ok (.istore_n 3, 1) := by decide +kernel
theorem dX8_bars_64 : decode cX8_bars 64 = .ok (.iload_n 3, 1) := by decide +kernel
theorem dX8_bars_65 : decode cX8_bars 65 = .ok (.aload_n 0, 1) := by decide +kernel
theorem dX8_bars_66 : decode cX8_bars 66 = .ok (.getfield 7, 3) := by decide +kernel
theorem dX8_bars_69 : decode cX8_bars 69 = .ok (.iconst 5, 1) := by decide +kernel
theorem dX8_bars_70 : decode cX8_bars 70 = .ok (.iaload, 1) := by decide +kernel
theorem dX8_bars_71 : decode cX8_bars 71 = .ok (.if_icmp .ge 24, 3) := by decide +kernel
theorem dX8_bars_74 : decode cX8_bars 74 = .ok (.aload_n 0, 1) := by decide +kernel
theorem dX8_bars_75 : decode cX8_bars 75 = .ok (.getfield 7, 3) := by decide +kernel
theorem dX8_bars_78 : decode cX8_bars 78 = .ok (.bipush 26, 2) := by decide +kernel
theorem dX8_bars_80 : decode cX8_bars 80 = .ok (.iload_n 3, 1) := by decide +kernel
theorem dX8_bars_81 : decode cX8_bars 81 = .ok (.iadd, 1) := by decide +kernel
theorem dX8_bars_82 : decode cX8_bars 82 = .ok (.aload_n 0, 1) := by decide +kernel
theorem dX8_bars_83 : decode cX8_bars 83 = .ok (.getfield 32, 3) := by decide +kernel
theorem dX8_bars_86 : decode cX8_bars 86 = .ok (.iload_n 3, 1) := by decide +kernel
theorem dX8_bars_87 : decode cX8_bars 87 = .ok (.iaload, 1) := by decide +kernel
theorem dX8_bars_88 : decode cX8_bars 88 = .ok (.iastore, 1) := by decide +kernel
theorem dX8_bars_89 : decode cX8_bars 89 = .ok (.iinc 3 1, 3) := by decide +kernel
theorem dX8_bars_92 : decode cX8_bars 92 = .ok (.goto (-28), 3) := by decide +kernel
theorem dX8_bars_95 : decode cX8_bars 95 = .ok (.aload_n 0, 1) := by decide +kernel
theorem dX8_bars_96 : decode cX8_bars 96 = .ok (.getfield 7, 3) := by decide +kernel
theorem dX8_bars_99 : decode cX8_bars 99 = .ok (.bipush 6, 2) := by decide +kernel
theorem dX8_bars_101 : decode cX8_bars 101 = .ok (.aload_n 0, 1) := by decide +kernel
theorem dX8_bars_102 : decode cX8_bars 102 = .ok (.getfield 156, 3) := by decide +kernel
theorem dX8_bars_105 : decode cX8_bars 105 = .ok (.iastore, 1) := by decide +kernel
theorem dX8_bars_106 : decode cX8_bars 106 = .ok (.aload_n 0, 1) := by decide +kernel
theorem dX8_bars_107 : decode cX8_bars 107 = .ok (.getfield 7, 3) := by decide +kernel
theorem dX8_bars_110 : decode cX8_bars 110 = .ok (.bipush 7, 2) := by decide +kernel
theorem dX8_bars_112 : decode cX8_bars 112 = .ok (.dup2, 1) := by decide +kernel
theorem dX8_bars_113 : decode cX8_bars 113 = .ok (.iaload, 1) := by decide +kernel
theorem dX8_bars_114 : decode cX8_bars 114 = .ok (.iconst 1, 1) := by decide +kernel
theorem dX8_bars_115 : decode cX8_bars 115 = .ok (.iadd, 1) := by decide +kernel
theorem dX8_bars_116 : decode cX8_bars 116 = .ok (.iastore, 1) := by decide +kernel
theorem dX8_bars_117 : decode cX8_bars 117 = .ok (.iinc 2 1, 3) := by decide +kernel
theorem dX8_bars_120 : decode cX8_bars 120 = .ok (.goto (-75), 3) := by decide +kernel
theorem dX8_bars_123 : decode cX8_bars 123 = .ok (.aload_n 0, 1) := by decide +kernel
theorem dX8_bars_124 : decode cX8_bars 124 = .ok (.invokevirtual 194, 3) := by decide +kernel
theorem dX8_bars_127 : decode cX8_bars 127 = .ok (.ireturn, 1) := by decide +kernel
theorem dX8_pace_0 : decode cX8_pace 0 = .ok (.aload_n 0, 1) := by decide +kernel
theorem dX8_pace_1 : decode cX8_pace 1 = .ok (.iload_n 1, 1) := by decide +kernel
theorem dX8_pace_2 : decode cX8_pace 2 = .ok (.invokevirtual 197, 3) := by decide +kernel
theorem dX8_pace_5 : decode cX8_pace 5 = .ok (.ifCond .eq 17, 3) := by decide +kernel
theorem dX8_pace_8 : decode cX8_pace 8 = .ok (.iload_n 2, 1) := by decide +kernel
theorem dX8_pace_9 : decode cX8_pace 9 = .ok (.i2l, 1) := by decide +kernel
theorem dX8_pace_10 : decode cX8_pace 10 = .ok (.ldc2_w 200, 3) := by decide +kernel
theorem dX8_pace_13 : decode cX8_pace 13 = .ok (.ldc2_w 202, 3) := by decide +kernel
theorem dX8_pace_16 : decode cX8_pace 16 = .ok (.invokestatic 60, 3) := by decide +kernel
theorem dX8_pace_19 : decode cX8_pace 19 = .ok (.ifCond .ne 6, 3) := by decide +kernel
theorem dX8_pace_22 : decode cX8_pace 22 = .ok (.ldc 70, 2) := by decide +kernel
theorem dX8_pace_24 : decode cX8_pace 24 = .ok (.ireturn, 1) := by decide +kernel
theorem dX8_pace_25 : decode cX8_pace 25 = .ok (.aload_n 0, 1) := by decide +kernel
theorem dX8_pace_26 : decode cX8_pace 26 = .ok (.invokevirtual 188, 3) := by decide +kernel
theorem dX8_pace_29 : decode cX8_pace 29 = .ok (.aload_n 0, 1) := by decide +kernel
theorem dX8_pace_30 : decode cX8_pace 30 = .ok (.getfield 7, 3) := by decide +kernel
theorem dX8_pace_33 : decode cX8_pace 33 = .ok (.bipush 26, 2) := by decide +kernel
theorem dX8_pace_35 : decode cX8_pace 35 = .ok (.iload_n 1, 1) := by decide +kernel
theorem dX8_pace_36 : decode cX8_pace 36 = .ok (.iadd, 1) := by decide +kernel
theorem dX8_pace_37 : decode cX8_pace 37 = .ok (.iaload, 1) := by decide +kernel
theorem dX8_pace_38 : decode cX8_pace 38 = .ok (.istore_n 3, 1) := by decide +kernel
theorem dX8_pace_39 : decode cX8_pace 39 = .ok (.aload_n 0, 1) := by decide +kernel
theorem dX8_pace_40 : decode cX8_pace 40 = .ok (.getfield 7, 3) := by decide +kernel
theorem dX8_pace_43 : decode cX8_pace 43 = .ok (.bipush 26, 2) := by decide +kernel
theorem dX8_pace_45 : decode cX8_pace 45 = .ok (.iload_n 1, 1) := by decide +kernel
theorem dX8_pace_46 : decode cX8_pace 46 = .ok (.iadd, 1) := by decide +kernel
theorem dX8_pace_47 : decode cX8_pace 47 = .ok (.iload_n 2, 1) := by decide +kernel
theorem dX8_pace_48 : decode cX8_pace 48 = .ok (.iastore, 1) := by decide +kernel
theorem dX8_pace_49 : decode cX8_pace 49 = .ok (.iload_n 3, 1) := by decide +kernel
theorem dX8_pace_50 : decode cX8_pace 50 = .ok (.ireturn, 1) := by decide +kernel
theorem dX8_hears_0 : decode cX8_hears 0 = .ok (.aload_n 0, 1) := by decide +kernel
theorem dX8_hears_1 : decode cX8_hears 1 = .ok (.iload_n 1, 1) := by decide +kernel
theorem dX8_hears_2 : decode cX8_hears 2 = .ok (.invokevirtual 197, 3) := by decide +kernel
theorem dX8_hears_5 : decode cX8_hears 5 = .ok (.ifCond .eq 28, 3) := by decide +kernel
theorem dX8_hears_8 : decode cX8_hears 8 = .ok (.aload_n 0, 1) := by decide +kernel
theorem dX8_hears_9 : decode cX8_hears 9 = .ok (.iload_n 2, 1) := by decide +kernel
theorem dX8_hears_10 : decode cX8_hears 10 = .ok (.invokevirtual 197, 3) := by decide +kernel
theorem dX8_hears_13 : decode cX8_hears 13 = .ok (.ifCond .eq 20, 3) := by decide +kernel
theorem dX8_hears_16 : decode cX8_hears 16 = .ok (.iload_n 1, 1) := by decide +kernel
theorem dX8_hears_17 : decode cX8_hears 17 = .ok (.iload_n 2, 1) := by decide +kernel
theorem dX8_hears_18 : decode cX8_hears 18 = .ok (.if_icmp .eq 15, 3) := by decide +kernel
theorem dX8_hears_21 : decode cX8_hears 21 = .ok (.iload_n 3, 1) := by decide +kernel
theorem dX8_hears_22 : decode cX8_hears 22 = .ok (.i2l, 1) := by decide +kernel
theorem dX8_hears_23 : decode cX8_hears 23 = .ok (.lconst 0, 1) := by decide +kernel
theorem dX8_hears_24 : decode cX8_hears 24 = .ok (.ldc2_w 204, 3) := by decide +kernel
theorem dX8_hears_27 : decode cX8_hears 27 = .ok (.invokestatic 60, 3) := by decide +kernel
theorem dX8_hears_30 : decode cX8_hears 30 = .ok (.ifCond .ne 6, 3) := by decide +kernel
theorem dX8_hears_33 : decode cX8_hears 33 = .ok (.ldc 70, 2) := by decide +kernel
theorem dX8_hears_35 : decode cX8_hears 35 = .ok (.ireturn, 1) := by decide +kernel
theorem dX8_hears_36 : decode cX8_hears 36 = .ok (.aload_n 0, 1) := by decide +kernel
theorem dX8_hears_37 : decode cX8_hears 37 = .ok (.invokevirtual 188, 3) := by decide +kernel
theorem dX8_hears_40 : decode cX8_hears 40 = .ok (.aload_n 0, 1) := by decide +kernel
theorem dX8_hears_41 : decode cX8_hears 41 = .ok (.getfield 7, 3) := by decide +kernel
theorem dX8_hears_44 : decode cX8_hears 44 = .ok (.bipush 36, 2) := by decide +kernel
theorem dX8_hears_46 : decode cX8_hears 46 = .ok (.iconst 5, 1) := by decide +kernel
theorem dX8_hears_47 : decode cX8_hears 47 = .ok (.iload_n 1, 1) := by decide +kernel
theorem dX8_hears_48 : decode cX8_hears 48 = .ok (.imul, 1) := by decide +kernel
theorem dX8_hears_49 : decode cX8_hears 49 = .ok (.iadd, 1) := by decide +kernel
theorem dX8_hears_50 : decode cX8_hears 50 = .ok (.iload_n 2, 1) := by decide +kernel
theorem dX8_hears_51 : decode cX8_hears 51 = .ok (.iadd, 1) := by decide +kernel
theorem dX8_hears_52 : decode cX8_hears 52 = .ok (.iaload, 1) := by decide +kernel
theorem dX8_hears_53 : decode cX8_hears 53 = .ok (.istore 4, 2) := by decide +kernel
theorem dX8_hears_55 : decode cX8_hears 55 = .ok (.aload_n 0, 1) := by decide +kernel
theorem dX8_hears_56 : decode cX8_hears 56 = .ok (.getfield 7, 3) := by decide +kernel
theorem dX8_hears_59 : decode cX8_hears 59 = .ok (.bipush 36, 2) := by decide +kernel
theorem dX8_hears_61 : decode cX8_hears 61 = .ok (.iconst 5, 1) := by decide +kernel
theorem dX8_hears_62 : decode cX8_hears 62 = .ok (.iload_n 1, 1) := by decide +kernel
theorem dX8_hears_63 : decode cX8_hears 63 = .ok (.imul, 1) := by decide +kernel
theorem dX8_hears_64 : decode cX8_hears 64 = .ok (.iadd, 1) := by decide +kernel
theorem dX8_hears_65 : decode cX8_hears 65 = .ok (.iload_n 2, 1) := by decide +kernel
theorem dX8_hears_66 : decode cX8_hears 66 = .ok (.iadd, 1) := by decide +kernel
theorem dX8_hears_67 : decode cX8_hears 67 = .ok (.iload_n 3, 1) := by decide +kernel
theorem dX8_hears_68 : decode cX8_hears 68 = .ok (.iastore, 1) := by decide +kernel
theorem dX8_hears_69 : decode cX8_hears 69 = .ok (.iload 4, 2) := by decide +kernel
theorem dX8_hears_71 : decode cX8_hears 71 = .ok (.ireturn, 1) := by decide +kernel
theorem dX8_click_0 : decode cX8_click 0 = .ok (.aload_n 0, 1) := by decide +kernel
theorem dX8_click_1 : decode cX8_click 1 = .ok (.invokevirtual 183, 3) := by decide +kernel
theorem dX8_click_4 : decode cX8_click 4 = .ok (.ifCond .eq 6, 3) := by decide +kernel
theorem dX8_click_7 : decode cX8_click 7 = .ok (.ldc 182, 2) := by decide +kernel
theorem dX8_click_9 : decode cX8_click 9 = .ok (.ireturn, 1) := by decide +kernel
theorem dX8_click_10 : decode cX8_click 10 = .ok (.iload_n 1, 1) := by decide +kernel
theorem dX8_click_11 : decode cX8_click 11 = .ok (.i2l, 1) := by decide +kernel
theorem dX8_click_12 : decode cX8_click 12 = .ok (.ldc2_w 206, 3) := by decide +kernel
theorem dX8_click_15 : decode cX8_click 15 = .ok (.ldc2_w 208, 3) := by decide +kernel
theorem dX8_click_18 : decode cX8_click 18 = .ok (.invokestatic 60, 3) := by decide +kernel
theorem dX8_click_21 : decode cX8_click 21 = .ok (.ifCond .ne 6, 3) := by decide +kernel
theorem dX8_click_24 : decode cX8_click 24 = .ok (.ldc 70, 2) := by decide +kernel
theorem dX8_click_26 : decode cX8_click 26 = .ok (.ireturn, 1) := by decide +kernel
theorem dX8_click_27 : decode cX8_click 27 = .ok (.aload_n 0, 1) := by decide +kernel
theorem dX8_click_28 : decode cX8_click 28 = .ok (.invokevirtual 188, 3) := by decide +kernel
theorem dX8_click_31 : decode cX8_click 31 = .ok (.aload_n 0, 1) := by decide +kernel
theorem dX8_click_32 : decode cX8_click 32 = .ok (.getfield 7, 3) := by decide +kernel
theorem dX8_click_35 : decode cX8_click 35 = .ok (.iconst 3, 1) := by decide +kernel
theorem dX8_click_36 : decode cX8_click 36 = .ok (.iaload, 1) := by decide +kernel
theorem dX8_click_37 : decode cX8_click 37 = .ok (.istore_n 2, 1) := by decide +kernel
theorem dX8_click_38 : decode cX8_click 38 = .ok (.aload_n 0, 1) := by decide +kernel
theorem dX8_click_39 : decode cX8_click 39 = .ok (.getfield 7, 3) := by decide +kernel
theorem dX8_click_42 : decode cX8_click 42 = .ok (.iconst 3, 1) := by decide +kernel
theorem dX8_click_43 : decode cX8_click 43 = .ok (.iload_n 1, 1) := by decide +kernel
theorem dX8_click_44 : decode cX8_click 44 = .ok (.iastore, 1) := by decide +kernel
theorem dX8_click_45 : decode cX8_click 45 = .ok (.iload_n 2, 1) := by decide +kernel
theorem dX8_click_46 : decode cX8_click 46 = .ok (.ireturn, 1) := by decide +kernel
theorem dX8_claps_0 : decode cX8_claps 0 = .ok (.aload_n 0, 1) := by decide +kernel
theorem dX8_claps_1 : decode cX8_claps 1 = .ok (.invokevirtual 183, 3) := by decide +kernel
theorem dX8_claps_4 : decode cX8_claps 4 = .ok (.ifCond .eq 6, 3) := by decide +kernel
theorem dX8_claps_7 : decode cX8_claps 7 = .ok (.ldc 182, 2) := by decide +kernel
theorem dX8_claps_9 : decode cX8_claps 9 = .ok (.ireturn, 1) := by decide +kernel
theorem dX8_claps_10 : decode cX8_claps 10 = .ok (.iload_n 1, 1) := by decide +kernel
theorem dX8_claps_11 : decode cX8_claps 11 = .ok (.i2l, 1) := by decide +kernel
theorem dX8_claps_12 : decode cX8_claps 12 = .ok (.lconst 1, 1) := by decide +kernel
theorem dX8_claps_13 : decode cX8_claps 13 = .ok (.ldc2_w 208, 3) := by decide +kernel
theorem dX8_claps_16 : decode cX8_claps 16 = .ok (.invokestatic 60, 3) := by decide +kernel
theorem dX8_claps_19 : decode cX8_claps 19 = .ok (.ifCond .ne 6, 3) := by decide +kernel
theorem dX8_claps_22 : decode cX8_claps 22 = .ok (.ldc 70, 2) := by decide +kernel
theorem dX8_claps_24 : decode cX8_claps 24 = .ok (.ireturn, 1) := by decide +kernel
theorem dX8_claps_25 : decode cX8_claps 25 = .ok (.aload_n 0, 1) := by decide +kernel
theorem dX8_claps_26 : decode cX8_claps 26 = .ok (.invokevirtual 188, 3) := by decide +kernel
theorem dX8_claps_29 : decode cX8_claps 29 = .ok (.iconst 0, 1) := by decide +kernel
theorem dX8_claps_30 : decode cX8_claps 30 = .ok (.istore_n 2, 1) := by decide +kernel
theorem dX8_claps_31 : decode cX8_claps 31 = .ok (.iload_n 2, 1) := by decide +kernel
theorem dX8_claps_32 : decode cX8_claps 32 = .ok (.aload_n 0, 1) := by decide +kernel
theorem dX8_claps_33 : decode cX8_claps 33 = .ok (.getfield 7, 3) := by decide +kernel
theorem dX8_claps_36 : decode cX8_claps 36 = .ok (.iconst 5, 1) := by decide +kernel
theorem dX8_claps_37 : decode cX8_claps 37 = .ok (.iaload, 1) := by decide +kernel
theorem dX8_claps_38 : decode cX8_claps 38 = .ok (.if_icmp .ge 32, 3) := by decide +kernel
theorem dX8_claps_41 : decode cX8_claps 41 = .ok (.aload_n 0, 1) := by decide +kernel
theorem dX8_claps_42 : decode cX8_claps 42 = .ok (.getfield 7, 3) := by decide +kernel
theorem dX8_claps_45 : decode cX8_claps 45 = .ok (.bipush 26, 2) := by decide +kernel
theorem dX8_claps_47 : decode cX8_claps 47 = .ok (.iload_n 2, 1) := by decide +kernel
theorem dX8_claps_48 : decode cX8_claps 48 = .ok (.iadd, 1) := by decide +kernel
theorem dX8_claps_49 : decode cX8_claps 49 = .ok (.aload_n 0, 1) := by decide +kernel
theorem dX8_claps_50 : decode cX8_claps 50 = .ok (.getfield 7, 3) := by decide +kernel
theorem dX8_claps_53 : decode cX8_claps 53 = .ok (.bipush 26, 2) := by decide +kernel
theorem dX8_claps_55 : decode cX8_claps 55 = .ok (.iload_n 2, 1) := by decide +kernel
theorem dX8_claps_56 : decode cX8_claps 56 = .ok (.iadd, 1) := by decide +kernel
theorem dX8_claps_57 : decode cX8_claps 57 = .ok (.iaload, 1) := by decide +kernel
theorem dX8_claps_58 : decode cX8_claps 58 = .ok (.iload_n 1, 1) := by decide +kernel
theorem dX8_claps_59 : decode cX8_claps 59 = .ok (.iadd, 1) := by decide +kernel
theorem dX8_claps_60 : decode cX8_claps 60 = .ok (.invokestatic 165, 3) := by decide +kernel
theorem dX8_claps_63 : decode cX8_claps 63 = .ok (.iastore, 1) := by decide +kernel
theorem dX8_claps_64 : decode cX8_claps 64 = .ok (.iinc 2 1, 3) := by decide +kernel
theorem dX8_claps_67 : decode cX8_claps 67 = .ok (.goto (-36), 3) := by decide +kernel
theorem dX8_claps_70 : decode cX8_claps 70 = .ok (.aload_n 0, 1) := by decide +kernel
theorem dX8_claps_71 : decode cX8_claps 71 = .ok (.invokevirtual 194, 3) := by decide +kernel
theorem dX8_claps_74 : decode cX8_claps 74 = .ok (.ireturn, 1) := by decide +kernel
theorem dX8_player_0 : decode cX8_player 0 = .ok (.aload_n 0, 1) := by decide +kernel
theorem dX8_player_1 : decode cX8_player 1 = .ok (.iload_n 1, 1) := by decide +kernel
theorem dX8_player_2 : decode cX8_player 2 = .ok (.invokevirtual 197, 3) := by decide +kernel
theorem dX8_player_5 : decode cX8_player 5 = .ok (.ifCond .eq 15, 3) := by decide +kernel
theorem dX8_player_8 : decode cX8_player 8 = .ok (.iload_n 2, 1) := by decide +kernel
theorem dX8_player_9 : decode cX8_player 9 = .ok (.i2l, 1) := by decide +kernel
theorem dX8_player_10 : decode cX8_player 10 = .ok (.lconst 0, 1) := by decide +kernel
theorem dX8_player_11 : decode cX8_player 11 = .ok (.ldc2_w 210, 3) := by decide +kernel
theorem dX8_player_14 : decode cX8_player 14 = .ok (.invokestatic 60, 3) := by decide +kernel
theorem dX8_player_17 : decode cX8_player 17 = .ok (.ifCond .ne 6, 3) := by decide +kernel
theorem dX8_player_20 : decode cX8_player 20 = .ok (.ldc 70, 2) := by decide +kernel
theorem dX8_player_22 : decode cX8_player 22 = .ok (.ireturn, 1) := by decide +kernel
theorem dX8_player_23 : decode cX8_player 23 = .ok (.iconst 0, 1) := by decide +kernel
end
section
theorem dX8_player_24 : decode cX8_player 24 = .ok (.istore_n 3, 1) := by decide +kernel
theorem dX8_player_25 : decode cX8_player 25 = .ok (.iconst 0, 1) := by decide +kernel
theorem dX8_player_26 : decode cX8_player 26 = .ok (.istore 4, 2) := by decide +kernel
theorem dX8_player_28 : decode cX8_player 28 = .ok (.iload 4, 2) := by decide +kernel
theorem dX8_player_30 : decode cX8_player 30 = .ok (.iconst 5, 1) := by decide +kernel
theorem dX8_player_31 : decode cX8_player 31 = .ok (.if_icmp .ge 34, 3) := by decide +kernel
theorem dX8_player_34 : decode cX8_player 34 = .ok (.iload_n 3, 1) := by decide +kernel
theorem dX8_player_35 : decode cX8_player 35 = .ok (.aload_n 0, 1) := by decide +kernel
theorem dX8_player_36 : decode cX8_player 36 = .ok (.getfield 7, 3) := by decide +kernel
theorem dX8_player_39 : decode cX8_player 39 = .ok (.bipush 36, 2) := by decide +kernel
theorem dX8_player_41 : decode cX8_player 41 = .ok (.iconst 5, 1) := by decide +kernel
theorem dX8_player_42 : decode cX8_player 42 = .ok (.iload_n 1, 1) := by decide +kernel
theorem dX8_player_43 : decode cX8_player 43 = .ok (.imul, 1) := by decide +kernel
theorem dX8_player_44 : decode cX8_player 44 = .ok (.iadd, 1) := by decide +kernel
theorem dX8_player_45 : decode cX8_player 45 = .ok (.iload 4, 2) := by decide +kernel
theorem dX8_player_47 : decode cX8_player 47 = .ok (.iadd, 1) := by decide +kernel
theorem dX8_player_48 : decode cX8_player 48 = .ok (.iaload, 1) := by decide +kernel
theorem dX8_player_49 : decode cX8_player 49 = .ok (.ifCond .le 7, 3) := by decide +kernel
theorem dX8_player_52 : decode cX8_player 52 = .ok (.iconst 1, 1) := by decide +kernel
theorem dX8_player_53 : decode cX8_player 53 = .ok (.goto 4, 3) := by decide +kernel
theorem dX8_player_56 : decode cX8_player 56 = .ok (.iconst 0, 1) := by decide +kernel
theorem dX8_player_57 : decode cX8_player 57 = .ok (.iadd, 1) := by decide +kernel
theorem dX8_player_58 : decode cX8_player 58 = .ok (.istore_n 3, 1) := by decide +kernel
theorem dX8_player_59 : decode cX8_player 59 = .ok (.iinc 4 1, 3) := by decide +kernel
theorem dX8_player_62 : decode cX8_player 62 = .ok (.goto (-34), 3) := by decide +kernel
theorem dX8_player_65 : decode cX8_player 65 = .ok (.iload_n 2, 1) := by decide +kernel
theorem dX8_player_66 : decode cX8_player 66 = .ok (.ifCond .ne 15, 3) := by decide +kernel
theorem dX8_player_69 : decode cX8_player 69 = .ok (.aload_n 0, 1) := by decide +kernel
theorem dX8_player_70 : decode cX8_player 70 = .ok (.getfield 7, 3) := by decide +kernel
theorem dX8_player_73 : decode cX8_player 73 = .ok (.bipush 26, 2) := by decide +kernel
theorem dX8_player_75 : decode cX8_player 75 = .ok (.iload_n 1, 1) := by decide +kernel
theorem dX8_player_76 : decode cX8_player 76 = .ok (.iadd, 1) := by decide +kernel
theorem dX8_player_77 : decode cX8_player 77 = .ok (.iaload, 1) := by decide +kernel
theorem dX8_player_78 : decode cX8_player 78 = .ok (.goto 57, 3) := by decide +kernel
theorem dX8_player_81 : decode cX8_player 81 = .ok (.iload_n 2, 1) := by decide +kernel
theorem dX8_player_82 : decode cX8_player 82 = .ok (.iconst 1, 1) := by decide +kernel
theorem dX8_player_83 : decode cX8_player 83 = .ok (.if_icmp .ne 15, 3) := by decide +kernel
theorem dX8_player_86 : decode cX8_player 86 = .ok (.aload_n 0, 1) := by decide +kernel
theorem dX8_player_87 : decode cX8_player 87 = .ok (.getfield 7, 3) := by decide +kernel
theorem dX8_player_90 : decode cX8_player 90 = .ok (.bipush 31, 2) := by decide +kernel
theorem dX8_player_92 : decode cX8_player 92 = .ok (.iload_n 1, 1) := by decide +kernel
theorem dX8_player_93 : decode cX8_player 93 = .ok (.iadd, 1) := by decide +kernel
theorem dX8_player_94 : decode cX8_player 94 = .ok (.iaload, 1) := by decide +kernel
theorem dX8_player_95 : decode cX8_player 95 = .ok (.goto 40, 3) := by decide +kernel
theorem dX8_player_98 : decode cX8_player 98 = .ok (.iload_n 2, 1) := by decide +kernel
theorem dX8_player_99 : decode cX8_player 99 = .ok (.iconst 2, 1) := by decide +kernel
theorem dX8_player_100 : decode cX8_player 100 = .ok (.if_icmp .ne 34, 3) := by decide +kernel
theorem dX8_player_103 : decode cX8_player 103 = .ok (.aload_n 0, 1) := by decide +kernel
theorem dX8_player_104 : decode cX8_player 104 = .ok (.aload_n 0, 1) := by decide +kernel
theorem dX8_player_105 : decode cX8_player 105 = .ok (.getfield 7, 3) := by decide +kernel
theorem dX8_player_108 : decode cX8_player 108 = .ok (.bipush 21, 2) := by decide +kernel
theorem dX8_player_110 : decode cX8_player 110 = .ok (.iload_n 1, 1) := by decide +kernel
theorem dX8_player_111 : decode cX8_player 111 = .ok (.iadd, 1) := by decide +kernel
theorem dX8_player_112 : decode cX8_player 112 = .ok (.iaload, 1) := by decide +kernel
theorem dX8_player_113 : decode cX8_player 113 = .ok (.aload_n 0, 1) := by decide +kernel
theorem dX8_player_114 : decode cX8_player 114 = .ok (.getfield 7, 3) := by decide +kernel
theorem dX8_player_117 : decode cX8_player 117 = .ok (.bipush 9, 2) := by decide +kernel
theorem dX8_player_119 : decode cX8_player 119 = .ok (.aload_n 0, 1) := by decide +kernel
theorem dX8_player_120 : decode cX8_player 120 = .ok (.getfield 7, 3) := by decide +kernel
theorem dX8_player_123 : decode cX8_player 123 = .ok (.bipush 6, 2) := by decide +kernel
theorem dX8_player_125 : decode cX8_player 125 = .ok (.iaload, 1) := by decide +kernel
theorem dX8_player_126 : decode cX8_player 126 = .ok (.iadd, 1) := by decide +kernel
theorem dX8_player_127 : decode cX8_player 127 = .ok (.iaload, 1) := by decide +kernel
theorem dX8_player_128 : decode cX8_player 128 = .ok (.invokevirtual 162, 3) := by decide +kernel
theorem dX8_player_131 : decode cX8_player 131 = .ok (.goto 4, 3) := by decide +kernel
theorem dX8_player_134 : decode cX8_player 134 = .ok (.iload_n 3, 1) := by decide +kernel
theorem dX8_player_135 : decode cX8_player 135 = .ok (.ireturn, 1) := by decide +kernel
theorem dX8_ear_0 : decode cX8_ear 0 = .ok (.aload_n 0, 1) := by decide +kernel
theorem dX8_ear_1 : decode cX8_ear 1 = .ok (.iload_n 1, 1) := by decide +kernel
theorem dX8_ear_2 : decode cX8_ear 2 = .ok (.invokevirtual 197, 3) := by decide +kernel
theorem dX8_ear_5 : decode cX8_ear 5 = .ok (.ifCond .eq 32, 3) := by decide +kernel
theorem dX8_ear_8 : decode cX8_ear 8 = .ok (.aload_n 0, 1) := by decide +kernel
theorem dX8_ear_9 : decode cX8_ear 9 = .ok (.iload_n 2, 1) := by decide +kernel
theorem dX8_ear_10 : decode cX8_ear 10 = .ok (.invokevirtual 197, 3) := by decide +kernel
theorem dX8_ear_13 : decode cX8_ear 13 = .ok (.ifCond .eq 24, 3) := by decide +kernel
theorem dX8_ear_16 : decode cX8_ear 16 = .ok (.iload_n 1, 1) := by decide +kernel
theorem dX8_ear_17 : decode cX8_ear 17 = .ok (.iload_n 2, 1) := by decide +kernel
theorem dX8_ear_18 : decode cX8_ear 18 = .ok (.if_icmp .eq 19, 3) := by decide +kernel
theorem dX8_ear_21 : decode cX8_ear 21 = .ok (.aload_n 0, 1) := by decide +kernel
theorem dX8_ear_22 : decode cX8_ear 22 = .ok (.getfield 7, 3) := by decide +kernel
theorem dX8_ear_25 : decode cX8_ear 25 = .ok (.bipush 36, 2) := by decide +kernel
theorem dX8_ear_27 : decode cX8_ear 27 = .ok (.iconst 5, 1) := by decide +kernel
theorem dX8_ear_28 : decode cX8_ear 28 = .ok (.iload_n 1, 1) := by decide +kernel
theorem dX8_ear_29 : decode cX8_ear 29 = .ok (.imul, 1) := by decide +kernel
theorem dX8_ear_30 : decode cX8_ear 30 = .ok (.iadd, 1) := by decide +kernel
theorem dX8_ear_31 : decode cX8_ear 31 = .ok (.iload_n 2, 1) := by decide +kernel
theorem dX8_ear_32 : decode cX8_ear 32 = .ok (.iadd, 1) := by decide +kernel
theorem dX8_ear_33 : decode cX8_ear 33 = .ok (.iaload, 1) := by decide +kernel
theorem dX8_ear_34 : decode cX8_ear 34 = .ok (.goto 5, 3) := by decide +kernel
theorem dX8_ear_37 : decode cX8_ear 37 = .ok (.ldc 70, 2) := by decide +kernel
theorem dX8_ear_39 : decode cX8_ear 39 = .ok (.ireturn, 1) := by decide +kernel
theorem dX8_bar_0 : decode cX8_bar 0 = .ok (.iload_n 1, 1) := by decide +kernel
theorem dX8_bar_1 : decode cX8_bar 1 = .ok (.i2l, 1) := by decide +kernel
theorem dX8_bar_2 : decode cX8_bar 2 = .ok (.lconst 0, 1) := by decide +kernel
theorem dX8_bar_3 : decode cX8_bar 3 = .ok (.aload_n 0, 1) := by decide +kernel
theorem dX8_bar_4 : decode cX8_bar 4 = .ok (.getfield 7, 3) := by decide +kernel
theorem dX8_bar_7 : decode cX8_bar 7 = .ok (.iconst 4, 1) := by decide +kernel
theorem dX8_bar_8 : decode cX8_bar 8 = .ok (.iaload, 1) := by decide +kernel
theorem dX8_bar_9 : decode cX8_bar 9 = .ok (.iconst 1, 1) := by decide +kernel
theorem dX8_bar_10 : decode cX8_bar 10 = .ok (.isub, 1) := by decide +kernel
theorem dX8_bar_11 : decode cX8_bar 11 = .ok (.i2l, 1) := by decide +kernel
theorem dX8_bar_12 : decode cX8_bar 12 = .ok (.invokestatic 60, 3) := by decide +kernel
theorem dX8_bar_15 : decode cX8_bar 15 = .ok (.ifCond .eq 15, 3) := by decide +kernel
theorem dX8_bar_18 : decode cX8_bar 18 = .ok (.aload_n 0, 1) := by decide +kernel
theorem dX8_bar_19 : decode cX8_bar 19 = .ok (.getfield 7, 3) := by decide +kernel
theorem dX8_bar_22 : decode cX8_bar 22 = .ok (.bipush 9, 2) := by decide +kernel
theorem dX8_bar_24 : decode cX8_bar 24 = .ok (.iload_n 1, 1) := by decide +kernel
theorem dX8_bar_25 : decode cX8_bar 25 = .ok (.iadd, 1) := by decide +kernel
theorem dX8_bar_26 : decode cX8_bar 26 = .ok (.iaload, 1) := by decide +kernel
theorem dX8_bar_27 : decode cX8_bar 27 = .ok (.goto 5, 3) := by decide +kernel
theorem dX8_bar_30 : decode cX8_bar 30 = .ok (.ldc 70, 2) := by decide +kernel
theorem dX8_bar_32 : decode cX8_bar 32 = .ok (.ireturn, 1) := by decide +kernel
theorem dX8_ahead_0 : decode cX8_ahead 0 = .ok (.aload_n 0, 1) := by decide +kernel
theorem dX8_ahead_1 : decode cX8_ahead 1 = .ok (.invokevirtual 183, 3) := by decide +kernel
theorem dX8_ahead_4 : decode cX8_ahead 4 = .ok (.ifCond .eq 6, 3) := by decide +kernel
theorem dX8_ahead_7 : decode cX8_ahead 7 = .ok (.ldc 182, 2) := by decide +kernel
theorem dX8_ahead_9 : decode cX8_ahead 9 = .ok (.ireturn, 1) := by decide +kernel
theorem dX8_ahead_10 : decode cX8_ahead 10 = .ok (.aload_n 0, 1) := by decide +kernel
theorem dX8_ahead_11 : decode cX8_ahead 11 = .ok (.iload_n 1, 1) := by decide +kernel
theorem dX8_ahead_12 : decode cX8_ahead 12 = .ok (.invokevirtual 197, 3) := by decide +kernel
theorem dX8_ahead_15 : decode cX8_ahead 15 = .ok (.ifCond .ne 8, 3) := by decide +kernel
theorem dX8_ahead_18 : decode cX8_ahead 18 = .ok (.iload_n 1, 1) := by decide +kernel
theorem dX8_ahead_19 : decode cX8_ahead 19 = .ok (.iconst (-1), 1) := by decide +kernel
theorem dX8_ahead_20 : decode cX8_ahead 20 = .ok (.if_icmp .ne 15, 3) := by decide +kernel
theorem dX8_ahead_23 : decode cX8_ahead 23 = .ok (.iload_n 2, 1) := by decide +kernel
theorem dX8_ahead_24 : decode cX8_ahead 24 = .ok (.i2l, 1) := by decide +kernel
theorem dX8_ahead_25 : decode cX8_ahead 25 = .ok (.lconst 0, 1) := by decide +kernel
theorem dX8_ahead_26 : decode cX8_ahead 26 = .ok (.ldc2_w 212, 3) := by decide +kernel
theorem dX8_ahead_29 : decode cX8_ahead 29 = .ok (.invokestatic 60, 3) := by decide +kernel
theorem dX8_ahead_32 : decode cX8_ahead 32 = .ok (.ifCond .ne 6, 3) := by decide +kernel
theorem dX8_ahead_35 : decode cX8_ahead 35 = .ok (.ldc 70, 2) := by decide +kernel
theorem dX8_ahead_37 : decode cX8_ahead 37 = .ok (.ireturn, 1) := by decide +kernel
theorem dX8_ahead_38 : decode cX8_ahead 38 = .ok (.aload_n 0, 1) := by decide +kernel
theorem dX8_ahead_39 : decode cX8_ahead 39 = .ok (.invokevirtual 191, 3) := by decide +kernel
theorem dX8_ahead_42 : decode cX8_ahead 42 = .ok (.aload_n 0, 1) := by decide +kernel
theorem dX8_ahead_43 : decode cX8_ahead 43 = .ok (.iload_n 2, 1) := by decide +kernel
theorem dX8_ahead_44 : decode cX8_ahead 44 = .ok (.invokevirtual 178, 3) := by decide +kernel
theorem dX8_ahead_47 : decode cX8_ahead 47 = .ok (.iload_n 1, 1) := by decide +kernel
theorem dX8_ahead_48 : decode cX8_ahead 48 = .ok (.ifCond .ge 10, 3) := by decide +kernel
theorem dX8_ahead_51 : decode cX8_ahead 51 = .ok (.aload_n 0, 1) := by decide +kernel
theorem dX8_ahead_52 : decode cX8_ahead 52 = .ok (.invokevirtual 174, 3) := by decide +kernel
theorem dX8_ahead_55 : decode cX8_ahead 55 = .ok (.goto 9, 3) := by decide +kernel
theorem dX8_ahead_58 : decode cX8_ahead 58 = .ok (.aload_n 0, 1) := by decide +kernel
theorem dX8_ahead_59 : decode cX8_ahead 59 = .ok (.getfield 32, 3) := by decide +kernel
theorem dX8_ahead_62 : decode cX8_ahead 62 = .ok (.iload_n 1, 1) := by decide +kernel
theorem dX8_ahead_63 : decode cX8_ahead 63 = .ok (.iaload, 1) := by decide +kernel
theorem dX8_ahead_64 : decode cX8_ahead 64 = .ok (.ireturn, 1) := by decide +kernel
theorem dX8_drift_0 : decode cX8_drift 0 = .ok (.aload_n 0, 1) := by decide +kernel
theorem dX8_drift_1 : decode cX8_drift 1 = .ok (.invokevirtual 183, 3) := by decide +kernel
theorem dX8_drift_4 : decode cX8_drift 4 = .ok (.ifCond .eq 6, 3) := by decide +kernel
theorem dX8_drift_7 : decode cX8_drift 7 = .ok (.ldc 182, 2) := by decide +kernel
theorem dX8_drift_9 : decode cX8_drift 9 = .ok (.ireturn, 1) := by decide +kernel
theorem dX8_drift_10 : decode cX8_drift 10 = .ok (.aload_n 0, 1) := by decide +kernel
theorem dX8_drift_11 : decode cX8_drift 11 = .ok (.invokevirtual 191, 3) := by decide +kernel
theorem dX8_drift_14 : decode cX8_drift 14 = .ok (.aload_n 0, 1) := by decide +kernel
theorem dX8_drift_15 : decode cX8_drift 15 = .ok (.invokevirtual 214, 3) := by decide +kernel
theorem dX8_drift_18 : decode cX8_drift 18 = .ok (.ireturn, 1) := by decide +kernel
theorem dX8_round_0 : decode cX8_round 0 = .ok (.aload_n 0, 1) := by decide +kernel
theorem dX8_round_1 : decode cX8_round 1 = .ok (.invokevirtual 183, 3) := by decide +kernel
theorem dX8_round_4 : decode cX8_round 4 = .ok (.ifCond .eq 6, 3) := by decide +kernel
theorem dX8_round_7 : decode cX8_round 7 = .ok (.ldc 182, 2) := by decide +kernel
theorem dX8_round_9 : decode cX8_round 9 = .ok (.ireturn, 1) := by decide +kernel
theorem dX8_round_10 : decode cX8_round 10 = .ok (.iload_n 1, 1) := by decide +kernel
theorem dX8_round_11 : decode cX8_round 11 = .ok (.i2l, 1) := by decide +kernel
theorem dX8_round_12 : decode cX8_round 12 = .ok (.lconst 0, 1) := by decide +kernel
theorem dX8_round_13 : decode cX8_round 13 = .ok (.lconst 1, 1) := by decide +kernel
theorem dX8_round_14 : decode cX8_round 14 = .ok (.invokestatic 60, 3) := by decide +kernel
theorem dX8_round_17 : decode cX8_round 17 = .ok (.ifCond .ne 6, 3) := by decide +kernel
theorem dX8_round_20 : decode cX8_round 20 = .ok (.ldc 70, 2) := by decide +kernel
theorem dX8_round_22 : decode cX8_round 22 = .ok (.ireturn, 1) := by decide +kernel
theorem dX8_round_23 : decode cX8_round 23 = .ok (.aload_n 0, 1) := by decide +kernel
theorem dX8_round_24 : decode cX8_round 24 = .ok (.invokevirtual 191, 3) := by decide +kernel
theorem dX8_round_27 : decode cX8_round 27 = .ok (.iconst 0, 1) := by decide +kernel
theorem dX8_round_28 : decode cX8_round 28 = .ok (.istore_n 2, 1) := by decide +kernel
theorem dX8_round_29 : decode cX8_round 29 = .ok (.iload_n 2, 1) := by decide +kernel
theorem dX8_round_30 : decode cX8_round 30 = .ok (.sipush 200, 3) := by decide +kernel
theorem dX8_round_33 : decode cX8_round 33 = .ok (.if_icmp .gt 90, 3) := by decide +kernel
theorem dX8_round_36 : decode cX8_round 36 = .ok (.iconst 0, 1) := by decide +kernel
theorem dX8_round_37 : decode cX8_round 37 = .ok (.istore_n 3, 1) := by decide +kernel
theorem dX8_round_38 : decode cX8_round 38 = .ok (.iload_n 3, 1) := by decide +kernel
theorem dX8_round_39 : decode cX8_round 39 = .ok (.iconst 5, 1) := by decide +kernel
theorem dX8_round_40 : decode cX8_round 40 = .ok (.if_icmp .ge 26, 3) := by decide +kernel
theorem dX8_round_43 : decode cX8_round 43 = .ok (.aload_n 0, 1) := by decide +kernel
theorem dX8_round_44 : decode cX8_round 44 = .ok (.getfield 47, 3) := by decide +kernel
theorem dX8_round_47 : decode cX8_round 47 = .ok (.bipush 6, 2) := by decide +kernel
theorem dX8_round_49 : decode cX8_round 49 = .ok (.iload_n 2, 1) := by decide +kernel
theorem dX8_round_50 : decode cX8_round 50 = .ok (.imul, 1) := by decide +kernel
theorem dX8_round_51 : decode cX8_round 51 = .ok (.iload_n 3, 1) := by decide +kernel
theorem dX8_round_52 : decode cX8_round 52 = .ok (.iadd, 1) := by decide +kernel
theorem dX8_round_53 : decode cX8_round 53 = .ok (.aload_n 0, 1) := by decide +kernel
theorem dX8_round_54 : decode cX8_round 54 = .ok (.getfield 32, 3) := by decide +kernel
theorem dX8_round_57 : decode cX8_round 57 = .ok (.iload_n 3, 1) := by decide +kernel
theorem dX8_round_58 : decode cX8_round 58 = .ok (.iaload, 1) := by decide +kernel
theorem dX8_round_59 : decode cX8_round 59 = .ok (.iastore, 1) := by decide +kernel
theorem dX8_round_60 : decode cX8_round 60 = .ok (.iinc 3 1, 3) := by decide +kernel
theorem dX8_round_63 : decode cX8_round 63 = .ok (.goto (-25), 3) := by decide +kernel
theorem dX8_round_66 : decode cX8_round 66 = .ok (.aload_n 0, 1) := by decide +kernel
theorem dX8_round_67 : decode cX8_round 67 = .ok (.getfield 47, 3) := by decide +kernel
theorem dX8_round_70 : decode cX8_round 70 = .ok (.bipush 6, 2) := by decide +kernel
theorem dX8_round_72 : decode cX8_round 72 = .ok (.iload_n 2, 1) := by decide +kernel
theorem dX8_round_73 : decode cX8_round 73 = .ok (.imul, 1) := by decide +kernel
theorem dX8_round_74 : decode cX8_round 74 = .ok (.iconst 5, 1) := by decide +kernel
theorem dX8_round_75 : decode cX8_round 75 = .ok (.iadd, 1) := by decide +kernel
theorem dX8_round_76 : decode cX8_round 76 = .ok (.aload_n 0, 1) := by decide +kernel
theorem dX8_round_77 : decode cX8_round 77 = .ok (.getfield 156, 3) := by decide +kernel
theorem dX8_round_80 : decode cX8_round 80 = .ok (.iastore, 1) := by decide +kernel
theorem dX8_round_81 : decode cX8_round 81 = .ok (.iconst 0, 1) := by decide +kernel
theorem dX8_round_82 : decode cX8_round 82 = .ok (.istore_n 3, 1) := by decide +kernel
theorem dX8_round_83 : decode cX8_round 83 = .ok (.iload_n 3, 1) := by decide +kernel
theorem dX8_round_84 : decode cX8_round 84 = .ok (.iload_n 2, 1) := by decide +kernel
theorem dX8_round_85 : decode cX8_round 85 = .ok (.if_icmp .ge 28, 3) := by decide +kernel
theorem dX8_round_88 : decode cX8_round 88 = .ok (.aload_n 0, 1) := by decide +kernel
theorem dX8_round_89 : decode cX8_round 89 = .ok (.iload_n 2, 1) := by decide +kernel
theorem dX8_round_90 : decode cX8_round 90 = .ok (.iload_n 3, 1) := by decide +kernel
theorem dX8_round_91 : decode cX8_round 91 = .ok (.invokevirtual 217, 3) := by decide +kernel
theorem dX8_round_94 : decode cX8_round 94 = .ok (.ifCond .eq 13, 3) := by decide +kernel
theorem dX8_round_97 : decode cX8_round 97 = .ok (.iload_n 1, 1) := by decide +kernel
theorem dX8_round_98 : decode cX8_round 98 = .ok (.ifCond .ne 7, 3) := by decide +kernel
theorem dX8_round_101 : decode cX8_round 101 = .ok (.iload_n 2, 1) := by decide +kernel
theorem dX8_round_102 : decode cX8_round 102 = .ok (.goto 4, 3) := by decide +kernel
theorem dX8_round_105 : decode cX8_round 105 = .ok (.iload_n 3, 1) := by decide +kernel
theorem dX8_round_106 : decode cX8_round 106 = .ok (.ireturn, 1) := by decide +kernel
theorem dX8_round_107 : decode cX8_round 107 = .ok (.iinc 3 1, 3) := by decide +kernel
theorem dX8_round_110 : decode cX8_round 110 = .ok (.goto (-27), 3) := by decide +kernel
theorem dX8_round_113 : decode cX8_round 113 = .ok (.aload_n 0, 1) := by decide +kernel
theorem dX8_round_114 : decode cX8_round 114 = .ok (.invokevirtual 171, 3) := by decide +kernel
theorem dX8_round_117 : decode cX8_round 117 = .ok (.iinc 2 1, 3) := by decide +kernel
theorem dX8_round_120 : decode cX8_round 120 = .ok (.goto (-91), 3) := by decide +kernel
theorem dX8_round_123 : decode cX8_round 123 = .ok (.ldc 220, 2) := by decide +kernel
theorem dX8_round_125 : decode cX8_round 125 = .ok (.ireturn, 1) := by decide +kernel
theorem dX8_areAlike_0 : decode cX8_areAlike 0 = .ok (.aload_n 0, 1) := by decide +kernel
theorem dX8_areAlike_1 : decode cX8_areAlike 1 = .ok (.getfield 47, 3) := by decide +kernel
theorem dX8_areAlike_4 : decode cX8_areAlike 4 = .ok (.bipush 6, 2) := by decide +kernel
theorem dX8_areAlike_6 : decode cX8_areAlike 6 = .ok (.iload_n 1, 1) := by decide +kernel
theorem dX8_areAlike_7 : decode cX8_areAlike 7 = .ok (.imul, 1) := by decide +kernel
theorem dX8_areAlike_8 : decode cX8_areAlike 8 = .ok (.iconst 5, 1) := by decide +kernel
theorem dX8_areAlike_9 : decode cX8_areAlike 9 = .ok (.iadd, 1) := by decide +kernel
theorem dX8_areAlike_10 : decode cX8_areAlike 10 = .ok (.iaload, 1) := by decide +kernel
theorem dX8_areAlike_11 : decode cX8_areAlike 11 = .ok (.aload_n 0, 1) := by decide +kernel
theorem dX8_areAlike_12 : decode cX8_areAlike 12 = .ok (.getfield 47, 3) := by decide +kernel
theorem dX8_areAlike_15 : decode cX8_areAlike 15 = .ok (.bipush 6, 2) := by decide +kernel
theorem dX8_areAlike_17 : decode cX8_areAlike 17 = .ok (.iload_n 2, 1) := by decide +kernel
theorem dX8_areAlike_18 : decode cX8_areAlike 18 = .ok (.imul, 1) := by decide +kernel
theorem dX8_areAlike_19 : decode cX8_areAlike 19 = .ok (.iconst 5, 1) := by decide +kernel
theorem dX8_areAlike_20 : decode cX8_areAlike 20 = .ok (.iadd, 1) := by decide +kernel
theorem dX8_areAlike_21 : decode cX8_areAlike 21 = .ok (.iaload, 1) := by decide +kernel
theorem dX8_areAlike_22 : decode cX8_areAlike 22 = .ok (.if_icmp .ne 7, 3) := by decide +kernel
theorem dX8_areAlike_25 : decode cX8_areAlike 25 = .ok (.iconst 1, 1) := by decide +kernel
theorem dX8_areAlike_26 : decode cX8_areAlike 26 = .ok (.goto 4, 3) := by decide +kernel
theorem dX8_areAlike_29 : decode cX8_areAlike 29 = .ok (.iconst 0, 1) := by decide +kernel
theorem dX8_areAlike_30 : decode cX8_areAlike 30 = .ok (.istore_n 3, 1) := by decide +kernel
theorem dX8_areAlike_31 : decode cX8_areAlike 31 = .ok (.iconst 0, 1) := by decide +kernel
theorem dX8_areAlike_32 : decode cX8_areAlike 32 = .ok (.istore 4, 2) := by decide +kernel
theorem dX8_areAlike_34 : decode cX8_areAlike 34 = .ok (.iload 4, 2) := by decide +kernel
theorem dX8_areAlike_36 : decode cX8_areAlike 36 = .ok (.aload_n 0, 1) := by decide +kernel
theorem dX8_areAlike_37 : decode cX8_areAlike 37 = .ok (.getfield 7, 3) := by decide +kernel
theorem dX8_areAlike_40 : decode cX8_areAlike 40 = .ok (.iconst 5, 1) := by decide +kernel
theorem dX8_areAlike_41 : decode cX8_areAlike 41 = .ok (.iaload, 1) := by decide +kernel
theorem dX8_areAlike_42 : decode cX8_areAlike 42 = .ok (.if_icmp .ge 46, 3) := by decide +kernel
theorem dX8_areAlike_45 : decode cX8_areAlike 45 = .ok (.iload_n 3, 1) := by decide +kernel
theorem dX8_areAlike_46 : decode cX8_areAlike 46 = .ok (.ifCond .eq 34, 3) := by decide +kernel
theorem dX8_areAlike_49 : decode cX8_areAlike 49 = .ok (.aload_n 0, 1) := by decide +kernel
theorem dX8_areAlike_50 : decode cX8_areAlike 50 = .ok (.getfield 47, 3) := by decide +kernel
theorem dX8_areAlike_53 : decode cX8_areAlike 53 = .ok (.bipush 6, 2) := by decide +kernel
theorem dX8_areAlike_55 : decode cX8_areAlike 55 = .ok (.iload_n 1, 1) := by decide +kernel
theorem dX8_areAlike_56 : decode cX8_areAlike 56 = .ok (.imul, 1) := by decide +kernel
theorem dX8_areAlike_57 : decode cX8_areAlike 57 = .ok (.iload 4, 2) := by decide +kernel
theorem dX8_areAlike_59 : decode cX8_areAlike 59 = .ok (.iadd, 1) := by decide +kernel
theorem dX8_areAlike_60 : decode cX8_areAlike 60 = .ok (.iaload, 1) := by decide +kernel
theorem dX8_areAlike_61 : decode cX8_areAlike 61 = .ok (.aload_n 0, 1) := by decide +kernel
theorem dX8_areAlike_62 : decode cX8_areAlike 62 = .ok (.getfield 47, 3) := by decide +kernel
theorem dX8_areAlike_65 : decode cX8_areAlike 65 = .ok (.bipush 6, 2) := by decide +kernel
theorem dX8_areAlike_67 : decode cX8_areAlike 67 = .ok (.iload_n 2, 1) := by decide +kernel
theorem dX8_areAlike_68 : decode cX8_areAlike 68 = .ok (.imul, 1) := by decide +kernel
theorem dX8_areAlike_69 : decode cX8_areAlike 69 = .ok (.iload 4, 2) := by decide +kernel
theorem dX8_areAlike_71 : decode cX8_areAlike 71 = .ok (.iadd, 1) := by decide +kernel
theorem dX8_areAlike_72 : decode cX8_areAlike 72 = .ok (.iaload, 1) := by decide +kernel
theorem dX8_areAlike_73 : decode cX8_areAlike 73 = .ok (.if_icmp .ne 7, 3) := by decide +kernel
theorem dX8_areAlike_76 : decode cX8_areAlike 76 = .ok (.iconst 1, 1) := by decide +kernel
theorem dX8_areAlike_77 : decode cX8_areAlike 77 = .ok (.goto 4, 3) := by decide +kernel
theorem dX8_areAlike_80 : decode cX8_areAlike 80 = .ok (.iconst 0, 1) := by decide +kernel
theorem dX8_areAlike_81 : decode cX8_areAlike 81 = .ok (.istore_n 3, 1) := by decide +kernel
theorem dX8_areAlike_82 : decode cX8_areAlike 82 = .ok (.iinc 4 1, 3) := by decide +kernel
theorem dX8_areAlike_85 : decode cX8_areAlike 85 = .ok (.goto (-51), 3) := by decide +kernel
theorem dX8_areAlike_88 : decode cX8_areAlike 88 = .ok (.iload_n 3, 1) := by decide +kernel
theorem dX8_areAlike_89 : decode cX8_areAlike 89 = .ok (.ireturn, 1) := by decide +kernel
theorem dX8_noticed_0 : decode cX8_noticed 0 = .ok (.aload_n 0, 1) := by decide +kernel
theorem dX8_noticed_1 : decode cX8_noticed 1 = .ok (.invokevirtual 183, 3) := by decide +kernel
theorem dX8_noticed_4 : decode cX8_noticed 4 = .ok (.ifCond .eq 6, 3) := by decide +kernel
theorem dX8_noticed_7 : decode cX8_noticed 7 = .ok (.ldc 182, 2) := by decide +kernel
theorem dX8_noticed_9 : decode cX8_noticed 9 = .ok (.ireturn, 1) := by decide +kernel
theorem dX8_noticed_10 : decode cX8_noticed 10 = .ok (.iload_n 1, 1) := by decide +kernel
theorem dX8_noticed_11 : decode cX8_noticed 11 = .ok (.i2l, 1) := by decide +kernel
theorem dX8_noticed_12 : decode cX8_noticed 12 = .ok (.lconst 1, 1) := by decide +kernel
theorem dX8_noticed_13 : decode cX8_noticed 13 = .ok (.ldc2_w 212, 3) := by decide +kernel
theorem dX8_noticed_16 : decode cX8_noticed 16 = .ok (.invokestatic 60, 3) := by decide +kernel
theorem dX8_noticed_19 : decode cX8_noticed 19 = .ok (.ifCond .eq 15, 3) := by decide +kernel
theorem dX8_noticed_22 : decode cX8_noticed 22 = .ok (.iload_n 2, 1) := by decide +kernel
theorem dX8_noticed_23 : decode cX8_noticed 23 = .ok (.i2l, 1) := by decide +kernel
theorem dX8_noticed_24 : decode cX8_noticed 24 = .ok (.lconst 0, 1) := by decide +kernel
theorem dX8_noticed_25 : decode cX8_noticed 25 = .ok (.ldc2_w 208, 3) := by decide +kernel
theorem dX8_noticed_28 : decode cX8_noticed 28 = .ok (.invokestatic 60, 3) := by decide +kernel
theorem dX8_noticed_31 : decode cX8_noticed 31 = .ok (.ifCond .ne 6, 3) := by decide +kernel
theorem dX8_noticed_34 : decode cX8_noticed 34 = .ok (.ldc 70, 2) := by decide +kernel
theorem dX8_noticed_36 : decode cX8_noticed 36 = .ok (.ireturn, 1) := by decide +kernel
theorem dX8_noticed_37 : decode cX8_noticed 37 = .ok (.aload_n 0, 1) := by decide +kernel
theorem dX8_noticed_38 : decode cX8_noticed 38 = .ok (.invokevirtual 191, 3) := by decide +kernel
theorem dX8_noticed_41 : decode cX8_noticed 41 = .ok (.iconst 0, 1) := by decide +kernel
theorem dX8_noticed_42 : decode cX8_noticed 42 = .ok (.istore_n 3, 1) := by decide +kernel
theorem dX8_noticed_43 : decode cX8_noticed 43 = .ok (.iload_n 3, 1) := by decide +kernel
theorem dX8_noticed_44 : decode cX8_noticed 44 = .ok (.iload_n 1, 1) := by decide +kernel
theorem dX8_noticed_45 : decode cX8_noticed 45 = .ok (.if_icmp .ge 35, 3) := by decide +kernel
theorem dX8_noticed_48 : decode cX8_noticed 48 = .ok (.aload_n 0, 1) := by decide +kernel
theorem dX8_noticed_49 : decode cX8_noticed 49 = .ok (.invokevirtual 174, 3) := by decide +kernel
theorem dX8_noticed_52 : decode cX8_noticed 52 = .ok (.istore 4, 2) := by decide +kernel
theorem dX8_noticed_54 : decode cX8_noticed 54 = .ok (.aload_n 0, 1) := by decide +kernel
theorem dX8_noticed_55 : decode cX8_noticed 55 = .ok (.invokevirtual 171, 3) := by decide +kernel
theorem dX8_noticed_58 : decode cX8_noticed 58 = .ok (.aload_n 0, 1) := by decide +kernel
theorem dX8_noticed_59 : decode cX8_noticed 59 = .ok (.invokevirtual 174, 3) := by decide +kernel
theorem dX8_noticed_62 : decode cX8_noticed 62 = .ok (.iload 4, 2) := by decide +kernel
theorem dX8_noticed_64 : decode cX8_noticed 64 = .ok (.isub, 1) := by decide +kernel
theorem dX8_noticed_65 : decode cX8_noticed 65 = .ok (.invokestatic 221, 3) := by decide +kernel
theorem dX8_noticed_68 : decode cX8_noticed 68 = .ok (.iload_n 2, 1) := by decide +kernel
theorem dX8_noticed_69 : decode cX8_noticed 69 = .ok (.if_icmp .le 5, 3) := by decide +kernel
theorem dX8_noticed_72 : decode cX8_noticed 72 = .ok (.iload_n 3, 1) := by decide +kernel
theorem dX8_noticed_73 : decode cX8_noticed 73 = .ok (.ireturn, 1) := by decide +kernel
theorem dX8_noticed_74 : decode cX8_noticed 74 = .ok (.iinc 3 1, 3) := by decide +kernel
theorem dX8_noticed_77 : decode cX8_noticed 77 = .ok (.goto (-34), 3) := by decide +kernel
theorem dX8_noticed_80 : decode cX8_noticed 80 = .ok (.ldc 220, 2) := by decide +kernel
theorem dX8_noticed_82 : decode cX8_noticed 82 = .ok (.ireturn, 1) := by decide +kernel
theorem dX8_dancers_0 : decode cX8_dancers 0 = .ok (.aload_n 0, 1) := by decide +kernel
theorem dX8_dancers_1 : decode cX8_dancers 1 = .ok (.invokevirtual 183, 3) := by decide +kernel
theorem dX8_dancers_4 : decode cX8_dancers 4 = .ok (.ifCond .eq 6, 3) := by decide +kernel
theorem dX8_dancers_7 : decode cX8_dancers 7 = .ok (.ldc 182, 2) := by decide +kernel
theorem dX8_dancers_9 : decode cX8_dancers 9 = .ok (.ireturn, 1) := by decide +kernel
theorem dX8_dancers_10 : decode cX8_dancers 10 = .ok (.iload_n 1, 1) := by decide +kernel
theorem dX8_dancers_11 : decode cX8_dancers 11 = .ok (.invokestatic 64, 3) := by decide +kernel
theorem dX8_dancers_14 : decode cX8_dancers 14 = .ok (.ifCond .eq 39, 3) := by decide +kernel
theorem dX8_dancers_17 : decode cX8_dancers 17 = .ok (.iload_n 3, 1) := by decide +kernel
theorem dX8_dancers_18 : decode cX8_dancers 18 = .ok (.i2l, 1) := by decide +kernel
theorem dX8_dancers_19 : decode cX8_dancers 19 = .ok (.lconst 1, 1) := by decide +kernel
theorem dX8_dancers_20 : decode cX8_dancers 20 = .ok (.ldc2_w 224, 3) := by decide +kernel
theorem dX8_dancers_23 : decode cX8_dancers 23 = .ok (.invokestatic 60, 3) := by decide +kernel
theorem dX8_dancers_26 : decode cX8_dancers 26 = .ok (.ifCond .eq 27, 3) := by decide +kernel
theorem dX8_dancers_29 : decode cX8_dancers 29 = .ok (.iload 4, 2) := by decide +kernel
theorem dX8_dancers_31 : decode cX8_dancers 31 = .ok (.i2l, 1) := by decide +kernel
theorem dX8_dancers_32 : decode cX8_dancers 32 = .ok (.lconst 0, 1) := by decide +kernel
theorem dX8_dancers_33 : decode cX8_dancers 33 = .ok (.ldc2_w 212, 3) := by decide +kernel
theorem dX8_dancers_36 : decode cX8_dancers 36 = .ok (.invokestatic 60, 3) := by decide +kernel
theorem dX8_dancers_39 : decode cX8_dancers 39 = .ok (.ifCond .eq 14, 3) := by decide +kernel
theorem dX8_dancers_42 : decode cX8_dancers 42 = .ok (.iload 5, 2) := by decide +kernel
theorem dX8_dancers_44 : decode cX8_dancers 44 = .ok (.i2l, 1) := by decide +kernel
theorem dX8_dancers_45 : decode cX8_dancers 45 = .ok (.lconst 0, 1) := by decide +kernel
theorem dX8_dancers_46 : decode cX8_dancers 46 = .ok (.lconst 1, 1) := by decide +kernel
theorem dX8_dancers_47 : decode cX8_dancers 47 = .ok (.invokestatic 60, 3) := by decide +kernel
theorem dX8_dancers_50 : decode cX8_dancers 50 = .ok (.ifCond .ne 6, 3) := by decide +kernel
theorem dX8_dancers_53 : decode cX8_dancers 53 = .ok (.ldc 70, 2) := by decide +kernel
theorem dX8_dancers_55 : decode cX8_dancers 55 = .ok (.ireturn, 1) := by decide +kernel
theorem dX8_dancers_56 : decode cX8_dancers 56 = .ok (.aload_n 0, 1) := by decide +kernel
theorem dX8_dancers_57 : decode cX8_dancers 57 = .ok (.iload_n 1, 1) := by decide +kernel
theorem dX8_dancers_58 : decode cX8_dancers 58 = .ok (.iload_n 2, 1) := by decide +kernel
theorem dX8_dancers_59 : decode cX8_dancers 59 = .ok (.iconst 2, 1) := by decide +kernel
theorem dX8_dancers_60 : decode cX8_dancers 60 = .ok (.iload_n 3, 1) := by decide +kernel
theorem dX8_dancers_61 : decode cX8_dancers 61 = .ok (.imul, 1) := by decide +kernel
theorem dX8_dancers_62 : decode cX8_dancers 62 = .ok (.invokevirtual 78, 3) := by decide +kernel
theorem dX8_dancers_65 : decode cX8_dancers 65 = .ok (.istore 6, 2) := by decide +kernel
theorem dX8_dancers_67 : decode cX8_dancers 67 = .ok (.iload 6, 2) := by decide +kernel
theorem dX8_dancers_69 : decode cX8_dancers 69 = .ok (.ifCond .le 10, 3) := by decide +kernel
theorem dX8_dancers_72 : decode cX8_dancers 72 = .ok (.aload_n 0, 1) := by decide +kernel
theorem dX8_dancers_73 : decode cX8_dancers 73 = .ok (.iload 6, 2) := by decide +kernel
theorem dX8_dancers_75 : decode cX8_dancers 75 = .ok (.invokevirtual 71, 3) := by decide +kernel
theorem dX8_dancers_78 : decode cX8_dancers 78 = .ok (.ireturn, 1) := by decide +kernel
theorem dX8_dancers_79 : decode cX8_dancers 79 = .ok (.aload_n 0, 1) := by decide +kernel
theorem dX8_dancers_80 : decode cX8_dancers 80 = .ok (.invokevirtual 191, 3) := by decide +kernel
theorem dX8_dancers_83 : decode cX8_dancers 83 = .ok (.iconst 0, 1) := by decide +kernel
theorem dX8_dancers_84 : decode cX8_dancers 84 = .ok (.istore 7, 2) := by decide +kernel
theorem dX8_dancers_86 : decode cX8_dancers 86 = .ok (.ldc 220, 2) := by decide +kernel
theorem dX8_dancers_88 : decode cX8_dancers 88 = .ok (.istore 8, 2) := by decide +kernel
theorem dX8_dancers_90 : decode cX8_dancers 90 = .ok (.iconst 0, 1) := by decide +kernel
theorem dX8_dancers_91 : decode cX8_dancers 91 = .ok (.istore 9, 2) := by decide +kernel
theorem dX8_dancers_93 : decode cX8_dancers 93 = .ok (.iload 9, 2) := by decide +kernel
theorem dX8_dancers_95 : decode cX8_dancers 95 = .ok (.iload 4, 2) := by decide +kernel
theorem dX8_dancers_97 : decode cX8_dancers 97 = .ok (.if_icmp .gt 125, 3) := by decide +kernel
theorem dX8_dancers_100 : decode cX8_dancers 100 = .ok (.iconst 0, 1) := by decide +kernel
theorem dX8_dancers_101 : decode cX8_dancers 101 = .ok (.istore 10, 2) := by decide +kernel
theorem dX8_dancers_103 : decode cX8_dancers 103 = .ok (.iload 10, 2) := by decide +kernel
theorem dX8_dancers_105 : decode cX8_dancers 105 = .ok (.iload_n 3, 1) := by decide +kernel
theorem dX8_dancers_106 : decode cX8_dancers 106 = .ok (.if_icmp .ge 106, 3) := by decide +kernel
theorem dX8_dancers_109 : decode cX8_dancers 109 = .ok (.aload_n 0, 1) := by decide +kernel
theorem dX8_dancers_110 : decode cX8_dancers 110 = .ok (.invokevirtual 174, 3) := by decide +kernel
theorem dX8_dancers_113 : decode cX8_dancers 113 = .ok (.aload_n 0, 1) := by decide +kernel
theorem dX8_dancers_114 : decode cX8_dancers 114 = .ok (.getfield 23, 3) := by decide +kernel
theorem dX8_dancers_117 : decode cX8_dancers 117 = .ok (.bipush 40, 2) := by decide +kernel
theorem dX8_dancers_119 : decode cX8_dancers 119 = .ok (.iload_n 1, 1) := by decide +kernel
theorem dX8_dancers_120 : decode cX8_dancers 120 = .ok (.imul, 1) := by decide +kernel
theorem dX8_dancers_121 : decode cX8_dancers 121 = .ok (.iload_n 2, 1) := by decide +kernel
theorem dX8_dancers_122 : decode cX8_dancers 122 = .ok (.iadd, 1) := by decide +kernel
theorem dX8_dancers_123 : decode cX8_dancers 123 = .ok (.iconst 2, 1) := by decide +kernel
theorem dX8_dancers_124 : decode cX8_dancers 124 = .ok (.iload 10, 2) := by decide +kernel
theorem dX8_dancers_126 : decode cX8_dancers 126 = .ok (.imul, 1) := by decide +kernel
theorem dX8_dancers_127 : decode cX8_dancers 127 = .ok (.iadd, 1) := by decide +kernel
theorem dX8_dancers_128 : decode cX8_dancers 128 = .ok (.iaload, 1) := by decide +kernel
theorem dX8_dancers_129 : decode cX8_dancers 129 = .ok (.if_icmp .lt 28, 3) := by decide +kernel
theorem dX8_dancers_132 : decode cX8_dancers 132 = .ok (.aload_n 0, 1) := by decide +kernel
theorem dX8_dancers_133 : decode cX8_dancers 133 = .ok (.invokevirtual 174, 3) := by decide +kernel
theorem dX8_dancers_136 : decode cX8_dancers 136 = .ok (.aload_n 0, 1) := by decide +kernel
theorem dX8_dancers_137 : decode cX8_dancers 137 = .ok (.getfield 23, 3) := by decide +kernel
theorem dX8_dancers_140 : decode cX8_dancers 140 = .ok (.bipush 40, 2) := by decide +kernel
theorem dX8_dancers_142 : decode cX8_dancers 142 = .ok (.iload_n 1, 1) := by decide +kernel
theorem dX8_dancers_143 : decode cX8_dancers 143 = .ok (.imul, 1) := by decide +kernel
theorem dX8_dancers_144 : decode cX8_dancers 144 = .ok (.iload_n 2, 1) := by decide +kernel
theorem dX8_dancers_145 : decode cX8_dancers 145 = .ok (.iadd, 1) := by decide +kernel
theorem dX8_dancers_146 : decode cX8_dancers 146 = .ok (.iconst 2, 1) := by decide +kernel
theorem dX8_dancers_147 : decode cX8_dancers 147 = .ok (.iload 10, 2) := by decide +kernel
theorem dX8_dancers_149 : decode cX8_dancers 149 = .ok (.imul, 1) := by decide +kernel
theorem dX8_dancers_150 : decode cX8_dancers 150 = .ok (.iadd, 1) := by decide +kernel
theorem dX8_dancers_151 : decode cX8_dancers 151 = .ok (.iconst 1, 1) := by decide +kernel
theorem dX8_dancers_152 : decode cX8_dancers 152 = .ok (.iadd, 1) := by decide +kernel
theorem dX8_dancers_153 : decode cX8_dancers 153 = .ok (.iaload, 1) := by decide +kernel
theorem dX8_dancers_154 : decode cX8_dancers 154 = .ok (.if_icmp .le 7, 3) := by decide +kernel
theorem dX8_dancers_157 : decode cX8_dancers 157 = .ok (.iconst 1, 1) := by decide +kernel
theorem dX8_dancers_158 : decode cX8_dancers 158 = .ok (.goto 4, 3) := by decide +kernel
theorem dX8_dancers_161 : decode cX8_dancers 161 = .ok (.iconst 0, 1) := by decide +kernel
theorem dX8_dancers_162 : decode cX8_dancers 162 = .ok (.istore 11, 2) := by decide +kernel
theorem dX8_dancers_164 : decode cX8_dancers 164 = .ok (.iload 11, 2) := by decide +kernel
theorem dX8_dancers_166 : decode cX8_dancers 166 = .ok (.ifCond .eq 18, 3) := by decide +kernel
theorem dX8_dancers_169 : decode cX8_dancers 169 = .ok (.iload 7, 2) := by decide +kernel
theorem dX8_dancers_171 : decode cX8_dancers 171 = .ok (.iload 10, 2) := by decide +kernel
theorem dX8_dancers_173 : decode cX8_dancers 173 = .ok (.ishr, 1) := by decide +kernel
theorem dX8_dancers_174 : decode cX8_dancers 174 = .ok (.iconst 1, 1) := by decide +kernel
theorem dX8_dancers_175 : decode cX8_dancers 175 = .ok (.iand, 1) := by decide +kernel
theorem dX8_dancers_176 : decode cX8_dancers 176 = .ok (.ifCond .ne 8, 3) := by decide +kernel
theorem dX8_dancers_179 : decode cX8_dancers 179 = .ok (.iload 9, 2) := by decide +kernel
theorem dX8_dancers_181 : decode cX8_dancers 181 = .ok (.goto 5, 3) := by decide +kernel
theorem dX8_dancers_184 : decode cX8_dancers 184 = .ok (.iload 8, 2) := by decide +kernel
theorem dX8_dancers_186 : decode cX8_dancers 186 = .ok (.istore 8, 2) := by decide +kernel
theorem dX8_dancers_188 : decode cX8_dancers 188 = .ok (.iload 7, 2) := by decide +kernel
theorem dX8_dancers_190 : decode cX8_dancers 190 = .ok (.iload 11, 2) := by decide +kernel
theorem dX8_dancers_192 : decode cX8_dancers 192 = .ok (.ifCond .eq 10, 3) := by decide +kernel
theorem dX8_dancers_195 : decode cX8_dancers 195 = .ok (.iconst 1, 1) := by decide +kernel
theorem dX8_dancers_196 : decode cX8_dancers 196 = .ok (.iload 10, 2) := by decide +kernel
theorem dX8_dancers_198 : decode cX8_dancers 198 = .ok (.ishl, 1) := by decide +kernel
theorem dX8_dancers_199 : decode cX8_dancers 199 = .ok (.goto 4, 3) := by decide +kernel
theorem dX8_dancers_202 : decode cX8_dancers 202 = .ok (.iconst 0, 1) := by decide +kernel
theorem dX8_dancers_203 : decode cX8_dancers 203 = .ok (.ior, 1) := by decide +kernel
theorem dX8_dancers_204 : decode cX8_dancers 204 = .ok (.istore 7, 2) := by decide +kernel
theorem dX8_dancers_206 : decode cX8_dancers 206 = .ok (.iinc 10 1, 3) := by decide +kernel
theorem dX8_dancers_209 : decode cX8_dancers 209 = .ok (.goto (-106), 3) := by decide +kernel
theorem dX8_dancers_212 : decode cX8_dancers 212 = .ok (.aload_n 0, 1) := by decide +kernel
theorem dX8_dancers_213 : decode cX8_dancers 213 = .ok (.invokevirtual 171, 3) := by decide +kernel
theorem dX8_dancers_216 : decode cX8_dancers 216 = .ok (.iinc 9 1, 3) := by decide +kernel
theorem dX8_dancers_219 : decode cX8_dancers 219 = .ok (.goto (-126), 3) := by decide +kernel
theorem dX8_dancers_222 : decode cX8_dancers 222 = .ok (.aload_n 0, 1) := by decide +kernel
theorem dX8_dancers_223 : decode cX8_dancers 223 = .ok (.iload 5, 2) := by decide +kernel
theorem dX8_dancers_225 : decode cX8_dancers 225 = .ok (.ifCond .ne 8, 3) := by decide +kernel
theorem dX8_dancers_228 : decode cX8_dancers 228 = .ok (.iload 7, 2) := by decide +kernel
theorem dX8_dancers_230 : decode cX8_dancers 230 = .ok (.goto 5, 3) := by decide +kernel
theorem dX8_dancers_233 : decode cX8_dancers 233 = .ok (.iload 8, 2) := by decide +kernel
theorem dX8_dancers_235 : decode cX8_dancers 235 = .ok (.invokevirtual 75, 3) := by decide +kernel
theorem dX8_dancers_238 : decode cX8_dancers 238 = .ok (.ireturn, 1) := by decide +kernel
theorem dX8_countIn_0 : decode cX8_countIn 0 = .ok (.aload_n 0, 1) := by decide +kernel
theorem dX8_countIn_1 : decode cX8_countIn 1 = .ok (.invokevirtual 183, 3) := by decide +kernel
theorem dX8_countIn_4 : decode cX8_countIn 4 = .ok (.ifCond .eq 6, 3) := by decide +kernel
theorem dX8_countIn_7 : decode cX8_countIn 7 = .ok (.ldc 182, 2) := by decide +kernel
theorem dX8_countIn_9 : decode cX8_countIn 9 = .ok (.ireturn, 1) := by decide +kernel
theorem dX8_countIn_10 : decode cX8_countIn 10 = .ok (.iload_n 1, 1) := by decide +kernel
theorem dX8_countIn_11 : decode cX8_countIn 11 = .ok (.i2l, 1) := by decide +kernel
theorem dX8_countIn_12 : decode cX8_countIn 12 = .ok (.lconst 0, 1) := by decide +kernel
theorem dX8_countIn_13 : decode cX8_countIn 13 = .ok (.ldc2_w 212, 3) := by decide +kernel
theorem dX8_countIn_16 : decode cX8_countIn 16 = .ok (.invokestatic 60, 3) := by decide +kernel
theorem dX8_countIn_19 : decode cX8_countIn 19 = .ok (.ifCond .eq 17, 3) := by decide +kernel
theorem dX8_countIn_22 : decode cX8_countIn 22 = .ok (.iload_n 2, 1) := by decide +kernel
theorem dX8_countIn_23 : decode cX8_countIn 23 = .ok (.i2l, 1) := by decide +kernel
theorem dX8_countIn_24 : decode cX8_countIn 24 = .ok (.ldc2_w 200, 3) := by decide +kernel
theorem dX8_countIn_27 : decode cX8_countIn 27 = .ok (.ldc2_w 202, 3) := by decide +kernel
theorem dX8_countIn_30 : decode cX8_countIn 30 = .ok (.invokestatic 60, 3) := by decide +kernel
theorem dX8_countIn_33 : decode cX8_countIn 33 = .ok (.ifCond .ne 6, 3) := by decide +kernel
theorem dX8_countIn_36 : decode cX8_countIn 36 = .ok (.ldc 70, 2) := by decide +kernel
theorem dX8_countIn_38 : decode cX8_countIn 38 = .ok (.ireturn, 1) := by decide +kernel
theorem dX8_countIn_39 : decode cX8_countIn 39 = .ok (.ldc 220, 2) := by decide +kernel
theorem dX8_countIn_41 : decode cX8_countIn 41 = .ok (.istore_n 3, 1) := by decide +kernel
theorem dX8_countIn_42 : decode cX8_countIn 42 = .ok (.ldc 226, 2) := by decide +kernel
theorem dX8_countIn_44 : decode cX8_countIn 44 = .ok (.istore 4, 2) := by decide +kernel
theorem dX8_countIn_46 : decode cX8_countIn 46 = .ok (.sipush 400, 3) := by decide +kernel
theorem dX8_countIn_49 : decode cX8_countIn 49 = .ok (.istore 5, 2) := by decide +kernel
theorem dX8_countIn_51 : decode cX8_countIn 51 = .ok (.iload 5, 2) := by decide +kernel
theorem dX8_countIn_53 : decode cX8_countIn 53 = .ok (.sipush 990, 3) := by decide +kernel
theorem dX8_countIn_56 : decode cX8_countIn 56 = .ok (.if_icmp .gt 88, 3) := by decide +kernel
theorem dX8_countIn_59 : decode cX8_countIn 59 = .ok (.aload_n 0, 1) := by decide +kernel
theorem dX8_countIn_60 : decode cX8_countIn 60 = .ok (.invokevirtual 191, 3) := by decide +kernel
theorem dX8_countIn_63 : decode cX8_countIn 63 = .ok (.iconst 0, 1) := by decide +kernel
theorem dX8_countIn_64 : decode cX8_countIn 64 = .ok (.istore 6, 2) := by decide +kernel
theorem dX8_countIn_66 : decode cX8_countIn 66 = .ok (.iload 6, 2) := by decide +kernel
theorem dX8_countIn_68 : decode cX8_countIn 68 = .ok (.aload_n 0, 1) := by decide +kernel
theorem dX8_countIn_69 : decode cX8_countIn 69 = .ok (.getfield 7, 3) := by decide +kernel
theorem dX8_countIn_72 : decode cX8_countIn 72 = .ok (.iconst 5, 1) := by decide +kernel
theorem dX8_countIn_73 : decode cX8_countIn 73 = .ok (.iaload, 1) := by decide +kernel
theorem dX8_countIn_74 : decode cX8_countIn 74 = .ok (.if_icmp .ge 18, 3) := by decide +kernel
theorem dX8_countIn_77 : decode cX8_countIn 77 = .ok (.aload_n 0, 1) := by decide +kernel
theorem dX8_countIn_78 : decode cX8_countIn 78 = .ok (.getfield 32, 3) := by decide +kernel
theorem dX8_countIn_81 : decode cX8_countIn 81 = .ok (.iload 6, 2) := by decide +kernel
theorem dX8_countIn_83 : decode cX8_countIn 83 = .ok (.iload 5, 2) := by decide +kernel
theorem dX8_countIn_85 : decode cX8_countIn 85 = .ok (.iastore, 1) := by decide +kernel
theorem dX8_countIn_86 : decode cX8_countIn 86 = .ok (.iinc 6 1, 3) := by decide +kernel
theorem dX8_countIn_89 : decode cX8_countIn 89 = .ok (.goto (-23), 3) := by decide +kernel
theorem dX8_countIn_92 : decode cX8_countIn 92 = .ok (.aload_n 0, 1) := by decide +kernel
theorem dX8_countIn_93 : decode cX8_countIn 93 = .ok (.iload_n 1, 1) := by decide +kernel
theorem dX8_countIn_94 : decode cX8_countIn 94 = .ok (.invokevirtual 178, 3) := by decide +kernel
theorem dX8_countIn_97 : decode cX8_countIn 97 = .ok (.aload_n 0, 1) := by decide +kernel
theorem dX8_countIn_98 : decode cX8_countIn 98 = .ok (.invokevirtual 174, 3) := by decide +kernel
theorem dX8_countIn_101 : decode cX8_countIn 101 = .ok (.iload_n 2, 1) := by decide +kernel
theorem dX8_countIn_102 : decode cX8_countIn 102 = .ok (.isub, 1) := by decide +kernel
theorem dX8_countIn_103 : decode cX8_countIn 103 = .ok (.invokestatic 221, 3) := by decide +kernel
theorem dX8_countIn_106 : decode cX8_countIn 106 = .ok (.istore 6, 2) := by decide +kernel
theorem dX8_countIn_108 : decode cX8_countIn 108 = .ok (.iload 6, 2) := by decide +kernel
theorem dX8_countIn_110 : decode cX8_countIn 110 = .ok (.iload 4, 2) := by decide +kernel
theorem dX8_countIn_112 : decode cX8_countIn 112 = .ok (.if_icmp .ge 8, 3) := by decide +kernel
theorem dX8_countIn_115 : decode cX8_countIn 115 = .ok (.iload 5, 2) := by decide +kernel
theorem dX8_countIn_117 : decode cX8_countIn 117 = .ok (.goto 4, 3) := by decide +kernel
theorem dX8_countIn_120 : decode cX8_countIn 120 = .ok (.iload_n 3, 1) := by decide +kernel
theorem dX8_countIn_121 : decode cX8_countIn 121 = .ok (.istore_n 3, 1) := by decide +kernel
theorem dX8_countIn_122 : decode cX8_countIn 122 = .ok (.iload 6, 2) := by decide +kernel
theorem dX8_countIn_124 : decode cX8_countIn 124 = .ok (.iload 4, 2) := by decide +kernel
theorem dX8_countIn_126 : decode cX8_countIn 126 = .ok (.if_icmp .ge 8, 3) := by decide +kernel
theorem dX8_countIn_129 : decode cX8_countIn 129 = .ok (.iload 6, 2) := by decide +kernel
theorem dX8_countIn_131 : decode cX8_countIn 131 = .ok (.goto 5, 3) := by decide +kernel
theorem dX8_countIn_134 : decode cX8_countIn 134 = .ok (.iload 4, 2) := by decide +kernel
theorem dX8_countIn_136 : decode cX8_countIn 136 = .ok (.istore 4, 2) := by decide +kernel
theorem dX8_countIn_138 : decode cX8_countIn 138 = .ok (.iinc 5 10, 3) := by decide +kernel
theorem dX8_countIn_141 : decode cX8_countIn 141 = .ok (.goto (-90), 3) := by decide +kernel
theorem dX8_countIn_144 : decode cX8_countIn 144 = .ok (.iload_n 3, 1) := by decide +kernel
theorem dX8_countIn_145 : decode cX8_countIn 145 = .ok (.ireturn, 1) := by decide +kernel
theorem dX8_deaf_0 : decode cX8_deaf 0 = .ok (.aload_n 0, 1) := by decide +kernel
theorem dX8_deaf_1 : decode cX8_deaf 1 = .ok (.invokevirtual 183, 3) := by decide +kernel
theorem dX8_deaf_4 : decode cX8_deaf 4 = .ok (.ifCond .eq 6, 3) := by decide +kernel
theorem dX8_deaf_7 : decode cX8_deaf 7 = .ok (.ldc 182, 2) := by decide +kernel
theorem dX8_deaf_9 : decode cX8_deaf 9 = .ok (.ireturn, 1) := by decide +kernel
theorem dX8_deaf_10 : decode cX8_deaf 10 = .ok (.iload_n 1, 1) := by decide +kernel
theorem dX8_deaf_11 : decode cX8_deaf 11 = .ok (.i2l, 1) := by decide +kernel
theorem dX8_deaf_12 : decode cX8_deaf 12 = .ok (.lconst 0, 1) := by decide +kernel
theorem dX8_deaf_13 : decode cX8_deaf 13 = .ok (.lconst 1, 1) := by decide +kernel
theorem dX8_deaf_14 : decode cX8_deaf 14 = .ok (.invokestatic 60, 3) := by decide +kernel
theorem dX8_deaf_17 : decode cX8_deaf 17 = .ok (.ifCond .ne 6, 3) := by decide +kernel
theorem dX8_deaf_20 : decode cX8_deaf 20 = .ok (.ldc 70, 2) := by decide +kernel
theorem dX8_deaf_22 : decode cX8_deaf 22 = .ok (.ireturn, 1) := by decide +kernel
theorem dX8_deaf_23 : decode cX8_deaf 23 = .ok (.ldc 220, 2) := by decide +kernel
theorem dX8_deaf_25 : decode cX8_deaf 25 = .ok (.istore_n 2, 1) := by decide +kernel
theorem dX8_deaf_26 : decode cX8_deaf 26 = .ok (.ldc 220, 2) := by decide +kernel
theorem dX8_deaf_28 : decode cX8_deaf 28 = .ok (.istore_n 3, 1) := by decide +kernel
theorem dX8_deaf_29 : decode cX8_deaf 29 = .ok (.iconst 0, 1) := by decide +kernel
theorem dX8_deaf_30 : decode cX8_deaf 30 = .ok (.istore 4, 2) := by decide +kernel
theorem dX8_deaf_32 : decode cX8_deaf 32 = .ok (.iload 4, 2) := by decide +kernel
theorem dX8_deaf_34 : decode cX8_deaf 34 = .ok (.bipush 25, 2) := by decide +kernel
theorem dX8_deaf_36 : decode cX8_deaf 36 = .ok (.if_icmp .ge 89, 3) := by decide +kernel
theorem dX8_deaf_39 : decode cX8_deaf 39 = .ok (.aload_n 0, 1) := by decide +kernel
theorem dX8_deaf_40 : decode cX8_deaf 40 = .ok (.getfield 7, 3) := by decide +kernel
theorem dX8_deaf_43 : decode cX8_deaf 43 = .ok (.bipush 36, 2) := by decide +kernel
theorem dX8_deaf_45 : decode cX8_deaf 45 = .ok (.iload 4, 2) := by decide +kernel
theorem dX8_deaf_47 : decode cX8_deaf 47 = .ok (.iadd, 1) := by decide +kernel
theorem dX8_deaf_48 : decode cX8_deaf 48 = .ok (.iaload, 1) := by decide +kernel
theorem dX8_deaf_49 : decode cX8_deaf 49 = .ok (.ifCond .le 70, 3) := by decide +kernel
theorem dX8_deaf_52 : decode cX8_deaf 52 = .ok (.aload_n 0, 1) := by decide +kernel
theorem dX8_deaf_53 : decode cX8_deaf 53 = .ok (.invokevirtual 191, 3) := by decide +kernel
theorem dX8_deaf_56 : decode cX8_deaf 56 = .ok (.aload_n 0, 1) := by decide +kernel
theorem dX8_deaf_57 : decode cX8_deaf 57 = .ok (.getfield 44, 3) := by decide +kernel
theorem dX8_deaf_60 : decode cX8_deaf 60 = .ok (.iload 4, 2) := by decide +kernel
theorem dX8_deaf_62 : decode cX8_deaf 62 = .ok (.iconst 0, 1) := by decide +kernel
theorem dX8_deaf_63 : decode cX8_deaf 63 = .ok (.iastore, 1) := by decide +kernel
theorem dX8_deaf_64 : decode cX8_deaf 64 = .ok (.aload_n 0, 1) := by decide +kernel
theorem dX8_deaf_65 : decode cX8_deaf 65 = .ok (.invokevirtual 214, 3) := by decide +kernel
theorem dX8_deaf_68 : decode cX8_deaf 68 = .ok (.istore 5, 2) := by decide +kernel
theorem dX8_deaf_70 : decode cX8_deaf 70 = .ok (.iload_n 2, 1) := by decide +kernel
theorem dX8_deaf_71 : decode cX8_deaf 71 = .ok (.ldc 220, 2) := by decide +kernel
theorem dX8_deaf_73 : decode cX8_deaf 73 = .ok (.if_icmp .eq 15, 3) := by decide +kernel
theorem dX8_deaf_76 : decode cX8_deaf 76 = .ok (.iload 5, 2) := by decide +kernel
theorem dX8_deaf_78 : decode cX8_deaf 78 = .ok (.invokestatic 221, 3) := by decide +kernel
theorem dX8_deaf_81 : decode cX8_deaf 81 = .ok (.iload_n 3, 1) := by decide +kernel
theorem dX8_deaf_82 : decode cX8_deaf 82 = .ok (.invokestatic 221, 3) := by decide +kernel
theorem dX8_deaf_85 : decode cX8_deaf 85 = .ok (.if_icmp .ge 7, 3) := by decide +kernel
theorem dX8_deaf_88 : decode cX8_deaf 88 = .ok (.iconst 1, 1) := by decide +kernel
theorem dX8_deaf_89 : decode cX8_deaf 89 = .ok (.goto 4, 3) := by decide +kernel
theorem dX8_deaf_92 : decode cX8_deaf 92 = .ok (.iconst 0, 1) := by decide +kernel
theorem dX8_deaf_93 : decode cX8_deaf 93 = .ok (.istore 6, 2) := by decide +kernel
theorem dX8_deaf_95 : decode cX8_deaf 95 = .ok (.iload 6, 2) := by decide +kernel
theorem dX8_deaf_97 : decode cX8_deaf 97 = .ok (.ifCond .eq 8, 3) := by decide +kernel
theorem dX8_deaf_100 : decode cX8_deaf 100 = .ok (.iload 4, 2) := by decide +kernel
theorem dX8_deaf_102 : decode cX8_deaf 102 = .ok (.goto 4, 3) := by decide +kernel
theorem dX8_deaf_105 : decode cX8_deaf 105 = .ok (.iload_n 2, 1) := by decide +kernel
theorem dX8_deaf_106 : decode cX8_deaf 106 = .ok (.istore_n 2, 1) := by decide +kernel
theorem dX8_deaf_107 : decode cX8_deaf 107 = .ok (.iload 6, 2) := by decide +kernel
theorem dX8_deaf_109 : decode cX8_deaf 109 = .ok (.ifCond .eq 8, 3) := by decide +kernel
theorem dX8_deaf_112 : decode cX8_deaf 112 = .ok (.iload 5, 2) := by decide +kernel
theorem dX8_deaf_114 : decode cX8_deaf 114 = .ok (.goto 4, 3) := by decide +kernel
theorem dX8_deaf_117 : decode cX8_deaf 117 = .ok (.iload_n 3, 1) := by decide +kernel
theorem dX8_deaf_118 : decode cX8_deaf 118 = .ok (.istore_n 3, 1) := by decide +kernel
theorem dX8_deaf_119 : decode cX8_deaf 119 = .ok (.iinc 4 1, 3) := by decide +kernel
theorem dX8_deaf_122 : decode cX8_deaf 122 = .ok (.goto (-90), 3) := by decide +kernel
theorem dX8_deaf_125 : decode cX8_deaf 125 = .ok (.iload_n 1, 1) := by decide +kernel
theorem dX8_deaf_126 : decode cX8_deaf 126 = .ok (.ifCond .ne 7, 3) := by decide +kernel
theorem dX8_deaf_129 : decode cX8_deaf 129 = .ok (.iload_n 2, 1) := by decide +kernel
theorem dX8_deaf_130 : decode cX8_deaf 130 = .ok (.goto 4, 3) := by decide +kernel
theorem dX8_deaf_133 : decode cX8_deaf 133 = .ok (.iload_n 3, 1) := by decide +kernel
theorem dX8_deaf_134 : decode cX8_deaf 134 = .ok (.ireturn, 1) := by decide +kernel
theorem dX8_inEar_0 : decode cX8_inEar 0 = .ok (.aload_n 0, 1) := by decide +kernel
theorem dX8_inEar_1 : decode cX8_inEar 1 = .ok (.invokevirtual 183, 3) := by decide +kernel
theorem dX8_inEar_4 : decode cX8_inEar 4 = .ok (.ifCond .eq 6, 3) := by decide +kernel
theorem dX8_inEar_7 : decode cX8_inEar 7 = .ok (.ldc 182, 2) := by decide +kernel
theorem dX8_inEar_9 : decode cX8_inEar 9 = .ok (.ireturn, 1) := by decide +kernel
theorem dX8_inEar_10 : decode cX8_inEar 10 = .ok (.iload_n 1, 1) := by decide +kernel
theorem dX8_inEar_11 : decode cX8_inEar 11 = .ok (.i2l, 1) := by decide +kernel
theorem dX8_inEar_12 : decode cX8_inEar 12 = .ok (.lconst 0, 1) := by decide +kernel
theorem dX8_inEar_13 : decode cX8_inEar 13 = .ok (.lconst 1, 1) := by decide +kernel
theorem dX8_inEar_14 : decode cX8_inEar 14 = .ok (.invokestatic 60, 3) := by decide +kernel
theorem dX8_inEar_17 : decode cX8_inEar 17 = .ok (.ifCond .ne 6, 3) := by decide +kernel
theorem dX8_inEar_20 : decode cX8_inEar 20 = .ok (.ldc 70, 2) := by decide +kernel
theorem dX8_inEar_22 : decode cX8_inEar 22 = .ok (.ireturn, 1) := by decide +kernel
theorem dX8_inEar_23 : decode cX8_inEar 23 = .ok (.ldc 220, 2) := by decide +kernel
theorem dX8_inEar_25 : decode cX8_inEar 25 = .ok (.istore_n 2, 1) := by decide +kernel
theorem dX8_inEar_26 : decode cX8_inEar 26 = .ok (.ldc 220, 2) := by decide +kernel
theorem dX8_inEar_28 : decode cX8_inEar 28 = .ok (.istore_n 3, 1) := by decide +kernel
theorem dX8_inEar_29 : decode cX8_inEar 29 = .ok (.iconst 0, 1) := by decide +kernel
theorem dX8_inEar_30 : decode cX8_inEar 30 = .ok (.istore 4, 2) := by decide +kernel
theorem dX8_inEar_32 : decode cX8_inEar 32 = .ok (.iload 4, 2) := by decide +kernel
theorem dX8_inEar_34 : decode cX8_inEar 34 = .ok (.aload_n 0, 1) := by decide +kernel
theorem dX8_inEar_35 : decode cX8_inEar 35 = .ok (.getfield 7, 3) := by decide +kernel
theorem dX8_inEar_38 : decode cX8_inEar 38 = .ok (.iconst 5, 1) := by decide +kernel
theorem dX8_inEar_39 : decode cX8_inEar 39 = .ok (.iaload, 1) := by decide +kernel
theorem dX8_inEar_40 : decode cX8_inEar 40 = .ok (.if_icmp .ge 76, 3) := by decide +kernel
theorem dX8_inEar_43 : decode cX8_inEar 43 = .ok (.aload_n 0, 1) := by decide +kernel
theorem dX8_inEar_44 : decode cX8_inEar 44 = .ok (.invokevirtual 191, 3) := by decide +kernel
theorem dX8_inEar_47 : decode cX8_inEar 47 = .ok (.aload_n 0, 1) := by decide +kernel
theorem dX8_inEar_48 : decode cX8_inEar 48 = .ok (.getfield 38, 3) := by decide +kernel
theorem dX8_inEar_51 : decode cX8_inEar 51 = .ok (.iload 4, 2) := by decide +kernel
theorem dX8_inEar_53 : decode cX8_inEar 53 = .ok (.iconst 4, 1) := by decide +kernel
theorem dX8_inEar_54 : decode cX8_inEar 54 = .ok (.iastore, 1) := by decide +kernel
theorem dX8_inEar_55 : decode cX8_inEar 55 = .ok (.aload_n 0, 1) := by decide +kernel
theorem dX8_inEar_56 : decode cX8_inEar 56 = .ok (.invokevirtual 214, 3) := by decide +kernel
theorem dX8_inEar_59 : decode cX8_inEar 59 = .ok (.istore 5, 2) := by decide +kernel
theorem dX8_inEar_61 : decode cX8_inEar 61 = .ok (.iload_n 2, 1) := by decide +kernel
theorem dX8_inEar_62 : decode cX8_inEar 62 = .ok (.ldc 220, 2) := by decide +kernel
theorem dX8_inEar_64 : decode cX8_inEar 64 = .ok (.if_icmp .eq 15, 3) := by decide +kernel
theorem dX8_inEar_67 : decode cX8_inEar 67 = .ok (.iload 5, 2) := by decide +kernel
theorem dX8_inEar_69 : decode cX8_inEar 69 = .ok (.invokestatic 221, 3) := by decide +kernel
theorem dX8_inEar_72 : decode cX8_inEar 72 = .ok (.iload_n 3, 1) := by decide +kernel
theorem dX8_inEar_73 : decode cX8_inEar 73 = .ok (.invokestatic 221, 3) := by decide +kernel
theorem dX8_inEar_76 : decode cX8_inEar 76 = .ok (.if_icmp .ge 7, 3) := by decide +kernel
theorem dX8_inEar_79 : decode cX8_inEar 79 = .ok (.iconst 1, 1) := by decide +kernel
theorem dX8_inEar_80 : decode cX8_inEar 80 = .ok (.goto 4, 3) := by decide +kernel
theorem dX8_inEar_83 : decode cX8_inEar 83 = .ok (.iconst 0, 1) := by decide +kernel
theorem dX8_inEar_84 : decode cX8_inEar 84 = .ok (.istore 6, 2) := by decide +kernel
theorem dX8_inEar_86 : decode cX8_inEar 86 = .ok (.iload 6, 2) := by decide +kernel
theorem dX8_inEar_88 : decode cX8_inEar 88 = .ok (.ifCond .eq 8, 3) := by decide +kernel
theorem dX8_inEar_91 : decode cX8_inEar 91 = .ok (.iload 4, 2) := by decide +kernel
theorem dX8_inEar_93 : decode cX8_inEar 93 = .ok (.goto 4, 3) := by decide +kernel
theorem dX8_inEar_96 : decode cX8_inEar 96 = .ok (.iload_n 2, 1) := by decide +kernel
theorem dX8_inEar_97 : decode cX8_inEar 97 = .ok (.istore_n 2, 1) := by decide +kernel
theorem dX8_inEar_98 : decode cX8_inEar 98 = .ok (.iload 6, 2) := by decide +kernel
theorem dX8_inEar_100 : decode cX8_inEar 100 = .ok (.ifCond .eq 8, 3) := by decide +kernel
theorem dX8_inEar_103 : decode cX8_inEar 103 = .ok (.iload 5, 2) := by decide +kernel
theorem dX8_inEar_105 : decode cX8_inEar 105 = .ok (.goto 4, 3) := by decide +kernel
theorem dX8_inEar_108 : decode cX8_inEar 108 = .ok (.iload_n 3, 1) := by decide +kernel
theorem dX8_inEar_109 : decode cX8_inEar 109 = .ok (.istore_n 3, 1) := by decide +kernel
theorem dX8_inEar_110 : decode cX8_inEar 110 = .ok (.iinc 4 1, 3) := by decide +kernel
theorem dX8_inEar_113 : decode cX8_inEar 113 = .ok (.goto (-81), 3) := by decide +kernel
theorem dX8_inEar_116 : decode cX8_inEar 116 = .ok (.iload_n 1, 1) := by decide +kernel
theorem dX8_inEar_117 : decode cX8_inEar 117 = .ok (.ifCond .ne 7, 3) := by decide +kernel
theorem dX8_inEar_120 : decode cX8_inEar 120 = .ok (.iload_n 2, 1) := by decide +kernel
theorem dX8_inEar_121 : decode cX8_inEar 121 = .ok (.goto 4, 3) := by decide +kernel
theorem dX8_inEar_124 : decode cX8_inEar 124 = .ok (.iload_n 3, 1) := by decide +kernel
theorem dX8_inEar_125 : decode cX8_inEar 125 = .ok (.ireturn, 1) := by decide +kernel
theorem dX8_blame_0 : decode cX8_blame 0 = .ok (.aload_n 0, 1) := by decide +kernel
theorem dX8_blame_1 : decode cX8_blame 1 = .ok (.iload_n 1, 1) := by decide +kernel
theorem dX8_blame_2 : decode cX8_blame 2 = .ok (.invokevirtual 197, 3) := by decide +kernel
theorem dX8_blame_5 : decode cX8_blame 5 = .ok (.ifCond .ne 6, 3) := by decide +kernel
theorem dX8_blame_8 : decode cX8_blame 8 = .ok (.ldc 70, 2) := by decide +kernel
theorem dX8_blame_10 : decode cX8_blame 10 = .ok (.ireturn, 1) := by decide +kernel
theorem dX8_blame_11 : decode cX8_blame 11 = .ok (.aload_n 0, 1) := by decide +kernel
theorem dX8_blame_12 : decode cX8_blame 12 = .ok (.invokevirtual 191, 3) := by decide +kernel
theorem dX8_blame_15 : decode cX8_blame 15 = .ok (.aload_n 0, 1) := by decide +kernel
theorem dX8_blame_16 : decode cX8_blame 16 = .ok (.invokevirtual 214, 3) := by decide +kernel
theorem dX8_blame_19 : decode cX8_blame 19 = .ok (.istore_n 2, 1) := by decide +kernel
theorem dX8_blame_20 : decode cX8_blame 20 = .ok (.aload_n 0, 1) := by decide +kernel
theorem dX8_blame_21 : decode cX8_blame 21 = .ok (.invokevirtual 191, 3) := by decide +kernel
theorem dX8_blame_24 : decode cX8_blame 24 = .ok (.aload_n 0, 1) := by decide +kernel
theorem dX8_blame_25 : decode cX8_blame 25 = .ok (.getfield 41, 3) := by decide +kernel
theorem dX8_blame_28 : decode cX8_blame 28 = .ok (.iload_n 1, 1) := by decide +kernel
theorem dX8_blame_29 : decode cX8_blame 29 = .ok (.iconst 0, 1) := by decide +kernel
theorem dX8_blame_30 : decode cX8_blame 30 = .ok (.iastore, 1) := by decide +kernel
theorem dX8_blame_31 : decode cX8_blame 31 = .ok (.aload_n 0, 1) := by decide +kernel
theorem dX8_blame_32 : decode cX8_blame 32 = .ok (.iload_n 1, 1) := by decide +kernel
theorem dX8_blame_33 : decode cX8_blame 33 = .ok (.putfield 159, 3) := by decide +kernel
theorem dX8_blame_36 : decode cX8_blame 36 = .ok (.iload_n 2, 1) := by decide +kernel
theorem dX8_blame_37 : decode cX8_blame 37 = .ok (.aload_n 0, 1) := by decide +kernel
theorem dX8_blame_38 : decode cX8_blame 38 = .ok (.invokevirtual 214, 3) := by decide +kernel
theorem dX8_blame_41 : decode cX8_blame 41 = .ok (.isub, 1) := by decide +kernel
theorem dX8_blame_42 : decode cX8_blame 42 = .ok (.ireturn, 1) := by decide +kernel
theorem dX8_farBy_0 : decode cX8_farBy 0 = .ok (.aload_n 0, 1) := by decide +kernel
theorem dX8_farBy_1 : decode cX8_farBy 1 = .ok (.invokevirtual 191, 3) := by decide +kernel
theorem dX8_farBy_4 : decode cX8_farBy 4 = .ok (.iconst 1, 1) := by decide +kernel
theorem dX8_farBy_5 : decode cX8_farBy 5 = .ok (.istore 6, 2) := by decide +kernel
theorem dX8_farBy_7 : decode cX8_farBy 7 = .ok (.iconst 0, 1) := by decide +kernel
theorem dX8_farBy_8 : decode cX8_farBy 8 = .ok (.istore 7, 2) := by decide +kernel
theorem dX8_farBy_10 : decode cX8_farBy 10 = .ok (.iload 7, 2) := by decide +kernel
theorem dX8_farBy_12 : decode cX8_farBy 12 = .ok (.iload_n 3, 1) := by decide +kernel
theorem dX8_farBy_13 : decode cX8_farBy 13 = .ok (.if_icmp .ge 79, 3) := by decide +kernel
theorem dX8_farBy_16 : decode cX8_farBy 16 = .ok (.aload_n 0, 1) := by decide +kernel
theorem dX8_farBy_17 : decode cX8_farBy 17 = .ok (.invokevirtual 174, 3) := by decide +kernel
theorem dX8_farBy_20 : decode cX8_farBy 20 = .ok (.istore 8, 2) := by decide +kernel
theorem dX8_farBy_22 : decode cX8_farBy 22 = .ok (.aload_n 0, 1) := by decide +kernel
theorem dX8_farBy_23 : decode cX8_farBy 23 = .ok (.getfield 32, 3) := by decide +kernel
theorem dX8_farBy_26 : decode cX8_farBy 26 = .ok (.iload_n 1, 1) := by decide +kernel
theorem dX8_farBy_27 : decode cX8_farBy 27 = .ok (.iload 7, 2) := by decide +kernel
theorem dX8_farBy_29 : decode cX8_farBy 29 = .ok (.iload 5, 2) := by decide +kernel
theorem dX8_farBy_31 : decode cX8_farBy 31 = .ok (.if_icmp .ne 17, 3) := by decide +kernel
theorem dX8_farBy_34 : decode cX8_farBy 34 = .ok (.aload_n 0, 1) := by decide +kernel
theorem dX8_farBy_35 : decode cX8_farBy 35 = .ok (.getfield 32, 3) := by decide +kernel
theorem dX8_farBy_38 : decode cX8_farBy 38 = .ok (.iload_n 1, 1) := by decide +kernel
theorem dX8_farBy_39 : decode cX8_farBy 39 = .ok (.iaload, 1) := by decide +kernel
theorem dX8_farBy_40 : decode cX8_farBy 40 = .ok (.iload_n 2, 1) := by decide +kernel
theorem dX8_farBy_41 : decode cX8_farBy 41 = .ok (.isub, 1) := by decide +kernel
theorem dX8_farBy_42 : decode cX8_farBy 42 = .ok (.invokestatic 165, 3) := by decide +kernel
theorem dX8_farBy_45 : decode cX8_farBy 45 = .ok (.goto 9, 3) := by decide +kernel
theorem dX8_farBy_48 : decode cX8_farBy 48 = .ok (.aload_n 0, 1) := by decide +kernel
theorem dX8_farBy_49 : decode cX8_farBy 49 = .ok (.getfield 32, 3) := by decide +kernel
theorem dX8_farBy_52 : decode cX8_farBy 52 = .ok (.iload_n 1, 1) := by decide +kernel
theorem dX8_farBy_53 : decode cX8_farBy 53 = .ok (.iaload, 1) := by decide +kernel
theorem dX8_farBy_54 : decode cX8_farBy 54 = .ok (.iastore, 1) := by decide +kernel
theorem dX8_farBy_55 : decode cX8_farBy 55 = .ok (.aload_n 0, 1) := by decide +kernel
theorem dX8_farBy_56 : decode cX8_farBy 56 = .ok (.invokevirtual 171, 3) := by decide +kernel
theorem dX8_farBy_59 : decode cX8_farBy 59 = .ok (.iload 6, 2) := by decide +kernel
theorem dX8_farBy_61 : decode cX8_farBy 61 = .ok (.ifCond .eq 22, 3) := by decide +kernel
theorem dX8_farBy_64 : decode cX8_farBy 64 = .ok (.aload_n 0, 1) := by decide +kernel
theorem dX8_farBy_65 : decode cX8_farBy 65 = .ok (.invokevirtual 174, 3) := by decide +kernel
theorem dX8_farBy_68 : decode cX8_farBy 68 = .ok (.iload 8, 2) := by decide +kernel
theorem dX8_farBy_70 : decode cX8_farBy 70 = .ok (.isub, 1) := by decide +kernel
theorem dX8_farBy_71 : decode cX8_farBy 71 = .ok (.invokestatic 221, 3) := by decide +kernel
theorem dX8_farBy_74 : decode cX8_farBy 74 = .ok (.bipush 9, 2) := by decide +kernel
theorem dX8_farBy_76 : decode cX8_farBy 76 = .ok (.if_icmp .gt 7, 3) := by decide +kernel
theorem dX8_farBy_79 : decode cX8_farBy 79 = .ok (.iconst 1, 1) := by decide +kernel
theorem dX8_farBy_80 : decode cX8_farBy 80 = .ok (.goto 4, 3) := by decide +kernel
theorem dX8_farBy_83 : decode cX8_farBy 83 = .ok (.iconst 0, 1) := by decide +kernel
theorem dX8_farBy_84 : decode cX8_farBy 84 = .ok (.istore 6, 2) := by decide +kernel
theorem dX8_farBy_86 : decode cX8_farBy 86 = .ok (.iinc 7 1, 3) := by decide +kernel
theorem dX8_farBy_89 : decode cX8_farBy 89 = .ok (.goto (-79), 3) := by decide +kernel
theorem dX8_farBy_92 : decode cX8_farBy 92 = .ok (.iload 6, 2) := by decide +kernel
theorem dX8_farBy_94 : decode cX8_farBy 94 = .ok (.ifCond .eq 16, 3) := by decide +kernel
theorem dX8_farBy_97 : decode cX8_farBy 97 = .ok (.aload_n 0, 1) := by decide +kernel
theorem dX8_farBy_98 : decode cX8_farBy 98 = .ok (.invokevirtual 174, 3) := by decide +kernel
theorem dX8_farBy_101 : decode cX8_farBy 101 = .ok (.iload 4, 2) := by decide +kernel
theorem dX8_farBy_103 : decode cX8_farBy 103 = .ok (.isub, 1) := by decide +kernel
theorem dX8_farBy_104 : decode cX8_farBy 104 = .ok (.invokestatic 221, 3) := by decide +kernel
theorem dX8_farBy_107 : decode cX8_farBy 107 = .ok (.goto 5, 3) := by decide +kernel
theorem dX8_farBy_110 : decode cX8_farBy 110 = .ok (.ldc 226, 2) := by decide +kernel
theorem dX8_farBy_112 : decode cX8_farBy 112 = .ok (.ireturn, 1) := by decide +kernel
theorem dX8_back_0 : decode cX8_back 0 = .ok (.aload_n 0, 1) := by decide +kernel
theorem dX8_back_1 : decode cX8_back 1 = .ok (.iload_n 1, 1) := by decide +kernel
theorem dX8_back_2 : decode cX8_back 2 = .ok (.invokevirtual 197, 3) := by decide +kernel
theorem dX8_back_5 : decode cX8_back 5 = .ok (.ifCond .eq 42, 3) := by decide +kernel
theorem dX8_back_8 : decode cX8_back 8 = .ok (.iload_n 2, 1) := by decide +kernel
theorem dX8_back_9 : decode cX8_back 9 = .ok (.i2l, 1) := by decide +kernel
theorem dX8_back_10 : decode cX8_back 10 = .ok (.lconst 1, 1) := by decide +kernel
theorem dX8_back_11 : decode cX8_back 11 = .ok (.ldc2_w 208, 3) := by decide +kernel
theorem dX8_back_14 : decode cX8_back 14 = .ok (.invokestatic 60, 3) := by decide +kernel
theorem dX8_back_17 : decode cX8_back 17 = .ok (.ifCond .eq 30, 3) := by decide +kernel
theorem dX8_back_20 : decode cX8_back 20 = .ok (.iload_n 3, 1) := by decide +kernel
theorem dX8_back_21 : decode cX8_back 21 = .ok (.i2l, 1) := by decide +kernel
theorem dX8_back_22 : decode cX8_back 22 = .ok (.lconst 1, 1) := by decide +kernel
theorem dX8_back_23 : decode cX8_back 23 = .ok (.ldc2_w 206, 3) := by decide +kernel
theorem dX8_back_26 : decode cX8_back 26 = .ok (.invokestatic 60, 3) := by decide +kernel
theorem dX8_back_29 : decode cX8_back 29 = .ok (.ifCond .eq 18, 3) := by decide +kernel
theorem dX8_back_32 : decode cX8_back 32 = .ok (.iload 4, 2) := by decide +kernel
theorem dX8_back_34 : decode cX8_back 34 = .ok (.i2l, 1) := by decide +kernel
theorem dX8_back_35 : decode cX8_back 35 = .ok (.ldc2_w 200, 3) := by decide +kernel
theorem dX8_back_38 : decode cX8_back 38 = .ok (.ldc2_w 202, 3) := by decide +kernel
theorem dX8_back_41 : decode cX8_back 41 = .ok (.invokestatic 60, 3) := by decide +kernel
theorem dX8_back_44 : decode cX8_back 44 = .ok (.ifCond .ne 6, 3) := by decide +kernel
theorem dX8_back_47 : decode cX8_back 47 = .ok (.ldc 70, 2) := by decide +kernel
theorem dX8_back_49 : decode cX8_back 49 = .ok (.ireturn, 1) := by decide +kernel
theorem dX8_back_50 : decode cX8_back 50 = .ok (.aload_n 0, 1) := by decide +kernel
theorem dX8_back_51 : decode cX8_back 51 = .ok (.getfield 7, 3) := by decide +kernel
theorem dX8_back_54 : decode cX8_back 54 = .ok (.bipush 21, 2) := by decide +kernel
theorem dX8_back_56 : decode cX8_back 56 = .ok (.iload_n 1, 1) := by decide +kernel
theorem dX8_back_57 : decode cX8_back 57 = .ok (.iadd, 1) := by decide +kernel
theorem dX8_back_58 : decode cX8_back 58 = .ok (.iaload, 1) := by decide +kernel
theorem dX8_back_59 : decode cX8_back 59 = .ok (.iconst 4, 1) := by decide +kernel
theorem dX8_back_60 : decode cX8_back 60 = .ok (.if_icmp .ge 6, 3) := by decide +kernel
theorem dX8_back_63 : decode cX8_back 63 = .ok (.ldc 182, 2) := by decide +kernel
theorem dX8_back_65 : decode cX8_back 65 = .ok (.ireturn, 1) := by decide +kernel
theorem dX8_back_66 : decode cX8_back 66 = .ok (.ldc 220, 2) := by decide +kernel
theorem dX8_back_68 : decode cX8_back 68 = .ok (.istore 5, 2) := by decide +kernel
theorem dX8_back_70 : decode cX8_back 70 = .ok (.ldc 226, 2) := by decide +kernel
theorem dX8_back_72 : decode cX8_back 72 = .ok (.istore 6, 2) := by decide +kernel
theorem dX8_back_74 : decode cX8_back 74 = .ok (.iconst 0, 1) := by decide +kernel
theorem dX8_back_75 : decode cX8_back 75 = .ok (.istore 7, 2) := by decide +kernel
theorem dX8_back_77 : decode cX8_back 77 = .ok (.iload 7, 2) := by decide +kernel
theorem dX8_back_79 : decode cX8_back 79 = .ok (.iload_n 3, 1) := by decide +kernel
theorem dX8_back_80 : decode cX8_back 80 = .ok (.if_icmp .ge 54, 3) := by decide +kernel
theorem dX8_back_83 : decode cX8_back 83 = .ok (.aload_n 0, 1) := by decide +kernel
theorem dX8_back_84 : decode cX8_back 84 = .ok (.iload_n 1, 1) := by decide +kernel
theorem dX8_back_85 : decode cX8_back 85 = .ok (.iload_n 2, 1) := by decide +kernel
theorem dX8_back_86 : decode cX8_back 86 = .ok (.iload_n 3, 1) := by decide +kernel
theorem dX8_back_87 : decode cX8_back 87 = .ok (.iload 4, 2) := by decide +kernel
theorem dX8_back_89 : decode cX8_back 89 = .ok (.iload 7, 2) := by decide +kernel
theorem dX8_back_91 : decode cX8_back 91 = .ok (.invokevirtual 227, 3) := by decide +kernel
theorem dX8_back_94 : decode cX8_back 94 = .ok (.istore 8, 2) := by decide +kernel
theorem dX8_back_96 : decode cX8_back 96 = .ok (.iload 8, 2) := by decide +kernel
theorem dX8_back_98 : decode cX8_back 98 = .ok (.iload 6, 2) := by decide +kernel
theorem dX8_back_100 : decode cX8_back 100 = .ok (.if_icmp .ge 8, 3) := by decide +kernel
theorem dX8_back_103 : decode cX8_back 103 = .ok (.iload 7, 2) := by decide +kernel
theorem dX8_back_105 : decode cX8_back 105 = .ok (.goto 5, 3) := by decide +kernel
theorem dX8_back_108 : decode cX8_back 108 = .ok (.iload 5, 2) := by decide +kernel
theorem dX8_back_110 : decode cX8_back 110 = .ok (.istore 5, 2) := by decide +kernel
theorem dX8_back_112 : decode cX8_back 112 = .ok (.iload 8, 2) := by decide +kernel
theorem dX8_back_114 : decode cX8_back 114 = .ok (.iload 6, 2) := by decide +kernel
theorem dX8_back_116 : decode cX8_back 116 = .ok (.if_icmp .ge 8, 3) := by decide +kernel
theorem dX8_back_119 : decode cX8_back 119 = .ok (.iload 8, 2) := by decide +kernel
theorem dX8_back_121 : decode cX8_back 121 = .ok (.goto 5, 3) := by decide +kernel
theorem dX8_back_124 : decode cX8_back 124 = .ok (.iload 6, 2) := by decide +kernel
theorem dX8_back_126 : decode cX8_back 126 = .ok (.istore 6, 2) := by decide +kernel
theorem dX8_back_128 : decode cX8_back 128 = .ok (.iinc 7 1, 3) := by decide +kernel
theorem dX8_back_131 : decode cX8_back 131 = .ok (.goto (-54), 3) := by decide +kernel
theorem dX8_back_134 : decode cX8_back 134 = .ok (.iload 5, 2) := by decide +kernel
theorem dX8_back_136 : decode cX8_back 136 = .ok (.ireturn, 1) := by decide +kernel
theorem dX8_between_0 : decode cX8_between 0 = .ok (.iconst 0, 1) := by decide +kernel
theorem dX8_between_1 : decode cX8_between 1 = .ok (.istore 4, 2) := by decide +kernel
theorem dX8_between_3 : decode cX8_between 3 = .ok (.iconst 0, 1) := by decide +kernel
theorem dX8_between_4 : decode cX8_between 4 = .ok (.istore 5, 2) := by decide +kernel
theorem dX8_between_6 : decode cX8_between 6 = .ok (.iload_n 3, 1) := by decide +kernel
theorem dX8_between_7 : decode cX8_between 7 = .ok (.istore 6, 2) := by decide +kernel
theorem dX8_between_9 : decode cX8_between 9 = .ok (.iconst (-1), 1) := by decide +kernel
theorem dX8_between_10 : decode cX8_between 10 = .ok (.istore 7, 2) := by decide +kernel
theorem dX8_between_12 : decode cX8_between 12 = .ok (.iconst 0, 1) := by decide +kernel
theorem dX8_between_13 : decode cX8_between 13 = .ok (.istore 8, 2) := by decide +kernel
theorem dX8_between_15 : decode cX8_between 15 = .ok (.iload 8, 2) := by decide +kernel
theorem dX8_between_17 : decode cX8_between 17 = .ok (.iload_n 2, 1) := by decide +kernel
theorem dX8_between_18 : decode cX8_between 18 = .ok (.if_icmp .ge 70, 3) := by decide +kernel
theorem dX8_between_21 : decode cX8_between 21 = .ok (.iload 6, 2) := by decide +kernel
theorem dX8_between_23 : decode cX8_between 23 = .ok (.iload_n 2, 1) := by decide +kernel
theorem dX8_between_24 : decode cX8_between 24 = .ok (.irem, 1) := by decide +kernel
theorem dX8_between_25 : decode cX8_between 25 = .ok (.istore 9, 2) := by decide +kernel
theorem dX8_between_27 : decode cX8_between 27 = .ok (.iload 6, 2) := by decide +kernel
theorem dX8_between_29 : decode cX8_between 29 = .ok (.iload_n 2, 1) := by decide +kernel
theorem dX8_between_30 : decode cX8_between 30 = .ok (.idiv, 1) := by decide +kernel
theorem dX8_between_31 : decode cX8_between 31 = .ok (.istore 6, 2) := by decide +kernel
theorem dX8_between_33 : decode cX8_between 33 = .ok (.iload 4, 2) := by decide +kernel
theorem dX8_between_35 : decode cX8_between 35 = .ok (.iload 7, 2) := by decide +kernel
theorem dX8_between_37 : decode cX8_between 37 = .ok (.ifCond .ge 7, 3) := by decide +kernel
theorem dX8_between_40 : decode cX8_between 40 = .ok (.iconst 0, 1) := by decide +kernel
theorem dX8_between_41 : decode cX8_between 41 = .ok (.goto 25, 3) := by decide +kernel
theorem dX8_between_44 : decode cX8_between 44 = .ok (.aload_n 0, 1) := by decide +kernel
theorem dX8_between_45 : decode cX8_between 45 = .ok (.getfield 23, 3) := by decide +kernel
theorem dX8_between_48 : decode cX8_between 48 = .ok (.iload_n 1, 1) := by decide +kernel
theorem dX8_between_49 : decode cX8_between 49 = .ok (.iload 9, 2) := by decide +kernel
theorem dX8_between_51 : decode cX8_between 51 = .ok (.iadd, 1) := by decide +kernel
theorem dX8_between_52 : decode cX8_between 52 = .ok (.iaload, 1) := by decide +kernel
theorem dX8_between_53 : decode cX8_between 53 = .ok (.aload_n 0, 1) := by decide +kernel
theorem dX8_between_54 : decode cX8_between 54 = .ok (.getfield 23, 3) := by decide +kernel
theorem dX8_between_57 : decode cX8_between 57 = .ok (.iload_n 1, 1) := by decide +kernel
theorem dX8_between_58 : decode cX8_between 58 = .ok (.iload 7, 2) := by decide +kernel
theorem dX8_between_60 : decode cX8_between 60 = .ok (.iadd, 1) := by decide +kernel
theorem dX8_between_61 : decode cX8_between 61 = .ok (.iaload, 1) := by decide +kernel
theorem dX8_between_62 : decode cX8_between 62 = .ok (.isub, 1) := by decide +kernel
theorem dX8_between_63 : decode cX8_between 63 = .ok (.invokestatic 221, 3) := by decide +kernel
theorem dX8_between_66 : decode cX8_between 66 = .ok (.iadd, 1) := by decide +kernel
theorem dX8_between_67 : decode cX8_between 67 = .ok (.istore 4, 2) := by decide +kernel
theorem dX8_between_69 : decode cX8_between 69 = .ok (.iload 9, 2) := by decide +kernel
theorem dX8_between_71 : decode cX8_between 71 = .ok (.istore 7, 2) := by decide +kernel
theorem dX8_between_73 : decode cX8_between 73 = .ok (.iload 5, 2) := by decide +kernel
theorem dX8_between_75 : decode cX8_between 75 = .ok (.iconst 1, 1) := by decide +kernel
theorem dX8_between_76 : decode cX8_between 76 = .ok (.iload 9, 2) := by decide +kernel
theorem dX8_between_78 : decode cX8_between 78 = .ok (.ishl, 1) := by decide +kernel
theorem dX8_between_79 : decode cX8_between 79 = .ok (.ior, 1) := by decide +kernel
theorem dX8_between_80 : decode cX8_between 80 = .ok (.istore 5, 2) := by decide +kernel
theorem dX8_between_82 : decode cX8_between 82 = .ok (.iinc 8 1, 3) := by decide +kernel
theorem dX8_between_85 : decode cX8_between 85 = .ok (.goto (-70), 3) := by decide +kernel
theorem dX8_between_88 : decode cX8_between 88 = .ok (.iload 5, 2) := by decide +kernel
theorem dX8_between_90 : decode cX8_between 90 = .ok (.iconst 1, 1) := by decide +kernel
theorem dX8_between_91 : decode cX8_between 91 = .ok (.iload_n 2, 1) := by decide +kernel
theorem dX8_between_92 : decode cX8_between 92 = .ok (.ishl, 1) := by decide +kernel
theorem dX8_between_93 : decode cX8_between 93 = .ok (.iconst 1, 1) := by decide +kernel
theorem dX8_between_94 : decode cX8_between 94 = .ok (.isub, 1) := by decide +kernel
theorem dX8_between_95 : decode cX8_between 95 = .ok (.if_icmp .ne 8, 3) := by decide +kernel
theorem dX8_between_98 : decode cX8_between 98 = .ok (.iload 4, 2) := by decide +kernel
theorem dX8_between_100 : decode cX8_between 100 = .ok (.goto 5, 3) := by decide +kernel
theorem dX8_between_103 : decode cX8_between 103 = .ok (.ldc 226, 2) := by decide +kernel
theorem dX8_between_105 : decode cX8_between 105 = .ok (.ireturn, 1) := by decide +kernel
theorem dX8_songs_0 : decode cX8_songs 0 = .ok (.iload_n 1, 1) := by decide +kernel
theorem dX8_songs_1 : decode cX8_songs 1 = .ok (.invokestatic 64, 3) := by decide +kernel
theorem dX8_songs_4 : decode cX8_songs 4 = .ok (.ifCond .eq 31, 3) := by decide +kernel
theorem dX8_songs_7 : decode cX8_songs 7 = .ok (.iload_n 3, 1) := by decide +kernel
theorem dX8_songs_8 : decode cX8_songs 8 = .ok (.i2l, 1) := by decide +kernel
theorem dX8_songs_9 : decode cX8_songs 9 = .ok (.lconst 1, 1) := by decide +kernel
theorem dX8_songs_10 : decode cX8_songs 10 = .ok (.ldc2_w 231, 3) := by decide +kernel
theorem dX8_songs_13 : decode cX8_songs 13 = .ok (.invokestatic 60, 3) := by decide +kernel
theorem dX8_songs_16 : decode cX8_songs 16 = .ok (.ifCond .eq 19, 3) := by decide +kernel
theorem dX8_songs_19 : decode cX8_songs 19 = .ok (.iload 4, 2) := by decide +kernel
theorem dX8_songs_21 : decode cX8_songs 21 = .ok (.i2l, 1) := by decide +kernel
theorem dX8_songs_22 : decode cX8_songs 22 = .ok (.ldc2_w 233, 3) := by decide +kernel
theorem dX8_songs_25 : decode cX8_songs 25 = .ok (.iload_n 3, 1) := by decide +kernel
theorem dX8_songs_26 : decode cX8_songs 26 = .ok (.iconst 1, 1) := by decide +kernel
theorem dX8_songs_27 : decode cX8_songs 27 = .ok (.isub, 1) := by decide +kernel
theorem dX8_songs_28 : decode cX8_songs 28 = .ok (.i2l, 1) := by decide +kernel
theorem dX8_songs_29 : decode cX8_songs 29 = .ok (.invokestatic 60, 3) := by decide +kernel
theorem dX8_songs_32 : decode cX8_songs 32 = .ok (.ifCond .ne 6, 3) := by decide +kernel
theorem dX8_songs_35 : decode cX8_songs 35 = .ok (.ldc 70, 2) := by decide +kernel
theorem dX8_songs_37 : decode cX8_songs 37 = .ok (.ireturn, 1) := by decide +kernel
theorem dX8_songs_38 : decode cX8_songs 38 = .ok (.aload_n 0, 1) := by decide +kernel
theorem dX8_songs_39 : decode cX8_songs 39 = .ok (.iload_n 1, 1) := by decide +kernel
theorem dX8_songs_40 : decode cX8_songs 40 = .ok (.iload_n 2, 1) := by decide +kernel
theorem dX8_songs_41 : decode cX8_songs 41 = .ok (.iload_n 3, 1) := by decide +kernel
theorem dX8_songs_42 : decode cX8_songs 42 = .ok (.invokevirtual 78, 3) := by decide +kernel
theorem dX8_songs_45 : decode cX8_songs 45 = .ok (.istore 5, 2) := by decide +kernel
theorem dX8_songs_47 : decode cX8_songs 47 = .ok (.iload 5, 2) := by decide +kernel
theorem dX8_songs_49 : decode cX8_songs 49 = .ok (.ifCond .le 10, 3) := by decide +kernel
theorem dX8_songs_52 : decode cX8_songs 52 = .ok (.aload_n 0, 1) := by decide +kernel
theorem dX8_songs_53 : decode cX8_songs 53 = .ok (.iload 5, 2) := by decide +kernel
theorem dX8_songs_55 : decode cX8_songs 55 = .ok (.invokevirtual 71, 3) := by decide +kernel
theorem dX8_songs_58 : decode cX8_songs 58 = .ok (.ireturn, 1) := by decide +kernel
theorem dX8_songs_59 : decode cX8_songs 59 = .ok (.bipush 40, 2) := by decide +kernel
theorem dX8_songs_61 : decode cX8_songs 61 = .ok (.iload_n 1, 1) := by decide +kernel
theorem dX8_songs_62 : decode cX8_songs 62 = .ok (.imul, 1) := by decide +kernel
theorem dX8_songs_63 : decode cX8_songs 63 = .ok (.iload_n 2, 1) := by decide +kernel
theorem dX8_songs_64 : decode cX8_songs 64 = .ok (.iadd, 1) := by decide +kernel
theorem dX8_songs_65 : decode cX8_songs 65 = .ok (.istore 6, 2) := by decide +kernel
theorem dX8_songs_67 : decode cX8_songs 67 = .ok (.iconst 1, 1) := by decide +kernel
theorem dX8_songs_68 : decode cX8_songs 68 = .ok (.istore 7, 2) := by decide +kernel
theorem dX8_songs_70 : decode cX8_songs 70 = .ok (.iconst 0, 1) := by decide +kernel
theorem dX8_songs_71 : decode cX8_songs 71 = .ok (.istore 8, 2) := by decide +kernel
theorem dX8_songs_73 : decode cX8_songs 73 = .ok (.iload 8, 2) := by decide +kernel
theorem dX8_songs_75 : decode cX8_songs 75 = .ok (.iload_n 3, 1) := by decide +kernel
theorem dX8_songs_76 : decode cX8_songs 76 = .ok (.if_icmp .ge 39, 3) := by decide +kernel
theorem dX8_songs_79 : decode cX8_songs 79 = .ok (.aload_n 0, 1) := by decide +kernel
theorem dX8_songs_80 : decode cX8_songs 80 = .ok (.getfield 23, 3) := by decide +kernel
theorem dX8_songs_83 : decode cX8_songs 83 = .ok (.iload 6, 2) := by decide +kernel
theorem dX8_songs_85 : decode cX8_songs 85 = .ok (.iload 8, 2) := by decide +kernel
theorem dX8_songs_87 : decode cX8_songs 87 = .ok (.iadd, 1) := by decide +kernel
theorem dX8_songs_88 : decode cX8_songs 88 = .ok (.iaload, 1) := by decide +kernel
theorem dX8_songs_89 : decode cX8_songs 89 = .ok (.i2l, 1) := by decide +kernel
theorem dX8_songs_90 : decode cX8_songs 90 = .ok (.lconst 0, 1) := by decide +kernel
theorem dX8_songs_91 : decode cX8_songs 91 = .ok (.ldc2_w 202, 3) := by decide +kernel
theorem dX8_songs_94 : decode cX8_songs 94 = .ok (.invokestatic 60, 3) := by decide +kernel
theorem dX8_songs_97 : decode cX8_songs 97 = .ok (.ifCond .ne 6, 3) := by decide +kernel
theorem dX8_songs_100 : decode cX8_songs 100 = .ok (.ldc 70, 2) := by decide +kernel
theorem dX8_songs_102 : decode cX8_songs 102 = .ok (.ireturn, 1) := by decide +kernel
theorem dX8_songs_103 : decode cX8_songs 103 = .ok (.iload 7, 2) := by decide +kernel
theorem dX8_songs_105 : decode cX8_songs 105 = .ok (.iload_n 3, 1) := by decide +kernel
theorem dX8_songs_106 : decode cX8_songs 106 = .ok (.imul, 1) := by decide +kernel
theorem dX8_songs_107 : decode cX8_songs 107 = .ok (.istore 7, 2) := by decide +kernel
theorem dX8_songs_109 : decode cX8_songs 109 = .ok (.iinc 8 1, 3) := by decide +kernel
theorem dX8_songs_112 : decode cX8_songs 112 = .ok (.goto (-39), 3) := by decide +kernel
theorem dX8_songs_115 : decode cX8_songs 115 = .ok (.iconst 0, 1) := by decide +kernel
theorem dX8_songs_116 : decode cX8_songs 116 = .ok (.istore 8, 2) := by decide +kernel
theorem dX8_songs_118 : decode cX8_songs 118 = .ok (.ldc 226, 2) := by decide +kernel
theorem dX8_songs_120 : decode cX8_songs 120 = .ok (.istore 9, 2) := by decide +kernel
theorem dX8_songs_122 : decode cX8_songs 122 = .ok (.iconst 0, 1) := by decide +kernel
theorem dX8_songs_123 : decode cX8_songs 123 = .ok (.istore 10, 2) := by decide +kernel
theorem dX8_songs_125 : decode cX8_songs 125 = .ok (.iload 10, 2) := by decide +kernel
theorem dX8_songs_127 : decode cX8_songs 127 = .ok (.iload 7, 2) := by decide +kernel
theorem dX8_songs_129 : decode cX8_songs 129 = .ok (.if_icmp .ge 52, 3) := by decide +kernel
theorem dX8_songs_132 : decode cX8_songs 132 = .ok (.aload_n 0, 1) := by decide +kernel
theorem dX8_songs_133 : decode cX8_songs 133 = .ok (.iload 6, 2) := by decide +kernel
theorem dX8_songs_135 : decode cX8_songs 135 = .ok (.iload_n 3, 1) := by decide +kernel
theorem dX8_songs_136 : decode cX8_songs 136 = .ok (.iload 10, 2) := by decide +kernel
theorem dX8_songs_138 : decode cX8_songs 138 = .ok (.invokevirtual 235, 3) := by decide +kernel
theorem dX8_songs_141 : decode cX8_songs 141 = .ok (.istore 11, 2) := by decide +kernel
theorem dX8_songs_143 : decode cX8_songs 143 = .ok (.iload 11, 2) := by decide +kernel
theorem dX8_songs_145 : decode cX8_songs 145 = .ok (.iload 9, 2) := by decide +kernel
theorem dX8_songs_147 : decode cX8_songs 147 = .ok (.if_icmp .ge 8, 3) := by decide +kernel
theorem dX8_songs_150 : decode cX8_songs 150 = .ok (.iload 10, 2) := by decide +kernel
theorem dX8_songs_152 : decode cX8_songs 152 = .ok (.goto 5, 3) := by decide +kernel
theorem dX8_songs_155 : decode cX8_songs 155 = .ok (.iload 8, 2) := by decide +kernel
theorem dX8_songs_157 : decode cX8_songs 157 = .ok (.istore 8, 2) := by decide +kernel
theorem dX8_songs_159 : decode cX8_songs 159 = .ok (.iload 11, 2) := by decide +kernel
theorem dX8_songs_161 : decode cX8_songs 161 = .ok (.iload 9, 2) := by decide +kernel
theorem dX8_songs_163 : decode cX8_songs 163 = .ok (.if_icmp .ge 8, 3) := by decide +kernel
theorem dX8_songs_166 : decode cX8_songs 166 = .ok (.iload 11, 2) := by decide +kernel
theorem dX8_songs_168 : decode cX8_songs 168 = .ok (.goto 5, 3) := by decide +kernel
theorem dX8_songs_171 : decode cX8_songs 171 = .ok (.iload 9, 2) := by decide +kernel
theorem dX8_songs_173 : decode cX8_songs 173 = .ok (.istore 9, 2) := by decide +kernel
theorem dX8_songs_175 : decode cX8_songs 175 = .ok (.iinc 10 1, 3) := by decide +kernel
theorem dX8_songs_178 : decode cX8_songs 178 = .ok (.goto (-53), 3) := by decide +kernel
theorem dX8_songs_181 : decode cX8_songs 181 = .ok (.iload 7, 2) := by decide +kernel
theorem dX8_songs_183 : decode cX8_songs 183 = .ok (.istore 10, 2) := by decide +kernel
theorem dX8_songs_185 : decode cX8_songs 185 = .ok (.iconst 0, 1) := by decide +kernel
theorem dX8_songs_186 : decode cX8_songs 186 = .ok (.istore 11, 2) := by decide +kernel
theorem dX8_songs_188 : decode cX8_songs 188 = .ok (.iload 11, 2) := by decide +kernel
theorem dX8_songs_190 : decode cX8_songs 190 = .ok (.iload 4, 2) := by decide +kernel
theorem dX8_songs_192 : decode cX8_songs 192 = .ok (.if_icmp .gt 15, 3) := by decide +kernel
theorem dX8_songs_195 : decode cX8_songs 195 = .ok (.iload 10, 2) := by decide +kernel
theorem dX8_songs_197 : decode cX8_songs 197 = .ok (.iload_n 3, 1) := by decide +kernel
theorem dX8_songs_198 : decode cX8_songs 198 = .ok (.idiv, 1) := by decide +kernel
theorem dX8_songs_199 : decode cX8_songs 199 = .ok (.istore 10, 2) := by decide +kernel
theorem dX8_songs_201 : decode cX8_songs 201 = .ok (.iinc 11 1, 3) := by decide +kernel
theorem dX8_songs_204 : decode cX8_songs 204 = .ok (.goto (-16), 3) := by decide +kernel
theorem dX8_songs_207 : decode cX8_songs 207 = .ok (.aload_n 0, 1) := by decide +kernel
theorem dX8_songs_208 : decode cX8_songs 208 = .ok (.iload 4, 2) := by decide +kernel
theorem dX8_songs_210 : decode cX8_songs 210 = .ok (.ifCond .ge 8, 3) := by decide +kernel
theorem dX8_songs_213 : decode cX8_songs 213 = .ok (.iload 9, 2) := by decide +kernel
theorem dX8_songs_215 : decode cX8_songs 215 = .ok (.goto 10, 3) := by decide +kernel
theorem dX8_songs_218 : decode cX8_songs 218 = .ok (.iload 8, 2) := by decide +kernel
theorem dX8_songs_220 : decode cX8_songs 220 = .ok (.iload 10, 2) := by decide +kernel
theorem dX8_songs_222 : decode cX8_songs 222 = .ok (.idiv, 1) := by decide +kernel
theorem dX8_songs_223 : decode cX8_songs 223 = .ok (.iload_n 3, 1) := by decide +kernel
theorem dX8_songs_224 : decode cX8_songs 224 = .ok (.irem, 1) := by decide +kernel
theorem dX8_songs_225 : decode cX8_songs 225 = .ok (.invokevirtual 75, 3) := by decide +kernel
theorem dX8_songs_228 : decode cX8_songs 228 = .ok (.ireturn, 1) := by decide +kernel
theorem dX8_clapped_0 : decode cX8_clapped 0 = .ok (.aload_n 0, 1) := by decide +kernel
theorem dX8_clapped_1 : decode cX8_clapped 1 = .ok (.invokevirtual 183, 3) := by decide +kernel
theorem dX8_clapped_4 : decode cX8_clapped 4 = .ok (.ifCond .eq 6, 3) := by decide +kernel
theorem dX8_clapped_7 : decode cX8_clapped 7 = .ok (.ldc 182, 2) := by decide +kernel
theorem dX8_clapped_9 : decode cX8_clapped 9 = .ok (.ireturn, 1) := by decide +kernel
theorem dX8_clapped_10 : decode cX8_clapped 10 = .ok (.iload_n 1, 1) := by decide +kernel
theorem dX8_clapped_11 : decode cX8_clapped 11 = .ok (.i2l, 1) := by decide +kernel
theorem dX8_clapped_12 : decode cX8_clapped 12 = .ok (.lconst 1, 1) := by decide +kernel
theorem dX8_clapped_13 : decode cX8_clapped 13 = .ok (.ldc2_w 208, 3) := by decide +kernel
theorem dX8_clapped_16 : decode cX8_clapped 16 = .ok (.invokestatic 60, 3) := by decide +kernel
theorem dX8_clapped_19 : decode cX8_clapped 19 = .ok (.ifCond .eq 15, 3) := by decide +kernel
theorem dX8_clapped_22 : decode cX8_clapped 22 = .ok (.iload_n 2, 1) := by decide +kernel
theorem dX8_clapped_23 : decode cX8_clapped 23 = .ok (.i2l, 1) := by decide +kernel
theorem dX8_clapped_24 : decode cX8_clapped 24 = .ok (.lconst 0, 1) := by decide +kernel
theorem dX8_clapped_25 : decode cX8_clapped 25 = .ok (.ldc2_w 212, 3) := by decide +kernel
theorem dX8_clapped_28 : decode cX8_clapped 28 = .ok (.invokestatic 60, 3) := by decide +kernel
theorem dX8_clapped_31 : decode cX8_clapped 31 = .ok (.ifCond .ne 6, 3) := by decide +kernel
theorem dX8_clapped_34 : decode cX8_clapped 34 = .ok (.ldc 70, 2) := by decide +kernel
theorem dX8_clapped_36 : decode cX8_clapped 36 = .ok (.ireturn, 1) := by decide +kernel
theorem dX8_clapped_37 : decode cX8_clapped 37 = .ok (.aload_n 0, 1) := by decide +kernel
theorem dX8_clapped_38 : decode cX8_clapped 38 = .ok (.invokevirtual 191, 3) := by decide +kernel
theorem dX8_clapped_41 : decode cX8_clapped 41 = .ok (.aload_n 0, 1) := by decide +kernel
theorem dX8_clapped_42 : decode cX8_clapped 42 = .ok (.iload_n 2, 1) := by decide +kernel
theorem dX8_clapped_43 : decode cX8_clapped 43 = .ok (.invokevirtual 178, 3) := by decide +kernel
theorem dX8_clapped_46 : decode cX8_clapped 46 = .ok (.aload_n 0, 1) := by decide +kernel
theorem dX8_clapped_47 : decode cX8_clapped 47 = .ok (.invokevirtual 174, 3) := by decide +kernel
theorem dX8_clapped_50 : decode cX8_clapped 50 = .ok (.istore_n 3, 1) := by decide +kernel
theorem dX8_clapped_51 : decode cX8_clapped 51 = .ok (.aload_n 0, 1) := by decide +kernel
theorem dX8_clapped_52 : decode cX8_clapped 52 = .ok (.invokevirtual 191, 3) := by decide +kernel
theorem dX8_clapped_55 : decode cX8_clapped 55 = .ok (.iconst 0, 1) := by decide +kernel
theorem dX8_clapped_56 : decode cX8_clapped 56 = .ok (.istore 4, 2) := by decide +kernel
theorem dX8_clapped_58 : decode cX8_clapped 58 = .ok (.iload 4, 2) := by decide +kernel
theorem dX8_clapped_60 : decode cX8_clapped 60 = .ok (.aload_n 0, 1) := by decide +kernel
theorem dX8_clapped_61 : decode cX8_clapped 61 = .ok (.getfield 7, 3) := by decide +kernel
theorem dX8_clapped_64 : decode cX8_clapped 64 = .ok (.iconst 5, 1) := by decide +kernel
theorem dX8_clapped_65 : decode cX8_clapped 65 = .ok (.iaload, 1) := by decide +kernel
theorem dX8_clapped_66 : decode cX8_clapped 66 = .ok (.if_icmp .ge 28, 3) := by decide +kernel
theorem dX8_clapped_69 : decode cX8_clapped 69 = .ok (.aload_n 0, 1) := by decide +kernel
theorem dX8_clapped_70 : decode cX8_clapped 70 = .ok (.getfield 32, 3) := by decide +kernel
theorem dX8_clapped_73 : decode cX8_clapped 73 = .ok (.iload 4, 2) := by decide +kernel
theorem dX8_clapped_75 : decode cX8_clapped 75 = .ok (.aload_n 0, 1) := by decide +kernel
theorem dX8_clapped_76 : decode cX8_clapped 76 = .ok (.getfield 32, 3) := by decide +kernel
theorem dX8_clapped_79 : decode cX8_clapped 79 = .ok (.iload 4, 2) := by decide +kernel
theorem dX8_clapped_81 : decode cX8_clapped 81 = .ok (.iaload, 1) := by decide +kernel
theorem dX8_clapped_82 : decode cX8_clapped 82 = .ok (.iload_n 1, 1) := by decide +kernel
theorem dX8_clapped_83 : decode cX8_clapped 83 = .ok (.iadd, 1) := by decide +kernel
theorem dX8_clapped_84 : decode cX8_clapped 84 = .ok (.invokestatic 165, 3) := by decide +kernel
theorem dX8_clapped_87 : decode cX8_clapped 87 = .ok (.iastore, 1) := by decide +kernel
theorem dX8_clapped_88 : decode cX8_clapped 88 = .ok (.iinc 4 1, 3) := by decide +kernel
theorem dX8_clapped_91 : decode cX8_clapped 91 = .ok (.goto (-33), 3) := by decide +kernel
theorem dX8_clapped_94 : decode cX8_clapped 94 = .ok (.aload_n 0, 1) := by decide +kernel
theorem dX8_clapped_95 : decode cX8_clapped 95 = .ok (.iload_n 2, 1) := by decide +kernel
theorem dX8_clapped_96 : decode cX8_clapped 96 = .ok (.invokevirtual 178, 3) := by decide +kernel
theorem dX8_clapped_99 : decode cX8_clapped 99 = .ok (.aload_n 0, 1) := by decide +kernel
theorem dX8_clapped_100 : decode cX8_clapped 100 = .ok (.invokevirtual 174, 3) := by decide +kernel
theorem dX8_clapped_103 : decode cX8_clapped 103 = .ok (.iload_n 3, 1) := by decide +kernel
theorem dX8_clapped_104 : decode cX8_clapped 104 = .ok (.isub, 1) := by decide +kernel
theorem dX8_clapped_105 : decode cX8_clapped 105 = .ok (.ireturn, 1) := by decide +kernel
theorem dX8_pushBy_0 : decode cX8_pushBy 0 = .ok (.iconst 0, 1) := by decide +kernel
theorem dX8_pushBy_1 : decode cX8_pushBy 1 = .ok (.istore_n 3, 1) := by decide +kernel
theorem dX8_pushBy_2 : decode cX8_pushBy 2 = .ok (.bipush 20, 2) := by decide +kernel
theorem dX8_pushBy_4 : decode cX8_pushBy 4 = .ok (.istore 4, 2) := by decide +kernel
theorem dX8_pushBy_6 : decode cX8_pushBy 6 = .ok (.iload 4, 2) := by decide +kernel
theorem dX8_pushBy_8 : decode cX8_pushBy 8 = .ok (.ifCond .le 94, 3) := by decide +kernel
theorem dX8_pushBy_11 : decode cX8_pushBy 11 = .ok (.aload_n 0, 1) := by decide +kernel
theorem dX8_pushBy_12 : decode cX8_pushBy 12 = .ok (.invokevirtual 191, 3) := by decide +kernel
theorem dX8_pushBy_15 : decode cX8_pushBy 15 = .ok (.aload_n 0, 1) := by decide +kernel
theorem dX8_pushBy_16 : decode cX8_pushBy 16 = .ok (.getfield 41, 3) := by decide +kernel
theorem dX8_pushBy_19 : decode cX8_pushBy 19 = .ok (.iload_n 1, 1) := by decide +kernel
theorem dX8_pushBy_20 : decode cX8_pushBy 20 = .ok (.dup2, 1) := by decide +kernel
theorem dX8_pushBy_21 : decode cX8_pushBy 21 = .ok (.iaload, 1) := by decide +kernel
theorem dX8_pushBy_22 : decode cX8_pushBy 22 = .ok (.iload 4, 2) := by decide +kernel
theorem dX8_pushBy_24 : decode cX8_pushBy 24 = .ok (.iadd, 1) := by decide +kernel
theorem dX8_pushBy_25 : decode cX8_pushBy 25 = .ok (.iastore, 1) := by decide +kernel
theorem dX8_pushBy_26 : decode cX8_pushBy 26 = .ok (.aload_n 0, 1) := by decide +kernel
theorem dX8_pushBy_27 : decode cX8_pushBy 27 = .ok (.invokevirtual 171, 3) := by decide +kernel
theorem dX8_pushBy_30 : decode cX8_pushBy 30 = .ok (.iconst 1, 1) := by decide +kernel
theorem dX8_pushBy_31 : decode cX8_pushBy 31 = .ok (.istore 5, 2) := by decide +kernel
theorem dX8_pushBy_33 : decode cX8_pushBy 33 = .ok (.iconst 0, 1) := by decide +kernel
theorem dX8_pushBy_34 : decode cX8_pushBy 34 = .ok (.istore 6, 2) := by decide +kernel
theorem dX8_pushBy_36 : decode cX8_pushBy 36 = .ok (.iload 6, 2) := by decide +kernel
theorem dX8_pushBy_38 : decode cX8_pushBy 38 = .ok (.aload_n 0, 1) := by decide +kernel
theorem dX8_pushBy_39 : decode cX8_pushBy 39 = .ok (.getfield 7, 3) := by decide +kernel
theorem dX8_pushBy_42 : decode cX8_pushBy 42 = .ok (.iconst 5, 1) := by decide +kernel
theorem dX8_pushBy_43 : decode cX8_pushBy 43 = .ok (.iaload, 1) := by decide +kernel
theorem dX8_pushBy_44 : decode cX8_pushBy 44 = .ok (.if_icmp .ge 40, 3) := by decide +kernel
theorem dX8_pushBy_47 : decode cX8_pushBy 47 = .ok (.iload 5, 2) := by decide +kernel
theorem dX8_pushBy_49 : decode cX8_pushBy 49 = .ok (.ifCond .eq 26, 3) := by decide +kernel
theorem dX8_pushBy_52 : decode cX8_pushBy 52 = .ok (.aload_n 0, 1) := by decide +kernel
theorem dX8_pushBy_53 : decode cX8_pushBy 53 = .ok (.getfield 32, 3) := by decide +kernel
theorem dX8_pushBy_56 : decode cX8_pushBy 56 = .ok (.iload 6, 2) := by decide +kernel
theorem dX8_pushBy_58 : decode cX8_pushBy 58 = .ok (.iaload, 1) := by decide +kernel
theorem dX8_pushBy_59 : decode cX8_pushBy 59 = .ok (.aload_n 0, 1) := by decide +kernel
theorem dX8_pushBy_60 : decode cX8_pushBy 60 = .ok (.getfield 23, 3) := by decide +kernel
theorem dX8_pushBy_63 : decode cX8_pushBy 63 = .ok (.iload_n 2, 1) := by decide +kernel
theorem dX8_pushBy_64 : decode cX8_pushBy 64 = .ok (.iload 6, 2) := by decide +kernel
theorem dX8_pushBy_66 : decode cX8_pushBy 66 = .ok (.iadd, 1) := by decide +kernel
theorem dX8_pushBy_67 : decode cX8_pushBy 67 = .ok (.iaload, 1) := by decide +kernel
theorem dX8_pushBy_68 : decode cX8_pushBy 68 = .ok (.if_icmp .ne 7, 3) := by decide +kernel
theorem dX8_pushBy_71 : decode cX8_pushBy 71 = .ok (.iconst 1, 1) := by decide +kernel
theorem dX8_pushBy_72 : decode cX8_pushBy 72 = .ok (.goto 4, 3) := by decide +kernel
theorem dX8_pushBy_75 : decode cX8_pushBy 75 = .ok (.iconst 0, 1) := by decide +kernel
theorem dX8_pushBy_76 : decode cX8_pushBy 76 = .ok (.istore 5, 2) := by decide +kernel
theorem dX8_pushBy_78 : decode cX8_pushBy 78 = .ok (.iinc 6 1, 3) := by decide +kernel
theorem dX8_pushBy_81 : decode cX8_pushBy 81 = .ok (.goto (-45), 3) := by decide +kernel
theorem dX8_pushBy_84 : decode cX8_pushBy 84 = .ok (.iload 5, 2) := by decide +kernel
theorem dX8_pushBy_86 : decode cX8_pushBy 86 = .ok (.ifCond .eq 8, 3) := by decide +kernel
theorem dX8_pushBy_89 : decode cX8_pushBy 89 = .ok (.iload 4, 2) := by decide +kernel
theorem dX8_pushBy_91 : decode cX8_pushBy 91 = .ok (.goto 4, 3) := by decide +kernel
theorem dX8_pushBy_94 : decode cX8_pushBy 94 = .ok (.iload_n 3, 1) := by decide +kernel
theorem dX8_pushBy_95 : decode cX8_pushBy 95 = .ok (.istore_n 3, 1) := by decide +kernel
theorem dX8_pushBy_96 : decode cX8_pushBy 96 = .ok (.iinc 4 (-1), 3) := by decide +kernel
theorem dX8_pushBy_99 : decode cX8_pushBy 99 = .ok (.goto (-93), 3) := by decide +kernel
theorem dX8_pushBy_102 : decode cX8_pushBy 102 = .ok (.iload_n 3, 1) := by decide +kernel
theorem dX8_pushBy_103 : decode cX8_pushBy 103 = .ok (.ireturn, 1) := by decide +kernel
theorem dX8_whoPushed_0 : decode cX8_whoPushed 0 = .ok (.aload_n 0, 1) := by decide +kernel
theorem dX8_whoPushed_1 : decode cX8_whoPushed 1 = .ok (.invokevirtual 183, 3) := by decide +kernel
theorem dX8_whoPushed_4 : decode cX8_whoPushed 4 = .ok (.ifCond .eq 6, 3) := by decide +kernel
theorem dX8_whoPushed_7 : decode cX8_whoPushed 7 = .ok (.ldc 182, 2) := by decide +kernel
theorem dX8_whoPushed_9 : decode cX8_whoPushed 9 = .ok (.ireturn, 1) := by decide +kernel
theorem dX8_whoPushed_10 : decode cX8_whoPushed 10 = .ok (.iload_n 1, 1) := by decide +kernel
theorem dX8_whoPushed_11 : decode cX8_whoPushed 11 = .ok (.invokestatic 64, 3) := by decide +kernel
theorem dX8_whoPushed_14 : decode cX8_whoPushed 14 = .ok (.ifCond .eq 13, 3) := by decide +kernel
theorem dX8_whoPushed_17 : decode cX8_whoPushed 17 = .ok (.iload_n 3, 1) := by decide +kernel
theorem dX8_whoPushed_18 : decode cX8_whoPushed 18 = .ok (.i2l, 1) := by decide +kernel
theorem dX8_whoPushed_19 : decode cX8_whoPushed 19 = .ok (.lconst 0, 1) := by decide +kernel
theorem dX8_whoPushed_20 : decode cX8_whoPushed 20 = .ok (.lconst 1, 1) := by decide +kernel
theorem dX8_whoPushed_21 : decode cX8_whoPushed 21 = .ok (.invokestatic 60, 3) := by decide +kernel
theorem dX8_whoPushed_24 : decode cX8_whoPushed 24 = .ok (.ifCond .ne 6, 3) := by decide +kernel
theorem dX8_whoPushed_27 : decode cX8_whoPushed 27 = .ok (.ldc 70, 2) := by decide +kernel
theorem dX8_whoPushed_29 : decode cX8_whoPushed 29 = .ok (.ireturn, 1) := by decide +kernel
theorem dX8_whoPushed_30 : decode cX8_whoPushed 30 = .ok (.aload_n 0, 1) := by decide +kernel
theorem dX8_whoPushed_31 : decode cX8_whoPushed 31 = .ok (.iload_n 1, 1) := by decide +kernel
theorem dX8_whoPushed_32 : decode cX8_whoPushed 32 = .ok (.iload_n 2, 1) := by decide +kernel
theorem dX8_whoPushed_33 : decode cX8_whoPushed 33 = .ok (.aload_n 0, 1) := by decide +kernel
theorem dX8_whoPushed_34 : decode cX8_whoPushed 34 = .ok (.getfield 7, 3) := by decide +kernel
theorem dX8_whoPushed_37 : decode cX8_whoPushed 37 = .ok (.iconst 5, 1) := by decide +kernel
theorem dX8_whoPushed_38 : decode cX8_whoPushed 38 = .ok (.iaload, 1) := by decide +kernel
theorem dX8_whoPushed_39 : decode cX8_whoPushed 39 = .ok (.invokevirtual 78, 3) := by decide +kernel
theorem dX8_whoPushed_42 : decode cX8_whoPushed 42 = .ok (.istore 4, 2) := by decide +kernel
theorem dX8_whoPushed_44 : decode cX8_whoPushed 44 = .ok (.iload 4, 2) := by decide +kernel
theorem dX8_whoPushed_46 : decode cX8_whoPushed 46 = .ok (.ifCond .le 10, 3) := by decide +kernel
theorem dX8_whoPushed_49 : decode cX8_whoPushed 49 = .ok (.aload_n 0, 1) := by decide +kernel
theorem dX8_whoPushed_50 : decode cX8_whoPushed 50 = .ok (.iload 4, 2) := by decide +kernel
theorem dX8_whoPushed_52 : decode cX8_whoPushed 52 = .ok (.invokevirtual 71, 3) := by decide +kernel
theorem dX8_whoPushed_55 : decode cX8_whoPushed 55 = .ok (.ireturn, 1) := by decide +kernel
theorem dX8_whoPushed_56 : decode cX8_whoPushed 56 = .ok (.iconst 0, 1) := by decide +kernel
theorem dX8_whoPushed_57 : decode cX8_whoPushed 57 = .ok (.istore 5, 2) := by decide +kernel
theorem dX8_whoPushed_59 : decode cX8_whoPushed 59 = .ok (.ldc 220, 2) := by decide +kernel
theorem dX8_whoPushed_61 : decode cX8_whoPushed 61 = .ok (.istore 6, 2) := by decide +kernel
theorem dX8_whoPushed_63 : decode cX8_whoPushed 63 = .ok (.aload_n 0, 1) := by decide +kernel
theorem dX8_whoPushed_64 : decode cX8_whoPushed 64 = .ok (.getfield 7, 3) := by decide +kernel
theorem dX8_whoPushed_67 : decode cX8_whoPushed 67 = .ok (.iconst 5, 1) := by decide +kernel
theorem dX8_whoPushed_68 : decode cX8_whoPushed 68 = .ok (.iaload, 1) := by decide +kernel
theorem dX8_whoPushed_69 : decode cX8_whoPushed 69 = .ok (.iconst 1, 1) := by decide +kernel
theorem dX8_whoPushed_70 : decode cX8_whoPushed 70 = .ok (.isub, 1) := by decide +kernel
theorem dX8_whoPushed_71 : decode cX8_whoPushed 71 = .ok (.istore 7, 2) := by decide +kernel
theorem dX8_whoPushed_73 : decode cX8_whoPushed 73 = .ok (.iload 7, 2) := by decide +kernel
theorem dX8_whoPushed_75 : decode cX8_whoPushed 75 = .ok (.ifCond .lt 55, 3) := by decide +kernel
theorem dX8_whoPushed_78 : decode cX8_whoPushed 78 = .ok (.aload_n 0, 1) := by decide +kernel
theorem dX8_whoPushed_79 : decode cX8_whoPushed 79 = .ok (.iload 7, 2) := by decide +kernel
theorem dX8_whoPushed_81 : decode cX8_whoPushed 81 = .ok (.bipush 40, 2) := by decide +kernel
theorem dX8_whoPushed_83 : decode cX8_whoPushed 83 = .ok (.iload_n 1, 1) := by decide +kernel
theorem dX8_whoPushed_84 : decode cX8_whoPushed 84 = .ok (.imul, 1) := by decide +kernel
theorem dX8_whoPushed_85 : decode cX8_whoPushed 85 = .ok (.iload_n 2, 1) := by decide +kernel
theorem dX8_whoPushed_86 : decode cX8_whoPushed 86 = .ok (.iadd, 1) := by decide +kernel
theorem dX8_whoPushed_87 : decode cX8_whoPushed 87 = .ok (.invokevirtual 238, 3) := by decide +kernel
theorem dX8_whoPushed_90 : decode cX8_whoPushed 90 = .ok (.istore 8, 2) := by decide +kernel
theorem dX8_whoPushed_92 : decode cX8_whoPushed 92 = .ok (.iload 5, 2) := by decide +kernel
theorem dX8_whoPushed_94 : decode cX8_whoPushed 94 = .ok (.iload 8, 2) := by decide +kernel
theorem dX8_whoPushed_96 : decode cX8_whoPushed 96 = .ok (.ifCond .le 10, 3) := by decide +kernel
theorem dX8_whoPushed_99 : decode cX8_whoPushed 99 = .ok (.iconst 1, 1) := by decide +kernel
theorem dX8_whoPushed_100 : decode cX8_whoPushed 100 = .ok (.iload 7, 2) := by decide +kernel
theorem dX8_whoPushed_102 : decode cX8_whoPushed 102 = .ok (.ishl, 1) := by decide +kernel
theorem dX8_whoPushed_103 : decode cX8_whoPushed 103 = .ok (.goto 4, 3) := by decide +kernel
theorem dX8_whoPushed_106 : decode cX8_whoPushed 106 = .ok (.iconst 0, 1) := by decide +kernel
theorem dX8_whoPushed_107 : decode cX8_whoPushed 107 = .ok (.ior, 1) := by decide +kernel
theorem dX8_whoPushed_108 : decode cX8_whoPushed 108 = .ok (.istore 5, 2) := by decide +kernel
theorem dX8_whoPushed_110 : decode cX8_whoPushed 110 = .ok (.iload 8, 2) := by decide +kernel
theorem dX8_whoPushed_112 : decode cX8_whoPushed 112 = .ok (.ifCond .le 8, 3) := by decide +kernel
theorem dX8_whoPushed_115 : decode cX8_whoPushed 115 = .ok (.iload 8, 2) := by decide +kernel
theorem dX8_whoPushed_117 : decode cX8_whoPushed 117 = .ok (.goto 5, 3) := by decide +kernel
theorem dX8_whoPushed_120 : decode cX8_whoPushed 120 = .ok (.iload 6, 2) := by decide +kernel
theorem dX8_whoPushed_122 : decode cX8_whoPushed 122 = .ok (.istore 6, 2) := by decide +kernel
theorem dX8_whoPushed_124 : decode cX8_whoPushed 124 = .ok (.iinc 7 (-1), 3) := by decide +kernel
theorem dX8_whoPushed_127 : decode cX8_whoPushed 127 = .ok (.goto (-54), 3) := by decide +kernel
theorem dX8_whoPushed_130 : decode cX8_whoPushed 130 = .ok (.aload_n 0, 1) := by decide +kernel
theorem dX8_whoPushed_131 : decode cX8_whoPushed 131 = .ok (.iload_n 3, 1) := by decide +kernel
theorem dX8_whoPushed_132 : decode cX8_whoPushed 132 = .ok (.ifCond .ne 8, 3) := by decide +kernel
theorem dX8_whoPushed_135 : decode cX8_whoPushed 135 = .ok (.iload 5, 2) := by decide +kernel
theorem dX8_whoPushed_137 : decode cX8_whoPushed 137 = .ok (.goto 5, 3) := by decide +kernel
theorem dX8_whoPushed_140 : decode cX8_whoPushed 140 = .ok (.iload 6, 2) := by decide +kernel
theorem dX8_whoPushed_142 : decode cX8_whoPushed 142 = .ok (.invokevirtual 75, 3) := by decide +kernel
theorem dX8_whoPushed_145 : decode cX8_whoPushed 145 = .ok (.ireturn, 1) := by decide +kernel
theorem dX8_night_0 : decode cX8_night 0 = .ok (.aload_n 0, 1) := by decide +kernel
theorem dX8_night_1 : decode cX8_night 1 = .ok (.invokevirtual 183, 3) := by decide +kernel
theorem dX8_night_4 : decode cX8_night 4 = .ok (.ifCond .eq 6, 3) := by decide +kernel
theorem dX8_night_7 : decode cX8_night 7 = .ok (.ldc 182, 2) := by decide +kernel
theorem dX8_night_9 : decode cX8_night 9 = .ok (.ireturn, 1) := by decide +kernel
theorem dX8_night_10 : decode cX8_night 10 = .ok (.iload_n 1, 1) := by decide +kernel
theorem dX8_night_11 : decode cX8_night 11 = .ok (.i2l, 1) := by decide +kernel
theorem dX8_night_12 : decode cX8_night 12 = .ok (.lconst 0, 1) := by decide +kernel
theorem dX8_night_13 : decode cX8_night 13 = .ok (.ldc2_w 241, 3) := by decide +kernel
theorem dX8_night_16 : decode cX8_night 16 = .ok (.invokestatic 60, 3) := by decide +kernel
theorem dX8_night_19 : decode cX8_night 19 = .ok (.ifCond .eq 25, 3) := by decide +kernel
theorem dX8_night_22 : decode cX8_night 22 = .ok (.iload_n 2, 1) := by decide +kernel
theorem dX8_night_23 : decode cX8_night 23 = .ok (.i2l, 1) := by decide +kernel
theorem dX8_night_24 : decode cX8_night 24 = .ok (.lconst 1, 1) := by decide +kernel
theorem dX8_night_25 : decode cX8_night 25 = .ok (.ldc2_w 243, 3) := by decide +kernel
theorem dX8_night_28 : decode cX8_night 28 = .ok (.invokestatic 60, 3) := by decide +kernel
theorem dX8_night_31 : decode cX8_night 31 = .ok (.ifCond .eq 13, 3) := by decide +kernel
theorem dX8_night_34 : decode cX8_night 34 = .ok (.iload_n 3, 1) := by decide +kernel
theorem dX8_night_35 : decode cX8_night 35 = .ok (.i2l, 1) := by decide +kernel
theorem dX8_night_36 : decode cX8_night 36 = .ok (.lconst 0, 1) := by decide +kernel
theorem dX8_night_37 : decode cX8_night 37 = .ok (.lconst 1, 1) := by decide +kernel
theorem dX8_night_38 : decode cX8_night 38 = .ok (.invokestatic 60, 3) := by decide +kernel
theorem dX8_night_41 : decode cX8_night 41 = .ok (.ifCond .ne 6, 3) := by decide +kernel
theorem dX8_night_44 : decode cX8_night 44 = .ok (.ldc 70, 2) := by decide +kernel
theorem dX8_night_46 : decode cX8_night 46 = .ok (.ireturn, 1) := by decide +kernel
theorem dX8_night_47 : decode cX8_night 47 = .ok (.aload_n 0, 1) := by decide +kernel
theorem dX8_night_48 : decode cX8_night 48 = .ok (.invokevirtual 191, 3) := by decide +kernel
theorem dX8_night_51 : decode cX8_night 51 = .ok (.iload_n 2, 1) := by decide +kernel
theorem dX8_night_52 : decode cX8_night 52 = .ok (.i2l, 1) := by decide +kernel
theorem dX8_night_53 : decode cX8_night 53 = .ok (.lstore 4, 2) := by decide +kernel
theorem dX8_night_55 : decode cX8_night 55 = .ok (.iconst 0, 1) := by decide +kernel
theorem dX8_night_56 : decode cX8_night 56 = .ok (.istore 6, 2) := by decide +kernel
theorem dX8_night_58 : decode cX8_night 58 = .ok (.iconst 0, 1) := by decide +kernel
theorem dX8_night_59 : decode cX8_night 59 = .ok (.istore 7, 2) := by decide +kernel
theorem dX8_night_61 : decode cX8_night 61 = .ok (.iload 7, 2) := by decide +kernel
theorem dX8_night_63 : decode cX8_night 63 = .ok (.iload_n 1, 1) := by decide +kernel
theorem dX8_night_64 : decode cX8_night 64 = .ok (.if_icmp .ge 103, 3) := by decide +kernel
theorem dX8_night_67 : decode cX8_night 67 = .ok (.aload_n 0, 1) := by decide +kernel
theorem dX8_night_68 : decode cX8_night 68 = .ok (.invokevirtual 174, 3) := by decide +kernel
theorem dX8_night_71 : decode cX8_night 71 = .ok (.istore 8, 2) := by decide +kernel
theorem dX8_night_73 : decode cX8_night 73 = .ok (.iconst 0, 1) := by decide +kernel
theorem dX8_night_74 : decode cX8_night 74 = .ok (.istore 9, 2) := by decide +kernel
theorem dX8_night_76 : decode cX8_night 76 = .ok (.iload 9, 2) := by decide +kernel
theorem dX8_night_78 : decode cX8_night 78 = .ok (.aload_n 0, 1) := by decide +kernel
theorem dX8_night_79 : decode cX8_night 79 = .ok (.getfield 7, 3) := by decide +kernel
theorem dX8_night_82 : decode cX8_night 82 = .ok (.iconst 5, 1) := by decide +kernel
theorem dX8_night_83 : decode cX8_night 83 = .ok (.iaload, 1) := by decide +kernel
theorem dX8_night_84 : decode cX8_night 84 = .ok (.if_icmp .ge 48, 3) := by decide +kernel
theorem dX8_night_87 : decode cX8_night 87 = .ok (.lload 4, 2) := by decide +kernel
theorem dX8_night_89 : decode cX8_night 89 = .ok (.ldc2_w 245, 3) := by decide +kernel
theorem dX8_night_92 : decode cX8_night 92 = .ok (.lmul, 1) := by decide +kernel
theorem dX8_night_93 : decode cX8_night 93 = .ok (.ldc2_w 247, 3) := by decide +kernel
theorem dX8_night_96 : decode cX8_night 96 = .ok (.lrem, 1) := by decide +kernel
theorem dX8_night_97 : decode cX8_night 97 = .ok (.lstore 4, 2) := by decide +kernel
theorem dX8_night_99 : decode cX8_night 99 = .ok (.aload_n 0, 1) := by decide +kernel
theorem dX8_night_100 : decode cX8_night 100 = .ok (.getfield 32, 3) := by decide +kernel
theorem dX8_night_103 : decode cX8_night 103 = .ok (.iload 9, 2) := by decide +kernel
theorem dX8_night_105 : decode cX8_night 105 = .ok (.aload_n 0, 1) := by decide +kernel
theorem dX8_night_106 : decode cX8_night 106 = .ok (.getfield 32, 3) := by decide +kernel
theorem dX8_night_109 : decode cX8_night 109 = .ok (.iload 9, 2) := by decide +kernel
theorem dX8_night_111 : decode cX8_night 111 = .ok (.iaload, 1) := by decide +kernel
theorem dX8_night_112 : decode cX8_night 112 = .ok (.lload 4, 2) := by decide +kernel
theorem dX8_night_114 : decode cX8_night 114 = .ok (.ldc2_w 249, 3) := by decide +kernel
theorem dX8_night_117 : decode cX8_night 117 = .ok (.lrem, 1) := by decide +kernel
theorem dX8_night_118 : decode cX8_night 118 = .ok (.l2i, 1) := by decide +kernel
theorem dX8_night_119 : decode cX8_night 119 = .ok (.iadd, 1) := by decide +kernel
theorem dX8_night_120 : decode cX8_night 120 = .ok (.iconst 2, 1) := by decide +kernel
theorem dX8_night_121 : decode cX8_night 121 = .ok (.isub, 1) := by decide +kernel
theorem dX8_night_122 : decode cX8_night 122 = .ok (.invokestatic 165, 3) := by decide +kernel
theorem dX8_night_125 : decode cX8_night 125 = .ok (.iastore, 1) := by decide +kernel
theorem dX8_night_126 : decode cX8_night 126 = .ok (.iinc 9 1, 3) := by decide +kernel
theorem dX8_night_129 : decode cX8_night 129 = .ok (.goto (-53), 3) := by decide +kernel
theorem dX8_night_132 : decode cX8_night 132 = .ok (.aload_n 0, 1) := by decide +kernel
theorem dX8_night_133 : decode cX8_night 133 = .ok (.invokevirtual 171, 3) := by decide +kernel
theorem dX8_night_136 : decode cX8_night 136 = .ok (.iload 6, 2) := by decide +kernel
theorem dX8_night_138 : decode cX8_night 138 = .ok (.aload_n 0, 1) := by decide +kernel
theorem dX8_night_139 : decode cX8_night 139 = .ok (.invokevirtual 174, 3) := by decide +kernel
theorem dX8_night_142 : decode cX8_night 142 = .ok (.iload 8, 2) := by decide +kernel
theorem dX8_night_144 : decode cX8_night 144 = .ok (.isub, 1) := by decide +kernel
theorem dX8_night_145 : decode cX8_night 145 = .ok (.invokestatic 221, 3) := by decide +kernel
theorem dX8_night_148 : decode cX8_night 148 = .ok (.bipush 9, 2) := by decide +kernel
theorem dX8_night_150 : decode cX8_night 150 = .ok (.if_icmp .le 7, 3) := by decide +kernel
theorem dX8_night_153 : decode cX8_night 153 = .ok (.iconst 1, 1) := by decide +kernel
theorem dX8_night_154 : decode cX8_night 154 = .ok (.goto 4, 3) := by decide +kernel
theorem dX8_night_157 : decode cX8_night 157 = .ok (.iconst 0, 1) := by decide +kernel
theorem dX8_night_158 : decode cX8_night 158 = .ok (.iadd, 1) := by decide +kernel
theorem dX8_night_159 : decode cX8_night 159 = .ok (.istore 6, 2) := by decide +kernel
theorem dX8_night_161 : decode cX8_night 161 = .ok (.iinc 7 1, 3) := by decide +kernel
theorem dX8_night_164 : decode cX8_night 164 = .ok (.goto (-103), 3) := by decide +kernel
theorem dX8_night_167 : decode cX8_night 167 = .ok (.iload_n 3, 1) := by decide +kernel
theorem dX8_night_168 : decode cX8_night 168 = .ok (.ifCond .ne 10, 3) := by decide +kernel
theorem dX8_night_171 : decode cX8_night 171 = .ok (.aload_n 0, 1) := by decide +kernel
theorem dX8_night_172 : decode cX8_night 172 = .ok (.invokevirtual 174, 3) := by decide +kernel
theorem dX8_night_175 : decode cX8_night 175 = .ok (.goto 5, 3) := by decide +kernel
theorem dX8_night_178 : decode cX8_night 178 = .ok (.iload 6, 2) := by decide +kernel
theorem dX8_night_180 : decode cX8_night 180 = .ok (.ireturn, 1) := by decide +kernel
theorem dX8_image_0 : decode cX8_image 0 = .ok (.iload_n 1, 1) := by decide +kernel
theorem dX8_image_1 : decode cX8_image 1 = .ok (.i2l, 1) := by decide +kernel
theorem dX8_image_2 : decode cX8_image 2 = .ok (.lconst 0, 1) := by decide +kernel
theorem dX8_image_3 : decode cX8_image 3 = .ok (.lconst 1, 1) := by decide +kernel
theorem dX8_image_4 : decode cX8_image 4 = .ok (.invokestatic 60, 3) := by decide +kernel
theorem dX8_image_7 : decode cX8_image 7 = .ok (.ifCond .ne 6, 3) := by decide +kernel
theorem dX8_image_10 : decode cX8_image 10 = .ok (.ldc 70, 2) := by decide +kernel
theorem dX8_image_12 : decode cX8_image 12 = .ok (.ireturn, 1) := by decide +kernel
theorem dX8_image_13 : decode cX8_image 13 = .ok (.aload_n 0, 1) := by decide +kernel
theorem dX8_image_14 : decode cX8_image 14 = .ok (.invokevirtual 183, 3) := by decide +kernel
theorem dX8_image_17 : decode cX8_image 17 = .ok (.ifCond .eq 6, 3) := by decide +kernel
theorem dX8_image_20 : decode cX8_image 20 = .ok (.ldc 182, 2) := by decide +kernel
theorem dX8_image_22 : decode cX8_image 22 = .ok (.ireturn, 1) := by decide +kernel
theorem dX8_image_23 : decode cX8_image 23 = .ok (.iconst 0, 1) := by decide +kernel
theorem dX8_image_24 : decode cX8_image 24 = .ok (.istore_n 2, 1) := by decide +kernel
theorem dX8_image_25 : decode cX8_image 25 = .ok (.iload_n 2, 1) := by decide +kernel
theorem dX8_image_26 : decode cX8_image 26 = .ok (.bipush 61, 2) := by decide +kernel
theorem dX8_image_28 : decode cX8_image 28 = .ok (.if_icmp .ge 28, 3) := by decide +kernel
theorem dX8_image_31 : decode cX8_image 31 = .ok (.aload_n 0, 1) := by decide +kernel
theorem dX8_image_32 : decode cX8_image 32 = .ok (.getfield 7, 3) := by decide +kernel
theorem dX8_image_35 : decode cX8_image 35 = .ok (.bipush 61, 2) := by decide +kernel
theorem dX8_image_37 : decode cX8_image 37 = .ok (.iload_n 1, 1) := by decide +kernel
theorem dX8_image_38 : decode cX8_image 38 = .ok (.iconst 1, 1) := by decide +kernel
theorem dX8_image_39 : decode cX8_image 39 = .ok (.iadd, 1) := by decide +kernel
theorem dX8_image_40 : decode cX8_image 40 = .ok (.imul, 1) := by decide +kernel
theorem dX8_image_41 : decode cX8_image 41 = .ok (.iload_n 2, 1) := by decide +kernel
theorem dX8_image_42 : decode cX8_image 42 = .ok (.iadd, 1) := by decide +kernel
theorem dX8_image_43 : decode cX8_image 43 = .ok (.aload_n 0, 1) := by decide +kernel
theorem dX8_image_44 : decode cX8_image 44 = .ok (.getfield 7, 3) := by decide +kernel
theorem dX8_image_47 : decode cX8_image 47 = .ok (.iload_n 2, 1) := by decide +kernel
theorem dX8_image_48 : decode cX8_image 48 = .ok (.iaload, 1) := by decide +kernel
theorem dX8_image_49 : decode cX8_image 49 = .ok (.iastore, 1) := by decide +kernel
theorem dX8_image_50 : decode cX8_image 50 = .ok (.iinc 2 1, 3) := by decide +kernel
theorem dX8_image_53 : decode cX8_image 53 = .ok (.goto (-28), 3) := by decide +kernel
theorem dX8_image_56 : decode cX8_image 56 = .ok (.aload_n 0, 1) := by decide +kernel
theorem dX8_image_57 : decode cX8_image 57 = .ok (.getfield 13, 3) := by decide +kernel
theorem dX8_image_60 : decode cX8_image 60 = .ok (.iload_n 1, 1) := by decide +kernel
theorem dX8_image_61 : decode cX8_image 61 = .ok (.iconst 1, 1) := by decide +kernel
theorem dX8_image_62 : decode cX8_image 62 = .ok (.bastore, 1) := by decide +kernel
theorem dX8_image_63 : decode cX8_image 63 = .ok (.iconst 1, 1) := by decide +kernel
theorem dX8_image_64 : decode cX8_image 64 = .ok (.ireturn, 1) := by decide +kernel
theorem dX8_restore_0 : decode cX8_restore 0 = .ok (.iload_n 1, 1) := by decide +kernel
theorem dX8_restore_1 : decode cX8_restore 1 = .ok (.i2l, 1) := by decide +kernel
theorem dX8_restore_2 : decode cX8_restore 2 = .ok (.lconst 0, 1) := by decide +kernel
theorem dX8_restore_3 : decode cX8_restore 3 = .ok (.lconst 1, 1) := by decide +kernel
theorem dX8_restore_4 : decode cX8_restore 4 = .ok (.invokestatic 60, 3) := by decide +kernel
theorem dX8_restore_7 : decode cX8_restore 7 = .ok (.ifCond .ne 6, 3) := by decide +kernel
theorem dX8_restore_10 : decode cX8_restore 10 = .ok (.ldc 70, 2) := by decide +kernel
theorem dX8_restore_12 : decode cX8_restore 12 = .ok (.ireturn, 1) := by decide +kernel
theorem dX8_restore_13 : decode cX8_restore 13 = .ok (.aload_n 0, 1) := by decide +kernel
theorem dX8_restore_14 : decode cX8_restore 14 = .ok (.getfield 13, 3) := by decide +kernel
theorem dX8_restore_17 : decode cX8_restore 17 = .ok (.iload_n 1, 1) := by decide +kernel
theorem dX8_restore_18 : decode cX8_restore 18 = .ok (.baload, 1) := by decide +kernel
theorem dX8_restore_19 : decode cX8_restore 19 = .ok (.ifCond .ne 6, 3) := by decide +kernel
theorem dX8_restore_22 : decode cX8_restore 22 = .ok (.ldc 182, 2) := by decide +kernel
theorem dX8_restore_24 : decode cX8_restore 24 = .ok (.ireturn, 1) := by decide +kernel
theorem dX8_restore_25 : decode cX8_restore 25 = .ok (.iconst 0, 1) := by decide +kernel
theorem dX8_restore_26 : decode cX8_restore 26 = .ok (.istore_n 2, 1) := by decide +kernel
theorem dX8_restore_27 : decode cX8_restore 27 = .ok (.iload_n 2, 1) := by decide +kernel
theorem dX8_restore_28 : decode cX8_restore 28 = .ok (.bipush 61, 2) := by decide +kernel
theorem dX8_restore_30 : decode cX8_restore 30 = .ok (.if_icmp .ge 28, 3) := by decide +kernel
theorem dX8_restore_33 : decode cX8_restore 33 = .ok (.aload_n 0, 1) := by decide +kernel
theorem dX8_restore_34 : decode cX8_restore 34 = .ok (.getfield 7, 3) := by decide +kernel
theorem dX8_restore_37 : decode cX8_restore 37 = .ok (.iload_n 2, 1) := by decide +kernel
theorem dX8_restore_38 : decode cX8_restore 38 = .ok (.aload_n 0, 1) := by decide +kernel
theorem dX8_restore_39 : decode cX8_restore 39 = .ok (.getfield 7, 3) := by decide +kernel
theorem dX8_restore_42 : decode cX8_restore 42 = .ok (.bipush 61, 2) := by decide +kernel
theorem dX8_restore_44 : decode cX8_restore 44 = .ok (.iload_n 1, 1) := by decide +kernel
theorem dX8_restore_45 : decode cX8_restore 45 = .ok (.iconst 1, 1) := by decide +kernel
theorem dX8_restore_46 : decode cX8_restore 46 = .ok (.iadd, 1) := by decide +kernel
theorem dX8_restore_47 : decode cX8_restore 47 = .ok (.imul, 1) := by decide +kernel
theorem dX8_restore_48 : decode cX8_restore 48 = .ok (.iload_n 2, 1) := by decide +kernel
theorem dX8_restore_49 : decode cX8_restore 49 = .ok (.iadd, 1) := by decide +kernel
theorem dX8_restore_50 : decode cX8_restore 50 = .ok (.iaload, 1) := by decide +kernel
theorem dX8_restore_51 : decode cX8_restore 51 = .ok (.iastore, 1) := by decide +kernel
theorem dX8_restore_52 : decode cX8_restore 52 = .ok (.iinc 2 1, 3) := by decide +kernel
theorem dX8_restore_55 : decode cX8_restore 55 = .ok (.goto (-28), 3) := by decide +kernel
theorem dX8_restore_58 : decode cX8_restore 58 = .ok (.aload_n 0, 1) := by decide +kernel
theorem dX8_restore_59 : decode cX8_restore 59 = .ok (.iconst 0, 1) := by decide +kernel
theorem dX8_restore_60 : decode cX8_restore 60 = .ok (.putfield 153, 3) := by decide +kernel
theorem dX8_restore_63 : decode cX8_restore 63 = .ok (.iconst 1, 1) := by decide +kernel
theorem dX8_restore_64 : decode cX8_restore 64 = .ok (.ireturn, 1) := by decide +kernel
theorem dX8_leaves_0 : decode cX8_leaves 0 = .ok (.aload_n 0, 1) := by decide +kernel
theorem dX8_leaves_1 : decode cX8_leaves 1 = .ok (.getfield 251, 3) := by decide +kernel
theorem dX8_leaves_4 : decode cX8_leaves 4 = .ok (.bipush 16, 2) := by decide +kernel
theorem dX8_leaves_6 : decode cX8_leaves 6 = .ok (.if_icmp .ge 23, 3) := by decide +kernel
theorem dX8_leaves_9 : decode cX8_leaves 9 = .ok (.aload_n 0, 1) := by decide +kernel
theorem dX8_leaves_10 : decode cX8_leaves 10 = .ok (.getfield 50, 3) := by decide +kernel
theorem dX8_leaves_13 : decode cX8_leaves 13 = .ok (.aload_n 0, 1) := by decide +kernel
theorem dX8_leaves_14 : decode cX8_leaves 14 = .ok (.getfield 251, 3) := by decide +kernel
theorem dX8_leaves_17 : decode cX8_leaves 17 = .ok (.iload_n 1, 1) := by decide +kernel
theorem dX8_leaves_18 : decode cX8_leaves 18 = .ok (.iastore, 1) := by decide +kernel
theorem dX8_leaves_19 : decode cX8_leaves 19 = .ok (.aload_n 0, 1) := by decide +kernel
theorem dX8_leaves_20 : decode cX8_leaves 20 = .ok (.dup, 1) := by decide +kernel
theorem dX8_leaves_21 : decode cX8_leaves 21 = .ok (.getfield 251, 3) := by decide +kernel
theorem dX8_leaves_24 : decode cX8_leaves 24 = .ok (.iconst 1, 1) := by decide +kernel
theorem dX8_leaves_25 : decode cX8_leaves 25 = .ok (.iadd, 1) := by decide +kernel
theorem dX8_leaves_26 : decode cX8_leaves 26 = .ok (.putfield 251, 3) := by decide +kernel
theorem dX8_leaves_29 : decode cX8_leaves 29 = .ok (.return_, 1) := by decide +kernel
theorem dX8_kind_0 : decode cX8_kind 0 = .ok (.aload_n 0, 1) := by decide +kernel
theorem dX8_kind_1 : decode cX8_kind 1 = .ok (.iload_n 1, 1) := by decide +kernel
theorem dX8_kind_2 : decode cX8_kind 2 = .ok (.invokevirtual 197, 3) := by decide +kernel
theorem dX8_kind_5 : decode cX8_kind 5 = .ok (.ifCond .eq 15, 3) := by decide +kernel
theorem dX8_kind_8 : decode cX8_kind 8 = .ok (.aload_n 0, 1) := by decide +kernel
theorem dX8_kind_9 : decode cX8_kind 9 = .ok (.getfield 7, 3) := by decide +kernel
theorem dX8_kind_12 : decode cX8_kind 12 = .ok (.bipush 21, 2) := by decide +kernel
theorem dX8_kind_14 : decode cX8_kind 14 = .ok (.iload_n 1, 1) := by decide +kernel
theorem dX8_kind_15 : decode cX8_kind 15 = .ok (.iadd, 1) := by decide +kernel
theorem dX8_kind_16 : decode cX8_kind 16 = .ok (.iaload, 1) := by decide +kernel
theorem dX8_kind_17 : decode cX8_kind 17 = .ok (.goto 5, 3) := by decide +kernel
theorem dX8_kind_20 : decode cX8_kind 20 = .ok (.ldc 70, 2) := by decide +kernel
theorem dX8_kind_22 : decode cX8_kind 22 = .ok (.ireturn, 1) := by decide +kernel
theorem dX8_isOf_0 : decode cX8_isOf 0 = .ok (.iload_n 1, 1) := by decide +kernel
theorem dX8_isOf_1 : decode cX8_isOf 1 = .ok (.ifCond .eq 28, 3) := by decide +kernel
theorem dX8_isOf_4 : decode cX8_isOf 4 = .ok (.iload_n 1, 1) := by decide +kernel
theorem dX8_isOf_5 : decode cX8_isOf 5 = .ok (.iload_n 0, 1) := by decide +kernel
theorem dX8_isOf_6 : decode cX8_isOf 6 = .ok (.if_icmp .eq 23, 3) := by decide +kernel
theorem dX8_isOf_9 : decode cX8_isOf 9 = .ok (.iload_n 1, 1) := by decide +kernel
theorem dX8_isOf_10 : decode cX8_isOf 10 = .ok (.iconst 1, 1) := by decide +kernel
theorem dX8_isOf_11 : decode cX8_isOf 11 = .ok (.if_icmp .ne 8, 3) := by decide +kernel
theorem dX8_isOf_14 : decode cX8_isOf 14 = .ok (.iload_n 0, 1) := by decide +kernel
theorem dX8_isOf_15 : decode cX8_isOf 15 = .ok (.iconst 3, 1) := by decide +kernel
theorem dX8_isOf_16 : decode cX8_isOf 16 = .ok (.if_icmp .le 13, 3) := by decide +kernel
theorem dX8_isOf_19 : decode cX8_isOf 19 = .ok (.iload_n 1, 1) := by decide +kernel
theorem dX8_isOf_20 : decode cX8_isOf 20 = .ok (.iconst 4, 1) := by decide +kernel
theorem dX8_isOf_21 : decode cX8_isOf 21 = .ok (.if_icmp .ne 12, 3) := by decide +kernel
theorem dX8_isOf_24 : decode cX8_isOf 24 = .ok (.iload_n 0, 1) := by decide +kernel
theorem dX8_isOf_25 : decode cX8_isOf 25 = .ok (.iconst 5, 1) := by decide +kernel
theorem dX8_isOf_26 : decode cX8_isOf 26 = .ok (.if_icmp .ne 7, 3) := by decide +kernel
theorem dX8_isOf_29 : decode cX8_isOf 29 = .ok (.iconst 1, 1) := by decide +kernel
theorem dX8_isOf_30 : decode cX8_isOf 30 = .ok (.goto 4, 3) := by decide +kernel
theorem dX8_isOf_33 : decode cX8_isOf 33 = .ok (.iconst 0, 1) := by decide +kernel
theorem dX8_isOf_34 : decode cX8_isOf 34 = .ok (.ireturn, 1) := by decide +kernel
theorem dX8_as_0 : decode cX8_as 0 = .ok (.aload_n 0, 1) := by decide +kernel
theorem dX8_as_1 : decode cX8_as 1 = .ok (.iload_n 1, 1) := by decide +kernel
theorem dX8_as_2 : decode cX8_as 2 = .ok (.invokevirtual 197, 3) := by decide +kernel
theorem dX8_as_5 : decode cX8_as 5 = .ok (.ifCond .eq 15, 3) := by decide +kernel
theorem dX8_as_8 : decode cX8_as 8 = .ok (.iload_n 2, 1) := by decide +kernel
theorem dX8_as_9 : decode cX8_as 9 = .ok (.i2l, 1) := by decide +kernel
theorem dX8_as_10 : decode cX8_as 10 = .ok (.lconst 0, 1) := by decide +kernel
theorem dX8_as_11 : decode cX8_as 11 = .ok (.ldc2_w 249, 3) := by decide +kernel
theorem dX8_as_14 : decode cX8_as 14 = .ok (.invokestatic 60, 3) := by decide +kernel
theorem dX8_as_17 : decode cX8_as 17 = .ok (.ifCond .ne 6, 3) := by decide +kernel
theorem dX8_as_20 : decode cX8_as 20 = .ok (.ldc 70, 2) := by decide +kernel
theorem dX8_as_22 : decode cX8_as 22 = .ok (.ireturn, 1) := by decide +kernel
theorem dX8_as_23 : decode cX8_as 23 = .ok (.aload_n 0, 1) := by decide +kernel
theorem dX8_as_24 : decode cX8_as 24 = .ok (.getfield 7, 3) := by decide +kernel
theorem dX8_as_27 : decode cX8_as 27 = .ok (.bipush 21, 2) := by decide +kernel
theorem dX8_as_29 : decode cX8_as 29 = .ok (.iload_n 1, 1) := by decide +kernel
theorem dX8_as_30 : decode cX8_as 30 = .ok (.iadd, 1) := by decide +kernel
theorem dX8_as_31 : decode cX8_as 31 = .ok (.iaload, 1) := by decide +kernel
theorem dX8_as_32 : decode cX8_as 32 = .ok (.iload_n 2, 1) := by decide +kernel
theorem dX8_as_33 : decode cX8_as 33 = .ok (.invokestatic 254, 3) := by decide +kernel
theorem dX8_as_36 : decode cX8_as 36 = .ok (.ifCond .eq 11, 3) := by decide +kernel
theorem dX8_as_39 : decode cX8_as 39 = .ok (.aload_n 0, 1) := by decide +kernel
theorem dX8_as_40 : decode cX8_as 40 = .ok (.iload_n 1, 1) := by decide +kernel
theorem dX8_as_41 : decode cX8_as 41 = .ok (.invokevirtual 75, 3) := by decide +kernel
theorem dX8_as_44 : decode cX8_as 44 = .ok (.goto 8, 3) := by decide +kernel
theorem dX8_as_47 : decode cX8_as 47 = .ok (.aload_n 0, 1) := by decide +kernel
theorem dX8_as_48 : decode cX8_as 48 = .ok (.iconst 3, 1) := by decide +kernel
theorem dX8_as_49 : decode cX8_as 49 = .ok (.invokevirtual 71, 3) := by decide +kernel
theorem dX8_as_52 : decode cX8_as 52 = .ok (.ireturn, 1) := by decide +kernel
theorem dX8_bareSize_0 : decode cX8_bareSize 0 = .ok (.aload_n 0, 1) := by decide +kernel
theorem dX8_bareSize_1 : decode cX8_bareSize 1 = .ok (.bipush 10, 2) := by decide +kernel
theorem dX8_bareSize_3 : decode cX8_bareSize 3 = .ok (.invokevirtual 257, 3) := by decide +kernel
theorem dX8_bareSize_6 : decode cX8_bareSize 6 = .ok (.aload_n 0, 1) := by decide +kernel
theorem dX8_bareSize_7 : decode cX8_bareSize 7 = .ok (.getfield 7, 3) := by decide +kernel
theorem dX8_bareSize_10 : decode cX8_bareSize 10 = .ok (.bipush 26, 2) := by decide +kernel
theorem dX8_bareSize_12 : decode cX8_bareSize 12 = .ok (.iload_n 1, 1) := by decide +kernel
theorem dX8_bareSize_13 : decode cX8_bareSize 13 = .ok (.iadd, 1) := by decide +kernel
theorem dX8_bareSize_14 : decode cX8_bareSize 14 = .ok (.iaload, 1) := by decide +kernel
theorem dX8_bareSize_15 : decode cX8_bareSize 15 = .ok (.ireturn, 1) := by decide +kernel
theorem dX8_bareMark_0 : decode cX8_bareMark 0 = .ok (.aload_n 0, 1) := by decide +kernel
theorem dX8_bareMark_1 : decode cX8_bareMark 1 = .ok (.bipush 20, 2) := by decide +kernel
theorem dX8_bareMark_3 : decode cX8_bareMark 3 = .ok (.invokevirtual 257, 3) := by decide +kernel
theorem dX8_bareMark_6 : decode cX8_bareMark 6 = .ok (.iload_n 1, 1) := by decide +kernel
theorem dX8_bareMark_7 : decode cX8_bareMark 7 = .ok (.ireturn, 1) := by decide +kernel
theorem dX8_steadyMark_0 : decode cX8_steadyMark 0 = .ok (.aload_n 0, 1) := by decide +kernel
theorem dX8_steadyMark_1 : decode cX8_steadyMark 1 = .ok (.bipush 21, 2) := by decide +kernel
theorem dX8_steadyMark_3 : decode cX8_steadyMark 3 = .ok (.invokevirtual 257, 3) := by decide +kernel
theorem dX8_steadyMark_6 : decode cX8_steadyMark 6 = .ok (.aload_n 0, 1) := by decide +kernel
theorem dX8_steadyMark_7 : decode cX8_steadyMark 7 = .ok (.iload_n 1, 1) := by decide +kernel
theorem dX8_steadyMark_8 : decode cX8_steadyMark 8 = .ok (.invokevirtual 260, 3) := by decide +kernel
theorem dX8_steadyMark_11 : decode cX8_steadyMark 11 = .ok (.aload_n 0, 1) := by decide +kernel
theorem dX8_steadyMark_12 : decode cX8_steadyMark 12 = .ok (.getfield 7, 3) := by decide +kernel
theorem dX8_steadyMark_15 : decode cX8_steadyMark 15 = .ok (.bipush 31, 2) := by decide +kernel
theorem dX8_steadyMark_17 : decode cX8_steadyMark 17 = .ok (.iload_n 1, 1) := by decide +kernel
theorem dX8_steadyMark_18 : decode cX8_steadyMark 18 = .ok (.iadd, 1) := by decide +kernel
theorem dX8_steadyMark_19 : decode cX8_steadyMark 19 = .ok (.iaload, 1) := by decide +kernel
theorem dX8_steadyMark_20 : decode cX8_steadyMark 20 = .ok (.iadd, 1) := by decide +kernel
theorem dX8_steadyMark_21 : decode cX8_steadyMark 21 = .ok (.ireturn, 1) := by decide +kernel
theorem dX8_markOfSteady_0 : decode cX8_markOfSteady 0 = .ok (.aload_n 0, 1) := by decide +kernel
theorem dX8_markOfSteady_1 : decode cX8_markOfSteady 1 = .ok (.getfield 7, 3) := by decide +kernel
theorem dX8_markOfSteady_4 : decode cX8_markOfSteady 4 = .ok (.bipush 21, 2) := by decide +kernel
theorem dX8_markOfSteady_6 : decode cX8_markOfSteady 6 = .ok (.iload_n 1, 1) := by decide +kernel
theorem dX8_markOfSteady_7 : decode cX8_markOfSteady 7 = .ok (.iadd, 1) := by decide +kernel
theorem dX8_markOfSteady_8 : decode cX8_markOfSteady 8 = .ok (.iaload, 1) := by decide +kernel
theorem dX8_markOfSteady_9 : decode cX8_markOfSteady 9 = .ok (.iconst 2, 1) := by decide +kernel
theorem dX8_markOfSteady_10 : decode cX8_markOfSteady 10 = .ok (.if_icmp .ne 17, 3) := by decide +kernel
theorem dX8_markOfSteady_13 : decode cX8_markOfSteady 13 = .ok (.aload_n 0, 1) := by decide +kernel
theorem dX8_markOfSteady_14 : decode cX8_markOfSteady 14 = .ok (.bipush 24, 2) := by decide +kernel
theorem dX8_markOfSteady_16 : decode cX8_markOfSteady 16 = .ok (.invokevirtual 257, 3) := by decide +kernel
theorem dX8_markOfSteady_19 : decode cX8_markOfSteady 19 = .ok (.iconst 2, 1) := by decide +kernel
theorem dX8_markOfSteady_20 : decode cX8_markOfSteady 20 = .ok (.aload_n 0, 1) := by decide +kernel
theorem dX8_markOfSteady_21 : decode cX8_markOfSteady 21 = .ok (.iload_n 1, 1) := by decide +kernel
theorem dX8_markOfSteady_22 : decode cX8_markOfSteady 22 = .ok (.invokevirtual 263, 3) := by decide +kernel
theorem dX8_markOfSteady_25 : decode cX8_markOfSteady 25 = .ok (.imul, 1) := by decide +kernel
theorem dX8_markOfSteady_26 : decode cX8_markOfSteady 26 = .ok (.ireturn, 1) := by decide +kernel
theorem dX8_markOfSteady_27 : decode cX8_markOfSteady 27 = .ok (.aload_n 0, 1) := by decide +kernel
theorem dX8_markOfSteady_28 : decode cX8_markOfSteady 28 = .ok (.getfield 7, 3) := by decide +kernel
theorem dX8_markOfSteady_31 : decode cX8_markOfSteady 31 = .ok (.bipush 21, 2) := by decide +kernel
theorem dX8_markOfSteady_33 : decode cX8_markOfSteady 33 = .ok (.iload_n 1, 1) := by decide +kernel
theorem dX8_markOfSteady_34 : decode cX8_markOfSteady 34 = .ok (.iadd, 1) := by decide +kernel
theorem dX8_markOfSteady_35 : decode cX8_markOfSteady 35 = .ok (.iaload, 1) := by decide +kernel
theorem dX8_markOfSteady_36 : decode cX8_markOfSteady 36 = .ok (.iconst 3, 1) := by decide +kernel
theorem dX8_markOfSteady_37 : decode cX8_markOfSteady 37 = .ok (.if_icmp .ne 19, 3) := by decide +kernel
theorem dX8_markOfSteady_40 : decode cX8_markOfSteady 40 = .ok (.aload_n 0, 1) := by decide +kernel
theorem dX8_markOfSteady_41 : decode cX8_markOfSteady 41 = .ok (.bipush 22, 2) := by decide +kernel
theorem dX8_markOfSteady_43 : decode cX8_markOfSteady 43 = .ok (.invokevirtual 257, 3) := by decide +kernel
theorem dX8_markOfSteady_46 : decode cX8_markOfSteady 46 = .ok (.aload_n 0, 1) := by decide +kernel
theorem dX8_markOfSteady_47 : decode cX8_markOfSteady 47 = .ok (.iload_n 1, 1) := by decide +kernel
theorem dX8_markOfSteady_48 : decode cX8_markOfSteady 48 = .ok (.invokevirtual 263, 3) := by decide +kernel
theorem dX8_markOfSteady_51 : decode cX8_markOfSteady 51 = .ok (.sipush 1000, 3) := by decide +kernel
theorem dX8_markOfSteady_54 : decode cX8_markOfSteady 54 = .ok (.isub, 1) := by decide +kernel
theorem dX8_markOfSteady_55 : decode cX8_markOfSteady 55 = .ok (.ireturn, 1) := by decide +kernel
theorem dX8_markOfSteady_56 : decode cX8_markOfSteady 56 = .ok (.aload_n 0, 1) := by decide +kernel
theorem dX8_markOfSteady_57 : decode cX8_markOfSteady 57 = .ok (.iload_n 1, 1) := by decide +kernel
theorem dX8_markOfSteady_58 : decode cX8_markOfSteady 58 = .ok (.invokevirtual 263, 3) := by decide +kernel
theorem dX8_markOfSteady_61 : decode cX8_markOfSteady 61 = .ok (.ireturn, 1) := by decide +kernel
theorem dX8_steadySize_0 : decode cX8_steadySize 0 = .ok (.aload_n 0, 1) := by decide +kernel
theorem dX8_steadySize_1 : decode cX8_steadySize 1 = .ok (.bipush 11, 2) := by decide +kernel
theorem dX8_steadySize_3 : decode cX8_steadySize 3 = .ok (.invokevirtual 257, 3) := by decide +kernel
theorem dX8_steadySize_6 : decode cX8_steadySize 6 = .ok (.aload_n 0, 1) := by decide +kernel
theorem dX8_steadySize_7 : decode cX8_steadySize 7 = .ok (.iload_n 1, 1) := by decide +kernel
theorem dX8_steadySize_8 : decode cX8_steadySize 8 = .ok (.invokevirtual 266, 3) := by decide +kernel
theorem dX8_steadySize_11 : decode cX8_steadySize 11 = .ok (.istore_n 2, 1) := by decide +kernel
theorem dX8_steadySize_12 : decode cX8_steadySize 12 = .ok (.iload_n 2, 1) := by decide +kernel
theorem dX8_steadySize_13 : decode cX8_steadySize 13 = .ok (.aload_n 0, 1) := by decide +kernel
theorem dX8_steadySize_14 : decode cX8_steadySize 14 = .ok (.iload_n 1, 1) := by decide +kernel
theorem dX8_steadySize_15 : decode cX8_steadySize 15 = .ok (.invokevirtual 269, 3) := by decide +kernel
theorem dX8_steadySize_18 : decode cX8_steadySize 18 = .ok (.iadd, 1) := by decide +kernel
theorem dX8_steadySize_19 : decode cX8_steadySize 19 = .ok (.ireturn, 1) := by decide +kernel
theorem dX8_clickedSize_0 : decode cX8_clickedSize 0 = .ok (.aload_n 0, 1) := by decide +kernel
theorem dX8_clickedSize_1 : decode cX8_clickedSize 1 = .ok (.bipush 13, 2) := by decide +kernel
theorem dX8_clickedSize_3 : decode cX8_clickedSize 3 = .ok (.invokevirtual 257, 3) := by decide +kernel
theorem dX8_clickedSize_6 : decode cX8_clickedSize 6 = .ok (.aload_n 0, 1) := by decide +kernel
theorem dX8_clickedSize_7 : decode cX8_clickedSize 7 = .ok (.iload_n 1, 1) := by decide +kernel
theorem dX8_clickedSize_8 : decode cX8_clickedSize 8 = .ok (.invokevirtual 266, 3) := by decide +kernel
theorem dX8_clickedSize_11 : decode cX8_clickedSize 11 = .ok (.bipush 100, 2) := by decide +kernel
theorem dX8_clickedSize_13 : decode cX8_clickedSize 13 = .ok (.isub, 1) := by decide +kernel
theorem dX8_clickedSize_14 : decode cX8_clickedSize 14 = .ok (.ireturn, 1) := by decide +kernel
theorem dX8_sizeOf_0 : decode cX8_sizeOf 0 = .ok (.aload_n 0, 1) := by decide +kernel
theorem dX8_sizeOf_1 : decode cX8_sizeOf 1 = .ok (.getfield 7, 3) := by decide +kernel
theorem dX8_sizeOf_4 : decode cX8_sizeOf 4 = .ok (.bipush 21, 2) := by decide +kernel
theorem dX8_sizeOf_6 : decode cX8_sizeOf 6 = .ok (.iload_n 1, 1) := by decide +kernel
theorem dX8_sizeOf_7 : decode cX8_sizeOf 7 = .ok (.iadd, 1) := by decide +kernel
theorem dX8_sizeOf_8 : decode cX8_sizeOf 8 = .ok (.iaload, 1) := by decide +kernel
theorem dX8_sizeOf_9 : decode cX8_sizeOf 9 = .ok (.tableswitch 64 2 5 #[31, 64, 44, 50], 31) := by decide +kernel
theorem dX8_sizeOf_40 : decode cX8_sizeOf 40 = .ok (.aload_n 0, 1) := by decide +kernel
theorem dX8_sizeOf_41 : decode cX8_sizeOf 41 = .ok (.bipush 12, 2) := by decide +kernel
theorem dX8_sizeOf_43 : decode cX8_sizeOf 43 = .ok (.invokevirtual 257, 3) := by decide +kernel
theorem dX8_sizeOf_46 : decode cX8_sizeOf 46 = .ok (.aload_n 0, 1) := by decide +kernel
theorem dX8_sizeOf_47 : decode cX8_sizeOf 47 = .ok (.iload_n 1, 1) := by decide +kernel
theorem dX8_sizeOf_48 : decode cX8_sizeOf 48 = .ok (.invokevirtual 272, 3) := by decide +kernel
theorem dX8_sizeOf_51 : decode cX8_sizeOf 51 = .ok (.ineg, 1) := by decide +kernel
theorem dX8_sizeOf_52 : decode cX8_sizeOf 52 = .ok (.ireturn, 1) := by decide +kernel
theorem dX8_sizeOf_53 : decode cX8_sizeOf 53 = .ok (.aload_n 0, 1) := by decide +kernel
theorem dX8_sizeOf_54 : decode cX8_sizeOf 54 = .ok (.iload_n 1, 1) := by decide +kernel
theorem dX8_sizeOf_55 : decode cX8_sizeOf 55 = .ok (.invokevirtual 275, 3) := by decide +kernel
theorem dX8_sizeOf_58 : decode cX8_sizeOf 58 = .ok (.ireturn, 1) := by decide +kernel
theorem dX8_sizeOf_59 : decode cX8_sizeOf 59 = .ok (.aload_n 0, 1) := by decide +kernel
theorem dX8_sizeOf_60 : decode cX8_sizeOf 60 = .ok (.bipush 14, 2) := by decide +kernel
theorem dX8_sizeOf_62 : decode cX8_sizeOf 62 = .ok (.invokevirtual 257, 3) := by decide +kernel
theorem dX8_sizeOf_65 : decode cX8_sizeOf 65 = .ok (.iconst 2, 1) := by decide +kernel
theorem dX8_sizeOf_66 : decode cX8_sizeOf 66 = .ok (.aload_n 0, 1) := by decide +kernel
theorem dX8_sizeOf_67 : decode cX8_sizeOf 67 = .ok (.iload_n 1, 1) := by decide +kernel
theorem dX8_sizeOf_68 : decode cX8_sizeOf 68 = .ok (.invokevirtual 275, 3) := by decide +kernel
theorem dX8_sizeOf_71 : decode cX8_sizeOf 71 = .ok (.imul, 1) := by decide +kernel
theorem dX8_sizeOf_72 : decode cX8_sizeOf 72 = .ok (.ireturn, 1) := by decide +kernel
theorem dX8_sizeOf_73 : decode cX8_sizeOf 73 = .ok (.aload_n 0, 1) := by decide +kernel
theorem dX8_sizeOf_74 : decode cX8_sizeOf 74 = .ok (.iload_n 1, 1) := by decide +kernel
theorem dX8_sizeOf_75 : decode cX8_sizeOf 75 = .ok (.invokevirtual 272, 3) := by decide +kernel
theorem dX8_sizeOf_78 : decode cX8_sizeOf 78 = .ok (.ireturn, 1) := by decide +kernel
theorem dX8_markOf_0 : decode cX8_markOf 0 = .ok (.aload_n 0, 1) := by decide +kernel
theorem dX8_markOf_1 : decode cX8_markOf 1 = .ok (.getfield 7, 3) := by decide +kernel
theorem dX8_markOf_4 : decode cX8_markOf 4 = .ok (.bipush 21, 2) := by decide +kernel
theorem dX8_markOf_6 : decode cX8_markOf 6 = .ok (.iload_n 1, 1) := by decide +kernel
theorem dX8_markOf_7 : decode cX8_markOf 7 = .ok (.iadd, 1) := by decide +kernel
theorem dX8_markOf_8 : decode cX8_markOf 8 = .ok (.iaload, 1) := by decide +kernel
theorem dX8_markOf_9 : decode cX8_markOf 9 = .ok (.iconst 4, 1) := by decide +kernel
theorem dX8_markOf_10 : decode cX8_markOf 10 = .ok (.if_icmp .ge 9, 3) := by decide +kernel
theorem dX8_markOf_13 : decode cX8_markOf 13 = .ok (.aload_n 0, 1) := by decide +kernel
theorem dX8_markOf_14 : decode cX8_markOf 14 = .ok (.iload_n 1, 1) := by decide +kernel
theorem dX8_markOf_15 : decode cX8_markOf 15 = .ok (.invokevirtual 269, 3) := by decide +kernel
theorem dX8_markOf_18 : decode cX8_markOf 18 = .ok (.ireturn, 1) := by decide +kernel
theorem dX8_markOf_19 : decode cX8_markOf 19 = .ok (.aload_n 0, 1) := by decide +kernel
theorem dX8_markOf_20 : decode cX8_markOf 20 = .ok (.bipush 23, 2) := by decide +kernel
theorem dX8_markOf_22 : decode cX8_markOf 22 = .ok (.invokevirtual 257, 3) := by decide +kernel
theorem dX8_markOf_25 : decode cX8_markOf 25 = .ok (.aload_n 0, 1) := by decide +kernel
theorem dX8_markOf_26 : decode cX8_markOf 26 = .ok (.iload_n 1, 1) := by decide +kernel
theorem dX8_markOf_27 : decode cX8_markOf 27 = .ok (.invokevirtual 260, 3) := by decide +kernel
theorem dX8_markOf_30 : decode cX8_markOf 30 = .ok (.istore_n 2, 1) := by decide +kernel
theorem dX8_markOf_31 : decode cX8_markOf 31 = .ok (.iload_n 2, 1) := by decide +kernel
theorem dX8_markOf_32 : decode cX8_markOf 32 = .ok (.aload_n 0, 1) := by decide +kernel
theorem dX8_markOf_33 : decode cX8_markOf 33 = .ok (.iload_n 1, 1) := by decide +kernel
theorem dX8_markOf_34 : decode cX8_markOf 34 = .ok (.invokevirtual 278, 3) := by decide +kernel
theorem dX8_markOf_37 : decode cX8_markOf 37 = .ok (.isub, 1) := by decide +kernel
theorem dX8_markOf_38 : decode cX8_markOf 38 = .ok (.ireturn, 1) := by decide +kernel
theorem dX8_ask_0 : decode cX8_ask 0 = .ok (.aload_n 0, 1) := by decide +kernel
theorem dX8_ask_1 : decode cX8_ask 1 = .ok (.iload_n 1, 1) := by decide +kernel
theorem dX8_ask_2 : decode cX8_ask 2 = .ok (.invokevirtual 197, 3) := by decide +kernel
theorem dX8_ask_5 : decode cX8_ask 5 = .ok (.ifCond .eq 13, 3) := by decide +kernel
theorem dX8_ask_8 : decode cX8_ask 8 = .ok (.iload_n 2, 1) := by decide +kernel
theorem dX8_ask_9 : decode cX8_ask 9 = .ok (.i2l, 1) := by decide +kernel
theorem dX8_ask_10 : decode cX8_ask 10 = .ok (.lconst 0, 1) := by decide +kernel
theorem dX8_ask_11 : decode cX8_ask 11 = .ok (.lconst 1, 1) := by decide +kernel
theorem dX8_ask_12 : decode cX8_ask 12 = .ok (.invokestatic 60, 3) := by decide +kernel
theorem dX8_ask_15 : decode cX8_ask 15 = .ok (.ifCond .ne 6, 3) := by decide +kernel
theorem dX8_ask_18 : decode cX8_ask 18 = .ok (.ldc 70, 2) := by decide +kernel
theorem dX8_ask_20 : decode cX8_ask 20 = .ok (.ireturn, 1) := by decide +kernel
theorem dX8_ask_21 : decode cX8_ask 21 = .ok (.aload_n 0, 1) := by decide +kernel
theorem dX8_ask_22 : decode cX8_ask 22 = .ok (.iconst 0, 1) := by decide +kernel
theorem dX8_ask_23 : decode cX8_ask 23 = .ok (.putfield 251, 3) := by decide +kernel
theorem dX8_ask_26 : decode cX8_ask 26 = .ok (.iload_n 2, 1) := by decide +kernel
theorem dX8_ask_27 : decode cX8_ask 27 = .ok (.ifCond .ne 11, 3) := by decide +kernel
theorem dX8_ask_30 : decode cX8_ask 30 = .ok (.aload_n 0, 1) := by decide +kernel
theorem dX8_ask_31 : decode cX8_ask 31 = .ok (.iload_n 1, 1) := by decide +kernel
theorem dX8_ask_32 : decode cX8_ask 32 = .ok (.invokevirtual 278, 3) := by decide +kernel
theorem dX8_ask_35 : decode cX8_ask 35 = .ok (.goto 8, 3) := by decide +kernel
theorem dX8_ask_38 : decode cX8_ask 38 = .ok (.aload_n 0, 1) := by decide +kernel
theorem dX8_ask_39 : decode cX8_ask 39 = .ok (.iload_n 1, 1) := by decide +kernel
theorem dX8_ask_40 : decode cX8_ask 40 = .ok (.invokevirtual 281, 3) := by decide +kernel
theorem dX8_ask_43 : decode cX8_ask 43 = .ok (.ireturn, 1) := by decide +kernel
theorem dX8_trace_0 : decode cX8_trace 0 = .ok (.iload_n 1, 1) := by decide +kernel
theorem dX8_trace_1 : decode cX8_trace 1 = .ok (.i2l, 1) := by decide +kernel
theorem dX8_trace_2 : decode cX8_trace 2 = .ok (.lconst 0, 1) := by decide +kernel
theorem dX8_trace_3 : decode cX8_trace 3 = .ok (.aload_n 0, 1) := by decide +kernel
theorem dX8_trace_4 : decode cX8_trace 4 = .ok (.getfield 251, 3) := by decide +kernel
theorem dX8_trace_7 : decode cX8_trace 7 = .ok (.iconst 1, 1) := by decide +kernel
theorem dX8_trace_8 : decode cX8_trace 8 = .ok (.isub, 1) := by decide +kernel
theorem dX8_trace_9 : decode cX8_trace 9 = .ok (.i2l, 1) := by decide +kernel
theorem dX8_trace_10 : decode cX8_trace 10 = .ok (.invokestatic 60, 3) := by decide +kernel
theorem dX8_trace_13 : decode cX8_trace 13 = .ok (.ifCond .eq 12, 3) := by decide +kernel
theorem dX8_trace_16 : decode cX8_trace 16 = .ok (.aload_n 0, 1) := by decide +kernel
theorem dX8_trace_17 : decode cX8_trace 17 = .ok (.getfield 50, 3) := by decide +kernel
theorem dX8_trace_20 : decode cX8_trace 20 = .ok (.iload_n 1, 1) := by decide +kernel
theorem dX8_trace_21 : decode cX8_trace 21 = .ok (.iaload, 1) := by decide +kernel
theorem dX8_trace_22 : decode cX8_trace 22 = .ok (.goto 5, 3) := by decide +kernel
theorem dX8_trace_25 : decode cX8_trace 25 = .ok (.ldc 220, 2) := by decide +kernel
theorem dX8_trace_27 : decode cX8_trace 27 = .ok (.ireturn, 1) := by decide +kernel
theorem dX8_rowsMany_0 : decode cX8_rowsMany 0 = .ok (.iconst 0, 1) := by decide +kernel
theorem dX8_rowsMany_1 : decode cX8_rowsMany 1 = .ok (.istore_n 1, 1) := by decide +kernel
theorem dX8_rowsMany_2 : decode cX8_rowsMany 2 = .ok (.iconst 0, 1) := by decide +kernel
theorem dX8_rowsMany_3 : decode cX8_rowsMany 3 = .ok (.istore_n 2, 1) := by decide +kernel
theorem dX8_rowsMany_4 : decode cX8_rowsMany 4 = .ok (.iload_n 2, 1) := by decide +kernel
theorem dX8_rowsMany_5 : decode cX8_rowsMany 5 = .ok (.bipush 8, 2) := by decide +kernel
theorem dX8_rowsMany_7 : decode cX8_rowsMany 7 = .ok (.if_icmp .ge 26, 3) := by decide +kernel
theorem dX8_rowsMany_10 : decode cX8_rowsMany 10 = .ok (.iload_n 1, 1) := by decide +kernel
theorem dX8_rowsMany_11 : decode cX8_rowsMany 11 = .ok (.aload_n 0, 1) := by decide +kernel
theorem dX8_rowsMany_12 : decode cX8_rowsMany 12 = .ok (.getfield 17, 3) := by decide +kernel
theorem dX8_rowsMany_15 : decode cX8_rowsMany 15 = .ok (.iload_n 2, 1) := by decide +kernel
theorem dX8_rowsMany_16 : decode cX8_rowsMany 16 = .ok (.iaload, 1) := by decide +kernel
theorem dX8_rowsMany_17 : decode cX8_rowsMany 17 = .ok (.ifCond .ge 7, 3) := by decide +kernel
theorem dX8_rowsMany_20 : decode cX8_rowsMany 20 = .ok (.iconst 0, 1) := by decide +kernel
theorem dX8_rowsMany_21 : decode cX8_rowsMany 21 = .ok (.goto 4, 3) := by decide +kernel
theorem dX8_rowsMany_24 : decode cX8_rowsMany 24 = .ok (.iconst 1, 1) := by decide +kernel
theorem dX8_rowsMany_25 : decode cX8_rowsMany 25 = .ok (.iadd, 1) := by decide +kernel
theorem dX8_rowsMany_26 : decode cX8_rowsMany 26 = .ok (.istore_n 1, 1) := by decide +kernel
theorem dX8_rowsMany_27 : decode cX8_rowsMany 27 = .ok (.iinc 2 1, 3) := by decide +kernel
theorem dX8_rowsMany_30 : decode cX8_rowsMany 30 = .ok (.goto (-26), 3) := by decide +kernel
theorem dX8_rowsMany_33 : decode cX8_rowsMany 33 = .ok (.iload_n 1, 1) := by decide +kernel
theorem dX8_rowsMany_34 : decode cX8_rowsMany 34 = .ok (.ireturn, 1) := by decide +kernel
theorem dX8_count_0 : decode cX8_count 0 = .ok (.iload_n 1, 1) := by decide +kernel
theorem dX8_count_1 : decode cX8_count 1 = .ok (.tableswitch 108 0 8 #[51, 56, 63, 70, 78, 86, 91, 98, 103], 51) := by decide +kernel
theorem dX8_count_52 : decode cX8_count 52 = .ok (.aload_n 0, 1) := by decide +kernel
theorem dX8_count_53 : decode cX8_count 53 = .ok (.invokevirtual 284, 3) := by decide +kernel
theorem dX8_count_56 : decode cX8_count 56 = .ok (.ireturn, 1) := by decide +kernel
theorem dX8_count_57 : decode cX8_count 57 = .ok (.aload_n 0, 1) := by decide +kernel
theorem dX8_count_58 : decode cX8_count 58 = .ok (.getfield 7, 3) := by decide +kernel
theorem dX8_count_61 : decode cX8_count 61 = .ok (.iconst 5, 1) := by decide +kernel
theorem dX8_count_62 : decode cX8_count 62 = .ok (.iaload, 1) := by decide +kernel
theorem dX8_count_63 : decode cX8_count 63 = .ok (.ireturn, 1) := by decide +kernel
theorem dX8_count_64 : decode cX8_count 64 = .ok (.aload_n 0, 1) := by decide +kernel
theorem dX8_count_65 : decode cX8_count 65 = .ok (.getfield 7, 3) := by decide +kernel
theorem dX8_count_68 : decode cX8_count 68 = .ok (.iconst 4, 1) := by decide +kernel
theorem dX8_count_69 : decode cX8_count 69 = .ok (.iaload, 1) := by decide +kernel
theorem dX8_count_70 : decode cX8_count 70 = .ok (.ireturn, 1) := by decide +kernel
theorem dX8_count_71 : decode cX8_count 71 = .ok (.aload_n 0, 1) := by decide +kernel
theorem dX8_count_72 : decode cX8_count 72 = .ok (.getfield 7, 3) := by decide +kernel
theorem dX8_count_75 : decode cX8_count 75 = .ok (.bipush 6, 2) := by decide +kernel
theorem dX8_count_77 : decode cX8_count 77 = .ok (.iaload, 1) := by decide +kernel
theorem dX8_count_78 : decode cX8_count 78 = .ok (.ireturn, 1) := by decide +kernel
theorem dX8_count_79 : decode cX8_count 79 = .ok (.aload_n 0, 1) := by decide +kernel
theorem dX8_count_80 : decode cX8_count 80 = .ok (.getfield 7, 3) := by decide +kernel
theorem dX8_count_83 : decode cX8_count 83 = .ok (.bipush 7, 2) := by decide +kernel
theorem dX8_count_85 : decode cX8_count 85 = .ok (.iaload, 1) := by decide +kernel
theorem dX8_count_86 : decode cX8_count 86 = .ok (.ireturn, 1) := by decide +kernel
theorem dX8_count_87 : decode cX8_count 87 = .ok (.aload_n 0, 1) := by decide +kernel
theorem dX8_count_88 : decode cX8_count 88 = .ok (.invokevirtual 194, 3) := by decide +kernel
theorem dX8_count_91 : decode cX8_count 91 = .ok (.ireturn, 1) := by decide +kernel
theorem dX8_count_92 : decode cX8_count 92 = .ok (.aload_n 0, 1) := by decide +kernel
theorem dX8_count_93 : decode cX8_count 93 = .ok (.getfield 7, 3) := by decide +kernel
theorem dX8_count_96 : decode cX8_count 96 = .ok (.iconst 3, 1) := by decide +kernel
theorem dX8_count_97 : decode cX8_count 97 = .ok (.iaload, 1) := by decide +kernel
theorem dX8_count_98 : decode cX8_count 98 = .ok (.ireturn, 1) := by decide +kernel
theorem dX8_count_99 : decode cX8_count 99 = .ok (.aload_n 0, 1) := by decide +kernel
theorem dX8_count_100 : decode cX8_count 100 = .ok (.getfield 153, 3) := by decide +kernel
theorem dX8_count_103 : decode cX8_count 103 = .ok (.ireturn, 1) := by decide +kernel
theorem dX8_count_104 : decode cX8_count 104 = .ok (.aload_n 0, 1) := by decide +kernel
theorem dX8_count_105 : decode cX8_count 105 = .ok (.getfield 88, 3) := by decide +kernel
theorem dX8_count_108 : decode cX8_count 108 = .ok (.ireturn, 1) := by decide +kernel
theorem dX8_count_109 : decode cX8_count 109 = .ok (.ldc 70, 2) := by decide +kernel
theorem dX8_count_111 : decode cX8_count 111 = .ok (.ireturn, 1) := by decide +kernel
theorem dX8_status_0 : decode cX8_status 0 = .ok (.aload_n 0, 1) := by decide +kernel
theorem dX8_status_1 : decode cX8_status 1 = .ok (.getfield 53, 3) := by decide +kernel
theorem dX8_status_4 : decode cX8_status 4 = .ok (.ireturn, 1) := by decide +kernel
end
section
theorem dL_law_0 : decode cL_law 0 = .ok (.new 7, 3) := by decide +kernel
theorem dL_law_3 : decode cL_law 3 = .ok (.dup, 1) := by decide +kernel
theorem dL_law_4 : decode cL_law 4 = .ok (.invokespecial 9, 3) := by decide +kernel
theorem dL_law_7 : decode cL_law 7 = .ok (.astore_n 1, 1) := by decide +kernel
theorem dL_law_8 : decode cL_law 8 = .ok (.new 10, 3) := by decide +kernel
theorem dL_law_11 : decode cL_law 11 = .ok (.dup, 1) := by decide +kernel
theorem dL_law_12 : decode cL_law 12 = .ok (.invokespecial 12, 3) := by decide +kernel
theorem dL_law_15 : decode cL_law 15 = .ok (.astore_n 2, 1) := by decide +kernel
theorem dL_law_16 : decode cL_law 16 = .ok (.iconst 0, 1) := by decide +kernel
theorem dL_law_17 : decode cL_law 17 = .ok (.istore_n 3, 1) := by decide +kernel
theorem dL_law_18 : decode cL_law 18 = .ok (.iload_n 3, 1) := by decide +kernel
theorem dL_law_19 : decode cL_law 19 = .ok (.aload_n 0, 1) := by decide +kernel
theorem dL_law_20 : decode cL_law 20 = .ok (.arraylength, 1) := by decide +kernel
theorem dL_law_21 : decode cL_law 21 = .ok (.bipush 6, 2) := by decide +kernel
theorem dL_law_23 : decode cL_law 23 = .ok (.isub, 1) := by decide +kernel
theorem dL_law_24 : decode cL_law 24 = .ok (.if_icmp .gt 1336, 3) := by decide +kernel
theorem dL_law_27 : decode cL_law 27 = .ok (.aload_n 0, 1) := by decide +kernel
theorem dL_law_28 : decode cL_law 28 = .ok (.iload_n 3, 1) := by decide +kernel
theorem dL_law_29 : decode cL_law 29 = .ok (.iaload, 1) := by decide +kernel
theorem dL_law_30 : decode cL_law 30 = .ok (.bipush 63, 2) := by decide +kernel
theorem dL_law_32 : decode cL_law 32 = .ok (.iand, 1) := by decide +kernel
theorem dL_law_33 : decode cL_law 33 = .ok (.tableswitch 1321 0 37 #[167, 210, 253, 316, 339, 362, 375, 388, 401, 424, 457, 500, 523, 546, 579, 612, 635, 668, 681, 704, 737, 800, 833, 856, 879, 902, 955, 1008, 1041, 1084, 1127, 1150, 1173, 1196, 1229, 1262, 1285, 1308], 167) := by decide +kernel
theorem dL_law_200 : decode cL_law 200 = .ok (.aload_n 1, 1) := by decide +kernel
theorem dL_law_201 : decode cL_law 201 = .ok (.aload_n 0, 1) := by decide +kernel
theorem dL_law_202 : decode cL_law 202 = .ok (.iload_n 3, 1) := by decide +kernel
theorem dL_law_203 : decode cL_law 203 = .ok (.iconst 1, 1) := by decide +kernel
theorem dL_law_204 : decode cL_law 204 = .ok (.iadd, 1) := by decide +kernel
theorem dL_law_205 : decode cL_law 205 = .ok (.iaload, 1) := by decide +kernel
theorem dL_law_206 : decode cL_law 206 = .ok (.aload_n 0, 1) := by decide +kernel
theorem dL_law_207 : decode cL_law 207 = .ok (.iload_n 3, 1) := by decide +kernel
theorem dL_law_208 : decode cL_law 208 = .ok (.iconst 2, 1) := by decide +kernel
theorem dL_law_209 : decode cL_law 209 = .ok (.iadd, 1) := by decide +kernel
theorem dL_law_210 : decode cL_law 210 = .ok (.iaload, 1) := by decide +kernel
theorem dL_law_211 : decode cL_law 211 = .ok (.aload_n 0, 1) := by decide +kernel
theorem dL_law_212 : decode cL_law 212 = .ok (.iload_n 3, 1) := by decide +kernel
theorem dL_law_213 : decode cL_law 213 = .ok (.iconst 3, 1) := by decide +kernel
theorem dL_law_214 : decode cL_law 214 = .ok (.iadd, 1) := by decide +kernel
theorem dL_law_215 : decode cL_law 215 = .ok (.iaload, 1) := by decide +kernel
theorem dL_law_216 : decode cL_law 216 = .ok (.invokevirtual 13, 3) := by decide +kernel
theorem dL_law_219 : decode cL_law 219 = .ok (.aload_n 2, 1) := by decide +kernel
theorem dL_law_220 : decode cL_law 220 = .ok (.aload_n 0, 1) := by decide +kernel
theorem dL_law_221 : decode cL_law 221 = .ok (.iload_n 3, 1) := by decide +kernel
theorem dL_law_222 : decode cL_law 222 = .ok (.iconst 1, 1) := by decide +kernel
theorem dL_law_223 : decode cL_law 223 = .ok (.iadd, 1) := by decide +kernel
theorem dL_law_224 : decode cL_law 224 = .ok (.iaload, 1) := by decide +kernel
theorem dL_law_225 : decode cL_law 225 = .ok (.aload_n 0, 1) := by decide +kernel
theorem dL_law_226 : decode cL_law 226 = .ok (.iload_n 3, 1) := by decide +kernel
theorem dL_law_227 : decode cL_law 227 = .ok (.iconst 2, 1) := by decide +kernel
theorem dL_law_228 : decode cL_law 228 = .ok (.iadd, 1) := by decide +kernel
theorem dL_law_229 : decode cL_law 229 = .ok (.iaload, 1) := by decide +kernel
theorem dL_law_230 : decode cL_law 230 = .ok (.aload_n 0, 1) := by decide +kernel
theorem dL_law_231 : decode cL_law 231 = .ok (.iload_n 3, 1) := by decide +kernel
theorem dL_law_232 : decode cL_law 232 = .ok (.iconst 3, 1) := by decide +kernel
theorem dL_law_233 : decode cL_law 233 = .ok (.iadd, 1) := by decide +kernel
theorem dL_law_234 : decode cL_law 234 = .ok (.iaload, 1) := by decide +kernel
theorem dL_law_235 : decode cL_law 235 = .ok (.invokevirtual 17, 3) := by decide +kernel
theorem dL_law_238 : decode cL_law 238 = .ok (.if_icmp .eq 1116, 3) := by decide +kernel
theorem dL_law_241 : decode cL_law 241 = .ok (.iconst 0, 1) := by decide +kernel
theorem dL_law_242 : decode cL_law 242 = .ok (.ireturn, 1) := by decide +kernel
theorem dL_law_243 : decode cL_law 243 = .ok (.aload_n 1, 1) := by decide +kernel
theorem dL_law_244 : decode cL_law 244 = .ok (.aload_n 0, 1) := by decide +kernel
theorem dL_law_245 : decode cL_law 245 = .ok (.iload_n 3, 1) := by decide +kernel
theorem dL_law_246 : decode cL_law 246 = .ok (.iconst 1, 1) := by decide +kernel
theorem dL_law_247 : decode cL_law 247 = .ok (.iadd, 1) := by decide +kernel
theorem dL_law_248 : decode cL_law 248 = .ok (.iaload, 1) := by decide +kernel
theorem dL_law_249 : decode cL_law 249 = .ok (.aload_n 0, 1) := by decide +kernel
theorem dL_law_250 : decode cL_law 250 = .ok (.iload_n 3, 1) := by decide +kernel
theorem dL_law_251 : decode cL_law 251 = .ok (.iconst 2, 1) := by decide +kernel
theorem dL_law_252 : decode cL_law 252 = .ok (.iadd, 1) := by decide +kernel
theorem dL_law_253 : decode cL_law 253 = .ok (.iaload, 1) := by decide +kernel
theorem dL_law_254 : decode cL_law 254 = .ok (.aload_n 0, 1) := by decide +kernel
theorem dL_law_255 : decode cL_law 255 = .ok (.iload_n 3, 1) := by decide +kernel
theorem dL_law_256 : decode cL_law 256 = .ok (.iconst 3, 1) := by decide +kernel
theorem dL_law_257 : decode cL_law 257 = .ok (.iadd, 1) := by decide +kernel
theorem dL_law_258 : decode cL_law 258 = .ok (.iaload, 1) := by decide +kernel
theorem dL_law_259 : decode cL_law 259 = .ok (.invokevirtual 18, 3) := by decide +kernel
theorem dL_law_262 : decode cL_law 262 = .ok (.aload_n 2, 1) := by decide +kernel
theorem dL_law_263 : decode cL_law 263 = .ok (.aload_n 0, 1) := by decide +kernel
theorem dL_law_264 : decode cL_law 264 = .ok (.iload_n 3, 1) := by decide +kernel
theorem dL_law_265 : decode cL_law 265 = .ok (.iconst 1, 1) := by decide +kernel
theorem dL_law_266 : decode cL_law 266 = .ok (.iadd, 1) := by decide +kernel
theorem dL_law_267 : decode cL_law 267 = .ok (.iaload, 1) := by decide +kernel
theorem dL_law_268 : decode cL_law 268 = .ok (.aload_n 0, 1) := by decide +kernel
theorem dL_law_269 : decode cL_law 269 = .ok (.iload_n 3, 1) := by decide +kernel
theorem dL_law_270 : decode cL_law 270 = .ok (.iconst 2, 1) := by decide +kernel
theorem dL_law_271 : decode cL_law 271 = .ok (.iadd, 1) := by decide +kernel
theorem dL_law_272 : decode cL_law 272 = .ok (.iaload, 1) := by decide +kernel
theorem dL_law_273 : decode cL_law 273 = .ok (.aload_n 0, 1) := by decide +kernel
theorem dL_law_274 : decode cL_law 274 = .ok (.iload_n 3, 1) := by decide +kernel
theorem dL_law_275 : decode cL_law 275 = .ok (.iconst 3, 1) := by decide +kernel
theorem dL_law_276 : decode cL_law 276 = .ok (.iadd, 1) := by decide +kernel
theorem dL_law_277 : decode cL_law 277 = .ok (.iaload, 1) := by decide +kernel
theorem dL_law_278 : decode cL_law 278 = .ok (.invokevirtual 21, 3) := by decide +kernel
theorem dL_law_281 : decode cL_law 281 = .ok (.if_icmp .eq 1073, 3) := by decide +kernel
theorem dL_law_284 : decode cL_law 284 = .ok (.iconst 0, 1) := by decide +kernel
theorem dL_law_285 : decode cL_law 285 = .ok (.ireturn, 1) := by decide +kernel
theorem dL_law_286 : decode cL_law 286 = .ok (.aload_n 1, 1) := by decide +kernel
theorem dL_law_287 : decode cL_law 287 = .ok (.aload_n 0, 1) := by decide +kernel
theorem dL_law_288 : decode cL_law 288 = .ok (.iload_n 3, 1) := by decide +kernel
theorem dL_law_289 : decode cL_law 289 = .ok (.iconst 1, 1) := by decide +kernel
theorem dL_law_290 : decode cL_law 290 = .ok (.iadd, 1) := by decide +kernel
theorem dL_law_291 : decode cL_law 291 = .ok (.iaload, 1) := by decide +kernel
theorem dL_law_292 : decode cL_law 292 = .ok (.aload_n 0, 1) := by decide +kernel
theorem dL_law_293 : decode cL_law 293 = .ok (.iload_n 3, 1) := by decide +kernel
theorem dL_law_294 : decode cL_law 294 = .ok (.iconst 2, 1) := by decide +kernel
theorem dL_law_295 : decode cL_law 295 = .ok (.iadd, 1) := by decide +kernel
theorem dL_law_296 : decode cL_law 296 = .ok (.iaload, 1) := by decide +kernel
theorem dL_law_297 : decode cL_law 297 = .ok (.aload_n 0, 1) := by decide +kernel
theorem dL_law_298 : decode cL_law 298 = .ok (.iload_n 3, 1) := by decide +kernel
theorem dL_law_299 : decode cL_law 299 = .ok (.iconst 3, 1) := by decide +kernel
theorem dL_law_300 : decode cL_law 300 = .ok (.iadd, 1) := by decide +kernel
theorem dL_law_301 : decode cL_law 301 = .ok (.iaload, 1) := by decide +kernel
theorem dL_law_302 : decode cL_law 302 = .ok (.aload_n 0, 1) := by decide +kernel
theorem dL_law_303 : decode cL_law 303 = .ok (.iload_n 3, 1) := by decide +kernel
theorem dL_law_304 : decode cL_law 304 = .ok (.iconst 4, 1) := by decide +kernel
theorem dL_law_305 : decode cL_law 305 = .ok (.iadd, 1) := by decide +kernel
theorem dL_law_306 : decode cL_law 306 = .ok (.iaload, 1) := by decide +kernel
theorem dL_law_307 : decode cL_law 307 = .ok (.aload_n 0, 1) := by decide +kernel
theorem dL_law_308 : decode cL_law 308 = .ok (.iload_n 3, 1) := by decide +kernel
theorem dL_law_309 : decode cL_law 309 = .ok (.iconst 5, 1) := by decide +kernel
theorem dL_law_310 : decode cL_law 310 = .ok (.iadd, 1) := by decide +kernel
theorem dL_law_311 : decode cL_law 311 = .ok (.iaload, 1) := by decide +kernel
theorem dL_law_312 : decode cL_law 312 = .ok (.invokevirtual 22, 3) := by decide +kernel
theorem dL_law_315 : decode cL_law 315 = .ok (.aload_n 2, 1) := by decide +kernel
theorem dL_law_316 : decode cL_law 316 = .ok (.aload_n 0, 1) := by decide +kernel
theorem dL_law_317 : decode cL_law 317 = .ok (.iload_n 3, 1) := by decide +kernel
theorem dL_law_318 : decode cL_law 318 = .ok (.iconst 1, 1) := by decide +kernel
theorem dL_law_319 : decode cL_law 319 = .ok (.iadd, 1) := by decide +kernel
theorem dL_law_320 : decode cL_law 320 = .ok (.iaload, 1) := by decide +kernel
theorem dL_law_321 : decode cL_law 321 = .ok (.aload_n 0, 1) := by decide +kernel
theorem dL_law_322 : decode cL_law 322 = .ok (.iload_n 3, 1) := by decide +kernel
theorem dL_law_323 : decode cL_law 323 = .ok (.iconst 2, 1) := by decide +kernel
theorem dL_law_324 : decode cL_law 324 = .ok (.iadd, 1) := by decide +kernel
theorem dL_law_325 : decode cL_law 325 = .ok (.iaload, 1) := by decide +kernel
theorem dL_law_326 : decode cL_law 326 = .ok (.aload_n 0, 1) := by decide +kernel
theorem dL_law_327 : decode cL_law 327 = .ok (.iload_n 3, 1) := by decide +kernel
theorem dL_law_328 : decode cL_law 328 = .ok (.iconst 3, 1) := by decide +kernel
theorem dL_law_329 : decode cL_law 329 = .ok (.iadd, 1) := by decide +kernel
theorem dL_law_330 : decode cL_law 330 = .ok (.iaload, 1) := by decide +kernel
theorem dL_law_331 : decode cL_law 331 = .ok (.aload_n 0, 1) := by decide +kernel
theorem dL_law_332 : decode cL_law 332 = .ok (.iload_n 3, 1) := by decide +kernel
theorem dL_law_333 : decode cL_law 333 = .ok (.iconst 4, 1) := by decide +kernel
theorem dL_law_334 : decode cL_law 334 = .ok (.iadd, 1) := by decide +kernel
theorem dL_law_335 : decode cL_law 335 = .ok (.iaload, 1) := by decide +kernel
theorem dL_law_336 : decode cL_law 336 = .ok (.aload_n 0, 1) := by decide +kernel
theorem dL_law_337 : decode cL_law 337 = .ok (.iload_n 3, 1) := by decide +kernel
theorem dL_law_338 : decode cL_law 338 = .ok (.iconst 5, 1) := by decide +kernel
theorem dL_law_339 : decode cL_law 339 = .ok (.iadd, 1) := by decide +kernel
theorem dL_law_340 : decode cL_law 340 = .ok (.iaload, 1) := by decide +kernel
theorem dL_law_341 : decode cL_law 341 = .ok (.invokevirtual 26, 3) := by decide +kernel
theorem dL_law_344 : decode cL_law 344 = .ok (.if_icmp .eq 1010, 3) := by decide +kernel
theorem dL_law_347 : decode cL_law 347 = .ok (.iconst 0, 1) := by decide +kernel
theorem dL_law_348 : decode cL_law 348 = .ok (.ireturn, 1) := by decide +kernel
theorem dL_law_349 : decode cL_law 349 = .ok (.aload_n 1, 1) := by decide +kernel
theorem dL_law_350 : decode cL_law 350 = .ok (.aload_n 0, 1) := by decide +kernel
theorem dL_law_351 : decode cL_law 351 = .ok (.iload_n 3, 1) := by decide +kernel
theorem dL_law_352 : decode cL_law 352 = .ok (.iconst 1, 1) := by decide +kernel
theorem dL_law_353 : decode cL_law 353 = .ok (.iadd, 1) := by decide +kernel
theorem dL_law_354 : decode cL_law 354 = .ok (.iaload, 1) := by decide +kernel
theorem dL_law_355 : decode cL_law 355 = .ok (.invokevirtual 27, 3) := by decide +kernel
theorem dL_law_358 : decode cL_law 358 = .ok (.aload_n 2, 1) := by decide +kernel
theorem dL_law_359 : decode cL_law 359 = .ok (.aload_n 0, 1) := by decide +kernel
theorem dL_law_360 : decode cL_law 360 = .ok (.iload_n 3, 1) := by decide +kernel
theorem dL_law_361 : decode cL_law 361 = .ok (.iconst 1, 1) := by decide +kernel
theorem dL_law_362 : decode cL_law 362 = .ok (.iadd, 1) := by decide +kernel
theorem dL_law_363 : decode cL_law 363 = .ok (.iaload, 1) := by decide +kernel
theorem dL_law_364 : decode cL_law 364 = .ok (.invokevirtual 31, 3) := by decide +kernel
theorem dL_law_367 : decode cL_law 367 = .ok (.if_icmp .eq 987, 3) := by decide +kernel
theorem dL_law_370 : decode cL_law 370 = .ok (.iconst 0, 1) := by decide +kernel
theorem dL_law_371 : decode cL_law 371 = .ok (.ireturn, 1) := by decide +kernel
theorem dL_law_372 : decode cL_law 372 = .ok (.aload_n 1, 1) := by decide +kernel
theorem dL_law_373 : decode cL_law 373 = .ok (.aload_n 0, 1) := by decide +kernel
theorem dL_law_374 : decode cL_law 374 = .ok (.iload_n 3, 1) := by decide +kernel
theorem dL_law_375 : decode cL_law 375 = .ok (.iconst 1, 1) := by decide +kernel
theorem dL_law_376 : decode cL_law 376 = .ok (.iadd, 1) := by decide +kernel
theorem dL_law_377 : decode cL_law 377 = .ok (.iaload, 1) := by decide +kernel
theorem dL_law_378 : decode cL_law 378 = .ok (.invokevirtual 32, 3) := by decide +kernel
theorem dL_law_381 : decode cL_law 381 = .ok (.aload_n 2, 1) := by decide +kernel
theorem dL_law_382 : decode cL_law 382 = .ok (.aload_n 0, 1) := by decide +kernel
theorem dL_law_383 : decode cL_law 383 = .ok (.iload_n 3, 1) := by decide +kernel
theorem dL_law_384 : decode cL_law 384 = .ok (.iconst 1, 1) := by decide +kernel
theorem dL_law_385 : decode cL_law 385 = .ok (.iadd, 1) := by decide +kernel
theorem dL_law_386 : decode cL_law 386 = .ok (.iaload, 1) := by decide +kernel
theorem dL_law_387 : decode cL_law 387 = .ok (.invokevirtual 35, 3) := by decide +kernel
theorem dL_law_390 : decode cL_law 390 = .ok (.if_icmp .eq 964, 3) := by decide +kernel
theorem dL_law_393 : decode cL_law 393 = .ok (.iconst 0, 1) := by decide +kernel
theorem dL_law_394 : decode cL_law 394 = .ok (.ireturn, 1) := by decide +kernel
theorem dL_law_395 : decode cL_law 395 = .ok (.aload_n 1, 1) := by decide +kernel
theorem dL_law_396 : decode cL_law 396 = .ok (.invokevirtual 36, 3) := by decide +kernel
theorem dL_law_399 : decode cL_law 399 = .ok (.aload_n 2, 1) := by decide +kernel
theorem dL_law_400 : decode cL_law 400 = .ok (.invokevirtual 40, 3) := by decide +kernel
theorem dL_law_403 : decode cL_law 403 = .ok (.if_icmp .eq 951, 3) := by decide +kernel
theorem dL_law_406 : decode cL_law 406 = .ok (.iconst 0, 1) := by decide +kernel
theorem dL_law_407 : decode cL_law 407 = .ok (.ireturn, 1) := by decide +kernel
theorem dL_law_408 : decode cL_law 408 = .ok (.aload_n 1, 1) := by decide +kernel
theorem dL_law_409 : decode cL_law 409 = .ok (.invokevirtual 41, 3) := by decide +kernel
theorem dL_law_412 : decode cL_law 412 = .ok (.aload_n 2, 1) := by decide +kernel
theorem dL_law_413 : decode cL_law 413 = .ok (.invokevirtual 44, 3) := by decide +kernel
theorem dL_law_416 : decode cL_law 416 = .ok (.if_icmp .eq 938, 3) := by decide +kernel
theorem dL_law_419 : decode cL_law 419 = .ok (.iconst 0, 1) := by decide +kernel
theorem dL_law_420 : decode cL_law 420 = .ok (.ireturn, 1) := by decide +kernel
theorem dL_law_421 : decode cL_law 421 = .ok (.aload_n 1, 1) := by decide +kernel
theorem dL_law_422 : decode cL_law 422 = .ok (.invokevirtual 45, 3) := by decide +kernel
theorem dL_law_425 : decode cL_law 425 = .ok (.aload_n 2, 1) := by decide +kernel
theorem dL_law_426 : decode cL_law 426 = .ok (.invokevirtual 48, 3) := by decide +kernel
theorem dL_law_429 : decode cL_law 429 = .ok (.if_icmp .eq 925, 3) := by decide +kernel
theorem dL_law_432 : decode cL_law 432 = .ok (.iconst 0, 1) := by decide +kernel
theorem dL_law_433 : decode cL_law 433 = .ok (.ireturn, 1) := by decide +kernel
theorem dL_law_434 : decode cL_law 434 = .ok (.aload_n 1, 1) := by decide +kernel
theorem dL_law_435 : decode cL_law 435 = .ok (.aload_n 0, 1) := by decide +kernel
theorem dL_law_436 : decode cL_law 436 = .ok (.iload_n 3, 1) := by decide +kernel
theorem dL_law_437 : decode cL_law 437 = .ok (.iconst 1, 1) := by decide +kernel
theorem dL_law_438 : decode cL_law 438 = .ok (.iadd, 1) := by decide +kernel
theorem dL_law_439 : decode cL_law 439 = .ok (.iaload, 1) := by decide +kernel
theorem dL_law_440 : decode cL_law 440 = .ok (.invokevirtual 49, 3) := by decide +kernel
theorem dL_law_443 : decode cL_law 443 = .ok (.aload_n 2, 1) := by decide +kernel
theorem dL_law_444 : decode cL_law 444 = .ok (.aload_n 0, 1) := by decide +kernel
theorem dL_law_445 : decode cL_law 445 = .ok (.iload_n 3, 1) := by decide +kernel
theorem dL_law_446 : decode cL_law 446 = .ok (.iconst 1, 1) := by decide +kernel
theorem dL_law_447 : decode cL_law 447 = .ok (.iadd, 1) := by decide +kernel
theorem dL_law_448 : decode cL_law 448 = .ok (.iaload, 1) := by decide +kernel
theorem dL_law_449 : decode cL_law 449 = .ok (.invokevirtual 52, 3) := by decide +kernel
theorem dL_law_452 : decode cL_law 452 = .ok (.if_icmp .eq 902, 3) := by decide +kernel
theorem dL_law_455 : decode cL_law 455 = .ok (.iconst 0, 1) := by decide +kernel
theorem dL_law_456 : decode cL_law 456 = .ok (.ireturn, 1) := by decide +kernel
theorem dL_law_457 : decode cL_law 457 = .ok (.aload_n 1, 1) := by decide +kernel
theorem dL_law_458 : decode cL_law 458 = .ok (.aload_n 0, 1) := by decide +kernel
theorem dL_law_459 : decode cL_law 459 = .ok (.iload_n 3, 1) := by decide +kernel
theorem dL_law_460 : decode cL_law 460 = .ok (.iconst 1, 1) := by decide +kernel
theorem dL_law_461 : decode cL_law 461 = .ok (.iadd, 1) := by decide +kernel
theorem dL_law_462 : decode cL_law 462 = .ok (.iaload, 1) := by decide +kernel
theorem dL_law_463 : decode cL_law 463 = .ok (.aload_n 0, 1) := by decide +kernel
theorem dL_law_464 : decode cL_law 464 = .ok (.iload_n 3, 1) := by decide +kernel
theorem dL_law_465 : decode cL_law 465 = .ok (.iconst 2, 1) := by decide +kernel
theorem dL_law_466 : decode cL_law 466 = .ok (.iadd, 1) := by decide +kernel
theorem dL_law_467 : decode cL_law 467 = .ok (.iaload, 1) := by decide +kernel
theorem dL_law_468 : decode cL_law 468 = .ok (.invokevirtual 53, 3) := by decide +kernel
theorem dL_law_471 : decode cL_law 471 = .ok (.aload_n 2, 1) := by decide +kernel
theorem dL_law_472 : decode cL_law 472 = .ok (.aload_n 0, 1) := by decide +kernel
theorem dL_law_473 : decode cL_law 473 = .ok (.iload_n 3, 1) := by decide +kernel
theorem dL_law_474 : decode cL_law 474 = .ok (.iconst 1, 1) := by decide +kernel
theorem dL_law_475 : decode cL_law 475 = .ok (.iadd, 1) := by decide +kernel
theorem dL_law_476 : decode cL_law 476 = .ok (.iaload, 1) := by decide +kernel
theorem dL_law_477 : decode cL_law 477 = .ok (.aload_n 0, 1) := by decide +kernel
theorem dL_law_478 : decode cL_law 478 = .ok (.iload_n 3, 1) := by decide +kernel
theorem dL_law_479 : decode cL_law 479 = .ok (.iconst 2, 1) := by decide +kernel
theorem dL_law_480 : decode cL_law 480 = .ok (.iadd, 1) := by decide +kernel
theorem dL_law_481 : decode cL_law 481 = .ok (.iaload, 1) := by decide +kernel
theorem dL_law_482 : decode cL_law 482 = .ok (.invokevirtual 57, 3) := by decide +kernel
theorem dL_law_485 : decode cL_law 485 = .ok (.if_icmp .eq 869, 3) := by decide +kernel
theorem dL_law_488 : decode cL_law 488 = .ok (.iconst 0, 1) := by decide +kernel
theorem dL_law_489 : decode cL_law 489 = .ok (.ireturn, 1) := by decide +kernel
theorem dL_law_490 : decode cL_law 490 = .ok (.aload_n 1, 1) := by decide +kernel
theorem dL_law_491 : decode cL_law 491 = .ok (.aload_n 0, 1) := by decide +kernel
theorem dL_law_492 : decode cL_law 492 = .ok (.iload_n 3, 1) := by decide +kernel
theorem dL_law_493 : decode cL_law 493 = .ok (.iconst 1, 1) := by decide +kernel
theorem dL_law_494 : decode cL_law 494 = .ok (.iadd, 1) := by decide +kernel
theorem dL_law_495 : decode cL_law 495 = .ok (.iaload, 1) := by decide +kernel
theorem dL_law_496 : decode cL_law 496 = .ok (.aload_n 0, 1) := by decide +kernel
theorem dL_law_497 : decode cL_law 497 = .ok (.iload_n 3, 1) := by decide +kernel
theorem dL_law_498 : decode cL_law 498 = .ok (.iconst 2, 1) := by decide +kernel
theorem dL_law_499 : decode cL_law 499 = .ok (.iadd, 1) := by decide +kernel
theorem dL_law_500 : decode cL_law 500 = .ok (.iaload, 1) := by decide +kernel
theorem dL_law_501 : decode cL_law 501 = .ok (.aload_n 0, 1) := by decide +kernel
theorem dL_law_502 : decode cL_law 502 = .ok (.iload_n 3, 1) := by decide +kernel
theorem dL_law_503 : decode cL_law 503 = .ok (.iconst 3, 1) := by decide +kernel
theorem dL_law_504 : decode cL_law 504 = .ok (.iadd, 1) := by decide +kernel
theorem dL_law_505 : decode cL_law 505 = .ok (.iaload, 1) := by decide +kernel
theorem dL_law_506 : decode cL_law 506 = .ok (.invokevirtual 58, 3) := by decide +kernel
theorem dL_law_509 : decode cL_law 509 = .ok (.aload_n 2, 1) := by decide +kernel
theorem dL_law_510 : decode cL_law 510 = .ok (.aload_n 0, 1) := by decide +kernel
theorem dL_law_511 : decode cL_law 511 = .ok (.iload_n 3, 1) := by decide +kernel
theorem dL_law_512 : decode cL_law 512 = .ok (.iconst 1, 1) := by decide +kernel
theorem dL_law_513 : decode cL_law 513 = .ok (.iadd, 1) := by decide +kernel
theorem dL_law_514 : decode cL_law 514 = .ok (.iaload, 1) := by decide +kernel
theorem dL_law_515 : decode cL_law 515 = .ok (.aload_n 0, 1) := by decide +kernel
theorem dL_law_516 : decode cL_law 516 = .ok (.iload_n 3, 1) := by decide +kernel
theorem dL_law_517 : decode cL_law 517 = .ok (.iconst 2, 1) := by decide +kernel
theorem dL_law_518 : decode cL_law 518 = .ok (.iadd, 1) := by decide +kernel
theorem dL_law_519 : decode cL_law 519 = .ok (.iaload, 1) := by decide +kernel
theorem dL_law_520 : decode cL_law 520 = .ok (.aload_n 0, 1) := by decide +kernel
theorem dL_law_521 : decode cL_law 521 = .ok (.iload_n 3, 1) := by decide +kernel
theorem dL_law_522 : decode cL_law 522 = .ok (.iconst 3, 1) := by decide +kernel
theorem dL_law_523 : decode cL_law 523 = .ok (.iadd, 1) := by decide +kernel
theorem dL_law_524 : decode cL_law 524 = .ok (.iaload, 1) := by decide +kernel
theorem dL_law_525 : decode cL_law 525 = .ok (.invokevirtual 61, 3) := by decide +kernel
theorem dL_law_528 : decode cL_law 528 = .ok (.if_icmp .eq 826, 3) := by decide +kernel
theorem dL_law_531 : decode cL_law 531 = .ok (.iconst 0, 1) := by decide +kernel
theorem dL_law_532 : decode cL_law 532 = .ok (.ireturn, 1) := by decide +kernel
theorem dL_law_533 : decode cL_law 533 = .ok (.aload_n 1, 1) := by decide +kernel
theorem dL_law_534 : decode cL_law 534 = .ok (.aload_n 0, 1) := by decide +kernel
theorem dL_law_535 : decode cL_law 535 = .ok (.iload_n 3, 1) := by decide +kernel
theorem dL_law_536 : decode cL_law 536 = .ok (.iconst 1, 1) := by decide +kernel
theorem dL_law_537 : decode cL_law 537 = .ok (.iadd, 1) := by decide +kernel
theorem dL_law_538 : decode cL_law 538 = .ok (.iaload, 1) := by decide +kernel
theorem dL_law_539 : decode cL_law 539 = .ok (.invokevirtual 62, 3) := by decide +kernel
theorem dL_law_542 : decode cL_law 542 = .ok (.aload_n 2, 1) := by decide +kernel
theorem dL_law_543 : decode cL_law 543 = .ok (.aload_n 0, 1) := by decide +kernel
theorem dL_law_544 : decode cL_law 544 = .ok (.iload_n 3, 1) := by decide +kernel
theorem dL_law_545 : decode cL_law 545 = .ok (.iconst 1, 1) := by decide +kernel
theorem dL_law_546 : decode cL_law 546 = .ok (.iadd, 1) := by decide +kernel
theorem dL_law_547 : decode cL_law 547 = .ok (.iaload, 1) := by decide +kernel
theorem dL_law_548 : decode cL_law 548 = .ok (.invokevirtual 65, 3) := by decide +kernel
theorem dL_law_551 : decode cL_law 551 = .ok (.if_icmp .eq 803, 3) := by decide +kernel
theorem dL_law_554 : decode cL_law 554 = .ok (.iconst 0, 1) := by decide +kernel
theorem dL_law_555 : decode cL_law 555 = .ok (.ireturn, 1) := by decide +kernel
theorem dL_law_556 : decode cL_law 556 = .ok (.aload_n 1, 1) := by decide +kernel
theorem dL_law_557 : decode cL_law 557 = .ok (.aload_n 0, 1) := by decide +kernel
theorem dL_law_558 : decode cL_law 558 = .ok (.iload_n 3, 1) := by decide +kernel
theorem dL_law_559 : decode cL_law 559 = .ok (.iconst 1, 1) := by decide +kernel
theorem dL_law_560 : decode cL_law 560 = .ok (.iadd, 1) := by decide +kernel
theorem dL_law_561 : decode cL_law 561 = .ok (.iaload, 1) := by decide +kernel
theorem dL_law_562 : decode cL_law 562 = .ok (.invokevirtual 66, 3) := by decide +kernel
theorem dL_law_565 : decode cL_law 565 = .ok (.aload_n 2, 1) := by decide +kernel
theorem dL_law_566 : decode cL_law 566 = .ok (.aload_n 0, 1) := by decide +kernel
theorem dL_law_567 : decode cL_law 567 = .ok (.iload_n 3, 1) := by decide +kernel
theorem dL_law_568 : decode cL_law 568 = .ok (.iconst 1, 1) := by decide +kernel
theorem dL_law_569 : decode cL_law 569 = .ok (.iadd, 1) := by decide +kernel
theorem dL_law_570 : decode cL_law 570 = .ok (.iaload, 1) := by decide +kernel
theorem dL_law_571 : decode cL_law 571 = .ok (.invokevirtual 69, 3) := by decide +kernel
theorem dL_law_574 : decode cL_law 574 = .ok (.if_icmp .eq 780, 3) := by decide +kernel
theorem dL_law_577 : decode cL_law 577 = .ok (.iconst 0, 1) := by decide +kernel
theorem dL_law_578 : decode cL_law 578 = .ok (.ireturn, 1) := by decide +kernel
theorem dL_law_579 : decode cL_law 579 = .ok (.aload_n 1, 1) := by decide +kernel
theorem dL_law_580 : decode cL_law 580 = .ok (.aload_n 0, 1) := by decide +kernel
theorem dL_law_581 : decode cL_law 581 = .ok (.iload_n 3, 1) := by decide +kernel
theorem dL_law_582 : decode cL_law 582 = .ok (.iconst 1, 1) := by decide +kernel
theorem dL_law_583 : decode cL_law 583 = .ok (.iadd, 1) := by decide +kernel
theorem dL_law_584 : decode cL_law 584 = .ok (.iaload, 1) := by decide +kernel
theorem dL_law_585 : decode cL_law 585 = .ok (.aload_n 0, 1) := by decide +kernel
theorem dL_law_586 : decode cL_law 586 = .ok (.iload_n 3, 1) := by decide +kernel
theorem dL_law_587 : decode cL_law 587 = .ok (.iconst 2, 1) := by decide +kernel
theorem dL_law_588 : decode cL_law 588 = .ok (.iadd, 1) := by decide +kernel
theorem dL_law_589 : decode cL_law 589 = .ok (.iaload, 1) := by decide +kernel
theorem dL_law_590 : decode cL_law 590 = .ok (.invokevirtual 70, 3) := by decide +kernel
theorem dL_law_593 : decode cL_law 593 = .ok (.aload_n 2, 1) := by decide +kernel
theorem dL_law_594 : decode cL_law 594 = .ok (.aload_n 0, 1) := by decide +kernel
theorem dL_law_595 : decode cL_law 595 = .ok (.iload_n 3, 1) := by decide +kernel
theorem dL_law_596 : decode cL_law 596 = .ok (.iconst 1, 1) := by decide +kernel
theorem dL_law_597 : decode cL_law 597 = .ok (.iadd, 1) := by decide +kernel
theorem dL_law_598 : decode cL_law 598 = .ok (.iaload, 1) := by decide +kernel
theorem dL_law_599 : decode cL_law 599 = .ok (.aload_n 0, 1) := by decide +kernel
theorem dL_law_600 : decode cL_law 600 = .ok (.iload_n 3, 1) := by decide +kernel
theorem dL_law_601 : decode cL_law 601 = .ok (.iconst 2, 1) := by decide +kernel
theorem dL_law_602 : decode cL_law 602 = .ok (.iadd, 1) := by decide +kernel
theorem dL_law_603 : decode cL_law 603 = .ok (.iaload, 1) := by decide +kernel
theorem dL_law_604 : decode cL_law 604 = .ok (.invokevirtual 73, 3) := by decide +kernel
theorem dL_law_607 : decode cL_law 607 = .ok (.if_icmp .eq 747, 3) := by decide +kernel
theorem dL_law_610 : decode cL_law 610 = .ok (.iconst 0, 1) := by decide +kernel
theorem dL_law_611 : decode cL_law 611 = .ok (.ireturn, 1) := by decide +kernel
theorem dL_law_612 : decode cL_law 612 = .ok (.aload_n 1, 1) := by decide +kernel
theorem dL_law_613 : decode cL_law 613 = .ok (.aload_n 0, 1) := by decide +kernel
theorem dL_law_614 : decode cL_law 614 = .ok (.iload_n 3, 1) := by decide +kernel
theorem dL_law_615 : decode cL_law 615 = .ok (.iconst 1, 1) := by decide +kernel
theorem dL_law_616 : decode cL_law 616 = .ok (.iadd, 1) := by decide +kernel
theorem dL_law_617 : decode cL_law 617 = .ok (.iaload, 1) := by decide +kernel
theorem dL_law_618 : decode cL_law 618 = .ok (.aload_n 0, 1) := by decide +kernel
theorem dL_law_619 : decode cL_law 619 = .ok (.iload_n 3, 1) := by decide +kernel
theorem dL_law_620 : decode cL_law 620 = .ok (.iconst 2, 1) := by decide +kernel
theorem dL_law_621 : decode cL_law 621 = .ok (.iadd, 1) := by decide +kernel
theorem dL_law_622 : decode cL_law 622 = .ok (.iaload, 1) := by decide +kernel
theorem dL_law_623 : decode cL_law 623 = .ok (.invokevirtual 74, 3) := by decide +kernel
theorem dL_law_626 : decode cL_law 626 = .ok (.aload_n 2, 1) := by decide +kernel
theorem dL_law_627 : decode cL_law 627 = .ok (.aload_n 0, 1) := by decide +kernel
theorem dL_law_628 : decode cL_law 628 = .ok (.iload_n 3, 1) := by decide +kernel
theorem dL_law_629 : decode cL_law 629 = .ok (.iconst 1, 1) := by decide +kernel
theorem dL_law_630 : decode cL_law 630 = .ok (.iadd, 1) := by decide +kernel
theorem dL_law_631 : decode cL_law 631 = .ok (.iaload, 1) := by decide +kernel
theorem dL_law_632 : decode cL_law 632 = .ok (.aload_n 0, 1) := by decide +kernel
theorem dL_law_633 : decode cL_law 633 = .ok (.iload_n 3, 1) := by decide +kernel
theorem dL_law_634 : decode cL_law 634 = .ok (.iconst 2, 1) := by decide +kernel
theorem dL_law_635 : decode cL_law 635 = .ok (.iadd, 1) := by decide +kernel
theorem dL_law_636 : decode cL_law 636 = .ok (.iaload, 1) := by decide +kernel
theorem dL_law_637 : decode cL_law 637 = .ok (.invokevirtual 77, 3) := by decide +kernel
theorem dL_law_640 : decode cL_law 640 = .ok (.if_icmp .eq 714, 3) := by decide +kernel
theorem dL_law_643 : decode cL_law 643 = .ok (.iconst 0, 1) := by decide +kernel
theorem dL_law_644 : decode cL_law 644 = .ok (.ireturn, 1) := by decide +kernel
theorem dL_law_645 : decode cL_law 645 = .ok (.aload_n 1, 1) := by decide +kernel
theorem dL_law_646 : decode cL_law 646 = .ok (.aload_n 0, 1) := by decide +kernel
theorem dL_law_647 : decode cL_law 647 = .ok (.iload_n 3, 1) := by decide +kernel
theorem dL_law_648 : decode cL_law 648 = .ok (.iconst 1, 1) := by decide +kernel
theorem dL_law_649 : decode cL_law 649 = .ok (.iadd, 1) := by decide +kernel
theorem dL_law_650 : decode cL_law 650 = .ok (.iaload, 1) := by decide +kernel
theorem dL_law_651 : decode cL_law 651 = .ok (.invokevirtual 78, 3) := by decide +kernel
theorem dL_law_654 : decode cL_law 654 = .ok (.aload_n 2, 1) := by decide +kernel
theorem dL_law_655 : decode cL_law 655 = .ok (.aload_n 0, 1) := by decide +kernel
theorem dL_law_656 : decode cL_law 656 = .ok (.iload_n 3, 1) := by decide +kernel
theorem dL_law_657 : decode cL_law 657 = .ok (.iconst 1, 1) := by decide +kernel
theorem dL_law_658 : decode cL_law 658 = .ok (.iadd, 1) := by decide +kernel
theorem dL_law_659 : decode cL_law 659 = .ok (.iaload, 1) := by decide +kernel
theorem dL_law_660 : decode cL_law 660 = .ok (.invokevirtual 81, 3) := by decide +kernel
theorem dL_law_663 : decode cL_law 663 = .ok (.if_icmp .eq 691, 3) := by decide +kernel
theorem dL_law_666 : decode cL_law 666 = .ok (.iconst 0, 1) := by decide +kernel
theorem dL_law_667 : decode cL_law 667 = .ok (.ireturn, 1) := by decide +kernel
theorem dL_law_668 : decode cL_law 668 = .ok (.aload_n 1, 1) := by decide +kernel
theorem dL_law_669 : decode cL_law 669 = .ok (.aload_n 0, 1) := by decide +kernel
theorem dL_law_670 : decode cL_law 670 = .ok (.iload_n 3, 1) := by decide +kernel
theorem dL_law_671 : decode cL_law 671 = .ok (.iconst 1, 1) := by decide +kernel
theorem dL_law_672 : decode cL_law 672 = .ok (.iadd, 1) := by decide +kernel
theorem dL_law_673 : decode cL_law 673 = .ok (.iaload, 1) := by decide +kernel
theorem dL_law_674 : decode cL_law 674 = .ok (.aload_n 0, 1) := by decide +kernel
theorem dL_law_675 : decode cL_law 675 = .ok (.iload_n 3, 1) := by decide +kernel
theorem dL_law_676 : decode cL_law 676 = .ok (.iconst 2, 1) := by decide +kernel
theorem dL_law_677 : decode cL_law 677 = .ok (.iadd, 1) := by decide +kernel
theorem dL_law_678 : decode cL_law 678 = .ok (.iaload, 1) := by decide +kernel
theorem dL_law_679 : decode cL_law 679 = .ok (.invokevirtual 82, 3) := by decide +kernel
theorem dL_law_682 : decode cL_law 682 = .ok (.aload_n 2, 1) := by decide +kernel
theorem dL_law_683 : decode cL_law 683 = .ok (.aload_n 0, 1) := by decide +kernel
theorem dL_law_684 : decode cL_law 684 = .ok (.iload_n 3, 1) := by decide +kernel
theorem dL_law_685 : decode cL_law 685 = .ok (.iconst 1, 1) := by decide +kernel
theorem dL_law_686 : decode cL_law 686 = .ok (.iadd, 1) := by decide +kernel
theorem dL_law_687 : decode cL_law 687 = .ok (.iaload, 1) := by decide +kernel
theorem dL_law_688 : decode cL_law 688 = .ok (.aload_n 0, 1) := by decide +kernel
theorem dL_law_689 : decode cL_law 689 = .ok (.iload_n 3, 1) := by decide +kernel
theorem dL_law_690 : decode cL_law 690 = .ok (.iconst 2, 1) := by decide +kernel
theorem dL_law_691 : decode cL_law 691 = .ok (.iadd, 1) := by decide +kernel
theorem dL_law_692 : decode cL_law 692 = .ok (.iaload, 1) := by decide +kernel
theorem dL_law_693 : decode cL_law 693 = .ok (.invokevirtual 85, 3) := by decide +kernel
theorem dL_law_696 : decode cL_law 696 = .ok (.if_icmp .eq 658, 3) := by decide +kernel
theorem dL_law_699 : decode cL_law 699 = .ok (.iconst 0, 1) := by decide +kernel
theorem dL_law_700 : decode cL_law 700 = .ok (.ireturn, 1) := by decide +kernel
theorem dL_law_701 : decode cL_law 701 = .ok (.aload_n 1, 1) := by decide +kernel
theorem dL_law_702 : decode cL_law 702 = .ok (.invokevirtual 86, 3) := by decide +kernel
theorem dL_law_705 : decode cL_law 705 = .ok (.aload_n 2, 1) := by decide +kernel
theorem dL_law_706 : decode cL_law 706 = .ok (.invokevirtual 89, 3) := by decide +kernel
theorem dL_law_709 : decode cL_law 709 = .ok (.if_icmp .eq 645, 3) := by decide +kernel
theorem dL_law_712 : decode cL_law 712 = .ok (.iconst 0, 1) := by decide +kernel
theorem dL_law_713 : decode cL_law 713 = .ok (.ireturn, 1) := by decide +kernel
theorem dL_law_714 : decode cL_law 714 = .ok (.aload_n 1, 1) := by decide +kernel
theorem dL_law_715 : decode cL_law 715 = .ok (.aload_n 0, 1) := by decide +kernel
theorem dL_law_716 : decode cL_law 716 = .ok (.iload_n 3, 1) := by decide +kernel
theorem dL_law_717 : decode cL_law 717 = .ok (.iconst 1, 1) := by decide +kernel
theorem dL_law_718 : decode cL_law 718 = .ok (.iadd, 1) := by decide +kernel
theorem dL_law_719 : decode cL_law 719 = .ok (.iaload, 1) := by decide +kernel
theorem dL_law_720 : decode cL_law 720 = .ok (.invokevirtual 90, 3) := by decide +kernel
theorem dL_law_723 : decode cL_law 723 = .ok (.aload_n 2, 1) := by decide +kernel
theorem dL_law_724 : decode cL_law 724 = .ok (.aload_n 0, 1) := by decide +kernel
theorem dL_law_725 : decode cL_law 725 = .ok (.iload_n 3, 1) := by decide +kernel
theorem dL_law_726 : decode cL_law 726 = .ok (.iconst 1, 1) := by decide +kernel
theorem dL_law_727 : decode cL_law 727 = .ok (.iadd, 1) := by decide +kernel
theorem dL_law_728 : decode cL_law 728 = .ok (.iaload, 1) := by decide +kernel
theorem dL_law_729 : decode cL_law 729 = .ok (.invokevirtual 93, 3) := by decide +kernel
theorem dL_law_732 : decode cL_law 732 = .ok (.if_icmp .eq 622, 3) := by decide +kernel
theorem dL_law_735 : decode cL_law 735 = .ok (.iconst 0, 1) := by decide +kernel
theorem dL_law_736 : decode cL_law 736 = .ok (.ireturn, 1) := by decide +kernel
theorem dL_law_737 : decode cL_law 737 = .ok (.aload_n 1, 1) := by decide +kernel
theorem dL_law_738 : decode cL_law 738 = .ok (.aload_n 0, 1) := by decide +kernel
theorem dL_law_739 : decode cL_law 739 = .ok (.iload_n 3, 1) := by decide +kernel
theorem dL_law_740 : decode cL_law 740 = .ok (.iconst 1, 1) := by decide +kernel
theorem dL_law_741 : decode cL_law 741 = .ok (.iadd, 1) := by decide +kernel
theorem dL_law_742 : decode cL_law 742 = .ok (.iaload, 1) := by decide +kernel
theorem dL_law_743 : decode cL_law 743 = .ok (.aload_n 0, 1) := by decide +kernel
theorem dL_law_744 : decode cL_law 744 = .ok (.iload_n 3, 1) := by decide +kernel
theorem dL_law_745 : decode cL_law 745 = .ok (.iconst 2, 1) := by decide +kernel
theorem dL_law_746 : decode cL_law 746 = .ok (.iadd, 1) := by decide +kernel
theorem dL_law_747 : decode cL_law 747 = .ok (.iaload, 1) := by decide +kernel
theorem dL_law_748 : decode cL_law 748 = .ok (.invokevirtual 94, 3) := by decide +kernel
theorem dL_law_751 : decode cL_law 751 = .ok (.aload_n 2, 1) := by decide +kernel
theorem dL_law_752 : decode cL_law 752 = .ok (.aload_n 0, 1) := by decide +kernel
theorem dL_law_753 : decode cL_law 753 = .ok (.iload_n 3, 1) := by decide +kernel
theorem dL_law_754 : decode cL_law 754 = .ok (.iconst 1, 1) := by decide +kernel
theorem dL_law_755 : decode cL_law 755 = .ok (.iadd, 1) := by decide +kernel
theorem dL_law_756 : decode cL_law 756 = .ok (.iaload, 1) := by decide +kernel
theorem dL_law_757 : decode cL_law 757 = .ok (.aload_n 0, 1) := by decide +kernel
theorem dL_law_758 : decode cL_law 758 = .ok (.iload_n 3, 1) := by decide +kernel
theorem dL_law_759 : decode cL_law 759 = .ok (.iconst 2, 1) := by decide +kernel
theorem dL_law_760 : decode cL_law 760 = .ok (.iadd, 1) := by decide +kernel
theorem dL_law_761 : decode cL_law 761 = .ok (.iaload, 1) := by decide +kernel
theorem dL_law_762 : decode cL_law 762 = .ok (.invokevirtual 97, 3) := by decide +kernel
theorem dL_law_765 : decode cL_law 765 = .ok (.if_icmp .eq 589, 3) := by decide +kernel
theorem dL_law_768 : decode cL_law 768 = .ok (.iconst 0, 1) := by decide +kernel
theorem dL_law_769 : decode cL_law 769 = .ok (.ireturn, 1) := by decide +kernel
theorem dL_law_770 : decode cL_law 770 = .ok (.aload_n 1, 1) := by decide +kernel
theorem dL_law_771 : decode cL_law 771 = .ok (.aload_n 0, 1) := by decide +kernel
theorem dL_law_772 : decode cL_law 772 = .ok (.iload_n 3, 1) := by decide +kernel
theorem dL_law_773 : decode cL_law 773 = .ok (.iconst 1, 1) := by decide +kernel
theorem dL_law_774 : decode cL_law 774 = .ok (.iadd, 1) := by decide +kernel
theorem dL_law_775 : decode cL_law 775 = .ok (.iaload, 1) := by decide +kernel
theorem dL_law_776 : decode cL_law 776 = .ok (.aload_n 0, 1) := by decide +kernel
theorem dL_law_777 : decode cL_law 777 = .ok (.iload_n 3, 1) := by decide +kernel
theorem dL_law_778 : decode cL_law 778 = .ok (.iconst 2, 1) := by decide +kernel
theorem dL_law_779 : decode cL_law 779 = .ok (.iadd, 1) := by decide +kernel
theorem dL_law_780 : decode cL_law 780 = .ok (.iaload, 1) := by decide +kernel
theorem dL_law_781 : decode cL_law 781 = .ok (.aload_n 0, 1) := by decide +kernel
theorem dL_law_782 : decode cL_law 782 = .ok (.iload_n 3, 1) := by decide +kernel
theorem dL_law_783 : decode cL_law 783 = .ok (.iconst 3, 1) := by decide +kernel
theorem dL_law_784 : decode cL_law 784 = .ok (.iadd, 1) := by decide +kernel
theorem dL_law_785 : decode cL_law 785 = .ok (.iaload, 1) := by decide +kernel
theorem dL_law_786 : decode cL_law 786 = .ok (.aload_n 0, 1) := by decide +kernel
theorem dL_law_787 : decode cL_law 787 = .ok (.iload_n 3, 1) := by decide +kernel
theorem dL_law_788 : decode cL_law 788 = .ok (.iconst 4, 1) := by decide +kernel
theorem dL_law_789 : decode cL_law 789 = .ok (.iadd, 1) := by decide +kernel
theorem dL_law_790 : decode cL_law 790 = .ok (.iaload, 1) := by decide +kernel
theorem dL_law_791 : decode cL_law 791 = .ok (.aload_n 0, 1) := by decide +kernel
theorem dL_law_792 : decode cL_law 792 = .ok (.iload_n 3, 1) := by decide +kernel
theorem dL_law_793 : decode cL_law 793 = .ok (.iconst 5, 1) := by decide +kernel
theorem dL_law_794 : decode cL_law 794 = .ok (.iadd, 1) := by decide +kernel
theorem dL_law_795 : decode cL_law 795 = .ok (.iaload, 1) := by decide +kernel
theorem dL_law_796 : decode cL_law 796 = .ok (.invokevirtual 98, 3) := by decide +kernel
theorem dL_law_799 : decode cL_law 799 = .ok (.aload_n 2, 1) := by decide +kernel
theorem dL_law_800 : decode cL_law 800 = .ok (.aload_n 0, 1) := by decide +kernel
theorem dL_law_801 : decode cL_law 801 = .ok (.iload_n 3, 1) := by decide +kernel
theorem dL_law_802 : decode cL_law 802 = .ok (.iconst 1, 1) := by decide +kernel
theorem dL_law_803 : decode cL_law 803 = .ok (.iadd, 1) := by decide +kernel
theorem dL_law_804 : decode cL_law 804 = .ok (.iaload, 1) := by decide +kernel
theorem dL_law_805 : decode cL_law 805 = .ok (.aload_n 0, 1) := by decide +kernel
theorem dL_law_806 : decode cL_law 806 = .ok (.iload_n 3, 1) := by decide +kernel
theorem dL_law_807 : decode cL_law 807 = .ok (.iconst 2, 1) := by decide +kernel
theorem dL_law_808 : decode cL_law 808 = .ok (.iadd, 1) := by decide +kernel
theorem dL_law_809 : decode cL_law 809 = .ok (.iaload, 1) := by decide +kernel
theorem dL_law_810 : decode cL_law 810 = .ok (.aload_n 0, 1) := by decide +kernel
theorem dL_law_811 : decode cL_law 811 = .ok (.iload_n 3, 1) := by decide +kernel
theorem dL_law_812 : decode cL_law 812 = .ok (.iconst 3, 1) := by decide +kernel
theorem dL_law_813 : decode cL_law 813 = .ok (.iadd, 1) := by decide +kernel
theorem dL_law_814 : decode cL_law 814 = .ok (.iaload, 1) := by decide +kernel
theorem dL_law_815 : decode cL_law 815 = .ok (.aload_n 0, 1) := by decide +kernel
theorem dL_law_816 : decode cL_law 816 = .ok (.iload_n 3, 1) := by decide +kernel
theorem dL_law_817 : decode cL_law 817 = .ok (.iconst 4, 1) := by decide +kernel
theorem dL_law_818 : decode cL_law 818 = .ok (.iadd, 1) := by decide +kernel
theorem dL_law_819 : decode cL_law 819 = .ok (.iaload, 1) := by decide +kernel
theorem dL_law_820 : decode cL_law 820 = .ok (.aload_n 0, 1) := by decide +kernel
theorem dL_law_821 : decode cL_law 821 = .ok (.iload_n 3, 1) := by decide +kernel
theorem dL_law_822 : decode cL_law 822 = .ok (.iconst 5, 1) := by decide +kernel
theorem dL_law_823 : decode cL_law 823 = .ok (.iadd, 1) := by decide +kernel
theorem dL_law_824 : decode cL_law 824 = .ok (.iaload, 1) := by decide +kernel
theorem dL_law_825 : decode cL_law 825 = .ok (.invokevirtual 101, 3) := by decide +kernel
theorem dL_law_828 : decode cL_law 828 = .ok (.if_icmp .eq 526, 3) := by decide +kernel
theorem dL_law_831 : decode cL_law 831 = .ok (.iconst 0, 1) := by decide +kernel
theorem dL_law_832 : decode cL_law 832 = .ok (.ireturn, 1) := by decide +kernel
theorem dL_law_833 : decode cL_law 833 = .ok (.aload_n 1, 1) := by decide +kernel
theorem dL_law_834 : decode cL_law 834 = .ok (.aload_n 0, 1) := by decide +kernel
theorem dL_law_835 : decode cL_law 835 = .ok (.iload_n 3, 1) := by decide +kernel
theorem dL_law_836 : decode cL_law 836 = .ok (.iconst 1, 1) := by decide +kernel
theorem dL_law_837 : decode cL_law 837 = .ok (.iadd, 1) := by decide +kernel
theorem dL_law_838 : decode cL_law 838 = .ok (.iaload, 1) := by decide +kernel
theorem dL_law_839 : decode cL_law 839 = .ok (.aload_n 0, 1) := by decide +kernel
theorem dL_law_840 : decode cL_law 840 = .ok (.iload_n 3, 1) := by decide +kernel
theorem dL_law_841 : decode cL_law 841 = .ok (.iconst 2, 1) := by decide +kernel
theorem dL_law_842 : decode cL_law 842 = .ok (.iadd, 1) := by decide +kernel
theorem dL_law_843 : decode cL_law 843 = .ok (.iaload, 1) := by decide +kernel
theorem dL_law_844 : decode cL_law 844 = .ok (.invokevirtual 102, 3) := by decide +kernel
theorem dL_law_847 : decode cL_law 847 = .ok (.aload_n 2, 1) := by decide +kernel
theorem dL_law_848 : decode cL_law 848 = .ok (.aload_n 0, 1) := by decide +kernel
theorem dL_law_849 : decode cL_law 849 = .ok (.iload_n 3, 1) := by decide +kernel
theorem dL_law_850 : decode cL_law 850 = .ok (.iconst 1, 1) := by decide +kernel
theorem dL_law_851 : decode cL_law 851 = .ok (.iadd, 1) := by decide +kernel
theorem dL_law_852 : decode cL_law 852 = .ok (.iaload, 1) := by decide +kernel
theorem dL_law_853 : decode cL_law 853 = .ok (.aload_n 0, 1) := by decide +kernel
theorem dL_law_854 : decode cL_law 854 = .ok (.iload_n 3, 1) := by decide +kernel
theorem dL_law_855 : decode cL_law 855 = .ok (.iconst 2, 1) := by decide +kernel
theorem dL_law_856 : decode cL_law 856 = .ok (.iadd, 1) := by decide +kernel
theorem dL_law_857 : decode cL_law 857 = .ok (.iaload, 1) := by decide +kernel
theorem dL_law_858 : decode cL_law 858 = .ok (.invokevirtual 105, 3) := by decide +kernel
theorem dL_law_861 : decode cL_law 861 = .ok (.if_icmp .eq 493, 3) := by decide +kernel
theorem dL_law_864 : decode cL_law 864 = .ok (.iconst 0, 1) := by decide +kernel
theorem dL_law_865 : decode cL_law 865 = .ok (.ireturn, 1) := by decide +kernel
theorem dL_law_866 : decode cL_law 866 = .ok (.aload_n 1, 1) := by decide +kernel
theorem dL_law_867 : decode cL_law 867 = .ok (.aload_n 0, 1) := by decide +kernel
theorem dL_law_868 : decode cL_law 868 = .ok (.iload_n 3, 1) := by decide +kernel
theorem dL_law_869 : decode cL_law 869 = .ok (.iconst 1, 1) := by decide +kernel
theorem dL_law_870 : decode cL_law 870 = .ok (.iadd, 1) := by decide +kernel
theorem dL_law_871 : decode cL_law 871 = .ok (.iaload, 1) := by decide +kernel
theorem dL_law_872 : decode cL_law 872 = .ok (.invokevirtual 106, 3) := by decide +kernel
theorem dL_law_875 : decode cL_law 875 = .ok (.aload_n 2, 1) := by decide +kernel
theorem dL_law_876 : decode cL_law 876 = .ok (.aload_n 0, 1) := by decide +kernel
theorem dL_law_877 : decode cL_law 877 = .ok (.iload_n 3, 1) := by decide +kernel
theorem dL_law_878 : decode cL_law 878 = .ok (.iconst 1, 1) := by decide +kernel
theorem dL_law_879 : decode cL_law 879 = .ok (.iadd, 1) := by decide +kernel
theorem dL_law_880 : decode cL_law 880 = .ok (.iaload, 1) := by decide +kernel
theorem dL_law_881 : decode cL_law 881 = .ok (.invokevirtual 109, 3) := by decide +kernel
theorem dL_law_884 : decode cL_law 884 = .ok (.if_icmp .eq 470, 3) := by decide +kernel
theorem dL_law_887 : decode cL_law 887 = .ok (.iconst 0, 1) := by decide +kernel
theorem dL_law_888 : decode cL_law 888 = .ok (.ireturn, 1) := by decide +kernel
theorem dL_law_889 : decode cL_law 889 = .ok (.aload_n 1, 1) := by decide +kernel
theorem dL_law_890 : decode cL_law 890 = .ok (.aload_n 0, 1) := by decide +kernel
theorem dL_law_891 : decode cL_law 891 = .ok (.iload_n 3, 1) := by decide +kernel
theorem dL_law_892 : decode cL_law 892 = .ok (.iconst 1, 1) := by decide +kernel
theorem dL_law_893 : decode cL_law 893 = .ok (.iadd, 1) := by decide +kernel
theorem dL_law_894 : decode cL_law 894 = .ok (.iaload, 1) := by decide +kernel
theorem dL_law_895 : decode cL_law 895 = .ok (.invokevirtual 110, 3) := by decide +kernel
theorem dL_law_898 : decode cL_law 898 = .ok (.aload_n 2, 1) := by decide +kernel
theorem dL_law_899 : decode cL_law 899 = .ok (.aload_n 0, 1) := by decide +kernel
theorem dL_law_900 : decode cL_law 900 = .ok (.iload_n 3, 1) := by decide +kernel
theorem dL_law_901 : decode cL_law 901 = .ok (.iconst 1, 1) := by decide +kernel
theorem dL_law_902 : decode cL_law 902 = .ok (.iadd, 1) := by decide +kernel
theorem dL_law_903 : decode cL_law 903 = .ok (.iaload, 1) := by decide +kernel
theorem dL_law_904 : decode cL_law 904 = .ok (.invokevirtual 113, 3) := by decide +kernel
theorem dL_law_907 : decode cL_law 907 = .ok (.if_icmp .eq 447, 3) := by decide +kernel
theorem dL_law_910 : decode cL_law 910 = .ok (.iconst 0, 1) := by decide +kernel
theorem dL_law_911 : decode cL_law 911 = .ok (.ireturn, 1) := by decide +kernel
theorem dL_law_912 : decode cL_law 912 = .ok (.aload_n 1, 1) := by decide +kernel
theorem dL_law_913 : decode cL_law 913 = .ok (.aload_n 0, 1) := by decide +kernel
theorem dL_law_914 : decode cL_law 914 = .ok (.iload_n 3, 1) := by decide +kernel
theorem dL_law_915 : decode cL_law 915 = .ok (.iconst 1, 1) := by decide +kernel
theorem dL_law_916 : decode cL_law 916 = .ok (.iadd, 1) := by decide +kernel
theorem dL_law_917 : decode cL_law 917 = .ok (.iaload, 1) := by decide +kernel
theorem dL_law_918 : decode cL_law 918 = .ok (.invokevirtual 114, 3) := by decide +kernel
theorem dL_law_921 : decode cL_law 921 = .ok (.aload_n 2, 1) := by decide +kernel
theorem dL_law_922 : decode cL_law 922 = .ok (.aload_n 0, 1) := by decide +kernel
theorem dL_law_923 : decode cL_law 923 = .ok (.iload_n 3, 1) := by decide +kernel
theorem dL_law_924 : decode cL_law 924 = .ok (.iconst 1, 1) := by decide +kernel
theorem dL_law_925 : decode cL_law 925 = .ok (.iadd, 1) := by decide +kernel
theorem dL_law_926 : decode cL_law 926 = .ok (.iaload, 1) := by decide +kernel
theorem dL_law_927 : decode cL_law 927 = .ok (.invokevirtual 117, 3) := by decide +kernel
theorem dL_law_930 : decode cL_law 930 = .ok (.if_icmp .eq 424, 3) := by decide +kernel
theorem dL_law_933 : decode cL_law 933 = .ok (.iconst 0, 1) := by decide +kernel
theorem dL_law_934 : decode cL_law 934 = .ok (.ireturn, 1) := by decide +kernel
theorem dL_law_935 : decode cL_law 935 = .ok (.aload_n 1, 1) := by decide +kernel
theorem dL_law_936 : decode cL_law 936 = .ok (.aload_n 0, 1) := by decide +kernel
theorem dL_law_937 : decode cL_law 937 = .ok (.iload_n 3, 1) := by decide +kernel
theorem dL_law_938 : decode cL_law 938 = .ok (.iconst 1, 1) := by decide +kernel
theorem dL_law_939 : decode cL_law 939 = .ok (.iadd, 1) := by decide +kernel
theorem dL_law_940 : decode cL_law 940 = .ok (.iaload, 1) := by decide +kernel
theorem dL_law_941 : decode cL_law 941 = .ok (.aload_n 0, 1) := by decide +kernel
theorem dL_law_942 : decode cL_law 942 = .ok (.iload_n 3, 1) := by decide +kernel
theorem dL_law_943 : decode cL_law 943 = .ok (.iconst 2, 1) := by decide +kernel
theorem dL_law_944 : decode cL_law 944 = .ok (.iadd, 1) := by decide +kernel
theorem dL_law_945 : decode cL_law 945 = .ok (.iaload, 1) := by decide +kernel
theorem dL_law_946 : decode cL_law 946 = .ok (.aload_n 0, 1) := by decide +kernel
theorem dL_law_947 : decode cL_law 947 = .ok (.iload_n 3, 1) := by decide +kernel
theorem dL_law_948 : decode cL_law 948 = .ok (.iconst 3, 1) := by decide +kernel
theorem dL_law_949 : decode cL_law 949 = .ok (.iadd, 1) := by decide +kernel
theorem dL_law_950 : decode cL_law 950 = .ok (.iaload, 1) := by decide +kernel
theorem dL_law_951 : decode cL_law 951 = .ok (.aload_n 0, 1) := by decide +kernel
theorem dL_law_952 : decode cL_law 952 = .ok (.iload_n 3, 1) := by decide +kernel
theorem dL_law_953 : decode cL_law 953 = .ok (.iconst 4, 1) := by decide +kernel
theorem dL_law_954 : decode cL_law 954 = .ok (.iadd, 1) := by decide +kernel
theorem dL_law_955 : decode cL_law 955 = .ok (.iaload, 1) := by decide +kernel
theorem dL_law_956 : decode cL_law 956 = .ok (.invokevirtual 118, 3) := by decide +kernel
theorem dL_law_959 : decode cL_law 959 = .ok (.aload_n 2, 1) := by decide +kernel
theorem dL_law_960 : decode cL_law 960 = .ok (.aload_n 0, 1) := by decide +kernel
theorem dL_law_961 : decode cL_law 961 = .ok (.iload_n 3, 1) := by decide +kernel
theorem dL_law_962 : decode cL_law 962 = .ok (.iconst 1, 1) := by decide +kernel
theorem dL_law_963 : decode cL_law 963 = .ok (.iadd, 1) := by decide +kernel
theorem dL_law_964 : decode cL_law 964 = .ok (.iaload, 1) := by decide +kernel
theorem dL_law_965 : decode cL_law 965 = .ok (.aload_n 0, 1) := by decide +kernel
theorem dL_law_966 : decode cL_law 966 = .ok (.iload_n 3, 1) := by decide +kernel
theorem dL_law_967 : decode cL_law 967 = .ok (.iconst 2, 1) := by decide +kernel
theorem dL_law_968 : decode cL_law 968 = .ok (.iadd, 1) := by decide +kernel
theorem dL_law_969 : decode cL_law 969 = .ok (.iaload, 1) := by decide +kernel
theorem dL_law_970 : decode cL_law 970 = .ok (.aload_n 0, 1) := by decide +kernel
theorem dL_law_971 : decode cL_law 971 = .ok (.iload_n 3, 1) := by decide +kernel
theorem dL_law_972 : decode cL_law 972 = .ok (.iconst 3, 1) := by decide +kernel
theorem dL_law_973 : decode cL_law 973 = .ok (.iadd, 1) := by decide +kernel
theorem dL_law_974 : decode cL_law 974 = .ok (.iaload, 1) := by decide +kernel
theorem dL_law_975 : decode cL_law 975 = .ok (.aload_n 0, 1) := by decide +kernel
theorem dL_law_976 : decode cL_law 976 = .ok (.iload_n 3, 1) := by decide +kernel
theorem dL_law_977 : decode cL_law 977 = .ok (.iconst 4, 1) := by decide +kernel
theorem dL_law_978 : decode cL_law 978 = .ok (.iadd, 1) := by decide +kernel
theorem dL_law_979 : decode cL_law 979 = .ok (.iaload, 1) := by decide +kernel
theorem dL_law_980 : decode cL_law 980 = .ok (.invokevirtual 122, 3) := by decide +kernel
theorem dL_law_983 : decode cL_law 983 = .ok (.if_icmp .eq 371, 3) := by decide +kernel
theorem dL_law_986 : decode cL_law 986 = .ok (.iconst 0, 1) := by decide +kernel
theorem dL_law_987 : decode cL_law 987 = .ok (.ireturn, 1) := by decide +kernel
theorem dL_law_988 : decode cL_law 988 = .ok (.aload_n 1, 1) := by decide +kernel
theorem dL_law_989 : decode cL_law 989 = .ok (.aload_n 0, 1) := by decide +kernel
theorem dL_law_990 : decode cL_law 990 = .ok (.iload_n 3, 1) := by decide +kernel
theorem dL_law_991 : decode cL_law 991 = .ok (.iconst 1, 1) := by decide +kernel
theorem dL_law_992 : decode cL_law 992 = .ok (.iadd, 1) := by decide +kernel
theorem dL_law_993 : decode cL_law 993 = .ok (.iaload, 1) := by decide +kernel
theorem dL_law_994 : decode cL_law 994 = .ok (.aload_n 0, 1) := by decide +kernel
theorem dL_law_995 : decode cL_law 995 = .ok (.iload_n 3, 1) := by decide +kernel
theorem dL_law_996 : decode cL_law 996 = .ok (.iconst 2, 1) := by decide +kernel
theorem dL_law_997 : decode cL_law 997 = .ok (.iadd, 1) := by decide +kernel
theorem dL_law_998 : decode cL_law 998 = .ok (.iaload, 1) := by decide +kernel
theorem dL_law_999 : decode cL_law 999 = .ok (.aload_n 0, 1) := by decide +kernel
theorem dL_law_1000 : decode cL_law 1000 = .ok (.iload_n 3, 1) := by decide +kernel
theorem dL_law_1001 : decode cL_law 1001 = .ok (.iconst 3, 1) := by decide +kernel
theorem dL_law_1002 : decode cL_law 1002 = .ok (.iadd, 1) := by decide +kernel
theorem dL_law_1003 : decode cL_law 1003 = .ok (.iaload, 1) := by decide +kernel
theorem dL_law_1004 : decode cL_law 1004 = .ok (.aload_n 0, 1) := by decide +kernel
theorem dL_law_1005 : decode cL_law 1005 = .ok (.iload_n 3, 1) := by decide +kernel
theorem dL_law_1006 : decode cL_law 1006 = .ok (.iconst 4, 1) := by decide +kernel
theorem dL_law_1007 : decode cL_law 1007 = .ok (.iadd, 1) := by decide +kernel
theorem dL_law_1008 : decode cL_law 1008 = .ok (.iaload, 1) := by decide +kernel
theorem dL_law_1009 : decode cL_law 1009 = .ok (.invokevirtual 123, 3) := by decide +kernel
theorem dL_law_1012 : decode cL_law 1012 = .ok (.aload_n 2, 1) := by decide +kernel
theorem dL_law_1013 : decode cL_law 1013 = .ok (.aload_n 0, 1) := by decide +kernel
theorem dL_law_1014 : decode cL_law 1014 = .ok (.iload_n 3, 1) := by decide +kernel
theorem dL_law_1015 : decode cL_law 1015 = .ok (.iconst 1, 1) := by decide +kernel
theorem dL_law_1016 : decode cL_law 1016 = .ok (.iadd, 1) := by decide +kernel
theorem dL_law_1017 : decode cL_law 1017 = .ok (.iaload, 1) := by decide +kernel
theorem dL_law_1018 : decode cL_law 1018 = .ok (.aload_n 0, 1) := by decide +kernel
theorem dL_law_1019 : decode cL_law 1019 = .ok (.iload_n 3, 1) := by decide +kernel
theorem dL_law_1020 : decode cL_law 1020 = .ok (.iconst 2, 1) := by decide +kernel
theorem dL_law_1021 : decode cL_law 1021 = .ok (.iadd, 1) := by decide +kernel
theorem dL_law_1022 : decode cL_law 1022 = .ok (.iaload, 1) := by decide +kernel
theorem dL_law_1023 : decode cL_law 1023 = .ok (.aload_n 0, 1) := by decide +kernel
theorem dL_law_1024 : decode cL_law 1024 = .ok (.iload_n 3, 1) := by decide +kernel
theorem dL_law_1025 : decode cL_law 1025 = .ok (.iconst 3, 1) := by decide +kernel
theorem dL_law_1026 : decode cL_law 1026 = .ok (.iadd, 1) := by decide +kernel
theorem dL_law_1027 : decode cL_law 1027 = .ok (.iaload, 1) := by decide +kernel
theorem dL_law_1028 : decode cL_law 1028 = .ok (.aload_n 0, 1) := by decide +kernel
theorem dL_law_1029 : decode cL_law 1029 = .ok (.iload_n 3, 1) := by decide +kernel
theorem dL_law_1030 : decode cL_law 1030 = .ok (.iconst 4, 1) := by decide +kernel
theorem dL_law_1031 : decode cL_law 1031 = .ok (.iadd, 1) := by decide +kernel
theorem dL_law_1032 : decode cL_law 1032 = .ok (.iaload, 1) := by decide +kernel
theorem dL_law_1033 : decode cL_law 1033 = .ok (.invokevirtual 126, 3) := by decide +kernel
theorem dL_law_1036 : decode cL_law 1036 = .ok (.if_icmp .eq 318, 3) := by decide +kernel
theorem dL_law_1039 : decode cL_law 1039 = .ok (.iconst 0, 1) := by decide +kernel
theorem dL_law_1040 : decode cL_law 1040 = .ok (.ireturn, 1) := by decide +kernel
theorem dL_law_1041 : decode cL_law 1041 = .ok (.aload_n 1, 1) := by decide +kernel
theorem dL_law_1042 : decode cL_law 1042 = .ok (.aload_n 0, 1) := by decide +kernel
theorem dL_law_1043 : decode cL_law 1043 = .ok (.iload_n 3, 1) := by decide +kernel
theorem dL_law_1044 : decode cL_law 1044 = .ok (.iconst 1, 1) := by decide +kernel
theorem dL_law_1045 : decode cL_law 1045 = .ok (.iadd, 1) := by decide +kernel
theorem dL_law_1046 : decode cL_law 1046 = .ok (.iaload, 1) := by decide +kernel
theorem dL_law_1047 : decode cL_law 1047 = .ok (.aload_n 0, 1) := by decide +kernel
theorem dL_law_1048 : decode cL_law 1048 = .ok (.iload_n 3, 1) := by decide +kernel
theorem dL_law_1049 : decode cL_law 1049 = .ok (.iconst 2, 1) := by decide +kernel
theorem dL_law_1050 : decode cL_law 1050 = .ok (.iadd, 1) := by decide +kernel
theorem dL_law_1051 : decode cL_law 1051 = .ok (.iaload, 1) := by decide +kernel
theorem dL_law_1052 : decode cL_law 1052 = .ok (.invokevirtual 127, 3) := by decide +kernel
theorem dL_law_1055 : decode cL_law 1055 = .ok (.aload_n 2, 1) := by decide +kernel
theorem dL_law_1056 : decode cL_law 1056 = .ok (.aload_n 0, 1) := by decide +kernel
theorem dL_law_1057 : decode cL_law 1057 = .ok (.iload_n 3, 1) := by decide +kernel
theorem dL_law_1058 : decode cL_law 1058 = .ok (.iconst 1, 1) := by decide +kernel
theorem dL_law_1059 : decode cL_law 1059 = .ok (.iadd, 1) := by decide +kernel
theorem dL_law_1060 : decode cL_law 1060 = .ok (.iaload, 1) := by decide +kernel
theorem dL_law_1061 : decode cL_law 1061 = .ok (.aload_n 0, 1) := by decide +kernel
theorem dL_law_1062 : decode cL_law 1062 = .ok (.iload_n 3, 1) := by decide +kernel
theorem dL_law_1063 : decode cL_law 1063 = .ok (.iconst 2, 1) := by decide +kernel
theorem dL_law_1064 : decode cL_law 1064 = .ok (.iadd, 1) := by decide +kernel
theorem dL_law_1065 : decode cL_law 1065 = .ok (.iaload, 1) := by decide +kernel
theorem dL_law_1066 : decode cL_law 1066 = .ok (.invokevirtual 130, 3) := by decide +kernel
theorem dL_law_1069 : decode cL_law 1069 = .ok (.if_icmp .eq 285, 3) := by decide +kernel
theorem dL_law_1072 : decode cL_law 1072 = .ok (.iconst 0, 1) := by decide +kernel
theorem dL_law_1073 : decode cL_law 1073 = .ok (.ireturn, 1) := by decide +kernel
theorem dL_law_1074 : decode cL_law 1074 = .ok (.aload_n 1, 1) := by decide +kernel
theorem dL_law_1075 : decode cL_law 1075 = .ok (.aload_n 0, 1) := by decide +kernel
theorem dL_law_1076 : decode cL_law 1076 = .ok (.iload_n 3, 1) := by decide +kernel
theorem dL_law_1077 : decode cL_law 1077 = .ok (.iconst 1, 1) := by decide +kernel
theorem dL_law_1078 : decode cL_law 1078 = .ok (.iadd, 1) := by decide +kernel
theorem dL_law_1079 : decode cL_law 1079 = .ok (.iaload, 1) := by decide +kernel
theorem dL_law_1080 : decode cL_law 1080 = .ok (.aload_n 0, 1) := by decide +kernel
theorem dL_law_1081 : decode cL_law 1081 = .ok (.iload_n 3, 1) := by decide +kernel
theorem dL_law_1082 : decode cL_law 1082 = .ok (.iconst 2, 1) := by decide +kernel
theorem dL_law_1083 : decode cL_law 1083 = .ok (.iadd, 1) := by decide +kernel
theorem dL_law_1084 : decode cL_law 1084 = .ok (.iaload, 1) := by decide +kernel
theorem dL_law_1085 : decode cL_law 1085 = .ok (.aload_n 0, 1) := by decide +kernel
theorem dL_law_1086 : decode cL_law 1086 = .ok (.iload_n 3, 1) := by decide +kernel
theorem dL_law_1087 : decode cL_law 1087 = .ok (.iconst 3, 1) := by decide +kernel
theorem dL_law_1088 : decode cL_law 1088 = .ok (.iadd, 1) := by decide +kernel
theorem dL_law_1089 : decode cL_law 1089 = .ok (.iaload, 1) := by decide +kernel
theorem dL_law_1090 : decode cL_law 1090 = .ok (.invokevirtual 131, 3) := by decide +kernel
theorem dL_law_1093 : decode cL_law 1093 = .ok (.aload_n 2, 1) := by decide +kernel
theorem dL_law_1094 : decode cL_law 1094 = .ok (.aload_n 0, 1) := by decide +kernel
theorem dL_law_1095 : decode cL_law 1095 = .ok (.iload_n 3, 1) := by decide +kernel
theorem dL_law_1096 : decode cL_law 1096 = .ok (.iconst 1, 1) := by decide +kernel
theorem dL_law_1097 : decode cL_law 1097 = .ok (.iadd, 1) := by decide +kernel
theorem dL_law_1098 : decode cL_law 1098 = .ok (.iaload, 1) := by decide +kernel
theorem dL_law_1099 : decode cL_law 1099 = .ok (.aload_n 0, 1) := by decide +kernel
theorem dL_law_1100 : decode cL_law 1100 = .ok (.iload_n 3, 1) := by decide +kernel
theorem dL_law_1101 : decode cL_law 1101 = .ok (.iconst 2, 1) := by decide +kernel
theorem dL_law_1102 : decode cL_law 1102 = .ok (.iadd, 1) := by decide +kernel
theorem dL_law_1103 : decode cL_law 1103 = .ok (.iaload, 1) := by decide +kernel
theorem dL_law_1104 : decode cL_law 1104 = .ok (.aload_n 0, 1) := by decide +kernel
theorem dL_law_1105 : decode cL_law 1105 = .ok (.iload_n 3, 1) := by decide +kernel
theorem dL_law_1106 : decode cL_law 1106 = .ok (.iconst 3, 1) := by decide +kernel
theorem dL_law_1107 : decode cL_law 1107 = .ok (.iadd, 1) := by decide +kernel
theorem dL_law_1108 : decode cL_law 1108 = .ok (.iaload, 1) := by decide +kernel
theorem dL_law_1109 : decode cL_law 1109 = .ok (.invokevirtual 134, 3) := by decide +kernel
theorem dL_law_1112 : decode cL_law 1112 = .ok (.if_icmp .eq 242, 3) := by decide +kernel
theorem dL_law_1115 : decode cL_law 1115 = .ok (.iconst 0, 1) := by decide +kernel
theorem dL_law_1116 : decode cL_law 1116 = .ok (.ireturn, 1) := by decide +kernel
theorem dL_law_1117 : decode cL_law 1117 = .ok (.aload_n 1, 1) := by decide +kernel
theorem dL_law_1118 : decode cL_law 1118 = .ok (.aload_n 0, 1) := by decide +kernel
theorem dL_law_1119 : decode cL_law 1119 = .ok (.iload_n 3, 1) := by decide +kernel
theorem dL_law_1120 : decode cL_law 1120 = .ok (.iconst 1, 1) := by decide +kernel
theorem dL_law_1121 : decode cL_law 1121 = .ok (.iadd, 1) := by decide +kernel
theorem dL_law_1122 : decode cL_law 1122 = .ok (.iaload, 1) := by decide +kernel
theorem dL_law_1123 : decode cL_law 1123 = .ok (.aload_n 0, 1) := by decide +kernel
theorem dL_law_1124 : decode cL_law 1124 = .ok (.iload_n 3, 1) := by decide +kernel
theorem dL_law_1125 : decode cL_law 1125 = .ok (.iconst 2, 1) := by decide +kernel
theorem dL_law_1126 : decode cL_law 1126 = .ok (.iadd, 1) := by decide +kernel
theorem dL_law_1127 : decode cL_law 1127 = .ok (.iaload, 1) := by decide +kernel
theorem dL_law_1128 : decode cL_law 1128 = .ok (.aload_n 0, 1) := by decide +kernel
theorem dL_law_1129 : decode cL_law 1129 = .ok (.iload_n 3, 1) := by decide +kernel
theorem dL_law_1130 : decode cL_law 1130 = .ok (.iconst 3, 1) := by decide +kernel
theorem dL_law_1131 : decode cL_law 1131 = .ok (.iadd, 1) := by decide +kernel
theorem dL_law_1132 : decode cL_law 1132 = .ok (.iaload, 1) := by decide +kernel
theorem dL_law_1133 : decode cL_law 1133 = .ok (.invokevirtual 135, 3) := by decide +kernel
theorem dL_law_1136 : decode cL_law 1136 = .ok (.aload_n 2, 1) := by decide +kernel
theorem dL_law_1137 : decode cL_law 1137 = .ok (.aload_n 0, 1) := by decide +kernel
theorem dL_law_1138 : decode cL_law 1138 = .ok (.iload_n 3, 1) := by decide +kernel
theorem dL_law_1139 : decode cL_law 1139 = .ok (.iconst 1, 1) := by decide +kernel
theorem dL_law_1140 : decode cL_law 1140 = .ok (.iadd, 1) := by decide +kernel
theorem dL_law_1141 : decode cL_law 1141 = .ok (.iaload, 1) := by decide +kernel
theorem dL_law_1142 : decode cL_law 1142 = .ok (.aload_n 0, 1) := by decide +kernel
theorem dL_law_1143 : decode cL_law 1143 = .ok (.iload_n 3, 1) := by decide +kernel
theorem dL_law_1144 : decode cL_law 1144 = .ok (.iconst 2, 1) := by decide +kernel
theorem dL_law_1145 : decode cL_law 1145 = .ok (.iadd, 1) := by decide +kernel
theorem dL_law_1146 : decode cL_law 1146 = .ok (.iaload, 1) := by decide +kernel
theorem dL_law_1147 : decode cL_law 1147 = .ok (.aload_n 0, 1) := by decide +kernel
theorem dL_law_1148 : decode cL_law 1148 = .ok (.iload_n 3, 1) := by decide +kernel
theorem dL_law_1149 : decode cL_law 1149 = .ok (.iconst 3, 1) := by decide +kernel
theorem dL_law_1150 : decode cL_law 1150 = .ok (.iadd, 1) := by decide +kernel
theorem dL_law_1151 : decode cL_law 1151 = .ok (.iaload, 1) := by decide +kernel
theorem dL_law_1152 : decode cL_law 1152 = .ok (.invokevirtual 138, 3) := by decide +kernel
theorem dL_law_1155 : decode cL_law 1155 = .ok (.if_icmp .eq 199, 3) := by decide +kernel
theorem dL_law_1158 : decode cL_law 1158 = .ok (.iconst 0, 1) := by decide +kernel
theorem dL_law_1159 : decode cL_law 1159 = .ok (.ireturn, 1) := by decide +kernel
theorem dL_law_1160 : decode cL_law 1160 = .ok (.aload_n 1, 1) := by decide +kernel
theorem dL_law_1161 : decode cL_law 1161 = .ok (.aload_n 0, 1) := by decide +kernel
theorem dL_law_1162 : decode cL_law 1162 = .ok (.iload_n 3, 1) := by decide +kernel
theorem dL_law_1163 : decode cL_law 1163 = .ok (.iconst 1, 1) := by decide +kernel
theorem dL_law_1164 : decode cL_law 1164 = .ok (.iadd, 1) := by decide +kernel
theorem dL_law_1165 : decode cL_law 1165 = .ok (.iaload, 1) := by decide +kernel
theorem dL_law_1166 : decode cL_law 1166 = .ok (.invokevirtual 139, 3) := by decide +kernel
theorem dL_law_1169 : decode cL_law 1169 = .ok (.aload_n 2, 1) := by decide +kernel
theorem dL_law_1170 : decode cL_law 1170 = .ok (.aload_n 0, 1) := by decide +kernel
theorem dL_law_1171 : decode cL_law 1171 = .ok (.iload_n 3, 1) := by decide +kernel
theorem dL_law_1172 : decode cL_law 1172 = .ok (.iconst 1, 1) := by decide +kernel
theorem dL_law_1173 : decode cL_law 1173 = .ok (.iadd, 1) := by decide +kernel
theorem dL_law_1174 : decode cL_law 1174 = .ok (.iaload, 1) := by decide +kernel
theorem dL_law_1175 : decode cL_law 1175 = .ok (.invokevirtual 142, 3) := by decide +kernel
theorem dL_law_1178 : decode cL_law 1178 = .ok (.if_icmp .eq 176, 3) := by decide +kernel
theorem dL_law_1181 : decode cL_law 1181 = .ok (.iconst 0, 1) := by decide +kernel
theorem dL_law_1182 : decode cL_law 1182 = .ok (.ireturn, 1) := by decide +kernel
theorem dL_law_1183 : decode cL_law 1183 = .ok (.aload_n 1, 1) := by decide +kernel
theorem dL_law_1184 : decode cL_law 1184 = .ok (.aload_n 0, 1) := by decide +kernel
theorem dL_law_1185 : decode cL_law 1185 = .ok (.iload_n 3, 1) := by decide +kernel
theorem dL_law_1186 : decode cL_law 1186 = .ok (.iconst 1, 1) := by decide +kernel
theorem dL_law_1187 : decode cL_law 1187 = .ok (.iadd, 1) := by decide +kernel
theorem dL_law_1188 : decode cL_law 1188 = .ok (.iaload, 1) := by decide +kernel
theorem dL_law_1189 : decode cL_law 1189 = .ok (.invokevirtual 143, 3) := by decide +kernel
theorem dL_law_1192 : decode cL_law 1192 = .ok (.aload_n 2, 1) := by decide +kernel
theorem dL_law_1193 : decode cL_law 1193 = .ok (.aload_n 0, 1) := by decide +kernel
theorem dL_law_1194 : decode cL_law 1194 = .ok (.iload_n 3, 1) := by decide +kernel
theorem dL_law_1195 : decode cL_law 1195 = .ok (.iconst 1, 1) := by decide +kernel
theorem dL_law_1196 : decode cL_law 1196 = .ok (.iadd, 1) := by decide +kernel
theorem dL_law_1197 : decode cL_law 1197 = .ok (.iaload, 1) := by decide +kernel
theorem dL_law_1198 : decode cL_law 1198 = .ok (.invokevirtual 146, 3) := by decide +kernel
theorem dL_law_1201 : decode cL_law 1201 = .ok (.if_icmp .eq 153, 3) := by decide +kernel
theorem dL_law_1204 : decode cL_law 1204 = .ok (.iconst 0, 1) := by decide +kernel
theorem dL_law_1205 : decode cL_law 1205 = .ok (.ireturn, 1) := by decide +kernel
theorem dL_law_1206 : decode cL_law 1206 = .ok (.aload_n 1, 1) := by decide +kernel
theorem dL_law_1207 : decode cL_law 1207 = .ok (.aload_n 0, 1) := by decide +kernel
theorem dL_law_1208 : decode cL_law 1208 = .ok (.iload_n 3, 1) := by decide +kernel
theorem dL_law_1209 : decode cL_law 1209 = .ok (.iconst 1, 1) := by decide +kernel
theorem dL_law_1210 : decode cL_law 1210 = .ok (.iadd, 1) := by decide +kernel
theorem dL_law_1211 : decode cL_law 1211 = .ok (.iaload, 1) := by decide +kernel
theorem dL_law_1212 : decode cL_law 1212 = .ok (.invokevirtual 147, 3) := by decide +kernel
theorem dL_law_1215 : decode cL_law 1215 = .ok (.aload_n 2, 1) := by decide +kernel
theorem dL_law_1216 : decode cL_law 1216 = .ok (.aload_n 0, 1) := by decide +kernel
theorem dL_law_1217 : decode cL_law 1217 = .ok (.iload_n 3, 1) := by decide +kernel
theorem dL_law_1218 : decode cL_law 1218 = .ok (.iconst 1, 1) := by decide +kernel
theorem dL_law_1219 : decode cL_law 1219 = .ok (.iadd, 1) := by decide +kernel
theorem dL_law_1220 : decode cL_law 1220 = .ok (.iaload, 1) := by decide +kernel
theorem dL_law_1221 : decode cL_law 1221 = .ok (.invokevirtual 150, 3) := by decide +kernel
theorem dL_law_1224 : decode cL_law 1224 = .ok (.if_icmp .eq 130, 3) := by decide +kernel
theorem dL_law_1227 : decode cL_law 1227 = .ok (.iconst 0, 1) := by decide +kernel
theorem dL_law_1228 : decode cL_law 1228 = .ok (.ireturn, 1) := by decide +kernel
theorem dL_law_1229 : decode cL_law 1229 = .ok (.aload_n 1, 1) := by decide +kernel
theorem dL_law_1230 : decode cL_law 1230 = .ok (.aload_n 0, 1) := by decide +kernel
theorem dL_law_1231 : decode cL_law 1231 = .ok (.iload_n 3, 1) := by decide +kernel
theorem dL_law_1232 : decode cL_law 1232 = .ok (.iconst 1, 1) := by decide +kernel
theorem dL_law_1233 : decode cL_law 1233 = .ok (.iadd, 1) := by decide +kernel
theorem dL_law_1234 : decode cL_law 1234 = .ok (.iaload, 1) := by decide +kernel
theorem dL_law_1235 : decode cL_law 1235 = .ok (.aload_n 0, 1) := by decide +kernel
theorem dL_law_1236 : decode cL_law 1236 = .ok (.iload_n 3, 1) := by decide +kernel
theorem dL_law_1237 : decode cL_law 1237 = .ok (.iconst 2, 1) := by decide +kernel
theorem dL_law_1238 : decode cL_law 1238 = .ok (.iadd, 1) := by decide +kernel
theorem dL_law_1239 : decode cL_law 1239 = .ok (.iaload, 1) := by decide +kernel
theorem dL_law_1240 : decode cL_law 1240 = .ok (.invokevirtual 151, 3) := by decide +kernel
theorem dL_law_1243 : decode cL_law 1243 = .ok (.aload_n 2, 1) := by decide +kernel
theorem dL_law_1244 : decode cL_law 1244 = .ok (.aload_n 0, 1) := by decide +kernel
theorem dL_law_1245 : decode cL_law 1245 = .ok (.iload_n 3, 1) := by decide +kernel
theorem dL_law_1246 : decode cL_law 1246 = .ok (.iconst 1, 1) := by decide +kernel
theorem dL_law_1247 : decode cL_law 1247 = .ok (.iadd, 1) := by decide +kernel
theorem dL_law_1248 : decode cL_law 1248 = .ok (.iaload, 1) := by decide +kernel
theorem dL_law_1249 : decode cL_law 1249 = .ok (.aload_n 0, 1) := by decide +kernel
theorem dL_law_1250 : decode cL_law 1250 = .ok (.iload_n 3, 1) := by decide +kernel
theorem dL_law_1251 : decode cL_law 1251 = .ok (.iconst 2, 1) := by decide +kernel
theorem dL_law_1252 : decode cL_law 1252 = .ok (.iadd, 1) := by decide +kernel
theorem dL_law_1253 : decode cL_law 1253 = .ok (.iaload, 1) := by decide +kernel
theorem dL_law_1254 : decode cL_law 1254 = .ok (.invokevirtual 154, 3) := by decide +kernel
theorem dL_law_1257 : decode cL_law 1257 = .ok (.if_icmp .eq 97, 3) := by decide +kernel
theorem dL_law_1260 : decode cL_law 1260 = .ok (.iconst 0, 1) := by decide +kernel
theorem dL_law_1261 : decode cL_law 1261 = .ok (.ireturn, 1) := by decide +kernel
theorem dL_law_1262 : decode cL_law 1262 = .ok (.aload_n 1, 1) := by decide +kernel
theorem dL_law_1263 : decode cL_law 1263 = .ok (.aload_n 0, 1) := by decide +kernel
theorem dL_law_1264 : decode cL_law 1264 = .ok (.iload_n 3, 1) := by decide +kernel
theorem dL_law_1265 : decode cL_law 1265 = .ok (.iconst 1, 1) := by decide +kernel
theorem dL_law_1266 : decode cL_law 1266 = .ok (.iadd, 1) := by decide +kernel
theorem dL_law_1267 : decode cL_law 1267 = .ok (.iaload, 1) := by decide +kernel
theorem dL_law_1268 : decode cL_law 1268 = .ok (.aload_n 0, 1) := by decide +kernel
theorem dL_law_1269 : decode cL_law 1269 = .ok (.iload_n 3, 1) := by decide +kernel
theorem dL_law_1270 : decode cL_law 1270 = .ok (.iconst 2, 1) := by decide +kernel
theorem dL_law_1271 : decode cL_law 1271 = .ok (.iadd, 1) := by decide +kernel
theorem dL_law_1272 : decode cL_law 1272 = .ok (.iaload, 1) := by decide +kernel
theorem dL_law_1273 : decode cL_law 1273 = .ok (.invokevirtual 155, 3) := by decide +kernel
theorem dL_law_1276 : decode cL_law 1276 = .ok (.aload_n 2, 1) := by decide +kernel
theorem dL_law_1277 : decode cL_law 1277 = .ok (.aload_n 0, 1) := by decide +kernel
theorem dL_law_1278 : decode cL_law 1278 = .ok (.iload_n 3, 1) := by decide +kernel
theorem dL_law_1279 : decode cL_law 1279 = .ok (.iconst 1, 1) := by decide +kernel
theorem dL_law_1280 : decode cL_law 1280 = .ok (.iadd, 1) := by decide +kernel
theorem dL_law_1281 : decode cL_law 1281 = .ok (.iaload, 1) := by decide +kernel
theorem dL_law_1282 : decode cL_law 1282 = .ok (.aload_n 0, 1) := by decide +kernel
theorem dL_law_1283 : decode cL_law 1283 = .ok (.iload_n 3, 1) := by decide +kernel
theorem dL_law_1284 : decode cL_law 1284 = .ok (.iconst 2, 1) := by decide +kernel
theorem dL_law_1285 : decode cL_law 1285 = .ok (.iadd, 1) := by decide +kernel
theorem dL_law_1286 : decode cL_law 1286 = .ok (.iaload, 1) := by decide +kernel
theorem dL_law_1287 : decode cL_law 1287 = .ok (.invokevirtual 158, 3) := by decide +kernel
theorem dL_law_1290 : decode cL_law 1290 = .ok (.if_icmp .eq 64, 3) := by decide +kernel
theorem dL_law_1293 : decode cL_law 1293 = .ok (.iconst 0, 1) := by decide +kernel
theorem dL_law_1294 : decode cL_law 1294 = .ok (.ireturn, 1) := by decide +kernel
theorem dL_law_1295 : decode cL_law 1295 = .ok (.aload_n 1, 1) := by decide +kernel
theorem dL_law_1296 : decode cL_law 1296 = .ok (.aload_n 0, 1) := by decide +kernel
theorem dL_law_1297 : decode cL_law 1297 = .ok (.iload_n 3, 1) := by decide +kernel
theorem dL_law_1298 : decode cL_law 1298 = .ok (.iconst 1, 1) := by decide +kernel
theorem dL_law_1299 : decode cL_law 1299 = .ok (.iadd, 1) := by decide +kernel
theorem dL_law_1300 : decode cL_law 1300 = .ok (.iaload, 1) := by decide +kernel
theorem dL_law_1301 : decode cL_law 1301 = .ok (.invokevirtual 159, 3) := by decide +kernel
theorem dL_law_1304 : decode cL_law 1304 = .ok (.aload_n 2, 1) := by decide +kernel
theorem dL_law_1305 : decode cL_law 1305 = .ok (.aload_n 0, 1) := by decide +kernel
theorem dL_law_1306 : decode cL_law 1306 = .ok (.iload_n 3, 1) := by decide +kernel
theorem dL_law_1307 : decode cL_law 1307 = .ok (.iconst 1, 1) := by decide +kernel
theorem dL_law_1308 : decode cL_law 1308 = .ok (.iadd, 1) := by decide +kernel
theorem dL_law_1309 : decode cL_law 1309 = .ok (.iaload, 1) := by decide +kernel
theorem dL_law_1310 : decode cL_law 1310 = .ok (.invokevirtual 162, 3) := by decide +kernel
theorem dL_law_1313 : decode cL_law 1313 = .ok (.if_icmp .eq 41, 3) := by decide +kernel
theorem dL_law_1316 : decode cL_law 1316 = .ok (.iconst 0, 1) := by decide +kernel
theorem dL_law_1317 : decode cL_law 1317 = .ok (.ireturn, 1) := by decide +kernel
theorem dL_law_1318 : decode cL_law 1318 = .ok (.aload_n 1, 1) := by decide +kernel
theorem dL_law_1319 : decode cL_law 1319 = .ok (.aload_n 0, 1) := by decide +kernel
theorem dL_law_1320 : decode cL_law 1320 = .ok (.iload_n 3, 1) := by decide +kernel
theorem dL_law_1321 : decode cL_law 1321 = .ok (.iconst 1, 1) := by decide +kernel
theorem dL_law_1322 : decode cL_law 1322 = .ok (.iadd, 1) := by decide +kernel
theorem dL_law_1323 : decode cL_law 1323 = .ok (.iaload, 1) := by decide +kernel
theorem dL_law_1324 : decode cL_law 1324 = .ok (.invokevirtual 163, 3) := by decide +kernel
theorem dL_law_1327 : decode cL_law 1327 = .ok (.aload_n 2, 1) := by decide +kernel
theorem dL_law_1328 : decode cL_law 1328 = .ok (.aload_n 0, 1) := by decide +kernel
theorem dL_law_1329 : decode cL_law 1329 = .ok (.iload_n 3, 1) := by decide +kernel
theorem dL_law_1330 : decode cL_law 1330 = .ok (.iconst 1, 1) := by decide +kernel
theorem dL_law_1331 : decode cL_law 1331 = .ok (.iadd, 1) := by decide +kernel
theorem dL_law_1332 : decode cL_law 1332 = .ok (.iaload, 1) := by decide +kernel
theorem dL_law_1333 : decode cL_law 1333 = .ok (.invokevirtual 166, 3) := by decide +kernel
theorem dL_law_1336 : decode cL_law 1336 = .ok (.if_icmp .eq 18, 3) := by decide +kernel
theorem dL_law_1339 : decode cL_law 1339 = .ok (.iconst 0, 1) := by decide +kernel
theorem dL_law_1340 : decode cL_law 1340 = .ok (.ireturn, 1) := by decide +kernel
theorem dL_law_1341 : decode cL_law 1341 = .ok (.aload_n 1, 1) := by decide +kernel
theorem dL_law_1342 : decode cL_law 1342 = .ok (.invokevirtual 167, 3) := by decide +kernel
theorem dL_law_1345 : decode cL_law 1345 = .ok (.aload_n 2, 1) := by decide +kernel
theorem dL_law_1346 : decode cL_law 1346 = .ok (.invokevirtual 170, 3) := by decide +kernel
theorem dL_law_1349 : decode cL_law 1349 = .ok (.if_icmp .eq 5, 3) := by decide +kernel
theorem dL_law_1352 : decode cL_law 1352 = .ok (.iconst 0, 1) := by decide +kernel
theorem dL_law_1353 : decode cL_law 1353 = .ok (.ireturn, 1) := by decide +kernel
theorem dL_law_1354 : decode cL_law 1354 = .ok (.iinc 3 6, 3) := by decide +kernel
theorem dL_law_1357 : decode cL_law 1357 = .ok (.goto (-1339), 3) := by decide +kernel
theorem dL_law_1360 : decode cL_law 1360 = .ok (.iconst 1, 1) := by decide +kernel
theorem dL_law_1361 : decode cL_law 1361 = .ok (.ireturn, 1) := by decide +kernel
end
section
/-! A PURE PICTURE OF THE WORLD. Cells stand at places 0, 1, 2 .. behind an address 'base'; a value .ref i is place i, .float k an outer array (the script, two static tables). -/
abbrev CA : Type := (FieldType × Nat × (Nat → Int32)) ⊕ (Nat × (Nat → Option Nat)) ⊕ (Nat × List Value)
abbrev WA : Type := List (Nat × CA)
abbrev BT : Type := Nat × va_G × (UInt32 → Nat) × (FieldType → ClassId)
abbrev ai (n : Nat) (g : Nat → Int32) : CA := .inl (.int, n, g)
abbrev ab (n : Nat) (g : Nat → Int32) : CA := .inl (.boolean, n, g)
abbrev aq (n : Nat) (g : Nat → Option Nat) : CA := .inr (.inl (n, g))
abbrev ob (ci : Nat) (fs : List Value) : CA := .inr (.inr (ci, fs))
def cz (B : BT) : Value → Value
  | .ref i => .ref (B.1 + i)
  | .float k => .ref (B.2.2.1 k)
  | .int x => .int x
  | .long x => .long x
  | .double x => .double x
  | .null => .null
  | .retAddr x => .retAddr x
def cE (B : BT) : CA → va_E
  | .inl (ty, n, g) => .inl (B.2.2.2 ty, n, .inl g)
  | .inr (.inl (n, g)) => .inl (B.2.2.2 (.object RX2), n, .inr (.inr (.inr (.inr (fun j => (g j).map (fun i => B.1 + i))))))
  | .inr (.inr (ci, fs)) => .inr (ci, fs.map (cz B))
def ov : WA → (Nat → CA) → Nat → CA
  | [], f, i => f i
  | q :: w, f, i => if i = q.1 then q.2 else ov w f i
def wl (B : BT) (g : Nat → CA) (z : Nat) : va_W := (List.range z).map (fun i => (B.1 + i, cE B (g i)))
abbrev AA (B : BT) : Nat → Prop := fun q => B.1 ≤ q
def Rp (B : BT) (w : WA) (f : Nat → CA) (z : Nat) (H : Heap) : Prop :=
  (w.map (·.1)).Nodup ∧ (∀ q ∈ w, q.1 < z) ∧ va_P B.2.1 vwCl (wl B (ov w f) z) H
def tyB (B : BT) : List (ClassId × FieldType) := [(B.2.2.2 .int, .int), (B.2.2.2 .boolean, .boolean), (B.2.2.2 (.object RX2), .object RX2)]
def nestT : List (String × Nat × MethodName × String) := [(RX6, 121, yX7_within, RX7), (RX2, 69, yX7_bounded, RX7), (RX5, 112, yX7_isOf, RX7), (RX5, 120, yX7_bounded, RX7), (RX1, 53, yX7_within, RX7)]
def sizeB (j : Nat) : Int32 := match j with | 0 => 10 | 1 => 11 | 2 => 12 | 3 => 11 | 4 => 13 | _ => 14
def markB (j : Nat) : Int32 := match j with | 0 => 20 | 1 => 21 | 2 => 24 | 3 => 22 | 4 => 23 | _ => 23
/-- what stays true of the tables and of the outer cells -/
def Ev (B : BT) (U : State) : Prop :=
  va_K B.2.1 vwCl (tyB B) U ∧ (∀ t ∈ nestT, va_Nw (.methodLinkNest t.1 t.2.1 t.2.2.1 t.2.2.2) U) ∧ va_AO RX2 U ∧
  (va_Z RX1 "SIZE_BODIES" "[I" (.ref (B.2.2.1 1)) (AA B) U U.heap ∧ va_T .int (B.2.2.1 1) 6 (fun j => .int (sizeB j)) (AA B) U U.heap) ∧
  (va_Z RX1 "MARK_BODIES" "[I" (.ref (B.2.2.1 2)) (AA B) U U.heap ∧ va_T .int (B.2.2.1 2) 6 (fun j => .int (markB j)) (AA B) U U.heap)
theorem Ev.moved {B : BT} {s U : State} (hW : s.WarmedH U.vm) (hq : ∀ q : Nat, q < s.heap.size → ¬ AA B q → U.heap[q]? = s.heap[q]?) (h : Ev B s) : Ev B U := by
  obtain ⟨h1, h2, h3, ⟨h4, h5⟩, h6, h7⟩ := h
  exact ⟨h1.moved hW.alike, fun t ht => va_Nw.warmM hW (h2 t ht), h3.moved hW.alike, ⟨(h4.moved hW.alike).kept hq, (h5.moved hW.alike).kept hq⟩, (h6.moved hW.alike).kept hq, (h7.moved hW.alike).kept hq⟩
theorem Ev.same {B : BT} {s U : State} (hW : s.vm = U.vm) (hq : U.heap = s.heap) (h : Ev B s) : Ev B U := by
  obtain ⟨h1, h2, h3, ⟨h4, h5⟩, h6, h7⟩ := h
  have al : s.vm.Alike U.vm := by rw [hW]; exact Vm.Alike.refl _
  have hk : ∀ q : Nat, q < s.heap.size → ¬ AA B q → U.heap[q]? = s.heap[q]? := fun q _ _ => by rw [hq]
  exact ⟨h1.moved al, fun t ht => va_Nw.same rfl hW (h2 t ht), h3.moved al, ⟨(h4.moved al).kept hk, (h5.moved al).kept hk⟩, (h6.moved al).kept hk, (h7.moved al).kept hk⟩
theorem cz_cat (B : BT) (v : Value) : (cz B v).category = v.category := by cases v <;> rfl
theorem cz_sum (B : BT) (S : List Value) : ((S.map (cz B)).map fun v => v.category).sum = (S.map fun v => v.category).sum := by
  rw [List.map_map]
  congr 1
  apply List.map_congr_left
  intro v _
  exact cz_cat B v
/-! overriding -/
theorem ov_mem : ∀ {w : WA} {f : Nat → CA} {i : Nat} {c : CA}, (w.map (·.1)).Nodup → (i, c) ∈ w → ov w f i = c := by
  intro w
  induction w with
  | nil => intro f i c _ h; cases h
  | cons q w ih =>
    intro f i c hn h
    rw [List.map_cons, List.nodup_cons] at hn
    rcases List.mem_cons.mp h with h | h
    · subst h; simp [ov]
    · have : i ≠ q.1 := fun e => hn.1 (by rw [← e]; exact List.mem_map.mpr ⟨_, h, rfl⟩)
      simp only [ov, if_neg this]
      exact ih hn.2 h
theorem ov_out : ∀ {w : WA} {f : Nat → CA} {i : Nat}, i ∉ w.map (·.1) → ov w f i = f i := by
  intro w
  induction w with
  | nil => intro f i _; rfl
  | cons q w ih =>
    intro f i h
    rw [List.map_cons, List.mem_cons, not_or] at h
    simp only [ov, if_neg h.1]
    exact ih h.2
theorem ov_set {w : WA} {f : Nat → CA} {q k : Nat} {c0 c : CA} (hn : (w.map (·.1)).Nodup) (hq : w[q]? = some (k, c0)) : ov (w.set q (k, c)) f = va_up (ov w f) k c := by
  induction w generalizing q with
  | nil => simp at hq
  | cons x w ih =>
    rw [List.map_cons, List.nodup_cons] at hn
    funext i
    cases q with
    | zero =>
      rw [List.getElem?_cons_zero] at hq
      cases hq
      simp only [List.set_cons_zero, ov, va_up]
      by_cases h : i = k <;> simp [h]
    | succ q =>
      rw [List.getElem?_cons_succ] at hq
      simp only [List.set_cons_succ, ov]
      rw [ih hn.2 hq]
      have : k ≠ x.1 := fun e => hn.1 (by rw [← e]; exact List.mem_map.mpr ⟨_, List.mem_of_getElem? hq, rfl⟩)
      simp only [va_up, ov]
      by_cases h : i = k
      · subst h; simp [this]
      · by_cases h2 : i = x.1 <;> simp [h, h2]
        intro e; exact absurd e.symm this
theorem keys_set {w : WA} {q k : Nat} {c0 c : CA} (hq : w[q]? = some (k, c0)) : (w.set q (k, c)).map (·.1) = w.map (·.1) := by
  induction w generalizing q with
  | nil => simp at hq
  | cons x w ih =>
    cases q with
    | zero => rw [List.getElem?_cons_zero] at hq; cases hq; rfl
    | succ q => rw [List.getElem?_cons_succ] at hq; simp only [List.set_cons_succ, List.map_cons, ih hq]
/-- cells of a callee put back among the caller's -/
def putAt : WA → List Nat → WA → WA
  | w, p :: ps, q :: w' => (putAt w ps w').set p q
  | w, _, _ => w
theorem putAt_keys : ∀ {w : WA} {ps : List Nat} {w' : WA}, ps.map (fun p => (w.map (·.1))[p]?) = w'.map (fun q => some q.1) → (putAt w ps w').map (·.1) = w.map (·.1) := by
  intro w ps
  induction ps with
  | nil => intro w' _; cases w' <;> rfl
  | cons p ps ih =>
    intro w' h
    cases w' with
    | nil => rfl
    | cons q w' =>
      rw [List.map_cons, List.map_cons, List.cons.injEq] at h
      have h1 := ih h.2
      have h2 : ((putAt w ps w').map (·.1))[p]? = some q.1 := by rw [h1]; exact h.1
      rw [List.getElem?_map] at h2
      cases h3 : (putAt w ps w')[p]? with
      | none => rw [h3] at h2; cases h2
      | some x =>
        rw [h3] at h2
        have e : x.1 = q.1 := by simpa using h2
        obtain ⟨x1, x2⟩ := x
        obtain ⟨q1, q2⟩ := q
        cases e
        exact (keys_set h3).trans h1
theorem putAt_ov {w : WA} {f : Nat → CA} (hn : (w.map (·.1)).Nodup) : ∀ {ps : List Nat} {w' : WA}, ps.map (fun p => (w.map (·.1))[p]?) = w'.map (fun q => some q.1) → ov w' (ov w f) = ov (putAt w ps w') f := by
  intro ps
  induction ps with
  | nil => intro w' h; cases w' with
    | nil => rfl
    | cons q w' => cases h
  | cons p ps ih =>
    intro w' h
    cases w' with
    | nil => rfl
    | cons q w' =>
      rw [List.map_cons, List.map_cons, List.cons.injEq] at h
      have h1 := putAt_keys h.2
      have h2 : ((putAt w ps w').map (·.1))[p]? = some q.1 := by rw [h1]; exact h.1
      rw [List.getElem?_map] at h2
      cases h3 : (putAt w ps w')[p]? with
      | none => rw [h3] at h2; cases h2
      | some x =>
        rw [h3] at h2
        have e : x.1 = q.1 := by simpa using h2
        obtain ⟨x1, x2⟩ := x
        obtain ⟨q1, q2⟩ := q
        cases e
        show ov ((x1, q2) :: w') (ov w f) = ov ((putAt w ps w').set p (x1, q2)) f
        rw [ov_set (by rw [h1]; exact hn) h3, ← ih h.2]
        funext i
        simp [ov, va_up]
def pick (w : WA) (ps : List Nat) : WA := ps.filterMap (fun p => w[p]?)
theorem pick_ov {w : WA} {f : Nat → CA} (hn : (w.map (·.1)).Nodup) : ∀ (wc : WA), (∀ q ∈ wc, q ∈ w) → ov wc (ov w f) = ov w f := by
  intro wc
  induction wc with
  | nil => intro _; rfl
  | cons q wc ih =>
    intro h
    funext i
    simp only [ov]
    rw [ih (fun x hx => h x (List.mem_cons_of_mem _ hx))]
    by_cases e : i = q.1
    · rw [if_pos e, e]
      exact (ov_mem hn (h q List.mem_cons_self)).symm
    · rw [if_neg e]
theorem wl_get {B : BT} {g : Nat → CA} {z i : Nat} (h : i < z) : (wl B g z)[i]? = some (B.1 + i, cE B (g i)) := by
  simp [wl, h]
theorem wl_set {B : BT} {g : Nat → CA} {z i : Nat} {c : CA} (h : i < z) : (wl B g z).set i (B.1 + i, cE B c) = wl B (va_up g i c) z := by
  apply List.ext_getElem?
  intro j
  by_cases hj : j < z
  · rw [wl_get hj]
    by_cases e : i = j
    · subst e
      rw [List.getElem?_set_self (by simp [wl, h])]
      simp [va_up]
    · rw [List.getElem?_set_ne e, wl_get hj]
      simp [va_up, Ne.symm e]
  · rw [List.getElem?_eq_none (by simp [wl]; omega), List.getElem?_eq_none (by simp [wl]; omega)]
theorem wl_push {B : BT} {g : Nat → CA} {z : Nat} {c : CA} : wl B g z ++ [(B.1 + z, cE B c)] = wl B (va_up g z c) (z + 1) := by
  unfold wl
  rw [List.range_succ, List.map_append]
  congr 1
  · apply List.map_congr_left
    intro i hi
    have : i ≠ z := Nat.ne_of_lt (List.mem_range.mp hi)
    simp [va_up, this]
  · simp [va_up]
theorem wl_D {B : BT} {g : Nat → CA} {z : Nat} : va_D (AA B) (wl B g z) := by
  refine ⟨fun i j p q hi hj e => ?_, fun k q hk => ?_⟩
  · have h1 := (List.getElem?_eq_some_iff.mp hi).1
    have h2 := (List.getElem?_eq_some_iff.mp hj).1
    simp only [wl, List.length_map, List.length_range] at h1 h2
    rw [wl_get h1] at hi
    rw [wl_get h2] at hj
    cases hi; cases hj
    exact Nat.add_left_cancel e
  · have h1 := (List.getElem?_eq_some_iff.mp hk).1
    simp only [wl, List.length_map, List.length_range] at h1
    rw [wl_get h1] at hk
    cases hk
    exact Nat.le_add_right _ _
theorem Rp.cell {B : BT} {w : WA} {f : Nat → CA} {z : Nat} {H : Heap} (h : Rp B w f z H) {q i : Nat} {c : CA} (hq : w[q]? = some (i, c)) : i < z ∧ (wl B (ov w f) z)[i]? = some (B.1 + i, cE B c) := by
  have hm := List.mem_of_getElem? hq
  have hi := h.2.1 _ hm
  exact ⟨hi, by rw [wl_get hi, ov_mem h.1 hm]⟩
theorem Rp.set {B : BT} {w : WA} {f : Nat → CA} {z : Nat} {H H1 : Heap} (h : Rp B w f z H) {q i : Nat} {c0 c : CA} (hq : w[q]? = some (i, c0)) (hP : va_P B.2.1 vwCl ((wl B (ov w f) z).set i (B.1 + i, cE B c)) H1) : Rp B (w.set q (i, c)) f z H1 := by
  obtain ⟨hi, -⟩ := h.cell hq
  refine ⟨by rw [keys_set hq]; exact h.1, fun x hx => ?_, ?_⟩
  · rcases List.mem_or_eq_of_mem_set hx with hx | hx
    · exact h.2.1 x hx
    · rw [hx]; exact hi
  · rw [ov_set h.1 hq, ← wl_set hi]
    exact hP
/-- a part of the cells, the rest as it is -/
theorem Rp.part {B : BT} {w : WA} {f : Nat → CA} {z : Nat} {H : Heap} (h : Rp B w f z H) {wc : WA} (hm : ∀ q ∈ wc, q ∈ w) (hn : (wc.map (·.1)).Nodup) : Rp B wc (ov w f) z H :=
  ⟨hn, fun q hq => h.2.1 q (hm q hq), by rw [pick_ov h.1 wc hm]; exact h.2.2⟩
theorem Rp.back {B : BT} {w w' : WA} {f : Nat → CA} {z : Nat} {H H0 : Heap} (h0 : Rp B w f z H0) (ps : List Nat) (hk : ps.map (fun p => (w.map (·.1))[p]?) = w'.map (fun q => some q.1)) (h : Rp B w' (ov w f) z H) : Rp B (putAt w ps w') f z H := by
  refine ⟨by rw [putAt_keys hk]; exact h0.1, fun q hq => ?_, ?_⟩
  · have : q.1 ∈ (putAt w ps w').map (·.1) := List.mem_map.mpr ⟨q, hq, rfl⟩
    rw [putAt_keys hk] at this
    obtain ⟨x, hx, e⟩ := List.mem_map.mp this
    rw [← e]; exact h0.2.1 x hx
  · rw [← putAt_ov h0.1 hk]; exact h.2.2
/-! locals -/
def lL (B : BT) (ls : Array Slot) (nL : Nat) (L : List (Option Value)) : Prop := ls.size = nL ∧ L.length = nL ∧ lv_wf ls ∧ ∀ (i : Nat) (v : Value), L[i]? = some (some v) → ls[i]? = some (.val (cz B v))
def pL (B : BT) (L : List (Option Value)) : List (Nat × Value) := (List.range L.length).filterMap (fun i => (L[i]?.join).map (fun v => (i, cz B v)))
theorem pL_mem {B : BT} {L : List (Option Value)} {q : Nat × Value} : q ∈ pL B L ↔ ∃ v, L[q.1]? = some (some v) ∧ q.2 = cz B v := by
  unfold pL
  rw [List.mem_filterMap]
  constructor
  · rintro ⟨i, -, h⟩
    cases h1 : L[i]? with
    | none => rw [h1] at h; cases h
    | some x =>
      cases x with
      | none => rw [h1] at h; cases h
      | some v => rw [h1] at h; cases h; exact ⟨v, h1, rfl⟩
  · rintro ⟨v, h1, h2⟩
    refine ⟨q.1, List.mem_range.mpr (List.getElem?_eq_some_iff.mp h1).1, ?_⟩
    rw [h1]
    show some (q.1, cz B v) = some q
    rw [← h2]
theorem lL.has {B : BT} {ls : Array Slot} {nL : Nat} {L : List (Option Value)} (h : lL B ls nL L) : lv_has ls nL (pL B L) :=
  ⟨h.1, h.2.2.1, fun q hq => by obtain ⟨v, h1, h2⟩ := pL_mem.mp hq; rw [h2]; exact h.2.2.2 _ _ h1⟩
/-- no long stands just below -/
def okS (L : List (Option Value)) : Nat → Bool
  | 0 => true
  | j + 1 => match L[j]? with
    | some (some (.long _)) => false
    | some (some (.double _)) => false
    | _ => true
theorem okS_spec {L : List (Option Value)} {i j : Nat} {v : Value} (h : okS L i = true) (hj : j + 1 = i) (hv : L[j]? = some (some v)) : ¬ v.category = 2 := by
  subst hj
  simp only [okS, hv] at h
  cases v <;> simp_all [Value.category]
theorem lL.st1 {B : BT} {ls' : Array Slot} {nL i : Nat} {L : List (Option Value)} {v : Value} (hlen : L.length = nL) (hi : i < nL) (ho : okS L i = true) (h : lv_has ls' nL ((i, cz B v) :: (pL B L).filter (fun q => !(q.1 == i) && !(q.1 + 1 == i && q.2.category == 2)))) : lL B ls' nL (L.set i (some v)) := by
  refine ⟨h.1, by simp [hlen], h.2.1, fun j x hx => ?_⟩
  by_cases e : i = j
  · subst e
    rw [List.getElem?_set_self (by omega)] at hx
    cases hx
    exact h.2.2 _ List.mem_cons_self
  · rw [List.getElem?_set_ne e] at hx
    refine h.2.2 (j, cz B x) (List.mem_cons_of_mem _ (List.mem_filter.mpr ⟨pL_mem.mpr ⟨x, hx, rfl⟩, ?_⟩))
    have e2 : (j == i) = false := by simpa using fun z => e z.symm
    simp only [e2, Bool.not_false, Bool.true_and]
    by_cases e3 : j + 1 = i
    · have := okS_spec ho e3 hx
      simp [cz_cat, this]
    · simp [e3]
theorem lL.st2 {B : BT} {ls' : Array Slot} {nL i : Nat} {L : List (Option Value)} {v : Value} (hlen : L.length = nL) (hi : i + 1 < nL) (ho : okS L i = true) (h : lv_has ls' nL ((i, cz B v) :: (pL B L).filter (fun q => !(q.1 == i) && (!(q.1 == i + 1) && !(q.1 + 1 == i && q.2.category == 2))))) : lL B ls' nL ((L.set i (some v)).set (i + 1) none) := by
  refine ⟨h.1, by simp [hlen], h.2.1, fun j x hx => ?_⟩
  by_cases e' : i + 1 = j
  · subst e'
    rw [List.getElem?_set_self (by simp; omega)] at hx
    cases hx
  rw [List.getElem?_set_ne e'] at hx
  by_cases e : i = j
  · subst e
    rw [List.getElem?_set_self (by omega)] at hx
    cases hx
    exact h.2.2 _ List.mem_cons_self
  · rw [List.getElem?_set_ne e] at hx
    refine h.2.2 (j, cz B x) (List.mem_cons_of_mem _ (List.mem_filter.mpr ⟨pL_mem.mpr ⟨x, hx, rfl⟩, ?_⟩))
    have e2 : (j == i) = false := by simpa using fun z => e z.symm
    have e4 : (j == i + 1) = false := by simpa using fun z => e' z.symm
    simp only [e2, e4, Bool.not_false, Bool.true_and]
    by_cases e3 : j + 1 = i
    · have := okS_spec ho e3 hx
      simp [cz_cat, this]
    · simp [e3]
/-! the locals with which a method begins -/
def aL : List Value → List (Option Value)
  | [] => []
  | v :: t => some v :: (if v.category = 2 then none :: aL t else aL t)
theorem aL_args (B : BT) : ∀ (As : List Value) (i j : Nat) (v : Value), (aL As)[j]? = some (some v) → (i + j, cz B v) ∈ lv_args i (As.map (cz B)) := by
  intro As
  induction As with
  | nil => intro i j v h; simp [aL] at h
  | cons a t ih =>
    intro i j v h
    simp only [aL] at h
    simp only [List.map_cons, lv_args, cz_cat]
    cases j with
    | zero =>
      rw [List.getElem?_cons_zero] at h
      cases h
      exact List.mem_cons_self
    | succ j =>
      rw [List.getElem?_cons_succ] at h
      refine List.mem_cons_of_mem _ ?_
      by_cases hc : a.category = 2
      · rw [if_pos hc] at h ⊢
        cases j with
        | zero => rw [List.getElem?_cons_zero] at h; cases h
        | succ j =>
          rw [List.getElem?_cons_succ] at h
          have := ih (i + 2) j v h
          rw [show i + (j + 1 + 1) = i + 2 + j by omega]; exact this
      · rw [if_neg hc] at h ⊢
        have := ih (i + 1) j v h
        rw [show i + (j + 1) = i + 1 + j by omega]; exact this
theorem aL_len (B : BT) : ∀ (As : List Value), (lg_sl (As.map (cz B))).length = (aL As).length := by
  intro As
  induction As with
  | nil => rfl
  | cons a t ih =>
    have e : lg_sl ((a :: t).map (cz B)) = (if (cz B a).category = 2 then [Slot.val (cz B a), Slot.second] else [Slot.val (cz B a)]) ++ lg_sl (t.map (cz B)) := rfl
    rw [e, List.length_append, ih, cz_cat]
    simp only [aL]
    by_cases hc : a.category = 2 <;> simp [hc] <;> omega
theorem lL.entry {B : BT} {As : List Value} {nL : Nat} {L : List (Option Value)} (hL : L = aL As ++ List.replicate (nL - (aL As).length) none) (hn : (aL As).length ≤ nL) : lL B ((lg_sl (As.map (cz B)) ++ List.replicate (nL - (lg_sl (As.map (cz B))).length) Slot.unset).toArray) nL L := by
  have h := lv_entry (As.map (cz B)) (n := nL) (by rw [aL_len]; exact hn)
  refine ⟨h.1, by rw [hL]; simp; omega, h.2.1, fun i v hv => ?_⟩
  rw [hL] at hv
  by_cases hi : i < (aL As).length
  · rw [List.getElem?_append_left hi] at hv
    have := h.2.2 (i, cz B v) (by have := aL_args B As 0 i v hv; rwa [Nat.zero_add] at this)
    exact this
  · rw [List.getElem?_append_right (by omega)] at hv
    have := List.eq_of_mem_replicate (List.mem_of_getElem? hv)
    cases this
end
section
/-! THE JUDGEMENT: from a state that shows the pure picture (locals L, stack S, cells w over f) the machine comes to the end Z. -/
abbrev GT : Type := Program × Launch × Env × Room × State × MethodId × Array Value × List Frame × Method × Code × (State → Prop) × BT
def XX : GT → Nat × Nat × Nat → Nat → List (Option Value) → List Value → WA → (Nat → CA) → Prop
  | (p, l, e, R, s, m, args, below, meth, c, Z, B), a, pc, L, S, w, f =>
    ∀ (H : Heap) (locs : List Loc) (ls : Array Slot), Rp B w f a.2.2 H → va_S (AA B) s.heap H locs → lL B ls c.maxLocals L → a.1 ≤ R.cells → a.2.1 ≤ R.slots →
      W p l e R s m args below meth c H locs a.1 a.2.1 Z (F0 m pc ls (S.map (cz B)))
def gw : List Cond := lw_tbl.filter goodWord
theorem gw_in {w : Cond} (h : w ∈ lw_tbl) (hg : goodWord w = true) : w ∈ gw := List.mem_filter.mpr ⟨h, hg⟩
theorem gw_at {w : Cond} (i : Nat) (h : lw_tbl[i]? = some w) (hg : goodWord w = true) : w ∈ gw := gw_in (List.mem_of_getElem? h) hg
theorem gw_good : GoodIn gw gw := fun w h => ⟨h, good_of_word (List.mem_filter.mp h).2⟩
theorem gw_cons {c : Cond} (h : c ∈ gw) : GoodIn gw (c :: gw) := fun w hw => by
  rcases List.mem_cons.mp hw with rfl | hw
  · exact gw_good _ h
  · exact gw_good _ hw
def GK : GT → ByteArray → String → Nat → Prop
  | (p, _, _, R, s, m, args, _, _, c, _, B), cc, own, d =>
    p.tables.exec = Jvm.exec ∧ c.code = cc ∧ s.vm.findClass own = some m.cls ∧ (∀ w ∈ gw, w.before args s = true) ∧ Ev B s ∧ B.1 ≤ s.heap.size ∧ d ≤ R.frames ∧ 64 * d ≤ R.locals
def gl : GT → Launch
  | (_, l, _) => l
def gB : GT → BT
  | (_, _, _, _, _, _, _, _, _, _, _, B) => B
def rmD (d mc ms : Nat) : Room := { frames := d, cells := mc, slots := ms, locals := 64 * d }
def QO (B : BT) (f : Nat → CA) (z' : Nat) (v0 : Option Value) (w0 : WA) : Array Value → State → Outcome → State → Prop := fun _ st oc t =>
  (oc = .returned (v0.map (cz B)) ∧ Rp B w0 f z' t.heap) ∧ va_F (AA B) st t
def PO (B : BT) (As : List Value) (z : Nat) (w : WA) (f : Nat → CA) : Array Value → State → Prop := va_Pc (As.map (cz B)) (fun U => Rp B w f z U.heap ∧ Ev B U ∧ B.1 ≤ U.heap.size)
/-- the contract of a method at arguments As and cells w (over any f): it answers v0, the cells are w0 then -/
def Ok (l : Launch) (B : BT) (d : Nat) (y : MethodName) (cc : ByteArray) (nL : Nat) (ret : Option FieldType) (As : List Value) (z : Nat) (w : WA) (f : Nat → CA) (mc ms z' : Nat) (v0 : Option Value) (w0 : WA) : Prop :=
  Met l y (.code y cc nL ret :: gw) (rmD d mc ms) (PO B As z w f) (QO B f z' v0 w0) mc ms (AA B)
/-- what a method's end needs -/
def RT : GT → Option FieldType → Nat × Nat × Nat → (Nat → CA) → Option Value → WA → Prop
  | (_, _, _, _, s, _, args, below, meth, _, Z, B), ret, a, f, v0, w0 =>
    meth.sig.returnType = ret ∧ meth.locks = false ∧ Z = MQ below (QO B f a.2.2 v0 w0) args s a.1 a.2.1 (AA B)
def NM : GT → String → Prop
  | (_, _, _, _, _, _, _, _, meth, _, _, _), n => meth.name = n
def SZ : GT → Nat → Prop
  | (_, _, _, _, s, _, _, _, _, _, _, B), z0 => s.heap.size = B.1 + z0
def RC : GT → Nat → Nat → Prop
  | (_, _, _, R, _, _, _, _, _, _, _, _), c, k => R.cells = c ∧ R.slots = k
def MI (y : MethodName) (cc : ByteArray) (nL : Nat) (ret : Option FieldType) (n : Nat) : Prop :=
  Cond.code y cc nL ret ∈ gw ∧ Cond.initialized y.cls ∈ gw ∧ plainName y.cls = true ∧ (y.cls ≠ "java/lang/invoke/MethodHandle" ∧ y.cls ≠ "java/lang/invoke/VarHandle" ∧ (parseMethodDescriptor y.desc).map (fun d => d.parameters.length) = some n) ∧ nL ≤ 45
def FG (own : String) (ix ci k : Nat) : Prop := ∃ (C : String) (T : u_T) (N : Nat), vwCl[ci]? = some (C, T, N) ∧ k < N ∧ Cond.fieldLink own ix C (T k).2.1 (T k).2.2.1 ∈ gw ∧ (∀ w ∈ u_ws C T N, w ∈ gw) ∧ (T k).1 = C
def FC (ci : Nat) : Prop := ∃ (C : String) (T : u_T) (N : Nat) (ty : Nat → FieldType), vwCl[ci]? = some (C, T, N) ∧ (∀ k, k < N → parseFieldDescriptor (T k).2.2.1 = some (ty k)) ∧ (∀ a, a < N → ∀ b, b < N → a ≠ b → (T a).2.1 ≠ (T b).2.1)
def FI (ci k : Nat) : Prop := FC ci ∧ ∃ (C : String) (T : u_T) (N : Nat), vwCl[ci]? = some (C, T, N) ∧ (T k).2.2.2 = false ∧ (T k).2.2.1 = "I"
def FR (own : String) (ci k : Nat) : Prop := FC ci ∧ ∃ (C : String) (T : u_T) (N : Nat) (ty : FieldType), vwCl[ci]? = some (C, T, N) ∧ (T k).2.2.2 = true ∧ parseFieldDescriptor (T k).2.2.1 = some ty ∧ (∀ a, narrow ty (.ref a) = .ref a) ∧ (∀ a, fits ty (.ref a) = true) ∧ C = own
theorem Ok.of {l : Launch} {B : BT} {d : Nat} {y : MethodName} {cc : ByteArray} {nL : Nat} {ret : Option FieldType} {As : List Value} {z : Nat} {w : WA} {f : Nat → CA} {mc ms z' n : Nat} {v0 : Option Value} {w0 : WA} (mi : MI y cc nL ret n) (L : List (Option Value)) (hL : L = aL As ++ List.replicate (nL - (aL As).length) none) (hn : (aL As).length ≤ nL)
    (body : ∀ Γ : GT, gl Γ = l → gB Γ = B → GK Γ cc y.cls d → RT Γ ret (mc, ms, z') f v0 w0 → NM Γ y.name → RC Γ mc ms → XX Γ (0, 0, z) 0 L [] w f) : Ok l B d y cc nL ret As z w f mc ms z' v0 w0 := by
  refine Met.ofW (cc := cc) (maxL := nL) (ret := ret) mi.2.2.1 rfl ?_
  intro p e s m args below meth c s₁ B0 hml hv
  obtain ⟨rfl, h1, h2, h3⟩ := hv
  have hts := atoms_spec (ws := .code y cc nL ret :: gw) B0.pre
  have key := body (p, l, e, rmD d mc ms, s, m, (As.map (cz B)).toArray, below, meth, c, MQ below (QO B f z' v0 w0) (As.map (cz B)).toArray s mc ms (AA B), B) rfl rfl
    ⟨B0.exec, B0.bytes, findClass_of_methodNamed B0.named, fun w hw => hts w (List.mem_cons_of_mem _ hw), h2, h3, Nat.le_refl _, Nat.le_refl _⟩ ⟨B0.returns, B0.notSynchronized, rfl⟩ (name_of_methodNamed B0.named B0.method).1 ⟨rfl, rfl⟩
  rw [lg_entry_eq]
  exact key s.heap [] _ h1 va_S.rf (by rw [hml]; exact lL.entry hL hn) (Nat.zero_le _) (Nat.zero_le _)
section RULES
variable {Γ : GT} {cc : ByteArray} {own : String} {d : Nat} {a : Nat × Nat × Nat} {pc : Nat} {L : List (Option Value)} {S : List Value} {w : WA} {f : Nat → CA}
theorem x_iadd (G : GK Γ cc own d) {x y : Int32} (hd : decode cc pc = .ok (.iadd, 1)) (k : XX Γ a (pc + 1) L (.int (x + y) :: S) w f) : XX Γ a pc L (.int y :: .int x :: S) w f := by
  obtain ⟨p, l, e, R, s, m, args, below, meth, c, Z, B⟩ := Γ
  obtain ⟨hx, hb, ho, hts, hE, hB0, hd1, hd2⟩ := G
  intro H locs ls h1 h2 h3 h4 h5
  exact lv_iadd hx hb hd  (k H locs ls h1 h2 h3 h4 h5)
theorem x_isub (G : GK Γ cc own d) {x y : Int32} (hd : decode cc pc = .ok (.isub, 1)) (k : XX Γ a (pc + 1) L (.int (x - y) :: S) w f) : XX Γ a pc L (.int y :: .int x :: S) w f := by
  obtain ⟨p, l, e, R, s, m, args, below, meth, c, Z, B⟩ := Γ
  obtain ⟨hx, hb, ho, hts, hE, hB0, hd1, hd2⟩ := G
  intro H locs ls h1 h2 h3 h4 h5
  exact lv_isub hx hb hd  (k H locs ls h1 h2 h3 h4 h5)
theorem x_imul (G : GK Γ cc own d) {x y : Int32} (hd : decode cc pc = .ok (.imul, 1)) (k : XX Γ a (pc + 1) L (.int (x * y) :: S) w f) : XX Γ a pc L (.int y :: .int x :: S) w f := by
  obtain ⟨p, l, e, R, s, m, args, below, meth, c, Z, B⟩ := Γ
  obtain ⟨hx, hb, ho, hts, hE, hB0, hd1, hd2⟩ := G
  intro H locs ls h1 h2 h3 h4 h5
  exact lv_imul hx hb hd  (k H locs ls h1 h2 h3 h4 h5)
theorem x_iand (G : GK Γ cc own d) {x y : Int32} (hd : decode cc pc = .ok (.iand, 1)) (k : XX Γ a (pc + 1) L (.int (x &&& y) :: S) w f) : XX Γ a pc L (.int y :: .int x :: S) w f := by
  obtain ⟨p, l, e, R, s, m, args, below, meth, c, Z, B⟩ := Γ
  obtain ⟨hx, hb, ho, hts, hE, hB0, hd1, hd2⟩ := G
  intro H locs ls h1 h2 h3 h4 h5
  exact lv_iand hx hb hd  (k H locs ls h1 h2 h3 h4 h5)
theorem x_ior (G : GK Γ cc own d) {x y : Int32} (hd : decode cc pc = .ok (.ior, 1)) (k : XX Γ a (pc + 1) L (.int (x ||| y) :: S) w f) : XX Γ a pc L (.int y :: .int x :: S) w f := by
  obtain ⟨p, l, e, R, s, m, args, below, meth, c, Z, B⟩ := Γ
  obtain ⟨hx, hb, ho, hts, hE, hB0, hd1, hd2⟩ := G
  intro H locs ls h1 h2 h3 h4 h5
  exact lv_ior hx hb hd  (k H locs ls h1 h2 h3 h4 h5)
theorem x_ixor (G : GK Γ cc own d) {x y : Int32} (hd : decode cc pc = .ok (.ixor, 1)) (k : XX Γ a (pc + 1) L (.int (x ^^^ y) :: S) w f) : XX Γ a pc L (.int y :: .int x :: S) w f := by
  obtain ⟨p, l, e, R, s, m, args, below, meth, c, Z, B⟩ := Γ
  obtain ⟨hx, hb, ho, hts, hE, hB0, hd1, hd2⟩ := G
  intro H locs ls h1 h2 h3 h4 h5
  exact lv_ixor hx hb hd  (k H locs ls h1 h2 h3 h4 h5)
theorem x_idiv (G : GK Γ cc own d) {x y : Int32} (hd : decode cc pc = .ok (.idiv, 1)) (hne : ¬ y = 0) (k : XX Γ a (pc + 1) L (.int (x / y) :: S) w f) : XX Γ a pc L (.int y :: .int x :: S) w f := by
  obtain ⟨p, l, e, R, s, m, args, below, meth, c, Z, B⟩ := Γ
  obtain ⟨hx, hb, ho, hts, hE, hB0, hd1, hd2⟩ := G
  intro H locs ls h1 h2 h3 h4 h5
  exact lv_idiv hx hb hd hne (k H locs ls h1 h2 h3 h4 h5)
theorem x_irem (G : GK Γ cc own d) {x y : Int32} (hd : decode cc pc = .ok (.irem, 1)) (hne : ¬ y = 0) (k : XX Γ a (pc + 1) L (.int (x - x / y * y) :: S) w f) : XX Γ a pc L (.int y :: .int x :: S) w f := by
  obtain ⟨p, l, e, R, s, m, args, below, meth, c, Z, B⟩ := Γ
  obtain ⟨hx, hb, ho, hts, hE, hB0, hd1, hd2⟩ := G
  intro H locs ls h1 h2 h3 h4 h5
  exact lv_irem hx hb hd hne (k H locs ls h1 h2 h3 h4 h5)
theorem x_ineg (G : GK Γ cc own d) {x : Int32} (hd : decode cc pc = .ok (.ineg, 1)) (k : XX Γ a (pc + 1) L (.int (-x) :: S) w f) : XX Γ a pc L (.int x :: S) w f := by
  obtain ⟨p, l, e, R, s, m, args, below, meth, c, Z, B⟩ := Γ
  obtain ⟨hx, hb, ho, hts, hE, hB0, hd1, hd2⟩ := G
  intro H locs ls h1 h2 h3 h4 h5
  exact lv_ineg hx hb hd  (k H locs ls h1 h2 h3 h4 h5)
theorem x_ladd (G : GK Γ cc own d) {x y : Int64} (hd : decode cc pc = .ok (.ladd, 1)) (k : XX Γ a (pc + 1) L (.long (x + y) :: S) w f) : XX Γ a pc L (.long y :: .long x :: S) w f := by
  obtain ⟨p, l, e, R, s, m, args, below, meth, c, Z, B⟩ := Γ
  obtain ⟨hx, hb, ho, hts, hE, hB0, hd1, hd2⟩ := G
  intro H locs ls h1 h2 h3 h4 h5
  exact lv_ladd hx hb hd  (k H locs ls h1 h2 h3 h4 h5)
theorem x_lmul (G : GK Γ cc own d) {x y : Int64} (hd : decode cc pc = .ok (.lmul, 1)) (k : XX Γ a (pc + 1) L (.long (x * y) :: S) w f) : XX Γ a pc L (.long y :: .long x :: S) w f := by
  obtain ⟨p, l, e, R, s, m, args, below, meth, c, Z, B⟩ := Γ
  obtain ⟨hx, hb, ho, hts, hE, hB0, hd1, hd2⟩ := G
  intro H locs ls h1 h2 h3 h4 h5
  exact lv_lmul hx hb hd  (k H locs ls h1 h2 h3 h4 h5)
theorem x_lrem (G : GK Γ cc own d) {x y : Int64} (hd : decode cc pc = .ok (.lrem, 1)) (hne : ¬ y = 0) (k : XX Γ a (pc + 1) L (.long (x - x / y * y) :: S) w f) : XX Γ a pc L (.long y :: .long x :: S) w f := by
  obtain ⟨p, l, e, R, s, m, args, below, meth, c, Z, B⟩ := Γ
  obtain ⟨hx, hb, ho, hts, hE, hB0, hd1, hd2⟩ := G
  intro H locs ls h1 h2 h3 h4 h5
  exact lv_lrem hx hb hd hne (k H locs ls h1 h2 h3 h4 h5)
theorem x_lcmp (G : GK Γ cc own d) {x y : Int64} (hd : decode cc pc = .ok (.lcmp, 1)) (k : XX Γ a (pc + 1) L (.int (lg_cmp x y) :: S) w f) : XX Γ a pc L (.long y :: .long x :: S) w f := by
  obtain ⟨p, l, e, R, s, m, args, below, meth, c, Z, B⟩ := Γ
  obtain ⟨hx, hb, ho, hts, hE, hB0, hd1, hd2⟩ := G
  intro H locs ls h1 h2 h3 h4 h5
  exact W.lcmp hx hb hd  (k H locs ls h1 h2 h3 h4 h5)
theorem x_ishl (G : GK Γ cc own d) {x y : Int32} (hd : decode cc pc = .ok (.ishl, 1)) (k : XX Γ a (pc + 1) L (.int (x <<< (y &&& 31)) :: S) w f) : XX Γ a pc L (.int y :: .int x :: S) w f := by
  obtain ⟨p, l, e, R, s, m, args, below, meth, c, Z, B⟩ := Γ
  obtain ⟨hx, hb, ho, hts, hE, hB0, hd1, hd2⟩ := G
  intro H locs ls h1 h2 h3 h4 h5
  exact lv_ishl hx hb hd  (k H locs ls h1 h2 h3 h4 h5)
theorem x_ishr (G : GK Γ cc own d) {x y : Int32} (hd : decode cc pc = .ok (.ishr, 1)) (k : XX Γ a (pc + 1) L (.int (x >>> (y &&& 31)) :: S) w f) : XX Γ a pc L (.int y :: .int x :: S) w f := by
  obtain ⟨p, l, e, R, s, m, args, below, meth, c, Z, B⟩ := Γ
  obtain ⟨hx, hb, ho, hts, hE, hB0, hd1, hd2⟩ := G
  intro H locs ls h1 h2 h3 h4 h5
  exact lv_ishr hx hb hd  (k H locs ls h1 h2 h3 h4 h5)
theorem x_i2l (G : GK Γ cc own d) {x : Int32} (hd : decode cc pc = .ok (.i2l, 1)) (k : XX Γ a (pc + 1) L (.long x.toInt64 :: S) w f) : XX Γ a pc L (.int x :: S) w f := by
  obtain ⟨p, l, e, R, s, m, args, below, meth, c, Z, B⟩ := Γ
  obtain ⟨hx, hb, ho, hts, hE, hB0, hd1, hd2⟩ := G
  intro H locs ls h1 h2 h3 h4 h5
  exact lv_i2l hx hb hd rfl (k H locs ls h1 h2 h3 h4 h5)
theorem x_l2i (G : GK Γ cc own d) {x : Int64} (hd : decode cc pc = .ok (.l2i, 1)) (k : XX Γ a (pc + 1) L (.int x.toInt32 :: S) w f) : XX Γ a pc L (.long x :: S) w f := by
  obtain ⟨p, l, e, R, s, m, args, below, meth, c, Z, B⟩ := Γ
  obtain ⟨hx, hb, ho, hts, hE, hB0, hd1, hd2⟩ := G
  intro H locs ls h1 h2 h3 h4 h5
  exact lv_l2i hx hb hd rfl (k H locs ls h1 h2 h3 h4 h5)
theorem x_i2b (G : GK Γ cc own d) {x : Int32} (hd : decode cc pc = .ok (.i2b, 1)) (k : XX Γ a (pc + 1) L (.int x.toInt8.toInt32 :: S) w f) : XX Γ a pc L (.int x :: S) w f := by
  obtain ⟨p, l, e, R, s, m, args, below, meth, c, Z, B⟩ := Γ
  obtain ⟨hx, hb, ho, hts, hE, hB0, hd1, hd2⟩ := G
  intro H locs ls h1 h2 h3 h4 h5
  exact lv_i2b hx hb hd rfl (k H locs ls h1 h2 h3 h4 h5)
theorem x_i2s (G : GK Γ cc own d) {x : Int32} (hd : decode cc pc = .ok (.i2s, 1)) (k : XX Γ a (pc + 1) L (.int x.toInt16.toInt32 :: S) w f) : XX Γ a pc L (.int x :: S) w f := by
  obtain ⟨p, l, e, R, s, m, args, below, meth, c, Z, B⟩ := Γ
  obtain ⟨hx, hb, ho, hts, hE, hB0, hd1, hd2⟩ := G
  intro H locs ls h1 h2 h3 h4 h5
  exact lv_i2s hx hb hd rfl (k H locs ls h1 h2 h3 h4 h5)
theorem x_dup (G : GK Γ cc own d) {v : Value} (hd : decode cc pc = .ok (.dup, 1)) (hc : v.category = 1) (k : XX Γ a (pc + 1) L (v :: v :: S) w f) : XX Γ a pc L (v :: S) w f := by
  obtain ⟨p, l, e, R, s, m, args, below, meth, c, Z, B⟩ := Γ
  obtain ⟨hx, hb, ho, hts, hE, hB0, hd1, hd2⟩ := G
  intro H locs ls h1 h2 h3 h4 h5
  exact lv_dup hx hb hd (by rw [cz_cat]; exact hc) (k H locs ls h1 h2 h3 h4 h5)
theorem x_dup2 (G : GK Γ cc own d) {v u : Value} (hd : decode cc pc = .ok (.dup2, 1)) (hc : v.category = 1) (hc2 : u.category = 1) (k : XX Γ a (pc + 1) L (v :: u :: v :: u :: S) w f) : XX Γ a pc L (v :: u :: S) w f := by
  obtain ⟨p, l, e, R, s, m, args, below, meth, c, Z, B⟩ := Γ
  obtain ⟨hx, hb, ho, hts, hE, hB0, hd1, hd2⟩ := G
  intro H locs ls h1 h2 h3 h4 h5
  exact lv_dup2_11 hx hb hd (by rw [cz_cat]; exact hc) (by rw [cz_cat]; exact hc2) (k H locs ls h1 h2 h3 h4 h5)
theorem x_iconst (G : GK Γ cc own d) {n : Int} {v : Int32} (hd : decode cc pc = .ok (.iconst n, 1)) (hv : Int32.ofInt n = v) (k : XX Γ a (pc + 1) L (.int v :: S) w f) : XX Γ a pc L (S) w f := by
  obtain ⟨p, l, e, R, s, m, args, below, meth, c, Z, B⟩ := Γ
  obtain ⟨hx, hb, ho, hts, hE, hB0, hd1, hd2⟩ := G
  intro H locs ls h1 h2 h3 h4 h5
  exact lv_iconst hx hb hd hv (k H locs ls h1 h2 h3 h4 h5)
theorem x_bipush (G : GK Γ cc own d) {n : Int} {v : Int32} (hd : decode cc pc = .ok (.bipush n, 2)) (hv : (Int8.ofInt n).toInt32 = v) (k : XX Γ a (pc + 2) L (.int v :: S) w f) : XX Γ a pc L (S) w f := by
  obtain ⟨p, l, e, R, s, m, args, below, meth, c, Z, B⟩ := Γ
  obtain ⟨hx, hb, ho, hts, hE, hB0, hd1, hd2⟩ := G
  intro H locs ls h1 h2 h3 h4 h5
  exact lv_bipush hx hb hd hv (k H locs ls h1 h2 h3 h4 h5)
theorem x_sipush (G : GK Γ cc own d) {n : Int} {v : Int32} (hd : decode cc pc = .ok (.sipush n, 3)) (hv : (Int16.ofInt n).toInt32 = v) (k : XX Γ a (pc + 3) L (.int v :: S) w f) : XX Γ a pc L (S) w f := by
  obtain ⟨p, l, e, R, s, m, args, below, meth, c, Z, B⟩ := Γ
  obtain ⟨hx, hb, ho, hts, hE, hB0, hd1, hd2⟩ := G
  intro H locs ls h1 h2 h3 h4 h5
  exact lv_sipush hx hb hd hv (k H locs ls h1 h2 h3 h4 h5)
theorem x_lconst (G : GK Γ cc own d) {n : Fin 2} {v : Int64} (hd : decode cc pc = .ok (.lconst n, 1)) (hv : Int64.ofNat (n : Nat) = v) (k : XX Γ a (pc + 1) L (.long v :: S) w f) : XX Γ a pc L (S) w f := by
  obtain ⟨p, l, e, R, s, m, args, below, meth, c, Z, B⟩ := Γ
  obtain ⟨hx, hb, ho, hts, hE, hB0, hd1, hd2⟩ := G
  intro H locs ls h1 h2 h3 h4 h5
  exact lv_lconst hx hb hd hv (k H locs ls h1 h2 h3 h4 h5)
theorem x_iload_n (G : GK Γ cc own d) {n : Fin 4} {i : Nat} {x : Int32} (hd : decode cc pc = .ok (.iload_n n, 1)) (hi : (n : Nat) = i) (hl : L[i]? = some (some (.int x))) (k : XX Γ a (pc + 1) L (.int x :: S) w f) : XX Γ a pc L (S) w f := by
  obtain ⟨p, l, e, R, s, m, args, below, meth, c, Z, B⟩ := Γ
  obtain ⟨hx, hb, ho, hts, hE, hB0, hd1, hd2⟩ := G
  intro H locs ls h1 h2 h3 h4 h5
  exact lv_iload_n hx hb hd hi (h3.2.2.2 _ _ hl) (k H locs ls h1 h2 h3 h4 h5)
theorem x_iload (G : GK Γ cc own d) {i : Nat} {x : Int32} (hd : decode cc pc = .ok (.iload i, 2)) (hl : L[i]? = some (some (.int x))) (k : XX Γ a (pc + 2) L (.int x :: S) w f) : XX Γ a pc L (S) w f := by
  obtain ⟨p, l, e, R, s, m, args, below, meth, c, Z, B⟩ := Γ
  obtain ⟨hx, hb, ho, hts, hE, hB0, hd1, hd2⟩ := G
  intro H locs ls h1 h2 h3 h4 h5
  exact lv_iload hx hb hd (h3.2.2.2 _ _ hl) (k H locs ls h1 h2 h3 h4 h5)
theorem x_lload_n (G : GK Γ cc own d) {n : Fin 4} {i : Nat} {x : Int64} (hd : decode cc pc = .ok (.lload_n n, 1)) (hi : (n : Nat) = i) (hl : L[i]? = some (some (.long x))) (k : XX Γ a (pc + 1) L (.long x :: S) w f) : XX Γ a pc L (S) w f := by
  obtain ⟨p, l, e, R, s, m, args, below, meth, c, Z, B⟩ := Γ
  obtain ⟨hx, hb, ho, hts, hE, hB0, hd1, hd2⟩ := G
  intro H locs ls h1 h2 h3 h4 h5
  exact lv_lload_n hx hb hd hi (h3.2.2.2 _ _ hl) (k H locs ls h1 h2 h3 h4 h5)
theorem x_lload (G : GK Γ cc own d) {i : Nat} {x : Int64} (hd : decode cc pc = .ok (.lload i, 2)) (hl : L[i]? = some (some (.long x))) (k : XX Γ a (pc + 2) L (.long x :: S) w f) : XX Γ a pc L (S) w f := by
  obtain ⟨p, l, e, R, s, m, args, below, meth, c, Z, B⟩ := Γ
  obtain ⟨hx, hb, ho, hts, hE, hB0, hd1, hd2⟩ := G
  intro H locs ls h1 h2 h3 h4 h5
  exact lv_lload hx hb hd (h3.2.2.2 _ _ hl) (k H locs ls h1 h2 h3 h4 h5)
theorem x_aload_n (G : GK Γ cc own d) {n : Fin 4} {i : Nat} {x : Nat} (hd : decode cc pc = .ok (.aload_n n, 1)) (hi : (n : Nat) = i) (hl : L[i]? = some (some (.ref x))) (k : XX Γ a (pc + 1) L (.ref x :: S) w f) : XX Γ a pc L (S) w f := by
  obtain ⟨p, l, e, R, s, m, args, below, meth, c, Z, B⟩ := Γ
  obtain ⟨hx, hb, ho, hts, hE, hB0, hd1, hd2⟩ := G
  intro H locs ls h1 h2 h3 h4 h5
  exact lv_aload_n hx hb hd hi (h3.2.2.2 _ _ hl) (k H locs ls h1 h2 h3 h4 h5)
theorem x_aload (G : GK Γ cc own d) {i : Nat} {x : Nat} (hd : decode cc pc = .ok (.aload i, 2)) (hl : L[i]? = some (some (.ref x))) (k : XX Γ a (pc + 2) L (.ref x :: S) w f) : XX Γ a pc L (S) w f := by
  obtain ⟨p, l, e, R, s, m, args, below, meth, c, Z, B⟩ := Γ
  obtain ⟨hx, hb, ho, hts, hE, hB0, hd1, hd2⟩ := G
  intro H locs ls h1 h2 h3 h4 h5
  exact lv_aload hx hb hd (h3.2.2.2 _ _ hl) (k H locs ls h1 h2 h3 h4 h5)
theorem x_aload_nE (G : GK Γ cc own d) {n : Fin 4} {i : Nat} {x : UInt32} (hd : decode cc pc = .ok (.aload_n n, 1)) (hi : (n : Nat) = i) (hl : L[i]? = some (some (.float x))) (k : XX Γ a (pc + 1) L (.float x :: S) w f) : XX Γ a pc L (S) w f := by
  obtain ⟨p, l, e, R, s, m, args, below, meth, c, Z, B⟩ := Γ
  obtain ⟨hx, hb, ho, hts, hE, hB0, hd1, hd2⟩ := G
  intro H locs ls h1 h2 h3 h4 h5
  exact lv_aload_n hx hb hd hi (h3.2.2.2 _ _ hl) (k H locs ls h1 h2 h3 h4 h5)
theorem x_aloadE (G : GK Γ cc own d) {i : Nat} {x : UInt32} (hd : decode cc pc = .ok (.aload i, 2)) (hl : L[i]? = some (some (.float x))) (k : XX Γ a (pc + 2) L (.float x :: S) w f) : XX Γ a pc L (S) w f := by
  obtain ⟨p, l, e, R, s, m, args, below, meth, c, Z, B⟩ := Γ
  obtain ⟨hx, hb, ho, hts, hE, hB0, hd1, hd2⟩ := G
  intro H locs ls h1 h2 h3 h4 h5
  exact lv_aload hx hb hd (h3.2.2.2 _ _ hl) (k H locs ls h1 h2 h3 h4 h5)
theorem lL.lt {B : BT} {ls : Array Slot} {nL i : Nat} {L : List (Option Value)} (h : lL B ls nL L) (hi : (L[i]?).isSome = true) : i < nL := by
  obtain ⟨x, hx⟩ := Option.isSome_iff_exists.mp hi
  rw [← h.2.1]
  exact (List.getElem?_eq_some_iff.mp hx).1
theorem x_istore_n (G : GK Γ cc own d) {n : Fin 4} {i : Nat} {x : Int32} (hd : decode cc pc = .ok (.istore_n n, 1)) (hi : (n : Nat) = i) (hl : (L[i]?).isSome = true) (hs : okS L i = true) (k : XX Γ a (pc + 1) (L.set i (some (.int x))) S w f) : XX Γ a pc L (.int x :: S) w f := by
  obtain ⟨p, l, e, R, s, m, args, below, meth, c, Z, B⟩ := Γ
  obtain ⟨hx, hb, ho, hts, hE, hB0, hd1, hd2⟩ := G
  intro H locs ls h1 h2 h3 h4 h5
  exact lv_istore_n hx hb hd hi h3.has (h3.lt hl) rfl (fun ls' h' => k H locs ls' h1 h2 (lL.st1 (v := .int x) h3.2.1 (h3.lt hl) hs h') h4 h5)
theorem x_istore (G : GK Γ cc own d) {i : Nat} {x : Int32} (hd : decode cc pc = .ok (.istore i, 2)) (hl : (L[i]?).isSome = true) (hs : okS L i = true) (k : XX Γ a (pc + 2) (L.set i (some (.int x))) S w f) : XX Γ a pc L (.int x :: S) w f := by
  obtain ⟨p, l, e, R, s, m, args, below, meth, c, Z, B⟩ := Γ
  obtain ⟨hx, hb, ho, hts, hE, hB0, hd1, hd2⟩ := G
  intro H locs ls h1 h2 h3 h4 h5
  exact lv_istore hx hb hd h3.has (h3.lt hl) rfl (fun ls' h' => k H locs ls' h1 h2 (lL.st1 (v := .int x) h3.2.1 (h3.lt hl) hs h') h4 h5)
theorem x_astore_n (G : GK Γ cc own d) {n : Fin 4} {i : Nat} {x : Nat} (hd : decode cc pc = .ok (.astore_n n, 1)) (hi : (n : Nat) = i) (hl : (L[i]?).isSome = true) (hs : okS L i = true) (k : XX Γ a (pc + 1) (L.set i (some (.ref x))) S w f) : XX Γ a pc L (.ref x :: S) w f := by
  obtain ⟨p, l, e, R, s, m, args, below, meth, c, Z, B⟩ := Γ
  obtain ⟨hx, hb, ho, hts, hE, hB0, hd1, hd2⟩ := G
  intro H locs ls h1 h2 h3 h4 h5
  exact lv_astore_n hx hb hd hi h3.has (h3.lt hl) rfl (fun ls' h' => k H locs ls' h1 h2 (lL.st1 (v := .ref x) h3.2.1 (h3.lt hl) hs h') h4 h5)
theorem x_astore (G : GK Γ cc own d) {i : Nat} {x : Nat} (hd : decode cc pc = .ok (.astore i, 2)) (hl : (L[i]?).isSome = true) (hs : okS L i = true) (k : XX Γ a (pc + 2) (L.set i (some (.ref x))) S w f) : XX Γ a pc L (.ref x :: S) w f := by
  obtain ⟨p, l, e, R, s, m, args, below, meth, c, Z, B⟩ := Γ
  obtain ⟨hx, hb, ho, hts, hE, hB0, hd1, hd2⟩ := G
  intro H locs ls h1 h2 h3 h4 h5
  exact lv_astore hx hb hd h3.has (h3.lt hl) rfl (fun ls' h' => k H locs ls' h1 h2 (lL.st1 (v := .ref x) h3.2.1 (h3.lt hl) hs h') h4 h5)
theorem x_lstore (G : GK Γ cc own d) {i : Nat} {x : Int64} (hd : decode cc pc = .ok (.lstore i, 2)) (hl : (L[i + 1]?).isSome = true) (hs : okS L i = true) (k : XX Γ a (pc + 2) ((L.set i (some (.long x))).set (i + 1) none) S w f) : XX Γ a pc L (.long x :: S) w f := by
  obtain ⟨p, l, e, R, s, m, args, below, meth, c, Z, B⟩ := Γ
  obtain ⟨hx, hb, ho, hts, hE, hB0, hd1, hd2⟩ := G
  intro H locs ls h1 h2 h3 h4 h5
  exact lv_lstore hx hb hd h3.has (h3.lt hl) rfl (fun ls' h' => k H locs ls' h1 h2 (lL.st2 (v := .long x) h3.2.1 (h3.lt hl) hs h') h4 h5)
theorem x_iinc (G : GK Γ cc own d) {i : Nat} {n : Int} {x v : Int32} (hd : decode cc pc = .ok (.iinc i n, 3)) (hl : L[i]? = some (some (.int x))) (hv : x + Int32.ofInt n = v) (hs : okS L i = true) (k : XX Γ a (pc + 3) (L.set i (some (.int v))) S w f) : XX Γ a pc L S w f := by
  obtain ⟨p, l, e, R, s, m, args, below, meth, c, Z, B⟩ := Γ
  obtain ⟨hx, hb, ho, hts, hE, hB0, hd1, hd2⟩ := G
  intro H locs ls h1 h2 h3 h4 h5
  obtain ⟨j, hj⟩ := List.getElem?_of_mem (pL_mem (B := B) (q := (i, .int x)).mpr ⟨.int x, hl, rfl⟩)
  have hlt : i < c.maxLocals := h3.lt (by rw [hl]; rfl)
  exact lv_iinc hx hb hd h3.has hj hv hlt rfl (fun ls' h' => k H locs ls' h1 h2 (lL.st1 (v := .int v) h3.2.1 hlt hs h') h4 h5)
theorem x_if_eq (G : GK Γ cc own d) {x : Int32} {off : Int} (tgt : Nat) (hd : decode cc pc = .ok (.ifCond .eq off, 3)) (ht : (pc : Int) + off = (tgt : Int)) (kt : x = 0 → XX Γ a tgt L S w f) (kf : ¬ x = 0 → XX Γ a (pc + 3) L S w f) : XX Γ a pc L (.int x :: S) w f := by
  obtain ⟨p, l, e, R, s, m, args, below, meth, c, Z, B⟩ := Γ
  obtain ⟨hx, hb, ho, hts, hE, hB0, hd1, hd2⟩ := G
  intro H locs ls h1 h2 h3 h4 h5
  exact lv_if_eq hx hb hd ht (fun q => kt q H locs ls h1 h2 h3 h4 h5) (fun q => kf q H locs ls h1 h2 h3 h4 h5)
theorem x_icmp_eq (G : GK Γ cc own d) {x y : Int32} {off : Int} (tgt : Nat) (hd : decode cc pc = .ok (.if_icmp .eq off, 3)) (ht : (pc : Int) + off = (tgt : Int)) (kt : x = y → XX Γ a tgt L S w f) (kf : ¬ x = y → XX Γ a (pc + 3) L S w f) : XX Γ a pc L (.int y :: .int x :: S) w f := by
  obtain ⟨p, l, e, R, s, m, args, below, meth, c, Z, B⟩ := Γ
  obtain ⟨hx, hb, ho, hts, hE, hB0, hd1, hd2⟩ := G
  intro H locs ls h1 h2 h3 h4 h5
  exact lv_icmp_eq hx hb hd ht (fun q => kt q H locs ls h1 h2 h3 h4 h5) (fun q => kf q H locs ls h1 h2 h3 h4 h5)
theorem x_if_ne (G : GK Γ cc own d) {x : Int32} {off : Int} (tgt : Nat) (hd : decode cc pc = .ok (.ifCond .ne off, 3)) (ht : (pc : Int) + off = (tgt : Int)) (kt : ¬ x = 0 → XX Γ a tgt L S w f) (kf : x = 0 → XX Γ a (pc + 3) L S w f) : XX Γ a pc L (.int x :: S) w f := by
  obtain ⟨p, l, e, R, s, m, args, below, meth, c, Z, B⟩ := Γ
  obtain ⟨hx, hb, ho, hts, hE, hB0, hd1, hd2⟩ := G
  intro H locs ls h1 h2 h3 h4 h5
  exact lv_if_ne hx hb hd ht (fun q => kt q H locs ls h1 h2 h3 h4 h5) (fun q => kf q H locs ls h1 h2 h3 h4 h5)
theorem x_icmp_ne (G : GK Γ cc own d) {x y : Int32} {off : Int} (tgt : Nat) (hd : decode cc pc = .ok (.if_icmp .ne off, 3)) (ht : (pc : Int) + off = (tgt : Int)) (kt : ¬ x = y → XX Γ a tgt L S w f) (kf : x = y → XX Γ a (pc + 3) L S w f) : XX Γ a pc L (.int y :: .int x :: S) w f := by
  obtain ⟨p, l, e, R, s, m, args, below, meth, c, Z, B⟩ := Γ
  obtain ⟨hx, hb, ho, hts, hE, hB0, hd1, hd2⟩ := G
  intro H locs ls h1 h2 h3 h4 h5
  exact lv_icmp_ne hx hb hd ht (fun q => kt q H locs ls h1 h2 h3 h4 h5) (fun q => kf q H locs ls h1 h2 h3 h4 h5)
theorem x_if_lt (G : GK Γ cc own d) {x : Int32} {off : Int} (tgt : Nat) (hd : decode cc pc = .ok (.ifCond .lt off, 3)) (ht : (pc : Int) + off = (tgt : Int)) (kt : x < 0 → XX Γ a tgt L S w f) (kf : ¬ x < 0 → XX Γ a (pc + 3) L S w f) : XX Γ a pc L (.int x :: S) w f := by
  obtain ⟨p, l, e, R, s, m, args, below, meth, c, Z, B⟩ := Γ
  obtain ⟨hx, hb, ho, hts, hE, hB0, hd1, hd2⟩ := G
  intro H locs ls h1 h2 h3 h4 h5
  exact lv_if_lt hx hb hd ht (fun q => kt q H locs ls h1 h2 h3 h4 h5) (fun q => kf q H locs ls h1 h2 h3 h4 h5)
theorem x_icmp_lt (G : GK Γ cc own d) {x y : Int32} {off : Int} (tgt : Nat) (hd : decode cc pc = .ok (.if_icmp .lt off, 3)) (ht : (pc : Int) + off = (tgt : Int)) (kt : x < y → XX Γ a tgt L S w f) (kf : ¬ x < y → XX Γ a (pc + 3) L S w f) : XX Γ a pc L (.int y :: .int x :: S) w f := by
  obtain ⟨p, l, e, R, s, m, args, below, meth, c, Z, B⟩ := Γ
  obtain ⟨hx, hb, ho, hts, hE, hB0, hd1, hd2⟩ := G
  intro H locs ls h1 h2 h3 h4 h5
  exact lv_icmp_lt hx hb hd ht (fun q => kt q H locs ls h1 h2 h3 h4 h5) (fun q => kf q H locs ls h1 h2 h3 h4 h5)
theorem x_if_ge (G : GK Γ cc own d) {x : Int32} {off : Int} (tgt : Nat) (hd : decode cc pc = .ok (.ifCond .ge off, 3)) (ht : (pc : Int) + off = (tgt : Int)) (kt : 0 ≤ x → XX Γ a tgt L S w f) (kf : ¬ 0 ≤ x → XX Γ a (pc + 3) L S w f) : XX Γ a pc L (.int x :: S) w f := by
  obtain ⟨p, l, e, R, s, m, args, below, meth, c, Z, B⟩ := Γ
  obtain ⟨hx, hb, ho, hts, hE, hB0, hd1, hd2⟩ := G
  intro H locs ls h1 h2 h3 h4 h5
  exact lv_if_ge hx hb hd ht (fun q => kt q H locs ls h1 h2 h3 h4 h5) (fun q => kf q H locs ls h1 h2 h3 h4 h5)
theorem x_icmp_ge (G : GK Γ cc own d) {x y : Int32} {off : Int} (tgt : Nat) (hd : decode cc pc = .ok (.if_icmp .ge off, 3)) (ht : (pc : Int) + off = (tgt : Int)) (kt : y ≤ x → XX Γ a tgt L S w f) (kf : ¬ y ≤ x → XX Γ a (pc + 3) L S w f) : XX Γ a pc L (.int y :: .int x :: S) w f := by
  obtain ⟨p, l, e, R, s, m, args, below, meth, c, Z, B⟩ := Γ
  obtain ⟨hx, hb, ho, hts, hE, hB0, hd1, hd2⟩ := G
  intro H locs ls h1 h2 h3 h4 h5
  exact lv_icmp_ge hx hb hd ht (fun q => kt q H locs ls h1 h2 h3 h4 h5) (fun q => kf q H locs ls h1 h2 h3 h4 h5)
theorem x_if_gt (G : GK Γ cc own d) {x : Int32} {off : Int} (tgt : Nat) (hd : decode cc pc = .ok (.ifCond .gt off, 3)) (ht : (pc : Int) + off = (tgt : Int)) (kt : 0 < x → XX Γ a tgt L S w f) (kf : ¬ 0 < x → XX Γ a (pc + 3) L S w f) : XX Γ a pc L (.int x :: S) w f := by
  obtain ⟨p, l, e, R, s, m, args, below, meth, c, Z, B⟩ := Γ
  obtain ⟨hx, hb, ho, hts, hE, hB0, hd1, hd2⟩ := G
  intro H locs ls h1 h2 h3 h4 h5
  exact lv_if_gt hx hb hd ht (fun q => kt q H locs ls h1 h2 h3 h4 h5) (fun q => kf q H locs ls h1 h2 h3 h4 h5)
theorem x_icmp_gt (G : GK Γ cc own d) {x y : Int32} {off : Int} (tgt : Nat) (hd : decode cc pc = .ok (.if_icmp .gt off, 3)) (ht : (pc : Int) + off = (tgt : Int)) (kt : y < x → XX Γ a tgt L S w f) (kf : ¬ y < x → XX Γ a (pc + 3) L S w f) : XX Γ a pc L (.int y :: .int x :: S) w f := by
  obtain ⟨p, l, e, R, s, m, args, below, meth, c, Z, B⟩ := Γ
  obtain ⟨hx, hb, ho, hts, hE, hB0, hd1, hd2⟩ := G
  intro H locs ls h1 h2 h3 h4 h5
  exact lv_icmp_gt hx hb hd ht (fun q => kt q H locs ls h1 h2 h3 h4 h5) (fun q => kf q H locs ls h1 h2 h3 h4 h5)
theorem x_if_le (G : GK Γ cc own d) {x : Int32} {off : Int} (tgt : Nat) (hd : decode cc pc = .ok (.ifCond .le off, 3)) (ht : (pc : Int) + off = (tgt : Int)) (kt : x ≤ 0 → XX Γ a tgt L S w f) (kf : ¬ x ≤ 0 → XX Γ a (pc + 3) L S w f) : XX Γ a pc L (.int x :: S) w f := by
  obtain ⟨p, l, e, R, s, m, args, below, meth, c, Z, B⟩ := Γ
  obtain ⟨hx, hb, ho, hts, hE, hB0, hd1, hd2⟩ := G
  intro H locs ls h1 h2 h3 h4 h5
  exact lv_if_le hx hb hd ht (fun q => kt q H locs ls h1 h2 h3 h4 h5) (fun q => kf q H locs ls h1 h2 h3 h4 h5)
theorem x_icmp_le (G : GK Γ cc own d) {x y : Int32} {off : Int} (tgt : Nat) (hd : decode cc pc = .ok (.if_icmp .le off, 3)) (ht : (pc : Int) + off = (tgt : Int)) (kt : x ≤ y → XX Γ a tgt L S w f) (kf : ¬ x ≤ y → XX Γ a (pc + 3) L S w f) : XX Γ a pc L (.int y :: .int x :: S) w f := by
  obtain ⟨p, l, e, R, s, m, args, below, meth, c, Z, B⟩ := Γ
  obtain ⟨hx, hb, ho, hts, hE, hB0, hd1, hd2⟩ := G
  intro H locs ls h1 h2 h3 h4 h5
  exact lv_icmp_le hx hb hd ht (fun q => kt q H locs ls h1 h2 h3 h4 h5) (fun q => kf q H locs ls h1 h2 h3 h4 h5)
theorem x_goto (G : GK Γ cc own d) {off : Int} (tgt : Nat) (hd : decode cc pc = .ok (.goto off, 3)) (ht : (pc : Int) + off = (tgt : Int)) (k : XX Γ a tgt L S w f) : XX Γ a pc L S w f := by
  obtain ⟨p, l, e, R, s, m, args, below, meth, c, Z, B⟩ := Γ
  obtain ⟨hx, hb, ho, hts, hE, hB0, hd1, hd2⟩ := G
  intro H locs ls h1 h2 h3 h4 h5
  exact lv_goto hx hb hd ht (k H locs ls h1 h2 h3 h4 h5)
theorem x_tabOut (G : GK Γ cc own d) {dflt lo hi : Int} {offs : Array Int} {len : Nat} {x : Int32} (tgt : Nat) (hd : decode cc pc = .ok (.tableswitch dflt lo hi offs, len)) (h : x.toInt < lo ∨ hi < x.toInt) (ht : (pc : Int) + dflt = (tgt : Int)) (k : XX Γ a tgt L S w f) : XX Γ a pc L (.int x :: S) w f := by
  obtain ⟨p, l, e, R, s, m, args, below, meth, c, Z, B⟩ := Γ
  obtain ⟨hx, hb, ho, hts, hE, hB0, hd1, hd2⟩ := G
  intro H locs ls h1 h2 h3 h4 h5
  exact lv_tableOut hx hb hd h ht (k H locs ls h1 h2 h3 h4 h5)
theorem x_tabIn (G : GK Γ cc own d) {dflt lo hi : Int} {offs : Array Int} {len : Nat} {x : Int32} {off : Int} (tgt : Nat) (hd : decode cc pc = .ok (.tableswitch dflt lo hi offs, len)) (hl1 : ¬ x.toInt < lo) (hl2 : ¬ hi < x.toInt) (hof : offs[(x.toInt - lo).toNat]? = some off) (ht : (pc : Int) + off = (tgt : Int)) (k : XX Γ a tgt L S w f) : XX Γ a pc L (.int x :: S) w f := by
  obtain ⟨p, l, e, R, s, m, args, below, meth, c, Z, B⟩ := Γ
  obtain ⟨hx, hb, ho, hts, hE, hB0, hd1, hd2⟩ := G
  intro H locs ls h1 h2 h3 h4 h5
  exact lv_tableIn hx hb hd hl1 hl2 hof ht (k H locs ls h1 h2 h3 h4 h5)
theorem x_look (G : GK Γ cc own d) {dflt : Int} {ps : Array (Int × Int)} {len : Nat} {x : Int32} {off : Int} (tgt : Nat) (hd : decode cc pc = .ok (.lookupswitch dflt ps, len)) (hp : (ps.toList.zip (ps.toList.drop 1)).all (fun (a, next) => a.1 < next.1) = true) (hof : Op.lookupswitch.offset ps.toList dflt x.toInt = off) (ht : (pc : Int) + off = (tgt : Int)) (k : XX Γ a tgt L S w f) : XX Γ a pc L (.int x :: S) w f := by
  obtain ⟨p, l, e, R, s, m, args, below, meth, c, Z, B⟩ := Γ
  obtain ⟨hx, hb, ho, hts, hE, hB0, hd1, hd2⟩ := G
  intro H locs ls h1 h2 h3 h4 h5
  exact lv_lookup hx hb hd hp hof ht (k H locs ls h1 h2 h3 h4 h5)
theorem x_ldc (G : GK Γ cc own d) {ix : Nat} {v : Int32} (hd : decode cc pc = .ok (.ldc ix, 2)) (hc : Cond.constant own ix v ∈ gw) (k : XX Γ a (pc + 2) L (.int v :: S) w f) : XX Γ a pc L S w f := by
  obtain ⟨p, l, e, R, s, m, args, below, meth, c, Z, B⟩ := Γ
  obtain ⟨hx, hb, ho, hts, hE, hB0, hd1, hd2⟩ := G
  intro H locs ls h1 h2 h3 h4 h5
  exact lv_ldc hx hb ho (hts _ hc) hd (k H locs ls h1 h2 h3 h4 h5)
theorem x_ldcw (G : GK Γ cc own d) {ix : Nat} {v : Int32} (hd : decode cc pc = .ok (.ldc_w ix, 3)) (hc : Cond.constant own ix v ∈ gw) (k : XX Γ a (pc + 3) L (.int v :: S) w f) : XX Γ a pc L S w f := by
  obtain ⟨p, l, e, R, s, m, args, below, meth, c, Z, B⟩ := Γ
  obtain ⟨hx, hb, ho, hts, hE, hB0, hd1, hd2⟩ := G
  intro H locs ls h1 h2 h3 h4 h5
  exact lv_ldcw hx hb ho (hts _ hc) hd (k H locs ls h1 h2 h3 h4 h5)
theorem x_ldc2 (G : GK Γ cc own d) {ix : Nat} {v : Int64} (hd : decode cc pc = .ok (.ldc2_w ix, 3)) (hc : Cond.constantLong own ix v ∈ gw) (k : XX Γ a (pc + 3) L (.long v :: S) w f) : XX Γ a pc L S w f := by
  obtain ⟨p, l, e, R, s, m, args, below, meth, c, Z, B⟩ := Γ
  obtain ⟨hx, hb, ho, hts, hE, hB0, hd1, hd2⟩ := G
  intro H locs ls h1 h2 h3 h4 h5
  exact lv_ldc2 hx hb ho (hts _ hc) hd (k H locs ls h1 h2 h3 h4 h5)
theorem x_getf (G : GK Γ cc own d) {ix i ci k : Nat} {fs : List Value} {v : Value} (q : Nat) (hd : decode cc pc = .ok (.getfield ix, 3)) (hf : FG own ix ci k) (hw : w[q]? = some (i, ob ci fs)) (hv : fs[k]? = some v) (kk : XX Γ a (pc + 3) L (v :: S) w f) : XX Γ a pc L (.ref i :: S) w f := by
  obtain ⟨p, l, e, R, s, m, args, below, meth, c, Z, B⟩ := Γ
  obtain ⟨hx, hb, ho, hts, hE, hB0, hd1, hd2⟩ := G
  intro H locs ls h1 h2 h3 h4 h5
  obtain ⟨hi, hc⟩ := h1.cell hw
  obtain ⟨C, T, N, c1, c2, c3, c4, c5⟩ := hf
  exact va_get hx hb hts c4 ho hE.1 h1.2.2 i hc c1 k c2 (hts _ c3) (fun x h => by rw [c5] at h; exact h) (by rw [List.getElem?_map, hv]; rfl) hd (kk H locs ls h1 h2 h3 h4 h5)
theorem x_puti (G : GK Γ cc own d) {ix i ci k : Nat} {fs : List Value} {x : Int32} (q : Nat) (hd : decode cc pc = .ok (.putfield ix, 3)) (hf : FG own ix ci k) (hfi : FI ci k) (hw : w[q]? = some (i, ob ci fs)) (hv : (fs[k]?).isSome = true) (kk : XX Γ a (pc + 3) L S (w.set q (i, ob ci (fs.set k (.int x)))) f) : XX Γ a pc L (.int x :: .ref i :: S) w f := by
  obtain ⟨p, l, e, R, s, m, args, below, meth, c, Z, B⟩ := Γ
  obtain ⟨hx, hb, ho, hts, hE, hB0, hd1, hd2⟩ := G
  intro H locs ls h1 h2 h3 h4 h5
  obtain ⟨hi, hc⟩ := h1.cell hw
  obtain ⟨C, T, N, c1, c2, c3, c4, c5⟩ := hf
  obtain ⟨⟨C', T', N', ty, e1, e2, e3⟩, C'', T'', N'', g1, g2, g3⟩ := hfi
  cases c1.symm.trans e1
  cases c1.symm.trans g1
  have hl : k < fs.length := by
    obtain ⟨y, hy⟩ := Option.isSome_iff_exists.mp hv
    exact (List.getElem?_eq_some_iff.mp hy).1
  refine va_put (ty := .int) (v := .int x) hx hb hts c4 ty e2 e3 ho hE.1 h1.2.2 wl_D h2 i hc c1 k c2 (hts _ c3) (fun x h => by rw [c5] at h; exact h) g2 (by rw [g3]; decide +kernel) rfl rfl (by rw [List.length_map]; exact hl) hd (fun H1 locs1 hP hD hS => ?_)
  refine kk H1 locs1 ls (h1.set hw ?_) hS h3 h4 h5
  have e : (fs.set k (.int x)).map (cz B) = (fs.map (cz B)).set k (.int x) := by rw [List.map_set]; rfl
  simp only [cE, e]
  exact hP
theorem x_putr (G : GK Γ cc own d) (hnm : NM Γ "<init>") {ix i j ci k : Nat} {fs : List Value} (q : Nat) (hd : decode cc pc = .ok (.putfield ix, 3)) (hf : FG own ix ci k) (hfi : FR own ci k) (hw : w[q]? = some (i, ob ci fs)) (hv : (fs[k]?).isSome = true) (kk : XX Γ a (pc + 3) L S (w.set q (i, ob ci (fs.set k (.ref j)))) f) : XX Γ a pc L (.ref j :: .ref i :: S) w f := by
  obtain ⟨p, l, e, R, s, m, args, below, meth, c, Z, B⟩ := Γ
  obtain ⟨hx, hb, ho, hts, hE, hB0, hd1, hd2⟩ := G
  intro H locs ls h1 h2 h3 h4 h5
  obtain ⟨hi, hc⟩ := h1.cell hw
  obtain ⟨C, T, N, c1, c2, c3, c4, c5⟩ := hf
  obtain ⟨⟨C', T', N', ty, e1, e2, e3⟩, C'', T'', N'', ty', g1, g2, g3, g4, g5, g6⟩ := hfi
  cases c1.symm.trans e1
  cases c1.symm.trans g1
  have hl : k < fs.length := by
    obtain ⟨y, hy⟩ := Option.isSome_iff_exists.mp hv
    exact (List.getElem?_eq_some_iff.mp hy).1
  refine va_putF (ty := ty') (v := .ref (B.1 + j)) hx hb hts c4 ty e2 e3 ho hE.1 h1.2.2 wl_D h2 i hc c1 k c2 (hts _ c3) (fun x h => by rw [c5] at h; exact h) g2 hnm (c5.trans g6) g3 (g4 _) (g5 _) (by rw [List.length_map]; exact hl) hd (fun H1 locs1 hP hD hS => ?_)
  refine kk H1 locs1 ls (h1.set hw ?_) hS h3 h4 h5
  have e : (fs.set k (.ref j)).map (cz B) = (fs.map (cz B)).set k (.ref (B.1 + j)) := by rw [List.map_set]; rfl
  simp only [cE, e]
  exact hP
theorem inN {x : Int32} {n j : Nat} (hj : x = nI j) (hlt : j < n) (hn : n < 2147483648) : vp_in x n ∧ x.toNatClampNeg = j := by
  subst hj
  exact ⟨vp_in_nI hlt hn, nI_clamp (by omega)⟩
theorem x_iald (G : GK Γ cc own d) {x : Int32} {i n : Nat} {g : Nat → Int32} (q j : Nat) (hd : decode cc pc = .ok (.iaload, 1)) (hw : w[q]? = some (i, ai n g)) (hj : x = nI j) (hlt : j < n) (hn : n < 2147483648) (kk : XX Γ a (pc + 1) L (.int (g j) :: S) w f) : XX Γ a pc L (.int x :: .ref i :: S) w f := by
  obtain ⟨p, l, e, R, s, m, args, below, meth, c, Z, B⟩ := Γ
  obtain ⟨hx, hb, ho, hts, hE, hB0, hd1, hd2⟩ := G
  intro H locs ls h1 h2 h3 h4 h5
  obtain ⟨hi, hc⟩ := h1.cell hw
  obtain ⟨v1, v2⟩ := inN hj hlt hn
  refine va_iald hx hb hE.1 h1.2.2 i 0 hc rfl v1 hd ?_
  rw [v2]
  exact kk H locs ls h1 h2 h3 h4 h5
theorem x_zald (G : GK Γ cc own d) {x : Int32} {i n : Nat} {g : Nat → Int32} (q j : Nat) (hd : decode cc pc = .ok (.baload, 1)) (hw : w[q]? = some (i, ab n g)) (hj : x = nI j) (hlt : j < n) (hn : n < 2147483648) (kk : XX Γ a (pc + 1) L (.int (g j) :: S) w f) : XX Γ a pc L (.int x :: .ref i :: S) w f := by
  obtain ⟨p, l, e, R, s, m, args, below, meth, c, Z, B⟩ := Γ
  obtain ⟨hx, hb, ho, hts, hE, hB0, hd1, hd2⟩ := G
  intro H locs ls h1 h2 h3 h4 h5
  obtain ⟨hi, hc⟩ := h1.cell hw
  obtain ⟨v1, v2⟩ := inN hj hlt hn
  refine va_zald hx hb hE.1 h1.2.2 i 1 hc rfl v1 hd ?_
  rw [v2]
  exact kk H locs ls h1 h2 h3 h4 h5
theorem x_aald (G : GK Γ cc own d) {x : Int32} {i n r : Nat} {g : Nat → Option Nat} (q j : Nat) (hd : decode cc pc = .ok (.aaload, 1)) (hw : w[q]? = some (i, aq n g)) (hj : x = nI j) (hlt : j < n) (hn : n < 2147483648) (hr : g j = some r) (kk : XX Γ a (pc + 1) L (.ref r :: S) w f) : XX Γ a pc L (.int x :: .ref i :: S) w f := by
  obtain ⟨p, l, e, R, s, m, args, below, meth, c, Z, B⟩ := Γ
  obtain ⟨hx, hb, ho, hts, hE, hB0, hd1, hd2⟩ := G
  intro H locs ls h1 h2 h3 h4 h5
  obtain ⟨hi, hc⟩ := h1.cell hw
  obtain ⟨v1, v2⟩ := inN hj hlt hn
  refine va_aldq hx hb hE.1 h1.2.2 i 2 hc rfl v1 hd ?_
  rw [v2, hr]
  exact kk H locs ls h1 h2 h3 h4 h5
theorem x_iast (G : GK Γ cc own d) {x v : Int32} {i n : Nat} {g : Nat → Int32} (q j : Nat) (hd : decode cc pc = .ok (.iastore, 1)) (hw : w[q]? = some (i, ai n g)) (hj : x = nI j) (hlt : j < n) (hn : n < 2147483648) (kk : XX Γ a (pc + 1) L S (w.set q (i, ai n (upd g j v))) f) : XX Γ a pc L (.int v :: .int x :: .ref i :: S) w f := by
  obtain ⟨p, l, e, R, s, m, args, below, meth, c, Z, B⟩ := Γ
  obtain ⟨hx, hb, ho, hts, hE, hB0, hd1, hd2⟩ := G
  intro H locs ls h1 h2 h3 h4 h5
  obtain ⟨hi, hc⟩ := h1.cell hw
  obtain ⟨v1, v2⟩ := inN hj hlt hn
  refine va_iast hx hb hE.1 h1.2.2 wl_D h2 i 0 hc rfl v1 hd (fun H1 locs1 hP hD hS => ?_)
  rw [v2] at hP
  exact kk H1 locs1 ls (h1.set hw hP) hS h3 h4 h5
theorem x_zast (G : GK Γ cc own d) {x v : Int32} {i n : Nat} {g : Nat → Int32} (q j : Nat) (hd : decode cc pc = .ok (.bastore, 1)) (hw : w[q]? = some (i, ab n g)) (hj : x = nI j) (hlt : j < n) (hn : n < 2147483648) (kk : XX Γ a (pc + 1) L S (w.set q (i, ab n (upd g j (vp_nar .boolean v)))) f) : XX Γ a pc L (.int v :: .int x :: .ref i :: S) w f := by
  obtain ⟨p, l, e, R, s, m, args, below, meth, c, Z, B⟩ := Γ
  obtain ⟨hx, hb, ho, hts, hE, hB0, hd1, hd2⟩ := G
  intro H locs ls h1 h2 h3 h4 h5
  obtain ⟨hi, hc⟩ := h1.cell hw
  obtain ⟨v1, v2⟩ := inN hj hlt hn
  refine va_zast hx hb hE.1 h1.2.2 wl_D h2 i 1 hc rfl v1 hd (fun H1 locs1 hP hD hS => ?_)
  rw [v2] at hP
  exact kk H1 locs1 ls (h1.set hw hP) hS h3 h4 h5
theorem x_copy (G : GK Γ cc own (d + 1)) {ix : Nat} {xs xd xn : Int32} {i0 i1 n0 n1 : Nat} {g0 g1 : Nat → Int32} (q0 q1 sp dp n : Nat) (hd : decode cc pc = .ok (.invokestatic ix, 3)) (hml : Cond.methodLink own ix arraycopyName ∈ gw) (hnat : Cond.native arraycopyName ∈ gw) (hstt : Cond.static arraycopyName ∈ gw) (hini : Cond.initialized "java/lang/System" ∈ gw) (hw0 : w[q0]? = some (i0, ai n0 g0)) (hw1 : w[q1]? = some (i1, ai n1 g1)) (hs : xs = nI sp) (hdp : xd = nI dp) (hn : xn = nI n) (hb0 : sp + n ≤ n0) (hb1 : dp + n ≤ n1) (hm0 : n0 < 2147483648) (hm1 : n1 < 2147483648) (hS8 : (S.map fun v => v.category).sum ≤ 8) (kk : XX Γ a (pc + 3) L S (w.set q1 (i1, ai n1 (va_cpy g0 g1 sp dp n))) f) : XX Γ a pc L (.int xn :: .int xd :: .ref i1 :: .int xs :: .ref i0 :: S) w f := by
  obtain ⟨p, l, e, R, s, m, args, below, meth, c, Z, B⟩ := Γ
  obtain ⟨hx, hb, ho, hts, hE, hB0, hd1, hd2⟩ := G
  intro H locs ls h1 h2 h3 h4 h5
  obtain ⟨hi0, hc0⟩ := h1.cell hw0
  obtain ⟨hi1, hc1⟩ := h1.cell hw1
  subst hs; subst hdp; subst hn
  have e0 : (nI sp).toNatClampNeg = sp := nI_clamp (by omega)
  have e1 : (nI dp).toNatClampNeg = dp := nI_clamp (by omega)
  have e2 : (nI n).toNatClampNeg = n := nI_clamp (by omega)
  have hnw : nativeFrameWords "java/lang/System" "arraycopy" 5 + 11 ≤ 56 := by decide +kernel
  have hroom : ((S.map (cz B)).map fun v => v.category).sum + (nativeFrameWords "java/lang/System" "arraycopy" 5 + 11) ≤ R.locals := by rw [cz_sum]; omega
  refine va_copyi (sp := nI sp) (dp := nI dp) (n := nI n) hx hb h3.1.symm ho (hts _ hml) (hts _ hnat) (hts _ hstt) (hts _ hini) hE.1 h1.2.2 wl_D h2 i0 i1 0 0 hc0 hc1 rfl rfl rfl (nI_pos (by omega)) (nI_pos (by omega)) (nI_pos (by omega)) (by rw [e0, e2]; exact hb0) (by rw [e1, e2]; exact hb1) (fun i _ => rfl) (by omega) hroom hd (fun H1 locs1 hP hD hS => ?_)
  rw [e0, e1, e2] at hP
  exact kk H1 locs1 ls (h1.set hw1 hP) hS h3 h4 h5
theorem x_abs (G : GK Γ cc own (d + 1)) {ix : Nat} {x : Int32} (hd : decode cc pc = .ok (.invokestatic ix, 3)) (hml : Cond.methodLink own ix Lib.Math.abs.name ∈ gw) (hstt : Cond.static Lib.Math.abs.name ∈ gw) (hini : Cond.initialized "java/lang/Math" ∈ gw) (hcode : Cond.code Lib.Math.abs.name Lib.Math.abs.code 1 (some .int) ∈ gw) (hS8 : (S.map fun v => v.category).sum ≤ 8) (kk : XX Γ a (pc + 3) L (.int (if 0 ≤ x then x else 0 - x) :: S) w f) : XX Γ a pc L (.int x :: S) w f := by
  obtain ⟨p, l, e, R, s, m, args, below, meth, c, Z, B⟩ := Γ
  obtain ⟨hx, hb, ho, hts, hE, hB0, hd1, hd2⟩ := G
  intro H locs ls h1 h2 h3 h4 h5
  exact va_mabs hx hb h3.1.symm ho (hts _ hml) (hts _ hstt) (hts _ hini) (hts _ hcode) (by omega) (by rw [cz_sum]; omega) h4 h5 hd (kk H locs ls h1 h2 h3 h4 h5)
theorem x_objinit (G : GK Γ cc own (d + 1)) {ix i : Nat} (hd : decode cc pc = .ok (.invokespecial ix, 3)) (hml : Cond.methodLink own ix Lib.objectInit ∈ gw) (hin : Cond.instanceMethod Lib.objectInit ∈ gw) (hcode : Cond.code Lib.objectInit ⟨#[0xb1]⟩ 1 none ∈ gw) (hS8 : (S.map fun v => v.category).sum ≤ 8) (kk : XX Γ a (pc + 3) L S w f) : XX Γ a pc L (.ref i :: S) w f := by
  obtain ⟨p, l, e, R, s, m, args, below, meth, c, Z, B⟩ := Γ
  obtain ⟨hx, hb, ho, hts, hE, hB0, hd1, hd2⟩ := G
  intro H locs ls h1 h2 h3 h4 h5
  refine W.objInit hx hb ho (hts _ hml) (hts _ hin) (hts _ hcode) rfl h3.1 rfl hd (by omega) ?_ (kk H locs ls h1 h2 h3 h4 h5)
  show 2 * 0 + _ + 12 ≤ _
  rw [cz_sum]
  omega
theorem x_gets1 (G : GK Γ cc RX1 d) {ix : Nat} (hd : decode cc pc = .ok (.getstatic ix, 3)) (hml : Cond.fieldLink RX1 ix RX1 "SIZE_BODIES" "[I" ∈ gw) (kk : XX Γ a (pc + 3) L (.float 1 :: S) w f) : XX Γ a pc L S w f := by
  obtain ⟨p, l, e, R, s, m, args, below, meth, c, Z, B⟩ := Γ
  obtain ⟨hx, hb, ho, hts, hE, hB0, hd1, hd2⟩ := G
  intro H locs ls h1 h2 h3 h4 h5
  exact va_gets hx hb hE.2.2.2.1.1 h2 ho (hts _ hml) (fun _ h => h) hd (kk H locs ls h1 h2 h3 h4 h5)
theorem x_gets2 (G : GK Γ cc RX1 d) {ix : Nat} (hd : decode cc pc = .ok (.getstatic ix, 3)) (hml : Cond.fieldLink RX1 ix RX1 "MARK_BODIES" "[I" ∈ gw) (kk : XX Γ a (pc + 3) L (.float 2 :: S) w f) : XX Γ a pc L S w f := by
  obtain ⟨p, l, e, R, s, m, args, below, meth, c, Z, B⟩ := Γ
  obtain ⟨hx, hb, ho, hts, hE, hB0, hd1, hd2⟩ := G
  intro H locs ls h1 h2 h3 h4 h5
  exact va_gets hx hb hE.2.2.2.2.1 h2 ho (hts _ hml) (fun _ h => h) hd (kk H locs ls h1 h2 h3 h4 h5)
theorem x_eald1 (G : GK Γ cc own d) {x : Int32} (j : Nat) (hd : decode cc pc = .ok (.iaload, 1)) (hj : x = nI j) (hlt : j < 6) (kk : XX Γ a (pc + 1) L (.int (sizeB j) :: S) w f) : XX Γ a pc L (.int x :: .float 1 :: S) w f := by
  obtain ⟨p, l, e, R, s, m, args, below, meth, c, Z, B⟩ := Γ
  obtain ⟨hx, hb, ho, hts, hE, hB0, hd1, hd2⟩ := G
  intro H locs ls h1 h2 h3 h4 h5
  obtain ⟨v1, v2⟩ := inN hj hlt (by omega)
  exact va_ti hx hb hE.2.2.2.1.2 h2 v1 (by rw [v2]; rfl) hd (kk H locs ls h1 h2 h3 h4 h5)
theorem x_eald2 (G : GK Γ cc own d) {x : Int32} (j : Nat) (hd : decode cc pc = .ok (.iaload, 1)) (hj : x = nI j) (hlt : j < 6) (kk : XX Γ a (pc + 1) L (.int (markB j) :: S) w f) : XX Γ a pc L (.int x :: .float 2 :: S) w f := by
  obtain ⟨p, l, e, R, s, m, args, below, meth, c, Z, B⟩ := Γ
  obtain ⟨hx, hb, ho, hts, hE, hB0, hd1, hd2⟩ := G
  intro H locs ls h1 h2 h3 h4 h5
  obtain ⟨v1, v2⟩ := inN hj hlt (by omega)
  exact va_ti hx hb hE.2.2.2.2.2 h2 v1 (by rw [v2]; rfl) hd (kk H locs ls h1 h2 h3 h4 h5)
theorem x_iret (G : GK Γ cc own d) {v : Int32} {w0 : WA} {v0 : Option Value} (T : RT Γ (some .int) a f v0 w0) (hd : decode cc pc = .ok (.ireturn, 1)) (hv : some (.int v) = v0) (hw : w = w0) : XX Γ a pc L [.int v] w f := by
  obtain ⟨p, l, e, R, s, m, args, below, meth, c, Z, B⟩ := Γ
  obtain ⟨hx, hb, ho, hts, hE, hB0, hd1, hd2⟩ := G
  intro H locs ls h1 h2 h3 h4 h5
  obtain ⟨t1, t2, t3⟩ := T
  subst t3; subst hv; subst hw
  exact W.iret hx hb t1 (fun t ht hW => ⟨⟨rfl, by rw [ht]; exact h1⟩, h2.F ht⟩) h2.2.2 hd t2
theorem x_zret (G : GK Γ cc own d) {v : Int32} {w0 : WA} {v0 : Option Value} (T : RT Γ (some .boolean) a f v0 w0) (hd : decode cc pc = .ok (.ireturn, 1)) (hb01 : v = 0 ∨ v = 1) (hv : some (.int v) = v0) (hw : w = w0) : XX Γ a pc L [.int v] w f := by
  obtain ⟨p, l, e, R, s, m, args, below, meth, c, Z, B⟩ := Γ
  obtain ⟨hx, hb, ho, hts, hE, hB0, hd1, hd2⟩ := G
  intro H locs ls h1 h2 h3 h4 h5
  obtain ⟨t1, t2, t3⟩ := T
  subst t3; subst hv; subst hw
  exact W.zret hx hb t1 (by rcases hb01 with rfl | rfl <;> rfl) (fun t ht hW => ⟨⟨rfl, by rw [ht]; exact h1⟩, h2.F ht⟩) h2.2.2 hd t2
theorem x_vret (G : GK Γ cc own d) {w0 : WA} (T : RT Γ none a f none w0) (hd : decode cc pc = .ok (.return_, 1)) (hw : w = w0) : XX Γ a pc L [] w f := by
  obtain ⟨p, l, e, R, s, m, args, below, meth, c, Z, B⟩ := Γ
  obtain ⟨hx, hb, ho, hts, hE, hB0, hd1, hd2⟩ := G
  intro H locs ls h1 h2 h3 h4 h5
  obtain ⟨t1, t2, t3⟩ := T
  subst t3; subst hw
  exact W.vret hx hb t1 (fun t ht hW => ⟨⟨rfl, by rw [ht]; exact h1⟩, h2.F ht⟩) h2.2.2 hd t2
theorem x_aret (G : GK Γ cc own d) {i : Nat} {C : String} {w0 : WA} {v0 : Option Value} (T : RT Γ (some (.object C)) a f v0 w0) (hd : decode cc pc = .ok (.areturn, 1)) (hv : some (.ref i) = v0) (hw : w = w0) : XX Γ a pc L [.ref i] w f := by
  obtain ⟨p, l, e, R, s, m, args, below, meth, c, Z, B⟩ := Γ
  obtain ⟨hx, hb, ho, hts, hE, hB0, hd1, hd2⟩ := G
  intro H locs ls h1 h2 h3 h4 h5
  obtain ⟨t1, t2, t3⟩ := T
  subst t3; subst hv; subst hw
  exact W.aret hx hb t1 (Or.inl ⟨_, rfl⟩) (Or.inr ⟨_, rfl⟩) (fun t ht hW => ⟨⟨rfl, by rw [ht]; exact h1⟩, h2.F ht⟩) h2.2.2 hd t2
end RULES
end
section
/-! LINKS: which field, method, constant an instruction of a class means; each by its place in the tables. -/
abbrev MM : Type := MethodName × ByteArray × Nat × Option FieldType × Nat × Nat × Bool
def nth {α : Type} : List α → Nat → Option α
  | [], _ => none
  | a :: _, 0 => some a
  | _ :: l, n + 1 => nth l n
theorem nth_eq {α : Type} : ∀ (l : List α) (n : Nat), nth l n = l[n]?
  | [], _ => rfl
  | _ :: _, 0 => rfl
  | _ :: l, n + 1 => by rw [List.getElem?_cons_succ]; exact nth_eq l n
def ownS (oi : Nat) : String := match oi with | 0 => RX0 | 1 => RX1 | 2 => RX2 | 3 => RX3 | 4 => RX4 | 5 => RX5 | 6 => RX6 | 7 => RX7 | 8 => RX8 | _ => RL
def mil : List MM := [
  (yX0_keep, cX0_keep, 2, none, 1, 0, false),
  (yX0_takeBack, cX0_takeBack, 2, (some .boolean), 1, 0, false),
  (yX0_forget, cX0_forget, 1, none, 0, 0, false),
  (yX1_answer, cX1_answer, 4, (some .int), 3, 1, false),
  (yX1_sizeBody, cX1_sizeBody, 1, (some .int), 0, 1, false),
  (yX1_markBody, cX1_markBody, 1, (some .int), 0, 1, false),
  (yX1_run, cX1_run, 3, (some .int), 2, 1, false),
  (yX1_leave, cX1_leave, 2, none, 1, 1, false),
  (yX2_clear, cX2_clear, 2, none, 0, 2, false),
  (yX2_become, cX2_become, 2, none, 1, 2, false),
  (yX2_write, cX2_write, 3, none, 2, 2, false),
  (yX2_read, cX2_read, 3, none, 2, 2, false),
  (yX2_stands, cX2_stands, 1, (some .boolean), 0, 2, false),
  (yX2_has, cX2_has, 2, (some .boolean), 1, 2, false),
  (yX2_canHear, cX2_canHear, 3, (some .boolean), 2, 2, false),
  (yX2_weight, cX2_weight, 3, (some .int), 2, 2, false),
  (yX2_weigh, cX2_weigh, 4, none, 3, 2, false),
  (yX2_heardBy, cX2_heardBy, 4, (some .int), 1, 2, false),
  (yX2_barAt, cX2_barAt, 2, (some .int), 1, 2, false),
  (yX2_together, cX2_together, 3, (some .int), 0, 2, false),
  (yX2_quicken, cX2_quicken, 3, none, 1, 2, false),
  (yX2_leanAt, cX2_leanAt, 4, (some .int), 2, 2, false),
  (yX2_play, cX2_play, 3, none, 0, 2, false),
  (yX2_paceBehind, cX2_paceBehind, 5, (some .int), 2, 2, false),
  (yX2_pull, cX2_pull, 5, (some .int), 1, 2, false),
  (yX2_nearing, cX2_nearing, 4, (some .int), 2, 2, false),
  (yX3_findLeast, cX3_findLeast, 6, none, 2, 3, false),
  (yX3_changes, cX3_changes, 5, (some .int), 2, 3, false),
  (yX3_step, cX3_step, 6, (some .boolean), 1, 3, false),
  (yX3_swap, cX3_swap, 4, none, 2, 3, false),
  (yX4_isRow, cX4_isRow, 2, (some .boolean), 1, 4, false),
  (yX4_lacks, cX4_lacks, 2, (some .boolean), 1, 4, false),
  (yX4_laneOf, cX4_laneOf, 2, (some .int), 1, 4, false),
  (yX4_holds, cX4_holds, 4, (some .boolean), 3, 4, false),
  (yX4_make, cX4_make, 5, none, 3, 4, false),
  (yX4_put, cX4_put, 5, (some .int), 3, 4, false),
  (yX4_carry, cX4_carry, 6, none, 5, 4, false),
  (yX4_lend, cX4_lend, 4, none, 3, 4, false),
  (yX4_forget, cX4_forget, 2, (some .int), 1, 4, false),
  (yX4_howMany, cX4_howMany, 3, (some .int), 0, 4, false),
  (yX5_behind, cX5_behind, 4, (some (.object "BandPace$Band")), 2, 5, false),
  (yX5_driftOf, cX5_driftOf, 2, (some .int), 1, 5, false),
  (yX5_findRound, cX5_findRound, 4, (some .boolean), 1, 5, false),
  (yX5_remember, cX5_remember, 2, none, 1, 5, false),
  (yX5_isAs, cX5_isAs, 3, (some .boolean), 1, 5, false),
  (yX5_firstNoticed, cX5_firstNoticed, 6, (some .int), 3, 5, false),
  (yX5_findFallen, cX5_findFallen, 7, none, 4, 5, false),
  (yX5_fallenAt, cX5_fallenAt, 5, (some .int), 3, 5, true),
  (yX5_bestCountIn, cX5_bestCountIn, 8, (some .int), 3, 5, false),
  (yX5_findDeaf, cX5_findDeaf, 4, none, 1, 5, false),
  (yX5_findInEar, cX5_findInEar, 3, none, 1, 5, false),
  (yX5_keepNearest, cX5_keepNearest, 3, none, 2, 5, false),
  (yX5_blameOf, cX5_blameOf, 3, (some .int), 2, 5, false),
  (yX5_bestBack, cX5_bestBack, 10, (some .int), 5, 5, false),
  (yX5_passesUnnoticed, cX5_passesUnnoticed, 8, (some .boolean), 5, 5, false),
  (yX5_gainOfClaps, cX5_gainOfClaps, 5, (some .int), 3, 5, false),
  (yX5_findPushers, cX5_findPushers, 5, none, 2, 5, false),
  (yX5_leastPush, cX5_leastPush, 5, (some .int), 3, 5, false),
  (yX5_hasPaces, cX5_hasPaces, 3, (some .boolean), 1, 5, false),
  (yX5_findNight, cX5_findNight, 9, none, 3, 5, false),
  (yX6_takeIn, cX6_takeIn, 2, (some .boolean), 1, 6, false),
  (yX6_readInto, cX6_readInto, 2, (some .boolean), 1, 6, false),
  (yX6_readLaw, cX6_readLaw, 2, (some .boolean), 1, 6, false),
  (yX6_readSong, cX6_readSong, 2, (some .boolean), 1, 6, false),
  (yX6_readPlayers, cX6_readPlayers, 3, (some .boolean), 1, 6, false),
  (yX6_readPlayer, cX6_readPlayer, 3, (some .boolean), 1, 6, false),
  (yX6_readEars, cX6_readEars, 3, (some .boolean), 1, 6, false),
  (yX6_readEar, cX6_readEar, 4, (some .boolean), 1, 6, false),
  (yX6_takesHeard, cX6_takesHeard, 3, (some .boolean), 2, 6, false),
  (yX6_takesNumber, cX6_takesNumber, 3, (some .boolean), 2, 6, false),
  (yX6_seesNumber, cX6_seesNumber, 1, (some .boolean), 0, 6, false),
  (yX6_takes, cX6_takes, 2, (some .boolean), 1, 6, false),
  (yX6_fails, cX6_fails, 2, (some .boolean), 1, 6, false),
  (yX6_sign, cX6_sign, 1, (some .int), 0, 6, false),
  (yX6_signAt, cX6_signAt, 2, (some .int), 1, 6, false),
  (yX6_isFigure, cX6_isFigure, 1, (some .boolean), 1, 6, true),
  (yX6_barOf, cX6_barOf, 1, (some .int), 1, 6, true),
  (yX6_kindOf, cX6_kindOf, 1, (some .int), 1, 6, true),
  (yX7_row, cX7_row, 4, (some .int), 3, 7, false),
  (yX7_set, cX7_set, 4, (some .int), 3, 7, false),
  (yX7_copy, cX7_copy, 6, (some .int), 5, 7, false),
  (yX7_drop, cX7_drop, 2, (some .int), 1, 7, false),
  (yX7_feed, cX7_feed, 2, (some .int), 1, 7, false),
  (yX7_band, cX7_band, 2, (some .int), 0, 7, false),
  (yX7_fault, cX7_fault, 1, (some .int), 0, 7, false),
  (yX7_undo, cX7_undo, 1, (some .int), 0, 7, false),
  (yX7_bars, cX7_bars, 3, (some .int), 1, 7, false),
  (yX7_pace, cX7_pace, 4, (some .int), 2, 7, false),
  (yX7_hears, cX7_hears, 5, (some .int), 3, 7, false),
  (yX7_click, cX7_click, 3, (some .int), 1, 7, false),
  (yX7_claps, cX7_claps, 2, (some .int), 1, 7, false),
  (yX7_player, cX7_player, 3, (some .int), 2, 7, false),
  (yX7_ear, cX7_ear, 3, (some .int), 2, 7, false),
  (yX7_bar, cX7_bar, 2, (some .int), 1, 7, false),
  (yX7_ahead, cX7_ahead, 4, (some .int), 2, 7, false),
  (yX7_drift, cX7_drift, 1, (some .int), 0, 7, false),
  (yX7_round, cX7_round, 2, (some .int), 1, 7, false),
  (yX7_noticed, cX7_noticed, 3, (some .int), 2, 7, false),
  (yX7_dancers, cX7_dancers, 6, (some .int), 5, 7, false),
  (yX7_countIn, cX7_countIn, 3, (some .int), 2, 7, false),
  (yX7_deaf, cX7_deaf, 2, (some .int), 1, 7, false),
  (yX7_inEar, cX7_inEar, 2, (some .int), 1, 7, false),
  (yX7_blame, cX7_blame, 2, (some .int), 1, 7, false),
  (yX7_back, cX7_back, 5, (some .int), 4, 7, false),
  (yX7_songs, cX7_songs, 6, (some .int), 4, 7, false),
  (yX7_clapped, cX7_clapped, 3, (some .int), 2, 7, false),
  (yX7_whoPushed, cX7_whoPushed, 4, (some .int), 3, 7, false),
  (yX7_night, cX7_night, 4, (some .int), 3, 7, false),
  (yX7_image, cX7_image, 2, (some .int), 1, 7, false),
  (yX7_restore, cX7_restore, 2, (some .int), 1, 7, false),
  (yX7_kind, cX7_kind, 2, (some .int), 1, 7, false),
  (yX7_as, cX7_as, 3, (some .int), 2, 7, false),
  (yX7_ask, cX7_ask, 3, (some .int), 2, 7, false),
  (yX7_trace, cX7_trace, 2, (some .int), 1, 7, false),
  (yX7_count, cX7_count, 2, (some .int), 1, 7, false),
  (yX7_status, cX7_status, 1, (some .int), 0, 7, false),
  (yX7_found, cX7_found, 2, (some .int), 1, 7, false),
  (yX7_withoutFinding, cX7_withoutFinding, 2, (some .int), 1, 7, false),
  (yX7_within, cX7_within, 3, (some .boolean), 3, 7, true),
  (yX7_bounded, cX7_bounded, 1, (some .int), 1, 7, true),
  (yX7_isOf, cX7_isOf, 2, (some .boolean), 2, 7, true),
  (yX8_in, cX8_in, 6, (some .boolean), 3, 8, true),
  (yX8_plain, cX8_plain, 1, (some .int), 1, 8, true),
  (yX8_bound, cX8_bound, 1, (some .int), 1, 8, true),
  (yX8_found, cX8_found, 2, (some .int), 1, 8, false),
  (yX8_well, cX8_well, 2, (some .int), 1, 8, false),
  (yX8_isRow, cX8_isRow, 1, (some .boolean), 1, 8, true),
  (yX8_row, cX8_row, 5, (some .int), 3, 8, false),
  (yX8_cutTo, cX8_cutTo, 2, (some .int), 2, 8, true),
  (yX8_against, cX8_against, 4, (some .int), 3, 8, false),
  (yX8_set, cX8_set, 5, (some .int), 3, 8, false),
  (yX8_copy, cX8_copy, 7, (some .int), 5, 8, false),
  (yX8_drop, cX8_drop, 2, (some .int), 1, 8, false),
  (yX8_feed, cX8_feed, 2, (some .int), 1, 8, false),
  (yX8_byteAt, cX8_byteAt, 2, (some .int), 1, 8, false),
  (yX8_isFigure, cX8_isFigure, 2, (some .boolean), 1, 8, false),
  (yX8_takes, cX8_takes, 3, (some .boolean), 1, 8, false),
  (yX8_takesNumber, cX8_takesNumber, 4, (some .boolean), 2, 8, false),
  (yX8_isMore, cX8_isMore, 1, (some .boolean), 0, 8, false),
  (yX8_takesLaw, cX8_takesLaw, 2, (some .boolean), 0, 8, false),
  (yX8_barOf, cX8_barOf, 1, (some .int), 1, 8, true),
  (yX8_takesSong, cX8_takesSong, 1, (some .boolean), 0, 8, false),
  (yX8_sortOf, cX8_sortOf, 1, (some .int), 1, 8, true),
  (yX8_takesPlayer, cX8_takesPlayer, 3, (some .boolean), 0, 8, false),
  (yX8_takesEar, cX8_takesEar, 4, (some .boolean), 0, 8, false),
  (yX8_isBand, cX8_isBand, 2, (some .boolean), 0, 8, false),
  (yX8_band, cX8_band, 3, (some .int), 0, 8, false),
  (yX8_fault, cX8_fault, 1, (some .int), 0, 8, false),
  (yX8_layNow, cX8_layNow, 2, none, 0, 8, false),
  (yX8_leanAt, cX8_leanAt, 4, (some .int), 2, 8, false),
  (yX8_paceBehind, cX8_paceBehind, 6, (some .int), 2, 8, false),
  (yX8_plays, cX8_plays, 3, none, 0, 8, false),
  (yX8_mean, cX8_mean, 3, (some .int), 0, 8, false),
  (yX8_playsMany, cX8_playsMany, 3, none, 1, 8, false),
  (yX8_meanNow, cX8_meanNow, 3, (some .int), 0, 8, false),
  (yX8_driftBy, cX8_driftBy, 2, (some .int), 0, 8, false),
  (yX8_minds, cX8_minds, 2, none, 0, 8, false),
  (yX8_undo, cX8_undo, 2, (some .int), 0, 8, false),
  (yX8_isPlayer, cX8_isPlayer, 2, (some .boolean), 1, 8, false),
  (yX8_isNone, cX8_isNone, 1, (some .boolean), 0, 8, false),
  (yX8_bars, cX8_bars, 4, (some .int), 1, 8, false),
  (yX8_pace, cX8_pace, 4, (some .int), 2, 8, false),
  (yX8_hears, cX8_hears, 5, (some .int), 3, 8, false),
  (yX8_click, cX8_click, 3, (some .int), 1, 8, false),
  (yX8_claps, cX8_claps, 3, (some .int), 1, 8, false),
  (yX8_player, cX8_player, 5, (some .int), 2, 8, false),
  (yX8_ear, cX8_ear, 3, (some .int), 2, 8, false),
  (yX8_bar, cX8_bar, 2, (some .int), 1, 8, false),
  (yX8_ahead, cX8_ahead, 3, (some .int), 2, 8, false),
  (yX8_drift, cX8_drift, 1, (some .int), 0, 8, false),
  (yX8_round, cX8_round, 4, (some .int), 1, 8, false),
  (yX8_areAlike, cX8_areAlike, 5, (some .boolean), 2, 8, false),
  (yX8_noticed, cX8_noticed, 5, (some .int), 2, 8, false),
  (yX8_dancers, cX8_dancers, 12, (some .int), 5, 8, false),
  (yX8_countIn, cX8_countIn, 7, (some .int), 2, 8, false),
  (yX8_deaf, cX8_deaf, 7, (some .int), 1, 8, false),
  (yX8_inEar, cX8_inEar, 7, (some .int), 1, 8, false),
  (yX8_blame, cX8_blame, 3, (some .int), 1, 8, false),
  (yX8_farBy, cX8_farBy, 9, (some .int), 5, 8, false),
  (yX8_back, cX8_back, 9, (some .int), 4, 8, false),
  (yX8_between, cX8_between, 10, (some .int), 3, 8, false),
  (yX8_songs, cX8_songs, 12, (some .int), 4, 8, false),
  (yX8_clapped, cX8_clapped, 5, (some .int), 2, 8, false),
  (yX8_pushBy, cX8_pushBy, 7, (some .int), 2, 8, false),
  (yX8_whoPushed, cX8_whoPushed, 9, (some .int), 3, 8, false),
  (yX8_night, cX8_night, 10, (some .int), 3, 8, false),
  (yX8_image, cX8_image, 3, (some .int), 1, 8, false),
  (yX8_restore, cX8_restore, 3, (some .int), 1, 8, false),
  (yX8_leaves, cX8_leaves, 2, none, 1, 8, false),
  (yX8_kind, cX8_kind, 2, (some .int), 1, 8, false),
  (yX8_isOf, cX8_isOf, 2, (some .boolean), 2, 8, true),
  (yX8_as, cX8_as, 3, (some .int), 2, 8, false),
  (yX8_bareSize, cX8_bareSize, 2, (some .int), 1, 8, false),
  (yX8_bareMark, cX8_bareMark, 2, (some .int), 1, 8, false),
  (yX8_steadyMark, cX8_steadyMark, 2, (some .int), 1, 8, false),
  (yX8_markOfSteady, cX8_markOfSteady, 2, (some .int), 1, 8, false),
  (yX8_steadySize, cX8_steadySize, 3, (some .int), 1, 8, false),
  (yX8_clickedSize, cX8_clickedSize, 2, (some .int), 1, 8, false),
  (yX8_sizeOf, cX8_sizeOf, 2, (some .int), 1, 8, false),
  (yX8_markOf, cX8_markOf, 3, (some .int), 1, 8, false),
  (yX8_ask, cX8_ask, 3, (some .int), 2, 8, false),
  (yX8_trace, cX8_trace, 2, (some .int), 1, 8, false),
  (yX8_rowsMany, cX8_rowsMany, 3, (some .int), 0, 8, false),
  (yX8_count, cX8_count, 2, (some .int), 1, 8, false),
  (yX8_status, cX8_status, 1, (some .int), 0, 8, false)]
def MOK (q : MM) : Prop := MI q.1 q.2.1 q.2.2.1 q.2.2.2.1 q.2.2.2.2.1 ∧ (∃ (T : u_T) (N : Nat), vwCl[q.2.2.2.2.2.1]? = some (q.1.cls, T, N)) ∧ ((q.2.2.2.2.2.2 = true ∧ Cond.static q.1 ∈ gw) ∨ (q.2.2.2.2.2.2 = false ∧ Cond.instanceMethod q.1 ∈ gw ∧ Cond.selects q.1.cls q.1 q.1 ∈ gw))
set_option maxRecDepth 20000 in
theorem mk_0 : MOK (yX0_keep, cX0_keep, 2, none, 1, 0, false) := ⟨⟨gw_at 544 rfl rfl, gw_at 74 (by decide +kernel) rfl, by decide +kernel, ⟨by decide +kernel, by decide +kernel, by decide +kernel⟩, Nat.le_of_ble_eq_true rfl⟩, ⟨_, _, rfl⟩, Or.inr ⟨rfl, gw_at 542 (by decide +kernel) rfl, gw_at 543 (by decide +kernel) rfl⟩⟩
set_option maxRecDepth 20000 in
theorem mk_1 : MOK (yX0_takeBack, cX0_takeBack, 2, (some .boolean), 1, 0, false) := ⟨⟨gw_at 527 rfl rfl, gw_at 74 (by decide +kernel) rfl, by decide +kernel, ⟨by decide +kernel, by decide +kernel, by decide +kernel⟩, Nat.le_of_ble_eq_true rfl⟩, ⟨_, _, rfl⟩, Or.inr ⟨rfl, gw_at 525 (by decide +kernel) rfl, gw_at 526 (by decide +kernel) rfl⟩⟩
set_option maxRecDepth 20000 in
theorem mk_2 : MOK (yX0_forget, cX0_forget, 1, none, 0, 0, false) := ⟨⟨gw_at 515 rfl rfl, gw_at 74 (by decide +kernel) rfl, by decide +kernel, ⟨by decide +kernel, by decide +kernel, by decide +kernel⟩, Nat.le_of_ble_eq_true rfl⟩, ⟨_, _, rfl⟩, Or.inr ⟨rfl, gw_at 513 (by decide +kernel) rfl, gw_at 514 (by decide +kernel) rfl⟩⟩
set_option maxRecDepth 20000 in
theorem mk_3 : MOK (yX1_answer, cX1_answer, 4, (some .int), 3, 1, false) := ⟨⟨gw_at 828 rfl rfl, gw_at 77 (by decide +kernel) rfl, by decide +kernel, ⟨by decide +kernel, by decide +kernel, by decide +kernel⟩, Nat.le_of_ble_eq_true rfl⟩, ⟨_, _, rfl⟩, Or.inr ⟨rfl, gw_at 826 (by decide +kernel) rfl, gw_at 827 (by decide +kernel) rfl⟩⟩
set_option maxRecDepth 20000 in
theorem mk_4 : MOK (yX1_sizeBody, cX1_sizeBody, 1, (some .int), 0, 1, false) := ⟨⟨gw_at 832 rfl rfl, gw_at 77 (by decide +kernel) rfl, by decide +kernel, ⟨by decide +kernel, by decide +kernel, by decide +kernel⟩, Nat.le_of_ble_eq_true rfl⟩, ⟨_, _, rfl⟩, Or.inr ⟨rfl, gw_at 831 (by decide +kernel) rfl, gw_at 27 (by decide +kernel) rfl⟩⟩
set_option maxRecDepth 20000 in
theorem mk_5 : MOK (yX1_markBody, cX1_markBody, 1, (some .int), 0, 1, false) := ⟨⟨gw_at 839 rfl rfl, gw_at 77 (by decide +kernel) rfl, by decide +kernel, ⟨by decide +kernel, by decide +kernel, by decide +kernel⟩, Nat.le_of_ble_eq_true rfl⟩, ⟨_, _, rfl⟩, Or.inr ⟨rfl, gw_at 838 (by decide +kernel) rfl, gw_at 28 (by decide +kernel) rfl⟩⟩
set_option maxRecDepth 20000 in
theorem mk_6 : MOK (yX1_run, cX1_run, 3, (some .int), 2, 1, false) := ⟨⟨gw_at 845 rfl rfl, gw_at 77 (by decide +kernel) rfl, by decide +kernel, ⟨by decide +kernel, by decide +kernel, by decide +kernel⟩, Nat.le_of_ble_eq_true rfl⟩, ⟨_, _, rfl⟩, Or.inr ⟨rfl, gw_at 844 (by decide +kernel) rfl, gw_at 29 (by decide +kernel) rfl⟩⟩
set_option maxRecDepth 20000 in
theorem mk_7 : MOK (yX1_leave, cX1_leave, 2, none, 1, 1, false) := ⟨⟨gw_at 849 rfl rfl, gw_at 77 (by decide +kernel) rfl, by decide +kernel, ⟨by decide +kernel, by decide +kernel, by decide +kernel⟩, Nat.le_of_ble_eq_true rfl⟩, ⟨_, _, rfl⟩, Or.inr ⟨rfl, gw_at 848 (by decide +kernel) rfl, gw_at 30 (by decide +kernel) rfl⟩⟩
set_option maxRecDepth 20000 in
theorem mk_8 : MOK (yX2_clear, cX2_clear, 2, none, 0, 2, false) := ⟨⟨gw_at 427 rfl rfl, gw_at 73 (by decide +kernel) rfl, by decide +kernel, ⟨by decide +kernel, by decide +kernel, by decide +kernel⟩, Nat.le_of_ble_eq_true rfl⟩, ⟨_, _, rfl⟩, Or.inr ⟨rfl, gw_at 425 (by decide +kernel) rfl, gw_at 426 (by decide +kernel) rfl⟩⟩
set_option maxRecDepth 20000 in
theorem mk_9 : MOK (yX2_become, cX2_become, 2, none, 1, 2, false) := ⟨⟨gw_at 510 rfl rfl, gw_at 73 (by decide +kernel) rfl, by decide +kernel, ⟨by decide +kernel, by decide +kernel, by decide +kernel⟩, Nat.le_of_ble_eq_true rfl⟩, ⟨_, _, rfl⟩, Or.inr ⟨rfl, gw_at 508 (by decide +kernel) rfl, gw_at 509 (by decide +kernel) rfl⟩⟩
set_option maxRecDepth 20000 in
theorem mk_10 : MOK (yX2_write, cX2_write, 3, none, 2, 2, false) := ⟨⟨gw_at 548 rfl rfl, gw_at 73 (by decide +kernel) rfl, by decide +kernel, ⟨by decide +kernel, by decide +kernel, by decide +kernel⟩, Nat.le_of_ble_eq_true rfl⟩, ⟨_, _, rfl⟩, Or.inr ⟨rfl, gw_at 546 (by decide +kernel) rfl, gw_at 547 (by decide +kernel) rfl⟩⟩
set_option maxRecDepth 20000 in
theorem mk_11 : MOK (yX2_read, cX2_read, 3, none, 2, 2, false) := ⟨⟨gw_at 531 rfl rfl, gw_at 73 (by decide +kernel) rfl, by decide +kernel, ⟨by decide +kernel, by decide +kernel, by decide +kernel⟩, Nat.le_of_ble_eq_true rfl⟩, ⟨_, _, rfl⟩, Or.inr ⟨rfl, gw_at 529 (by decide +kernel) rfl, gw_at 530 (by decide +kernel) rfl⟩⟩
set_option maxRecDepth 20000 in
theorem mk_12 : MOK (yX2_stands, cX2_stands, 1, (some .boolean), 0, 2, false) := ⟨⟨gw_at 540 rfl rfl, gw_at 73 (by decide +kernel) rfl, by decide +kernel, ⟨by decide +kernel, by decide +kernel, by decide +kernel⟩, Nat.le_of_ble_eq_true rfl⟩, ⟨_, _, rfl⟩, Or.inr ⟨rfl, gw_at 538 (by decide +kernel) rfl, gw_at 539 (by decide +kernel) rfl⟩⟩
set_option maxRecDepth 20000 in
theorem mk_13 : MOK (yX2_has, cX2_has, 2, (some .boolean), 1, 2, false) := ⟨⟨gw_at 497 rfl rfl, gw_at 73 (by decide +kernel) rfl, by decide +kernel, ⟨by decide +kernel, by decide +kernel, by decide +kernel⟩, Nat.le_of_ble_eq_true rfl⟩, ⟨_, _, rfl⟩, Or.inr ⟨rfl, gw_at 495 (by decide +kernel) rfl, gw_at 496 (by decide +kernel) rfl⟩⟩
set_option maxRecDepth 20000 in
theorem mk_14 : MOK (yX2_canHear, cX2_canHear, 3, (some .boolean), 2, 2, false) := ⟨⟨gw_at 493 rfl rfl, gw_at 73 (by decide +kernel) rfl, by decide +kernel, ⟨by decide +kernel, by decide +kernel, by decide +kernel⟩, Nat.le_of_ble_eq_true rfl⟩, ⟨_, _, rfl⟩, Or.inr ⟨rfl, gw_at 491 (by decide +kernel) rfl, gw_at 492 (by decide +kernel) rfl⟩⟩
set_option maxRecDepth 20000 in
theorem mk_15 : MOK (yX2_weight, cX2_weight, 3, (some .int), 2, 2, false) := ⟨⟨gw_at 501 rfl rfl, gw_at 73 (by decide +kernel) rfl, by decide +kernel, ⟨by decide +kernel, by decide +kernel, by decide +kernel⟩, Nat.le_of_ble_eq_true rfl⟩, ⟨_, _, rfl⟩, Or.inr ⟨rfl, gw_at 499 (by decide +kernel) rfl, gw_at 500 (by decide +kernel) rfl⟩⟩
set_option maxRecDepth 20000 in
theorem mk_16 : MOK (yX2_weigh, cX2_weigh, 4, none, 3, 2, false) := ⟨⟨gw_at 505 rfl rfl, gw_at 73 (by decide +kernel) rfl, by decide +kernel, ⟨by decide +kernel, by decide +kernel, by decide +kernel⟩, Nat.le_of_ble_eq_true rfl⟩, ⟨_, _, rfl⟩, Or.inr ⟨rfl, gw_at 503 (by decide +kernel) rfl, gw_at 504 (by decide +kernel) rfl⟩⟩
set_option maxRecDepth 20000 in
theorem mk_17 : MOK (yX2_heardBy, cX2_heardBy, 4, (some .int), 1, 2, false) := ⟨⟨gw_at 613 rfl rfl, gw_at 73 (by decide +kernel) rfl, by decide +kernel, ⟨by decide +kernel, by decide +kernel, by decide +kernel⟩, Nat.le_of_ble_eq_true rfl⟩, ⟨_, _, rfl⟩, Or.inr ⟨rfl, gw_at 611 (by decide +kernel) rfl, gw_at 612 (by decide +kernel) rfl⟩⟩
set_option maxRecDepth 20000 in
theorem mk_18 : MOK (yX2_barAt, cX2_barAt, 2, (some .int), 1, 2, false) := ⟨⟨gw_at 556 rfl rfl, gw_at 73 (by decide +kernel) rfl, by decide +kernel, ⟨by decide +kernel, by decide +kernel, by decide +kernel⟩, Nat.le_of_ble_eq_true rfl⟩, ⟨_, _, rfl⟩, Or.inr ⟨rfl, gw_at 554 (by decide +kernel) rfl, gw_at 555 (by decide +kernel) rfl⟩⟩
set_option maxRecDepth 20000 in
theorem mk_19 : MOK (yX2_together, cX2_together, 3, (some .int), 0, 2, false) := ⟨⟨gw_at 579 rfl rfl, gw_at 73 (by decide +kernel) rfl, by decide +kernel, ⟨by decide +kernel, by decide +kernel, by decide +kernel⟩, Nat.le_of_ble_eq_true rfl⟩, ⟨_, _, rfl⟩, Or.inr ⟨rfl, gw_at 577 (by decide +kernel) rfl, gw_at 578 (by decide +kernel) rfl⟩⟩
set_option maxRecDepth 20000 in
theorem mk_20 : MOK (yX2_quicken, cX2_quicken, 3, none, 1, 2, false) := ⟨⟨gw_at 603 rfl rfl, gw_at 73 (by decide +kernel) rfl, by decide +kernel, ⟨by decide +kernel, by decide +kernel, by decide +kernel⟩, Nat.le_of_ble_eq_true rfl⟩, ⟨_, _, rfl⟩, Or.inr ⟨rfl, gw_at 601 (by decide +kernel) rfl, gw_at 602 (by decide +kernel) rfl⟩⟩
set_option maxRecDepth 20000 in
theorem mk_21 : MOK (yX2_leanAt, cX2_leanAt, 4, (some .int), 2, 2, false) := ⟨⟨gw_at 568 rfl rfl, gw_at 73 (by decide +kernel) rfl, by decide +kernel, ⟨by decide +kernel, by decide +kernel, by decide +kernel⟩, Nat.le_of_ble_eq_true rfl⟩, ⟨_, _, rfl⟩, Or.inr ⟨rfl, gw_at 566 (by decide +kernel) rfl, gw_at 567 (by decide +kernel) rfl⟩⟩
set_option maxRecDepth 20000 in
theorem mk_22 : MOK (yX2_play, cX2_play, 3, none, 0, 2, false) := ⟨⟨gw_at 552 rfl rfl, gw_at 73 (by decide +kernel) rfl, by decide +kernel, ⟨by decide +kernel, by decide +kernel, by decide +kernel⟩, Nat.le_of_ble_eq_true rfl⟩, ⟨_, _, rfl⟩, Or.inr ⟨rfl, gw_at 550 (by decide +kernel) rfl, gw_at 551 (by decide +kernel) rfl⟩⟩
set_option maxRecDepth 20000 in
theorem mk_23 : MOK (yX2_paceBehind, cX2_paceBehind, 5, (some .int), 2, 2, false) := ⟨⟨gw_at 560 rfl rfl, gw_at 73 (by decide +kernel) rfl, by decide +kernel, ⟨by decide +kernel, by decide +kernel, by decide +kernel⟩, Nat.le_of_ble_eq_true rfl⟩, ⟨_, _, rfl⟩, Or.inr ⟨rfl, gw_at 559 (by decide +kernel) rfl, gw_at 15 (by decide +kernel) rfl⟩⟩
set_option maxRecDepth 20000 in
theorem mk_24 : MOK (yX2_pull, cX2_pull, 5, (some .int), 1, 2, false) := ⟨⟨gw_at 564 rfl rfl, gw_at 73 (by decide +kernel) rfl, by decide +kernel, ⟨by decide +kernel, by decide +kernel, by decide +kernel⟩, Nat.le_of_ble_eq_true rfl⟩, ⟨_, _, rfl⟩, Or.inr ⟨rfl, gw_at 563 (by decide +kernel) rfl, gw_at 16 (by decide +kernel) rfl⟩⟩
set_option maxRecDepth 20000 in
theorem mk_25 : MOK (yX2_nearing, cX2_nearing, 4, (some .int), 2, 2, false) := ⟨⟨gw_at 572 rfl rfl, gw_at 73 (by decide +kernel) rfl, by decide +kernel, ⟨by decide +kernel, by decide +kernel, by decide +kernel⟩, Nat.le_of_ble_eq_true rfl⟩, ⟨_, _, rfl⟩, Or.inr ⟨rfl, gw_at 571 (by decide +kernel) rfl, gw_at 17 (by decide +kernel) rfl⟩⟩
set_option maxRecDepth 20000 in
theorem mk_26 : MOK (yX3_findLeast, cX3_findLeast, 6, none, 2, 3, false) := ⟨⟨gw_at 752 rfl rfl, gw_at 76 (by decide +kernel) rfl, by decide +kernel, ⟨by decide +kernel, by decide +kernel, by decide +kernel⟩, Nat.le_of_ble_eq_true rfl⟩, ⟨_, _, rfl⟩, Or.inr ⟨rfl, gw_at 750 (by decide +kernel) rfl, gw_at 751 (by decide +kernel) rfl⟩⟩
set_option maxRecDepth 20000 in
theorem mk_27 : MOK (yX3_changes, cX3_changes, 5, (some .int), 2, 3, false) := ⟨⟨gw_at 757 rfl rfl, gw_at 76 (by decide +kernel) rfl, by decide +kernel, ⟨by decide +kernel, by decide +kernel, by decide +kernel⟩, Nat.le_of_ble_eq_true rfl⟩, ⟨_, _, rfl⟩, Or.inr ⟨rfl, gw_at 756 (by decide +kernel) rfl, gw_at 22 (by decide +kernel) rfl⟩⟩
set_option maxRecDepth 20000 in
theorem mk_28 : MOK (yX3_step, cX3_step, 6, (some .boolean), 1, 3, false) := ⟨⟨gw_at 763 rfl rfl, gw_at 76 (by decide +kernel) rfl, by decide +kernel, ⟨by decide +kernel, by decide +kernel, by decide +kernel⟩, Nat.le_of_ble_eq_true rfl⟩, ⟨_, _, rfl⟩, Or.inr ⟨rfl, gw_at 762 (by decide +kernel) rfl, gw_at 23 (by decide +kernel) rfl⟩⟩
set_option maxRecDepth 20000 in
theorem mk_29 : MOK (yX3_swap, cX3_swap, 4, none, 2, 3, false) := ⟨⟨gw_at 767 rfl rfl, gw_at 76 (by decide +kernel) rfl, by decide +kernel, ⟨by decide +kernel, by decide +kernel, by decide +kernel⟩, Nat.le_of_ble_eq_true rfl⟩, ⟨_, _, rfl⟩, Or.inr ⟨rfl, gw_at 766 (by decide +kernel) rfl, gw_at 24 (by decide +kernel) rfl⟩⟩
set_option maxRecDepth 20000 in
theorem mk_30 : MOK (yX4_isRow, cX4_isRow, 2, (some .boolean), 1, 4, false) := ⟨⟨gw_at 350 rfl rfl, gw_at 71 (by decide +kernel) rfl, by decide +kernel, ⟨by decide +kernel, by decide +kernel, by decide +kernel⟩, Nat.le_of_ble_eq_true rfl⟩, ⟨_, _, rfl⟩, Or.inr ⟨rfl, gw_at 348 (by decide +kernel) rfl, gw_at 349 (by decide +kernel) rfl⟩⟩
set_option maxRecDepth 20000 in
theorem mk_31 : MOK (yX4_lacks, cX4_lacks, 2, (some .boolean), 1, 4, false) := ⟨⟨gw_at 375 rfl rfl, gw_at 71 (by decide +kernel) rfl, by decide +kernel, ⟨by decide +kernel, by decide +kernel, by decide +kernel⟩, Nat.le_of_ble_eq_true rfl⟩, ⟨_, _, rfl⟩, Or.inr ⟨rfl, gw_at 373 (by decide +kernel) rfl, gw_at 374 (by decide +kernel) rfl⟩⟩
set_option maxRecDepth 20000 in
theorem mk_32 : MOK (yX4_laneOf, cX4_laneOf, 2, (some .int), 1, 4, false) := ⟨⟨gw_at 391 rfl rfl, gw_at 71 (by decide +kernel) rfl, by decide +kernel, ⟨by decide +kernel, by decide +kernel, by decide +kernel⟩, Nat.le_of_ble_eq_true rfl⟩, ⟨_, _, rfl⟩, Or.inr ⟨rfl, gw_at 389 (by decide +kernel) rfl, gw_at 390 (by decide +kernel) rfl⟩⟩
set_option maxRecDepth 20000 in
theorem mk_33 : MOK (yX4_holds, cX4_holds, 4, (some .boolean), 3, 4, false) := ⟨⟨gw_at 379 rfl rfl, gw_at 71 (by decide +kernel) rfl, by decide +kernel, ⟨by decide +kernel, by decide +kernel, by decide +kernel⟩, Nat.le_of_ble_eq_true rfl⟩, ⟨_, _, rfl⟩, Or.inr ⟨rfl, gw_at 377 (by decide +kernel) rfl, gw_at 378 (by decide +kernel) rfl⟩⟩
set_option maxRecDepth 20000 in
theorem mk_34 : MOK (yX4_make, cX4_make, 5, none, 3, 4, false) := ⟨⟨gw_at 363 rfl rfl, gw_at 71 (by decide +kernel) rfl, by decide +kernel, ⟨by decide +kernel, by decide +kernel, by decide +kernel⟩, Nat.le_of_ble_eq_true rfl⟩, ⟨_, _, rfl⟩, Or.inr ⟨rfl, gw_at 361 (by decide +kernel) rfl, gw_at 362 (by decide +kernel) rfl⟩⟩
set_option maxRecDepth 20000 in
theorem mk_35 : MOK (yX4_put, cX4_put, 5, (some .int), 3, 4, false) := ⟨⟨gw_at 383 rfl rfl, gw_at 71 (by decide +kernel) rfl, by decide +kernel, ⟨by decide +kernel, by decide +kernel, by decide +kernel⟩, Nat.le_of_ble_eq_true rfl⟩, ⟨_, _, rfl⟩, Or.inr ⟨rfl, gw_at 381 (by decide +kernel) rfl, gw_at 382 (by decide +kernel) rfl⟩⟩
set_option maxRecDepth 20000 in
theorem mk_36 : MOK (yX4_carry, cX4_carry, 6, none, 5, 4, false) := ⟨⟨gw_at 395 rfl rfl, gw_at 71 (by decide +kernel) rfl, by decide +kernel, ⟨by decide +kernel, by decide +kernel, by decide +kernel⟩, Nat.le_of_ble_eq_true rfl⟩, ⟨_, _, rfl⟩, Or.inr ⟨rfl, gw_at 393 (by decide +kernel) rfl, gw_at 394 (by decide +kernel) rfl⟩⟩
set_option maxRecDepth 20000 in
theorem mk_37 : MOK (yX4_lend, cX4_lend, 4, none, 3, 4, false) := ⟨⟨gw_at 680 rfl rfl, gw_at 71 (by decide +kernel) rfl, by decide +kernel, ⟨by decide +kernel, by decide +kernel, by decide +kernel⟩, Nat.le_of_ble_eq_true rfl⟩, ⟨_, _, rfl⟩, Or.inr ⟨rfl, gw_at 678 (by decide +kernel) rfl, gw_at 679 (by decide +kernel) rfl⟩⟩
set_option maxRecDepth 20000 in
theorem mk_38 : MOK (yX4_forget, cX4_forget, 2, (some .int), 1, 4, false) := ⟨⟨gw_at 406 rfl rfl, gw_at 71 (by decide +kernel) rfl, by decide +kernel, ⟨by decide +kernel, by decide +kernel, by decide +kernel⟩, Nat.le_of_ble_eq_true rfl⟩, ⟨_, _, rfl⟩, Or.inr ⟨rfl, gw_at 404 (by decide +kernel) rfl, gw_at 405 (by decide +kernel) rfl⟩⟩
set_option maxRecDepth 20000 in
theorem mk_39 : MOK (yX4_howMany, cX4_howMany, 3, (some .int), 0, 4, false) := ⟨⟨gw_at 861 rfl rfl, gw_at 71 (by decide +kernel) rfl, by decide +kernel, ⟨by decide +kernel, by decide +kernel, by decide +kernel⟩, Nat.le_of_ble_eq_true rfl⟩, ⟨_, _, rfl⟩, Or.inr ⟨rfl, gw_at 859 (by decide +kernel) rfl, gw_at 860 (by decide +kernel) rfl⟩⟩
set_option maxRecDepth 20000 in
theorem mk_40 : MOK (yX5_behind, cX5_behind, 4, (some (.object "BandPace$Band")), 2, 5, false) := ⟨⟨gw_at 630 rfl rfl, gw_at 75 (by decide +kernel) rfl, by decide +kernel, ⟨by decide +kernel, by decide +kernel, by decide +kernel⟩, Nat.le_of_ble_eq_true rfl⟩, ⟨_, _, rfl⟩, Or.inr ⟨rfl, gw_at 628 (by decide +kernel) rfl, gw_at 629 (by decide +kernel) rfl⟩⟩
set_option maxRecDepth 20000 in
theorem mk_41 : MOK (yX5_driftOf, cX5_driftOf, 2, (some .int), 1, 5, false) := ⟨⟨gw_at 640 rfl rfl, gw_at 75 (by decide +kernel) rfl, by decide +kernel, ⟨by decide +kernel, by decide +kernel, by decide +kernel⟩, Nat.le_of_ble_eq_true rfl⟩, ⟨_, _, rfl⟩, Or.inr ⟨rfl, gw_at 638 (by decide +kernel) rfl, gw_at 639 (by decide +kernel) rfl⟩⟩
set_option maxRecDepth 20000 in
theorem mk_42 : MOK (yX5_findRound, cX5_findRound, 4, (some .boolean), 1, 5, false) := ⟨⟨gw_at 650 rfl rfl, gw_at 75 (by decide +kernel) rfl, by decide +kernel, ⟨by decide +kernel, by decide +kernel, by decide +kernel⟩, Nat.le_of_ble_eq_true rfl⟩, ⟨_, _, rfl⟩, Or.inr ⟨rfl, gw_at 648 (by decide +kernel) rfl, gw_at 649 (by decide +kernel) rfl⟩⟩
set_option maxRecDepth 20000 in
theorem mk_43 : MOK (yX5_remember, cX5_remember, 2, none, 1, 5, false) := ⟨⟨gw_at 654 rfl rfl, gw_at 75 (by decide +kernel) rfl, by decide +kernel, ⟨by decide +kernel, by decide +kernel, by decide +kernel⟩, Nat.le_of_ble_eq_true rfl⟩, ⟨_, _, rfl⟩, Or.inr ⟨rfl, gw_at 653 (by decide +kernel) rfl, gw_at 18 (by decide +kernel) rfl⟩⟩
set_option maxRecDepth 20000 in
theorem mk_44 : MOK (yX5_isAs, cX5_isAs, 3, (some .boolean), 1, 5, false) := ⟨⟨gw_at 659 rfl rfl, gw_at 75 (by decide +kernel) rfl, by decide +kernel, ⟨by decide +kernel, by decide +kernel, by decide +kernel⟩, Nat.le_of_ble_eq_true rfl⟩, ⟨_, _, rfl⟩, Or.inr ⟨rfl, gw_at 658 (by decide +kernel) rfl, gw_at 19 (by decide +kernel) rfl⟩⟩
set_option maxRecDepth 20000 in
theorem mk_45 : MOK (yX5_firstNoticed, cX5_firstNoticed, 6, (some .int), 3, 5, false) := ⟨⟨gw_at 668 rfl rfl, gw_at 75 (by decide +kernel) rfl, by decide +kernel, ⟨by decide +kernel, by decide +kernel, by decide +kernel⟩, Nat.le_of_ble_eq_true rfl⟩, ⟨_, _, rfl⟩, Or.inr ⟨rfl, gw_at 666 (by decide +kernel) rfl, gw_at 667 (by decide +kernel) rfl⟩⟩
set_option maxRecDepth 20000 in
theorem mk_46 : MOK (yX5_findFallen, cX5_findFallen, 7, none, 4, 5, false) := ⟨⟨gw_at 684 rfl rfl, gw_at 75 (by decide +kernel) rfl, by decide +kernel, ⟨by decide +kernel, by decide +kernel, by decide +kernel⟩, Nat.le_of_ble_eq_true rfl⟩, ⟨_, _, rfl⟩, Or.inr ⟨rfl, gw_at 682 (by decide +kernel) rfl, gw_at 683 (by decide +kernel) rfl⟩⟩
set_option maxRecDepth 20000 in
theorem mk_47 : MOK (yX5_fallenAt, cX5_fallenAt, 5, (some .int), 3, 5, true) := ⟨⟨gw_at 687 rfl rfl, gw_at 75 (by decide +kernel) rfl, by decide +kernel, ⟨by decide +kernel, by decide +kernel, by decide +kernel⟩, Nat.le_of_ble_eq_true rfl⟩, ⟨_, _, rfl⟩, Or.inl ⟨rfl, gw_at 686 (by decide +kernel) rfl⟩⟩
set_option maxRecDepth 20000 in
theorem mk_48 : MOK (yX5_bestCountIn, cX5_bestCountIn, 8, (some .int), 3, 5, false) := ⟨⟨gw_at 695 rfl rfl, gw_at 75 (by decide +kernel) rfl, by decide +kernel, ⟨by decide +kernel, by decide +kernel, by decide +kernel⟩, Nat.le_of_ble_eq_true rfl⟩, ⟨_, _, rfl⟩, Or.inr ⟨rfl, gw_at 693 (by decide +kernel) rfl, gw_at 694 (by decide +kernel) rfl⟩⟩
set_option maxRecDepth 20000 in
theorem mk_49 : MOK (yX5_findDeaf, cX5_findDeaf, 4, none, 1, 5, false) := ⟨⟨gw_at 704 rfl rfl, gw_at 75 (by decide +kernel) rfl, by decide +kernel, ⟨by decide +kernel, by decide +kernel, by decide +kernel⟩, Nat.le_of_ble_eq_true rfl⟩, ⟨_, _, rfl⟩, Or.inr ⟨rfl, gw_at 702 (by decide +kernel) rfl, gw_at 703 (by decide +kernel) rfl⟩⟩
set_option maxRecDepth 20000 in
theorem mk_50 : MOK (yX5_findInEar, cX5_findInEar, 3, none, 1, 5, false) := ⟨⟨gw_at 719 rfl rfl, gw_at 75 (by decide +kernel) rfl, by decide +kernel, ⟨by decide +kernel, by decide +kernel, by decide +kernel⟩, Nat.le_of_ble_eq_true rfl⟩, ⟨_, _, rfl⟩, Or.inr ⟨rfl, gw_at 717 (by decide +kernel) rfl, gw_at 718 (by decide +kernel) rfl⟩⟩
set_option maxRecDepth 20000 in
theorem mk_51 : MOK (yX5_keepNearest, cX5_keepNearest, 3, none, 2, 5, false) := ⟨⟨gw_at 711 rfl rfl, gw_at 75 (by decide +kernel) rfl, by decide +kernel, ⟨by decide +kernel, by decide +kernel, by decide +kernel⟩, Nat.le_of_ble_eq_true rfl⟩, ⟨_, _, rfl⟩, Or.inr ⟨rfl, gw_at 710 (by decide +kernel) rfl, gw_at 20 (by decide +kernel) rfl⟩⟩
set_option maxRecDepth 20000 in
theorem mk_52 : MOK (yX5_blameOf, cX5_blameOf, 3, (some .int), 2, 5, false) := ⟨⟨gw_at 727 rfl rfl, gw_at 75 (by decide +kernel) rfl, by decide +kernel, ⟨by decide +kernel, by decide +kernel, by decide +kernel⟩, Nat.le_of_ble_eq_true rfl⟩, ⟨_, _, rfl⟩, Or.inr ⟨rfl, gw_at 725 (by decide +kernel) rfl, gw_at 726 (by decide +kernel) rfl⟩⟩
set_option maxRecDepth 20000 in
theorem mk_53 : MOK (yX5_bestBack, cX5_bestBack, 10, (some .int), 5, 5, false) := ⟨⟨gw_at 739 rfl rfl, gw_at 75 (by decide +kernel) rfl, by decide +kernel, ⟨by decide +kernel, by decide +kernel, by decide +kernel⟩, Nat.le_of_ble_eq_true rfl⟩, ⟨_, _, rfl⟩, Or.inr ⟨rfl, gw_at 737 (by decide +kernel) rfl, gw_at 738 (by decide +kernel) rfl⟩⟩
set_option maxRecDepth 20000 in
theorem mk_54 : MOK (yX5_passesUnnoticed, cX5_passesUnnoticed, 8, (some .boolean), 5, 5, false) := ⟨⟨gw_at 743 rfl rfl, gw_at 75 (by decide +kernel) rfl, by decide +kernel, ⟨by decide +kernel, by decide +kernel, by decide +kernel⟩, Nat.le_of_ble_eq_true rfl⟩, ⟨_, _, rfl⟩, Or.inr ⟨rfl, gw_at 742 (by decide +kernel) rfl, gw_at 21 (by decide +kernel) rfl⟩⟩
set_option maxRecDepth 20000 in
theorem mk_55 : MOK (yX5_gainOfClaps, cX5_gainOfClaps, 5, (some .int), 3, 5, false) := ⟨⟨gw_at 775 rfl rfl, gw_at 75 (by decide +kernel) rfl, by decide +kernel, ⟨by decide +kernel, by decide +kernel, by decide +kernel⟩, Nat.le_of_ble_eq_true rfl⟩, ⟨_, _, rfl⟩, Or.inr ⟨rfl, gw_at 773 (by decide +kernel) rfl, gw_at 774 (by decide +kernel) rfl⟩⟩
set_option maxRecDepth 20000 in
theorem mk_56 : MOK (yX5_findPushers, cX5_findPushers, 5, none, 2, 5, false) := ⟨⟨gw_at 784 rfl rfl, gw_at 75 (by decide +kernel) rfl, by decide +kernel, ⟨by decide +kernel, by decide +kernel, by decide +kernel⟩, Nat.le_of_ble_eq_true rfl⟩, ⟨_, _, rfl⟩, Or.inr ⟨rfl, gw_at 782 (by decide +kernel) rfl, gw_at 783 (by decide +kernel) rfl⟩⟩
set_option maxRecDepth 20000 in
theorem mk_57 : MOK (yX5_leastPush, cX5_leastPush, 5, (some .int), 3, 5, false) := ⟨⟨gw_at 788 rfl rfl, gw_at 75 (by decide +kernel) rfl, by decide +kernel, ⟨by decide +kernel, by decide +kernel, by decide +kernel⟩, Nat.le_of_ble_eq_true rfl⟩, ⟨_, _, rfl⟩, Or.inr ⟨rfl, gw_at 787 (by decide +kernel) rfl, gw_at 25 (by decide +kernel) rfl⟩⟩
set_option maxRecDepth 20000 in
theorem mk_58 : MOK (yX5_hasPaces, cX5_hasPaces, 3, (some .boolean), 1, 5, false) := ⟨⟨gw_at 792 rfl rfl, gw_at 75 (by decide +kernel) rfl, by decide +kernel, ⟨by decide +kernel, by decide +kernel, by decide +kernel⟩, Nat.le_of_ble_eq_true rfl⟩, ⟨_, _, rfl⟩, Or.inr ⟨rfl, gw_at 791 (by decide +kernel) rfl, gw_at 26 (by decide +kernel) rfl⟩⟩
set_option maxRecDepth 20000 in
theorem mk_59 : MOK (yX5_findNight, cX5_findNight, 9, none, 3, 5, false) := ⟨⟨gw_at 801 rfl rfl, gw_at 75 (by decide +kernel) rfl, by decide +kernel, ⟨by decide +kernel, by decide +kernel, by decide +kernel⟩, Nat.le_of_ble_eq_true rfl⟩, ⟨_, _, rfl⟩, Or.inr ⟨rfl, gw_at 799 (by decide +kernel) rfl, gw_at 800 (by decide +kernel) rfl⟩⟩
set_option maxRecDepth 20000 in
theorem mk_60 : MOK (yX6_takeIn, cX6_takeIn, 2, (some .boolean), 1, 6, false) := ⟨⟨gw_at 414 rfl rfl, gw_at 72 (by decide +kernel) rfl, by decide +kernel, ⟨by decide +kernel, by decide +kernel, by decide +kernel⟩, Nat.le_of_ble_eq_true rfl⟩, ⟨_, _, rfl⟩, Or.inr ⟨rfl, gw_at 412 (by decide +kernel) rfl, gw_at 413 (by decide +kernel) rfl⟩⟩
set_option maxRecDepth 20000 in
theorem mk_61 : MOK (yX6_readInto, cX6_readInto, 2, (some .boolean), 1, 6, false) := ⟨⟨gw_at 423 rfl rfl, gw_at 72 (by decide +kernel) rfl, by decide +kernel, ⟨by decide +kernel, by decide +kernel, by decide +kernel⟩, Nat.le_of_ble_eq_true rfl⟩, ⟨_, _, rfl⟩, Or.inr ⟨rfl, gw_at 421 (by decide +kernel) rfl, gw_at 422 (by decide +kernel) rfl⟩⟩
set_option maxRecDepth 20000 in
theorem mk_62 : MOK (yX6_readLaw, cX6_readLaw, 2, (some .boolean), 1, 6, false) := ⟨⟨gw_at 431 rfl rfl, gw_at 72 (by decide +kernel) rfl, by decide +kernel, ⟨by decide +kernel, by decide +kernel, by decide +kernel⟩, Nat.le_of_ble_eq_true rfl⟩, ⟨_, _, rfl⟩, Or.inr ⟨rfl, gw_at 430 (by decide +kernel) rfl, gw_at 2 (by decide +kernel) rfl⟩⟩
set_option maxRecDepth 20000 in
theorem mk_63 : MOK (yX6_readSong, cX6_readSong, 2, (some .boolean), 1, 6, false) := ⟨⟨gw_at 463 rfl rfl, gw_at 72 (by decide +kernel) rfl, by decide +kernel, ⟨by decide +kernel, by decide +kernel, by decide +kernel⟩, Nat.le_of_ble_eq_true rfl⟩, ⟨_, _, rfl⟩, Or.inr ⟨rfl, gw_at 462 (by decide +kernel) rfl, gw_at 9 (by decide +kernel) rfl⟩⟩
set_option maxRecDepth 20000 in
theorem mk_64 : MOK (yX6_readPlayers, cX6_readPlayers, 3, (some .boolean), 1, 6, false) := ⟨⟨gw_at 470 rfl rfl, gw_at 72 (by decide +kernel) rfl, by decide +kernel, ⟨by decide +kernel, by decide +kernel, by decide +kernel⟩, Nat.le_of_ble_eq_true rfl⟩, ⟨_, _, rfl⟩, Or.inr ⟨rfl, gw_at 469 (by decide +kernel) rfl, gw_at 10 (by decide +kernel) rfl⟩⟩
set_option maxRecDepth 20000 in
theorem mk_65 : MOK (yX6_readPlayer, cX6_readPlayer, 3, (some .boolean), 1, 6, false) := ⟨⟨gw_at 477 rfl rfl, gw_at 72 (by decide +kernel) rfl, by decide +kernel, ⟨by decide +kernel, by decide +kernel, by decide +kernel⟩, Nat.le_of_ble_eq_true rfl⟩, ⟨_, _, rfl⟩, Or.inr ⟨rfl, gw_at 476 (by decide +kernel) rfl, gw_at 11 (by decide +kernel) rfl⟩⟩
set_option maxRecDepth 20000 in
theorem mk_66 : MOK (yX6_readEars, cX6_readEars, 3, (some .boolean), 1, 6, false) := ⟨⟨gw_at 481 rfl rfl, gw_at 72 (by decide +kernel) rfl, by decide +kernel, ⟨by decide +kernel, by decide +kernel, by decide +kernel⟩, Nat.le_of_ble_eq_true rfl⟩, ⟨_, _, rfl⟩, Or.inr ⟨rfl, gw_at 480 (by decide +kernel) rfl, gw_at 12 (by decide +kernel) rfl⟩⟩
set_option maxRecDepth 20000 in
theorem mk_67 : MOK (yX6_readEar, cX6_readEar, 4, (some .boolean), 1, 6, false) := ⟨⟨gw_at 485 rfl rfl, gw_at 72 (by decide +kernel) rfl, by decide +kernel, ⟨by decide +kernel, by decide +kernel, by decide +kernel⟩, Nat.le_of_ble_eq_true rfl⟩, ⟨_, _, rfl⟩, Or.inr ⟨rfl, gw_at 484 (by decide +kernel) rfl, gw_at 13 (by decide +kernel) rfl⟩⟩
set_option maxRecDepth 20000 in
theorem mk_68 : MOK (yX6_takesHeard, cX6_takesHeard, 3, (some .boolean), 2, 6, false) := ⟨⟨gw_at 489 rfl rfl, gw_at 72 (by decide +kernel) rfl, by decide +kernel, ⟨by decide +kernel, by decide +kernel, by decide +kernel⟩, Nat.le_of_ble_eq_true rfl⟩, ⟨_, _, rfl⟩, Or.inr ⟨rfl, gw_at 488 (by decide +kernel) rfl, gw_at 14 (by decide +kernel) rfl⟩⟩
set_option maxRecDepth 20000 in
theorem mk_69 : MOK (yX6_takesNumber, cX6_takesNumber, 3, (some .boolean), 2, 6, false) := ⟨⟨gw_at 451 rfl rfl, gw_at 72 (by decide +kernel) rfl, by decide +kernel, ⟨by decide +kernel, by decide +kernel, by decide +kernel⟩, Nat.le_of_ble_eq_true rfl⟩, ⟨_, _, rfl⟩, Or.inr ⟨rfl, gw_at 450 (by decide +kernel) rfl, gw_at 7 (by decide +kernel) rfl⟩⟩
set_option maxRecDepth 20000 in
theorem mk_70 : MOK (yX6_seesNumber, cX6_seesNumber, 1, (some .boolean), 0, 6, false) := ⟨⟨gw_at 455 rfl rfl, gw_at 72 (by decide +kernel) rfl, by decide +kernel, ⟨by decide +kernel, by decide +kernel, by decide +kernel⟩, Nat.le_of_ble_eq_true rfl⟩, ⟨_, _, rfl⟩, Or.inr ⟨rfl, gw_at 454 (by decide +kernel) rfl, gw_at 8 (by decide +kernel) rfl⟩⟩
set_option maxRecDepth 20000 in
theorem mk_71 : MOK (yX6_takes, cX6_takes, 2, (some .boolean), 1, 6, false) := ⟨⟨gw_at 435 rfl rfl, gw_at 72 (by decide +kernel) rfl, by decide +kernel, ⟨by decide +kernel, by decide +kernel, by decide +kernel⟩, Nat.le_of_ble_eq_true rfl⟩, ⟨_, _, rfl⟩, Or.inr ⟨rfl, gw_at 434 (by decide +kernel) rfl, gw_at 3 (by decide +kernel) rfl⟩⟩
set_option maxRecDepth 20000 in
theorem mk_72 : MOK (yX6_fails, cX6_fails, 2, (some .boolean), 1, 6, false) := ⟨⟨gw_at 447 rfl rfl, gw_at 72 (by decide +kernel) rfl, by decide +kernel, ⟨by decide +kernel, by decide +kernel, by decide +kernel⟩, Nat.le_of_ble_eq_true rfl⟩, ⟨_, _, rfl⟩, Or.inr ⟨rfl, gw_at 446 (by decide +kernel) rfl, gw_at 6 (by decide +kernel) rfl⟩⟩
set_option maxRecDepth 20000 in
theorem mk_73 : MOK (yX6_sign, cX6_sign, 1, (some .int), 0, 6, false) := ⟨⟨gw_at 439 rfl rfl, gw_at 72 (by decide +kernel) rfl, by decide +kernel, ⟨by decide +kernel, by decide +kernel, by decide +kernel⟩, Nat.le_of_ble_eq_true rfl⟩, ⟨_, _, rfl⟩, Or.inr ⟨rfl, gw_at 438 (by decide +kernel) rfl, gw_at 4 (by decide +kernel) rfl⟩⟩
set_option maxRecDepth 20000 in
theorem mk_74 : MOK (yX6_signAt, cX6_signAt, 2, (some .int), 1, 6, false) := ⟨⟨gw_at 443 rfl rfl, gw_at 72 (by decide +kernel) rfl, by decide +kernel, ⟨by decide +kernel, by decide +kernel, by decide +kernel⟩, Nat.le_of_ble_eq_true rfl⟩, ⟨_, _, rfl⟩, Or.inr ⟨rfl, gw_at 442 (by decide +kernel) rfl, gw_at 5 (by decide +kernel) rfl⟩⟩
set_option maxRecDepth 20000 in
theorem mk_75 : MOK (yX6_isFigure, cX6_isFigure, 1, (some .boolean), 1, 6, true) := ⟨⟨gw_at 458 rfl rfl, gw_at 72 (by decide +kernel) rfl, by decide +kernel, ⟨by decide +kernel, by decide +kernel, by decide +kernel⟩, Nat.le_of_ble_eq_true rfl⟩, ⟨_, _, rfl⟩, Or.inl ⟨rfl, gw_at 457 (by decide +kernel) rfl⟩⟩
set_option maxRecDepth 20000 in
theorem mk_76 : MOK (yX6_barOf, cX6_barOf, 1, (some .int), 1, 6, true) := ⟨⟨gw_at 466 rfl rfl, gw_at 72 (by decide +kernel) rfl, by decide +kernel, ⟨by decide +kernel, by decide +kernel, by decide +kernel⟩, Nat.le_of_ble_eq_true rfl⟩, ⟨_, _, rfl⟩, Or.inl ⟨rfl, gw_at 465 (by decide +kernel) rfl⟩⟩
set_option maxRecDepth 20000 in
theorem mk_77 : MOK (yX6_kindOf, cX6_kindOf, 1, (some .int), 1, 6, true) := ⟨⟨gw_at 473 rfl rfl, gw_at 72 (by decide +kernel) rfl, by decide +kernel, ⟨by decide +kernel, by decide +kernel, by decide +kernel⟩, Nat.le_of_ble_eq_true rfl⟩, ⟨_, _, rfl⟩, Or.inl ⟨rfl, gw_at 472 (by decide +kernel) rfl⟩⟩
set_option maxRecDepth 20000 in
theorem mk_78 : MOK (yX7_row, cX7_row, 4, (some .int), 3, 7, false) := ⟨⟨gw_at 346 rfl rfl, gw_at 70 (by decide +kernel) rfl, by decide +kernel, ⟨by decide +kernel, by decide +kernel, by decide +kernel⟩, Nat.le_of_ble_eq_true rfl⟩, ⟨_, _, rfl⟩, Or.inr ⟨rfl, gw_at 344 (by decide +kernel) rfl, gw_at 345 (by decide +kernel) rfl⟩⟩
set_option maxRecDepth 20000 in
theorem mk_79 : MOK (yX7_set, cX7_set, 4, (some .int), 3, 7, false) := ⟨⟨gw_at 371 rfl rfl, gw_at 70 (by decide +kernel) rfl, by decide +kernel, ⟨by decide +kernel, by decide +kernel, by decide +kernel⟩, Nat.le_of_ble_eq_true rfl⟩, ⟨_, _, rfl⟩, Or.inr ⟨rfl, gw_at 369 (by decide +kernel) rfl, gw_at 370 (by decide +kernel) rfl⟩⟩
set_option maxRecDepth 20000 in
theorem mk_80 : MOK (yX7_copy, cX7_copy, 6, (some .int), 5, 7, false) := ⟨⟨gw_at 387 rfl rfl, gw_at 70 (by decide +kernel) rfl, by decide +kernel, ⟨by decide +kernel, by decide +kernel, by decide +kernel⟩, Nat.le_of_ble_eq_true rfl⟩, ⟨_, _, rfl⟩, Or.inr ⟨rfl, gw_at 385 (by decide +kernel) rfl, gw_at 386 (by decide +kernel) rfl⟩⟩
set_option maxRecDepth 20000 in
theorem mk_81 : MOK (yX7_drop, cX7_drop, 2, (some .int), 1, 7, false) := ⟨⟨gw_at 402 rfl rfl, gw_at 70 (by decide +kernel) rfl, by decide +kernel, ⟨by decide +kernel, by decide +kernel, by decide +kernel⟩, Nat.le_of_ble_eq_true rfl⟩, ⟨_, _, rfl⟩, Or.inr ⟨rfl, gw_at 400 (by decide +kernel) rfl, gw_at 401 (by decide +kernel) rfl⟩⟩
set_option maxRecDepth 20000 in
theorem mk_82 : MOK (yX7_feed, cX7_feed, 2, (some .int), 1, 7, false) := ⟨⟨gw_at 410 rfl rfl, gw_at 70 (by decide +kernel) rfl, by decide +kernel, ⟨by decide +kernel, by decide +kernel, by decide +kernel⟩, Nat.le_of_ble_eq_true rfl⟩, ⟨_, _, rfl⟩, Or.inr ⟨rfl, gw_at 408 (by decide +kernel) rfl, gw_at 409 (by decide +kernel) rfl⟩⟩
set_option maxRecDepth 20000 in
theorem mk_83 : MOK (yX7_band, cX7_band, 2, (some .int), 0, 7, false) := ⟨⟨gw_at 419 rfl rfl, gw_at 70 (by decide +kernel) rfl, by decide +kernel, ⟨by decide +kernel, by decide +kernel, by decide +kernel⟩, Nat.le_of_ble_eq_true rfl⟩, ⟨_, _, rfl⟩, Or.inr ⟨rfl, gw_at 417 (by decide +kernel) rfl, gw_at 418 (by decide +kernel) rfl⟩⟩
set_option maxRecDepth 20000 in
theorem mk_84 : MOK (yX7_fault, cX7_fault, 1, (some .int), 0, 7, false) := ⟨⟨gw_at 519 rfl rfl, gw_at 70 (by decide +kernel) rfl, by decide +kernel, ⟨by decide +kernel, by decide +kernel, by decide +kernel⟩, Nat.le_of_ble_eq_true rfl⟩, ⟨_, _, rfl⟩, Or.inr ⟨rfl, gw_at 517 (by decide +kernel) rfl, gw_at 518 (by decide +kernel) rfl⟩⟩
set_option maxRecDepth 20000 in
theorem mk_85 : MOK (yX7_undo, cX7_undo, 1, (some .int), 0, 7, false) := ⟨⟨gw_at 523 rfl rfl, gw_at 70 (by decide +kernel) rfl, by decide +kernel, ⟨by decide +kernel, by decide +kernel, by decide +kernel⟩, Nat.le_of_ble_eq_true rfl⟩, ⟨_, _, rfl⟩, Or.inr ⟨rfl, gw_at 521 (by decide +kernel) rfl, gw_at 522 (by decide +kernel) rfl⟩⟩
set_option maxRecDepth 20000 in
theorem mk_86 : MOK (yX7_bars, cX7_bars, 3, (some .int), 1, 7, false) := ⟨⟨gw_at 536 rfl rfl, gw_at 70 (by decide +kernel) rfl, by decide +kernel, ⟨by decide +kernel, by decide +kernel, by decide +kernel⟩, Nat.le_of_ble_eq_true rfl⟩, ⟨_, _, rfl⟩, Or.inr ⟨rfl, gw_at 534 (by decide +kernel) rfl, gw_at 535 (by decide +kernel) rfl⟩⟩
set_option maxRecDepth 20000 in
theorem mk_87 : MOK (yX7_pace, cX7_pace, 4, (some .int), 2, 7, false) := ⟨⟨gw_at 583 rfl rfl, gw_at 70 (by decide +kernel) rfl, by decide +kernel, ⟨by decide +kernel, by decide +kernel, by decide +kernel⟩, Nat.le_of_ble_eq_true rfl⟩, ⟨_, _, rfl⟩, Or.inr ⟨rfl, gw_at 581 (by decide +kernel) rfl, gw_at 582 (by decide +kernel) rfl⟩⟩
set_option maxRecDepth 20000 in
theorem mk_88 : MOK (yX7_hears, cX7_hears, 5, (some .int), 3, 7, false) := ⟨⟨gw_at 588 rfl rfl, gw_at 70 (by decide +kernel) rfl, by decide +kernel, ⟨by decide +kernel, by decide +kernel, by decide +kernel⟩, Nat.le_of_ble_eq_true rfl⟩, ⟨_, _, rfl⟩, Or.inr ⟨rfl, gw_at 586 (by decide +kernel) rfl, gw_at 587 (by decide +kernel) rfl⟩⟩
set_option maxRecDepth 20000 in
theorem mk_89 : MOK (yX7_click, cX7_click, 3, (some .int), 1, 7, false) := ⟨⟨gw_at 595 rfl rfl, gw_at 70 (by decide +kernel) rfl, by decide +kernel, ⟨by decide +kernel, by decide +kernel, by decide +kernel⟩, Nat.le_of_ble_eq_true rfl⟩, ⟨_, _, rfl⟩, Or.inr ⟨rfl, gw_at 593 (by decide +kernel) rfl, gw_at 594 (by decide +kernel) rfl⟩⟩
set_option maxRecDepth 20000 in
theorem mk_90 : MOK (yX7_claps, cX7_claps, 2, (some .int), 1, 7, false) := ⟨⟨gw_at 599 rfl rfl, gw_at 70 (by decide +kernel) rfl, by decide +kernel, ⟨by decide +kernel, by decide +kernel, by decide +kernel⟩, Nat.le_of_ble_eq_true rfl⟩, ⟨_, _, rfl⟩, Or.inr ⟨rfl, gw_at 597 (by decide +kernel) rfl, gw_at 598 (by decide +kernel) rfl⟩⟩
set_option maxRecDepth 20000 in
theorem mk_91 : MOK (yX7_player, cX7_player, 3, (some .int), 2, 7, false) := ⟨⟨gw_at 607 rfl rfl, gw_at 70 (by decide +kernel) rfl, by decide +kernel, ⟨by decide +kernel, by decide +kernel, by decide +kernel⟩, Nat.le_of_ble_eq_true rfl⟩, ⟨_, _, rfl⟩, Or.inr ⟨rfl, gw_at 605 (by decide +kernel) rfl, gw_at 606 (by decide +kernel) rfl⟩⟩
set_option maxRecDepth 20000 in
theorem mk_92 : MOK (yX7_ear, cX7_ear, 3, (some .int), 2, 7, false) := ⟨⟨gw_at 618 rfl rfl, gw_at 70 (by decide +kernel) rfl, by decide +kernel, ⟨by decide +kernel, by decide +kernel, by decide +kernel⟩, Nat.le_of_ble_eq_true rfl⟩, ⟨_, _, rfl⟩, Or.inr ⟨rfl, gw_at 616 (by decide +kernel) rfl, gw_at 617 (by decide +kernel) rfl⟩⟩
set_option maxRecDepth 20000 in
theorem mk_93 : MOK (yX7_bar, cX7_bar, 2, (some .int), 1, 7, false) := ⟨⟨gw_at 622 rfl rfl, gw_at 70 (by decide +kernel) rfl, by decide +kernel, ⟨by decide +kernel, by decide +kernel, by decide +kernel⟩, Nat.le_of_ble_eq_true rfl⟩, ⟨_, _, rfl⟩, Or.inr ⟨rfl, gw_at 620 (by decide +kernel) rfl, gw_at 621 (by decide +kernel) rfl⟩⟩
set_option maxRecDepth 20000 in
theorem mk_94 : MOK (yX7_ahead, cX7_ahead, 4, (some .int), 2, 7, false) := ⟨⟨gw_at 626 rfl rfl, gw_at 70 (by decide +kernel) rfl, by decide +kernel, ⟨by decide +kernel, by decide +kernel, by decide +kernel⟩, Nat.le_of_ble_eq_true rfl⟩, ⟨_, _, rfl⟩, Or.inr ⟨rfl, gw_at 624 (by decide +kernel) rfl, gw_at 625 (by decide +kernel) rfl⟩⟩
set_option maxRecDepth 20000 in
theorem mk_95 : MOK (yX7_drift, cX7_drift, 1, (some .int), 0, 7, false) := ⟨⟨gw_at 636 rfl rfl, gw_at 70 (by decide +kernel) rfl, by decide +kernel, ⟨by decide +kernel, by decide +kernel, by decide +kernel⟩, Nat.le_of_ble_eq_true rfl⟩, ⟨_, _, rfl⟩, Or.inr ⟨rfl, gw_at 634 (by decide +kernel) rfl, gw_at 635 (by decide +kernel) rfl⟩⟩
set_option maxRecDepth 20000 in
theorem mk_96 : MOK (yX7_round, cX7_round, 2, (some .int), 1, 7, false) := ⟨⟨gw_at 646 rfl rfl, gw_at 70 (by decide +kernel) rfl, by decide +kernel, ⟨by decide +kernel, by decide +kernel, by decide +kernel⟩, Nat.le_of_ble_eq_true rfl⟩, ⟨_, _, rfl⟩, Or.inr ⟨rfl, gw_at 644 (by decide +kernel) rfl, gw_at 645 (by decide +kernel) rfl⟩⟩
set_option maxRecDepth 20000 in
theorem mk_97 : MOK (yX7_noticed, cX7_noticed, 3, (some .int), 2, 7, false) := ⟨⟨gw_at 664 rfl rfl, gw_at 70 (by decide +kernel) rfl, by decide +kernel, ⟨by decide +kernel, by decide +kernel, by decide +kernel⟩, Nat.le_of_ble_eq_true rfl⟩, ⟨_, _, rfl⟩, Or.inr ⟨rfl, gw_at 662 (by decide +kernel) rfl, gw_at 663 (by decide +kernel) rfl⟩⟩
set_option maxRecDepth 20000 in
theorem mk_98 : MOK (yX7_dancers, cX7_dancers, 6, (some .int), 5, 7, false) := ⟨⟨gw_at 676 rfl rfl, gw_at 70 (by decide +kernel) rfl, by decide +kernel, ⟨by decide +kernel, by decide +kernel, by decide +kernel⟩, Nat.le_of_ble_eq_true rfl⟩, ⟨_, _, rfl⟩, Or.inr ⟨rfl, gw_at 674 (by decide +kernel) rfl, gw_at 675 (by decide +kernel) rfl⟩⟩
set_option maxRecDepth 20000 in
theorem mk_99 : MOK (yX7_countIn, cX7_countIn, 3, (some .int), 2, 7, false) := ⟨⟨gw_at 691 rfl rfl, gw_at 70 (by decide +kernel) rfl, by decide +kernel, ⟨by decide +kernel, by decide +kernel, by decide +kernel⟩, Nat.le_of_ble_eq_true rfl⟩, ⟨_, _, rfl⟩, Or.inr ⟨rfl, gw_at 689 (by decide +kernel) rfl, gw_at 690 (by decide +kernel) rfl⟩⟩
set_option maxRecDepth 20000 in
theorem mk_100 : MOK (yX7_deaf, cX7_deaf, 2, (some .int), 1, 7, false) := ⟨⟨gw_at 700 rfl rfl, gw_at 70 (by decide +kernel) rfl, by decide +kernel, ⟨by decide +kernel, by decide +kernel, by decide +kernel⟩, Nat.le_of_ble_eq_true rfl⟩, ⟨_, _, rfl⟩, Or.inr ⟨rfl, gw_at 698 (by decide +kernel) rfl, gw_at 699 (by decide +kernel) rfl⟩⟩
set_option maxRecDepth 20000 in
theorem mk_101 : MOK (yX7_inEar, cX7_inEar, 2, (some .int), 1, 7, false) := ⟨⟨gw_at 715 rfl rfl, gw_at 70 (by decide +kernel) rfl, by decide +kernel, ⟨by decide +kernel, by decide +kernel, by decide +kernel⟩, Nat.le_of_ble_eq_true rfl⟩, ⟨_, _, rfl⟩, Or.inr ⟨rfl, gw_at 713 (by decide +kernel) rfl, gw_at 714 (by decide +kernel) rfl⟩⟩
set_option maxRecDepth 20000 in
theorem mk_102 : MOK (yX7_blame, cX7_blame, 2, (some .int), 1, 7, false) := ⟨⟨gw_at 723 rfl rfl, gw_at 70 (by decide +kernel) rfl, by decide +kernel, ⟨by decide +kernel, by decide +kernel, by decide +kernel⟩, Nat.le_of_ble_eq_true rfl⟩, ⟨_, _, rfl⟩, Or.inr ⟨rfl, gw_at 721 (by decide +kernel) rfl, gw_at 722 (by decide +kernel) rfl⟩⟩
set_option maxRecDepth 20000 in
theorem mk_103 : MOK (yX7_back, cX7_back, 5, (some .int), 4, 7, false) := ⟨⟨gw_at 734 rfl rfl, gw_at 70 (by decide +kernel) rfl, by decide +kernel, ⟨by decide +kernel, by decide +kernel, by decide +kernel⟩, Nat.le_of_ble_eq_true rfl⟩, ⟨_, _, rfl⟩, Or.inr ⟨rfl, gw_at 732 (by decide +kernel) rfl, gw_at 733 (by decide +kernel) rfl⟩⟩
set_option maxRecDepth 20000 in
theorem mk_104 : MOK (yX7_songs, cX7_songs, 6, (some .int), 4, 7, false) := ⟨⟨gw_at 748 rfl rfl, gw_at 70 (by decide +kernel) rfl, by decide +kernel, ⟨by decide +kernel, by decide +kernel, by decide +kernel⟩, Nat.le_of_ble_eq_true rfl⟩, ⟨_, _, rfl⟩, Or.inr ⟨rfl, gw_at 746 (by decide +kernel) rfl, gw_at 747 (by decide +kernel) rfl⟩⟩
set_option maxRecDepth 20000 in
theorem mk_105 : MOK (yX7_clapped, cX7_clapped, 3, (some .int), 2, 7, false) := ⟨⟨gw_at 771 rfl rfl, gw_at 70 (by decide +kernel) rfl, by decide +kernel, ⟨by decide +kernel, by decide +kernel, by decide +kernel⟩, Nat.le_of_ble_eq_true rfl⟩, ⟨_, _, rfl⟩, Or.inr ⟨rfl, gw_at 769 (by decide +kernel) rfl, gw_at 770 (by decide +kernel) rfl⟩⟩
set_option maxRecDepth 20000 in
theorem mk_106 : MOK (yX7_whoPushed, cX7_whoPushed, 4, (some .int), 3, 7, false) := ⟨⟨gw_at 780 rfl rfl, gw_at 70 (by decide +kernel) rfl, by decide +kernel, ⟨by decide +kernel, by decide +kernel, by decide +kernel⟩, Nat.le_of_ble_eq_true rfl⟩, ⟨_, _, rfl⟩, Or.inr ⟨rfl, gw_at 778 (by decide +kernel) rfl, gw_at 779 (by decide +kernel) rfl⟩⟩
set_option maxRecDepth 20000 in
theorem mk_107 : MOK (yX7_night, cX7_night, 4, (some .int), 3, 7, false) := ⟨⟨gw_at 796 rfl rfl, gw_at 70 (by decide +kernel) rfl, by decide +kernel, ⟨by decide +kernel, by decide +kernel, by decide +kernel⟩, Nat.le_of_ble_eq_true rfl⟩, ⟨_, _, rfl⟩, Or.inr ⟨rfl, gw_at 794 (by decide +kernel) rfl, gw_at 795 (by decide +kernel) rfl⟩⟩
set_option maxRecDepth 20000 in
theorem mk_108 : MOK (yX7_image, cX7_image, 2, (some .int), 1, 7, false) := ⟨⟨gw_at 808 rfl rfl, gw_at 70 (by decide +kernel) rfl, by decide +kernel, ⟨by decide +kernel, by decide +kernel, by decide +kernel⟩, Nat.le_of_ble_eq_true rfl⟩, ⟨_, _, rfl⟩, Or.inr ⟨rfl, gw_at 806 (by decide +kernel) rfl, gw_at 807 (by decide +kernel) rfl⟩⟩
set_option maxRecDepth 20000 in
theorem mk_109 : MOK (yX7_restore, cX7_restore, 2, (some .int), 1, 7, false) := ⟨⟨gw_at 812 rfl rfl, gw_at 70 (by decide +kernel) rfl, by decide +kernel, ⟨by decide +kernel, by decide +kernel, by decide +kernel⟩, Nat.le_of_ble_eq_true rfl⟩, ⟨_, _, rfl⟩, Or.inr ⟨rfl, gw_at 810 (by decide +kernel) rfl, gw_at 811 (by decide +kernel) rfl⟩⟩
set_option maxRecDepth 20000 in
theorem mk_110 : MOK (yX7_kind, cX7_kind, 2, (some .int), 1, 7, false) := ⟨⟨gw_at 816 rfl rfl, gw_at 70 (by decide +kernel) rfl, by decide +kernel, ⟨by decide +kernel, by decide +kernel, by decide +kernel⟩, Nat.le_of_ble_eq_true rfl⟩, ⟨_, _, rfl⟩, Or.inr ⟨rfl, gw_at 814 (by decide +kernel) rfl, gw_at 815 (by decide +kernel) rfl⟩⟩
set_option maxRecDepth 20000 in
theorem mk_111 : MOK (yX7_as, cX7_as, 3, (some .int), 2, 7, false) := ⟨⟨gw_at 820 rfl rfl, gw_at 70 (by decide +kernel) rfl, by decide +kernel, ⟨by decide +kernel, by decide +kernel, by decide +kernel⟩, Nat.le_of_ble_eq_true rfl⟩, ⟨_, _, rfl⟩, Or.inr ⟨rfl, gw_at 818 (by decide +kernel) rfl, gw_at 819 (by decide +kernel) rfl⟩⟩
set_option maxRecDepth 20000 in
theorem mk_112 : MOK (yX7_ask, cX7_ask, 3, (some .int), 2, 7, false) := ⟨⟨gw_at 824 rfl rfl, gw_at 70 (by decide +kernel) rfl, by decide +kernel, ⟨by decide +kernel, by decide +kernel, by decide +kernel⟩, Nat.le_of_ble_eq_true rfl⟩, ⟨_, _, rfl⟩, Or.inr ⟨rfl, gw_at 822 (by decide +kernel) rfl, gw_at 823 (by decide +kernel) rfl⟩⟩
set_option maxRecDepth 20000 in
theorem mk_113 : MOK (yX7_trace, cX7_trace, 2, (some .int), 1, 7, false) := ⟨⟨gw_at 853 rfl rfl, gw_at 70 (by decide +kernel) rfl, by decide +kernel, ⟨by decide +kernel, by decide +kernel, by decide +kernel⟩, Nat.le_of_ble_eq_true rfl⟩, ⟨_, _, rfl⟩, Or.inr ⟨rfl, gw_at 851 (by decide +kernel) rfl, gw_at 852 (by decide +kernel) rfl⟩⟩
set_option maxRecDepth 20000 in
theorem mk_114 : MOK (yX7_count, cX7_count, 2, (some .int), 1, 7, false) := ⟨⟨gw_at 857 rfl rfl, gw_at 70 (by decide +kernel) rfl, by decide +kernel, ⟨by decide +kernel, by decide +kernel, by decide +kernel⟩, Nat.le_of_ble_eq_true rfl⟩, ⟨_, _, rfl⟩, Or.inr ⟨rfl, gw_at 855 (by decide +kernel) rfl, gw_at 856 (by decide +kernel) rfl⟩⟩
set_option maxRecDepth 20000 in
theorem mk_115 : MOK (yX7_status, cX7_status, 1, (some .int), 0, 7, false) := ⟨⟨gw_at 866 rfl rfl, gw_at 70 (by decide +kernel) rfl, by decide +kernel, ⟨by decide +kernel, by decide +kernel, by decide +kernel⟩, Nat.le_of_ble_eq_true rfl⟩, ⟨_, _, rfl⟩, Or.inr ⟨rfl, gw_at 864 (by decide +kernel) rfl, gw_at 865 (by decide +kernel) rfl⟩⟩
set_option maxRecDepth 20000 in
theorem mk_116 : MOK (yX7_found, cX7_found, 2, (some .int), 1, 7, false) := ⟨⟨gw_at 358 rfl rfl, gw_at 70 (by decide +kernel) rfl, by decide +kernel, ⟨by decide +kernel, by decide +kernel, by decide +kernel⟩, Nat.le_of_ble_eq_true rfl⟩, ⟨_, _, rfl⟩, Or.inr ⟨rfl, gw_at 357 (by decide +kernel) rfl, gw_at 0 (by decide +kernel) rfl⟩⟩
set_option maxRecDepth 20000 in
theorem mk_117 : MOK (yX7_withoutFinding, cX7_withoutFinding, 2, (some .int), 1, 7, false) := ⟨⟨gw_at 367 rfl rfl, gw_at 70 (by decide +kernel) rfl, by decide +kernel, ⟨by decide +kernel, by decide +kernel, by decide +kernel⟩, Nat.le_of_ble_eq_true rfl⟩, ⟨_, _, rfl⟩, Or.inr ⟨rfl, gw_at 366 (by decide +kernel) rfl, gw_at 1 (by decide +kernel) rfl⟩⟩
set_option maxRecDepth 20000 in
theorem mk_118 : MOK (yX7_within, cX7_within, 3, (some .boolean), 3, 7, true) := ⟨⟨gw_at 353 rfl rfl, gw_at 70 (by decide +kernel) rfl, by decide +kernel, ⟨by decide +kernel, by decide +kernel, by decide +kernel⟩, Nat.le_of_ble_eq_true rfl⟩, ⟨_, _, rfl⟩, Or.inl ⟨rfl, gw_at 352 (by decide +kernel) rfl⟩⟩
set_option maxRecDepth 20000 in
theorem mk_119 : MOK (yX7_bounded, cX7_bounded, 1, (some .int), 1, 7, true) := ⟨⟨gw_at 575 rfl rfl, gw_at 70 (by decide +kernel) rfl, by decide +kernel, ⟨by decide +kernel, by decide +kernel, by decide +kernel⟩, Nat.le_of_ble_eq_true rfl⟩, ⟨_, _, rfl⟩, Or.inl ⟨rfl, gw_at 574 (by decide +kernel) rfl⟩⟩
set_option maxRecDepth 20000 in
theorem mk_120 : MOK (yX7_isOf, cX7_isOf, 2, (some .boolean), 2, 7, true) := ⟨⟨gw_at 730 rfl rfl, gw_at 70 (by decide +kernel) rfl, by decide +kernel, ⟨by decide +kernel, by decide +kernel, by decide +kernel⟩, Nat.le_of_ble_eq_true rfl⟩, ⟨_, _, rfl⟩, Or.inl ⟨rfl, gw_at 729 (by decide +kernel) rfl⟩⟩
set_option maxRecDepth 20000 in
theorem mk_121 : MOK (yX8_in, cX8_in, 6, (some .boolean), 3, 8, true) := ⟨⟨gw_at 963 rfl rfl, gw_at 78 (by decide +kernel) rfl, by decide +kernel, ⟨by decide +kernel, by decide +kernel, by decide +kernel⟩, Nat.le_of_ble_eq_true rfl⟩, ⟨_, _, rfl⟩, Or.inl ⟨rfl, gw_at 962 (by decide +kernel) rfl⟩⟩
set_option maxRecDepth 20000 in
theorem mk_122 : MOK (yX8_plain, cX8_plain, 1, (some .int), 1, 8, true) := ⟨⟨gw_at 1172 rfl rfl, gw_at 78 (by decide +kernel) rfl, by decide +kernel, ⟨by decide +kernel, by decide +kernel, by decide +kernel⟩, Nat.le_of_ble_eq_true rfl⟩, ⟨_, _, rfl⟩, Or.inl ⟨rfl, gw_at 1171 (by decide +kernel) rfl⟩⟩
set_option maxRecDepth 20000 in
theorem mk_123 : MOK (yX8_bound, cX8_bound, 1, (some .int), 1, 8, true) := ⟨⟨gw_at 1093 rfl rfl, gw_at 78 (by decide +kernel) rfl, by decide +kernel, ⟨by decide +kernel, by decide +kernel, by decide +kernel⟩, Nat.le_of_ble_eq_true rfl⟩, ⟨_, _, rfl⟩, Or.inl ⟨rfl, gw_at 1092 (by decide +kernel) rfl⟩⟩
set_option maxRecDepth 20000 in
theorem mk_124 : MOK (yX8_found, cX8_found, 2, (some .int), 1, 8, false) := ⟨⟨gw_at 969 rfl rfl, gw_at 78 (by decide +kernel) rfl, by decide +kernel, ⟨by decide +kernel, by decide +kernel, by decide +kernel⟩, Nat.le_of_ble_eq_true rfl⟩, ⟨_, _, rfl⟩, Or.inr ⟨rfl, gw_at 968 (by decide +kernel) rfl, gw_at 31 (by decide +kernel) rfl⟩⟩
set_option maxRecDepth 20000 in
theorem mk_125 : MOK (yX8_well, cX8_well, 2, (some .int), 1, 8, false) := ⟨⟨gw_at 974 rfl rfl, gw_at 78 (by decide +kernel) rfl, by decide +kernel, ⟨by decide +kernel, by decide +kernel, by decide +kernel⟩, Nat.le_of_ble_eq_true rfl⟩, ⟨_, _, rfl⟩, Or.inr ⟨rfl, gw_at 973 (by decide +kernel) rfl, gw_at 32 (by decide +kernel) rfl⟩⟩
set_option maxRecDepth 20000 in
theorem mk_126 : MOK (yX8_isRow, cX8_isRow, 1, (some .boolean), 1, 8, true) := ⟨⟨gw_at 959 rfl rfl, gw_at 78 (by decide +kernel) rfl, by decide +kernel, ⟨by decide +kernel, by decide +kernel, by decide +kernel⟩, Nat.le_of_ble_eq_true rfl⟩, ⟨_, _, rfl⟩, Or.inl ⟨rfl, gw_at 958 (by decide +kernel) rfl⟩⟩
set_option maxRecDepth 20000 in
theorem mk_127 : MOK (yX8_row, cX8_row, 5, (some .int), 3, 8, false) := ⟨⟨gw_at 956 rfl rfl, gw_at 78 (by decide +kernel) rfl, by decide +kernel, ⟨by decide +kernel, by decide +kernel, by decide +kernel⟩, Nat.le_of_ble_eq_true rfl⟩, ⟨_, _, rfl⟩, Or.inr ⟨rfl, gw_at 954 (by decide +kernel) rfl, gw_at 955 (by decide +kernel) rfl⟩⟩
set_option maxRecDepth 20000 in
theorem mk_128 : MOK (yX8_cutTo, cX8_cutTo, 2, (some .int), 2, 8, true) := ⟨⟨gw_at 985 rfl rfl, gw_at 78 (by decide +kernel) rfl, by decide +kernel, ⟨by decide +kernel, by decide +kernel, by decide +kernel⟩, Nat.le_of_ble_eq_true rfl⟩, ⟨_, _, rfl⟩, Or.inl ⟨rfl, gw_at 984 (by decide +kernel) rfl⟩⟩
set_option maxRecDepth 20000 in
theorem mk_129 : MOK (yX8_against, cX8_against, 4, (some .int), 3, 8, false) := ⟨⟨gw_at 982 rfl rfl, gw_at 78 (by decide +kernel) rfl, by decide +kernel, ⟨by decide +kernel, by decide +kernel, by decide +kernel⟩, Nat.le_of_ble_eq_true rfl⟩, ⟨_, _, rfl⟩, Or.inr ⟨rfl, gw_at 981 (by decide +kernel) rfl, gw_at 33 (by decide +kernel) rfl⟩⟩
set_option maxRecDepth 20000 in
theorem mk_130 : MOK (yX8_set, cX8_set, 5, (some .int), 3, 8, false) := ⟨⟨gw_at 978 rfl rfl, gw_at 78 (by decide +kernel) rfl, by decide +kernel, ⟨by decide +kernel, by decide +kernel, by decide +kernel⟩, Nat.le_of_ble_eq_true rfl⟩, ⟨_, _, rfl⟩, Or.inr ⟨rfl, gw_at 976 (by decide +kernel) rfl, gw_at 977 (by decide +kernel) rfl⟩⟩
set_option maxRecDepth 20000 in
theorem mk_131 : MOK (yX8_copy, cX8_copy, 7, (some .int), 5, 8, false) := ⟨⟨gw_at 989 rfl rfl, gw_at 78 (by decide +kernel) rfl, by decide +kernel, ⟨by decide +kernel, by decide +kernel, by decide +kernel⟩, Nat.le_of_ble_eq_true rfl⟩, ⟨_, _, rfl⟩, Or.inr ⟨rfl, gw_at 987 (by decide +kernel) rfl, gw_at 988 (by decide +kernel) rfl⟩⟩
set_option maxRecDepth 20000 in
theorem mk_132 : MOK (yX8_drop, cX8_drop, 2, (some .int), 1, 8, false) := ⟨⟨gw_at 993 rfl rfl, gw_at 78 (by decide +kernel) rfl, by decide +kernel, ⟨by decide +kernel, by decide +kernel, by decide +kernel⟩, Nat.le_of_ble_eq_true rfl⟩, ⟨_, _, rfl⟩, Or.inr ⟨rfl, gw_at 991 (by decide +kernel) rfl, gw_at 992 (by decide +kernel) rfl⟩⟩
set_option maxRecDepth 20000 in
theorem mk_133 : MOK (yX8_feed, cX8_feed, 2, (some .int), 1, 8, false) := ⟨⟨gw_at 997 rfl rfl, gw_at 78 (by decide +kernel) rfl, by decide +kernel, ⟨by decide +kernel, by decide +kernel, by decide +kernel⟩, Nat.le_of_ble_eq_true rfl⟩, ⟨_, _, rfl⟩, Or.inr ⟨rfl, gw_at 995 (by decide +kernel) rfl, gw_at 996 (by decide +kernel) rfl⟩⟩
set_option maxRecDepth 20000 in
theorem mk_134 : MOK (yX8_byteAt, cX8_byteAt, 2, (some .int), 1, 8, false) := ⟨⟨gw_at 1019 rfl rfl, gw_at 78 (by decide +kernel) rfl, by decide +kernel, ⟨by decide +kernel, by decide +kernel, by decide +kernel⟩, Nat.le_of_ble_eq_true rfl⟩, ⟨_, _, rfl⟩, Or.inr ⟨rfl, gw_at 1018 (by decide +kernel) rfl, gw_at 37 (by decide +kernel) rfl⟩⟩
set_option maxRecDepth 20000 in
theorem mk_135 : MOK (yX8_isFigure, cX8_isFigure, 2, (some .boolean), 1, 8, false) := ⟨⟨gw_at 1027 rfl rfl, gw_at 78 (by decide +kernel) rfl, by decide +kernel, ⟨by decide +kernel, by decide +kernel, by decide +kernel⟩, Nat.le_of_ble_eq_true rfl⟩, ⟨_, _, rfl⟩, Or.inr ⟨rfl, gw_at 1026 (by decide +kernel) rfl, gw_at 39 (by decide +kernel) rfl⟩⟩
set_option maxRecDepth 20000 in
theorem mk_136 : MOK (yX8_takes, cX8_takes, 3, (some .boolean), 1, 8, false) := ⟨⟨gw_at 1015 rfl rfl, gw_at 78 (by decide +kernel) rfl, by decide +kernel, ⟨by decide +kernel, by decide +kernel, by decide +kernel⟩, Nat.le_of_ble_eq_true rfl⟩, ⟨_, _, rfl⟩, Or.inr ⟨rfl, gw_at 1014 (by decide +kernel) rfl, gw_at 36 (by decide +kernel) rfl⟩⟩
set_option maxRecDepth 20000 in
theorem mk_137 : MOK (yX8_takesNumber, cX8_takesNumber, 4, (some .boolean), 2, 8, false) := ⟨⟨gw_at 1023 rfl rfl, gw_at 78 (by decide +kernel) rfl, by decide +kernel, ⟨by decide +kernel, by decide +kernel, by decide +kernel⟩, Nat.le_of_ble_eq_true rfl⟩, ⟨_, _, rfl⟩, Or.inr ⟨rfl, gw_at 1022 (by decide +kernel) rfl, gw_at 38 (by decide +kernel) rfl⟩⟩
set_option maxRecDepth 20000 in
theorem mk_138 : MOK (yX8_isMore, cX8_isMore, 1, (some .boolean), 0, 8, false) := ⟨⟨gw_at 1040 rfl rfl, gw_at 78 (by decide +kernel) rfl, by decide +kernel, ⟨by decide +kernel, by decide +kernel, by decide +kernel⟩, Nat.le_of_ble_eq_true rfl⟩, ⟨_, _, rfl⟩, Or.inr ⟨rfl, gw_at 1039 (by decide +kernel) rfl, gw_at 41 (by decide +kernel) rfl⟩⟩
set_option maxRecDepth 20000 in
theorem mk_139 : MOK (yX8_takesLaw, cX8_takesLaw, 2, (some .boolean), 0, 8, false) := ⟨⟨gw_at 1011 rfl rfl, gw_at 78 (by decide +kernel) rfl, by decide +kernel, ⟨by decide +kernel, by decide +kernel, by decide +kernel⟩, Nat.le_of_ble_eq_true rfl⟩, ⟨_, _, rfl⟩, Or.inr ⟨rfl, gw_at 1010 (by decide +kernel) rfl, gw_at 35 (by decide +kernel) rfl⟩⟩
set_option maxRecDepth 20000 in
theorem mk_140 : MOK (yX8_barOf, cX8_barOf, 1, (some .int), 1, 8, true) := ⟨⟨gw_at 1036 rfl rfl, gw_at 78 (by decide +kernel) rfl, by decide +kernel, ⟨by decide +kernel, by decide +kernel, by decide +kernel⟩, Nat.le_of_ble_eq_true rfl⟩, ⟨_, _, rfl⟩, Or.inl ⟨rfl, gw_at 1035 (by decide +kernel) rfl⟩⟩
set_option maxRecDepth 20000 in
theorem mk_141 : MOK (yX8_takesSong, cX8_takesSong, 1, (some .boolean), 0, 8, false) := ⟨⟨gw_at 1033 rfl rfl, gw_at 78 (by decide +kernel) rfl, by decide +kernel, ⟨by decide +kernel, by decide +kernel, by decide +kernel⟩, Nat.le_of_ble_eq_true rfl⟩, ⟨_, _, rfl⟩, Or.inr ⟨rfl, gw_at 1032 (by decide +kernel) rfl, gw_at 40 (by decide +kernel) rfl⟩⟩
set_option maxRecDepth 20000 in
theorem mk_142 : MOK (yX8_sortOf, cX8_sortOf, 1, (some .int), 1, 8, true) := ⟨⟨gw_at 1047 rfl rfl, gw_at 78 (by decide +kernel) rfl, by decide +kernel, ⟨by decide +kernel, by decide +kernel, by decide +kernel⟩, Nat.le_of_ble_eq_true rfl⟩, ⟨_, _, rfl⟩, Or.inl ⟨rfl, gw_at 1046 (by decide +kernel) rfl⟩⟩
set_option maxRecDepth 20000 in
theorem mk_143 : MOK (yX8_takesPlayer, cX8_takesPlayer, 3, (some .boolean), 0, 8, false) := ⟨⟨gw_at 1044 rfl rfl, gw_at 78 (by decide +kernel) rfl, by decide +kernel, ⟨by decide +kernel, by decide +kernel, by decide +kernel⟩, Nat.le_of_ble_eq_true rfl⟩, ⟨_, _, rfl⟩, Or.inr ⟨rfl, gw_at 1043 (by decide +kernel) rfl, gw_at 42 (by decide +kernel) rfl⟩⟩
set_option maxRecDepth 20000 in
theorem mk_144 : MOK (yX8_takesEar, cX8_takesEar, 4, (some .boolean), 0, 8, false) := ⟨⟨gw_at 1051 rfl rfl, gw_at 78 (by decide +kernel) rfl, by decide +kernel, ⟨by decide +kernel, by decide +kernel, by decide +kernel⟩, Nat.le_of_ble_eq_true rfl⟩, ⟨_, _, rfl⟩, Or.inr ⟨rfl, gw_at 1050 (by decide +kernel) rfl, gw_at 43 (by decide +kernel) rfl⟩⟩
set_option maxRecDepth 20000 in
theorem mk_145 : MOK (yX8_isBand, cX8_isBand, 2, (some .boolean), 0, 8, false) := ⟨⟨gw_at 1007 rfl rfl, gw_at 78 (by decide +kernel) rfl, by decide +kernel, ⟨by decide +kernel, by decide +kernel, by decide +kernel⟩, Nat.le_of_ble_eq_true rfl⟩, ⟨_, _, rfl⟩, Or.inr ⟨rfl, gw_at 1006 (by decide +kernel) rfl, gw_at 34 (by decide +kernel) rfl⟩⟩
set_option maxRecDepth 20000 in
theorem mk_146 : MOK (yX8_band, cX8_band, 3, (some .int), 0, 8, false) := ⟨⟨gw_at 1003 rfl rfl, gw_at 78 (by decide +kernel) rfl, by decide +kernel, ⟨by decide +kernel, by decide +kernel, by decide +kernel⟩, Nat.le_of_ble_eq_true rfl⟩, ⟨_, _, rfl⟩, Or.inr ⟨rfl, gw_at 1001 (by decide +kernel) rfl, gw_at 1002 (by decide +kernel) rfl⟩⟩
set_option maxRecDepth 20000 in
theorem mk_147 : MOK (yX8_fault, cX8_fault, 1, (some .int), 0, 8, false) := ⟨⟨gw_at 1056 rfl rfl, gw_at 78 (by decide +kernel) rfl, by decide +kernel, ⟨by decide +kernel, by decide +kernel, by decide +kernel⟩, Nat.le_of_ble_eq_true rfl⟩, ⟨_, _, rfl⟩, Or.inr ⟨rfl, gw_at 1054 (by decide +kernel) rfl, gw_at 1055 (by decide +kernel) rfl⟩⟩
set_option maxRecDepth 20000 in
theorem mk_148 : MOK (yX8_layNow, cX8_layNow, 2, none, 0, 8, false) := ⟨⟨gw_at 1078 rfl rfl, gw_at 78 (by decide +kernel) rfl, by decide +kernel, ⟨by decide +kernel, by decide +kernel, by decide +kernel⟩, Nat.le_of_ble_eq_true rfl⟩, ⟨_, _, rfl⟩, Or.inr ⟨rfl, gw_at 1077 (by decide +kernel) rfl, gw_at 46 (by decide +kernel) rfl⟩⟩
set_option maxRecDepth 20000 in
theorem mk_149 : MOK (yX8_leanAt, cX8_leanAt, 4, (some .int), 2, 8, false) := ⟨⟨gw_at 1090 rfl rfl, gw_at 78 (by decide +kernel) rfl, by decide +kernel, ⟨by decide +kernel, by decide +kernel, by decide +kernel⟩, Nat.le_of_ble_eq_true rfl⟩, ⟨_, _, rfl⟩, Or.inr ⟨rfl, gw_at 1089 (by decide +kernel) rfl, gw_at 49 (by decide +kernel) rfl⟩⟩
set_option maxRecDepth 20000 in
theorem mk_150 : MOK (yX8_paceBehind, cX8_paceBehind, 6, (some .int), 2, 8, false) := ⟨⟨gw_at 1086 rfl rfl, gw_at 78 (by decide +kernel) rfl, by decide +kernel, ⟨by decide +kernel, by decide +kernel, by decide +kernel⟩, Nat.le_of_ble_eq_true rfl⟩, ⟨_, _, rfl⟩, Or.inr ⟨rfl, gw_at 1085 (by decide +kernel) rfl, gw_at 48 (by decide +kernel) rfl⟩⟩
set_option maxRecDepth 20000 in
theorem mk_151 : MOK (yX8_plays, cX8_plays, 3, none, 0, 8, false) := ⟨⟨gw_at 1082 rfl rfl, gw_at 78 (by decide +kernel) rfl, by decide +kernel, ⟨by decide +kernel, by decide +kernel, by decide +kernel⟩, Nat.le_of_ble_eq_true rfl⟩, ⟨_, _, rfl⟩, Or.inr ⟨rfl, gw_at 1081 (by decide +kernel) rfl, gw_at 47 (by decide +kernel) rfl⟩⟩
set_option maxRecDepth 20000 in
theorem mk_152 : MOK (yX8_mean, cX8_mean, 3, (some .int), 0, 8, false) := ⟨⟨gw_at 1148 rfl rfl, gw_at 78 (by decide +kernel) rfl, by decide +kernel, ⟨by decide +kernel, by decide +kernel, by decide +kernel⟩, Nat.le_of_ble_eq_true rfl⟩, ⟨_, _, rfl⟩, Or.inr ⟨rfl, gw_at 1147 (by decide +kernel) rfl, gw_at 53 (by decide +kernel) rfl⟩⟩
set_option maxRecDepth 20000 in
theorem mk_153 : MOK (yX8_playsMany, cX8_playsMany, 3, none, 1, 8, false) := ⟨⟨gw_at 1144 rfl rfl, gw_at 78 (by decide +kernel) rfl, by decide +kernel, ⟨by decide +kernel, by decide +kernel, by decide +kernel⟩, Nat.le_of_ble_eq_true rfl⟩, ⟨_, _, rfl⟩, Or.inr ⟨rfl, gw_at 1143 (by decide +kernel) rfl, gw_at 52 (by decide +kernel) rfl⟩⟩
set_option maxRecDepth 20000 in
theorem mk_154 : MOK (yX8_meanNow, cX8_meanNow, 3, (some .int), 0, 8, false) := ⟨⟨gw_at 1097 rfl rfl, gw_at 78 (by decide +kernel) rfl, by decide +kernel, ⟨by decide +kernel, by decide +kernel, by decide +kernel⟩, Nat.le_of_ble_eq_true rfl⟩, ⟨_, _, rfl⟩, Or.inr ⟨rfl, gw_at 1096 (by decide +kernel) rfl, gw_at 50 (by decide +kernel) rfl⟩⟩
set_option maxRecDepth 20000 in
theorem mk_155 : MOK (yX8_driftBy, cX8_driftBy, 2, (some .int), 0, 8, false) := ⟨⟨gw_at 1156 rfl rfl, gw_at 78 (by decide +kernel) rfl, by decide +kernel, ⟨by decide +kernel, by decide +kernel, by decide +kernel⟩, Nat.le_of_ble_eq_true rfl⟩, ⟨_, _, rfl⟩, Or.inr ⟨rfl, gw_at 1155 (by decide +kernel) rfl, gw_at 54 (by decide +kernel) rfl⟩⟩
set_option maxRecDepth 20000 in
theorem mk_156 : MOK (yX8_minds, cX8_minds, 2, none, 0, 8, false) := ⟨⟨gw_at 1074 rfl rfl, gw_at 78 (by decide +kernel) rfl, by decide +kernel, ⟨by decide +kernel, by decide +kernel, by decide +kernel⟩, Nat.le_of_ble_eq_true rfl⟩, ⟨_, _, rfl⟩, Or.inr ⟨rfl, gw_at 1073 (by decide +kernel) rfl, gw_at 45 (by decide +kernel) rfl⟩⟩
set_option maxRecDepth 20000 in
theorem mk_157 : MOK (yX8_undo, cX8_undo, 2, (some .int), 0, 8, false) := ⟨⟨gw_at 1060 rfl rfl, gw_at 78 (by decide +kernel) rfl, by decide +kernel, ⟨by decide +kernel, by decide +kernel, by decide +kernel⟩, Nat.le_of_ble_eq_true rfl⟩, ⟨_, _, rfl⟩, Or.inr ⟨rfl, gw_at 1058 (by decide +kernel) rfl, gw_at 1059 (by decide +kernel) rfl⟩⟩
set_option maxRecDepth 20000 in
theorem mk_158 : MOK (yX8_isPlayer, cX8_isPlayer, 2, (some .boolean), 1, 8, false) := ⟨⟨gw_at 1105 rfl rfl, gw_at 78 (by decide +kernel) rfl, by decide +kernel, ⟨by decide +kernel, by decide +kernel, by decide +kernel⟩, Nat.le_of_ble_eq_true rfl⟩, ⟨_, _, rfl⟩, Or.inr ⟨rfl, gw_at 1104 (by decide +kernel) rfl, gw_at 51 (by decide +kernel) rfl⟩⟩
set_option maxRecDepth 20000 in
theorem mk_159 : MOK (yX8_isNone, cX8_isNone, 1, (some .boolean), 0, 8, false) := ⟨⟨gw_at 1069 rfl rfl, gw_at 78 (by decide +kernel) rfl, by decide +kernel, ⟨by decide +kernel, by decide +kernel, by decide +kernel⟩, Nat.le_of_ble_eq_true rfl⟩, ⟨_, _, rfl⟩, Or.inr ⟨rfl, gw_at 1068 (by decide +kernel) rfl, gw_at 44 (by decide +kernel) rfl⟩⟩
set_option maxRecDepth 20000 in
theorem mk_160 : MOK (yX8_bars, cX8_bars, 4, (some .int), 1, 8, false) := ⟨⟨gw_at 1065 rfl rfl, gw_at 78 (by decide +kernel) rfl, by decide +kernel, ⟨by decide +kernel, by decide +kernel, by decide +kernel⟩, Nat.le_of_ble_eq_true rfl⟩, ⟨_, _, rfl⟩, Or.inr ⟨rfl, gw_at 1063 (by decide +kernel) rfl, gw_at 1064 (by decide +kernel) rfl⟩⟩
set_option maxRecDepth 20000 in
theorem mk_161 : MOK (yX8_pace, cX8_pace, 4, (some .int), 2, 8, false) := ⟨⟨gw_at 1101 rfl rfl, gw_at 78 (by decide +kernel) rfl, by decide +kernel, ⟨by decide +kernel, by decide +kernel, by decide +kernel⟩, Nat.le_of_ble_eq_true rfl⟩, ⟨_, _, rfl⟩, Or.inr ⟨rfl, gw_at 1099 (by decide +kernel) rfl, gw_at 1100 (by decide +kernel) rfl⟩⟩
set_option maxRecDepth 20000 in
theorem mk_162 : MOK (yX8_hears, cX8_hears, 5, (some .int), 3, 8, false) := ⟨⟨gw_at 1111 rfl rfl, gw_at 78 (by decide +kernel) rfl, by decide +kernel, ⟨by decide +kernel, by decide +kernel, by decide +kernel⟩, Nat.le_of_ble_eq_true rfl⟩, ⟨_, _, rfl⟩, Or.inr ⟨rfl, gw_at 1109 (by decide +kernel) rfl, gw_at 1110 (by decide +kernel) rfl⟩⟩
set_option maxRecDepth 20000 in
theorem mk_163 : MOK (yX8_click, cX8_click, 3, (some .int), 1, 8, false) := ⟨⟨gw_at 1116 rfl rfl, gw_at 78 (by decide +kernel) rfl, by decide +kernel, ⟨by decide +kernel, by decide +kernel, by decide +kernel⟩, Nat.le_of_ble_eq_true rfl⟩, ⟨_, _, rfl⟩, Or.inr ⟨rfl, gw_at 1114 (by decide +kernel) rfl, gw_at 1115 (by decide +kernel) rfl⟩⟩
set_option maxRecDepth 20000 in
theorem mk_164 : MOK (yX8_claps, cX8_claps, 3, (some .int), 1, 8, false) := ⟨⟨gw_at 1122 rfl rfl, gw_at 78 (by decide +kernel) rfl, by decide +kernel, ⟨by decide +kernel, by decide +kernel, by decide +kernel⟩, Nat.le_of_ble_eq_true rfl⟩, ⟨_, _, rfl⟩, Or.inr ⟨rfl, gw_at 1120 (by decide +kernel) rfl, gw_at 1121 (by decide +kernel) rfl⟩⟩
set_option maxRecDepth 20000 in
theorem mk_165 : MOK (yX8_player, cX8_player, 5, (some .int), 2, 8, false) := ⟨⟨gw_at 1126 rfl rfl, gw_at 78 (by decide +kernel) rfl, by decide +kernel, ⟨by decide +kernel, by decide +kernel, by decide +kernel⟩, Nat.le_of_ble_eq_true rfl⟩, ⟨_, _, rfl⟩, Or.inr ⟨rfl, gw_at 1124 (by decide +kernel) rfl, gw_at 1125 (by decide +kernel) rfl⟩⟩
set_option maxRecDepth 20000 in
theorem mk_166 : MOK (yX8_ear, cX8_ear, 3, (some .int), 2, 8, false) := ⟨⟨gw_at 1131 rfl rfl, gw_at 78 (by decide +kernel) rfl, by decide +kernel, ⟨by decide +kernel, by decide +kernel, by decide +kernel⟩, Nat.le_of_ble_eq_true rfl⟩, ⟨_, _, rfl⟩, Or.inr ⟨rfl, gw_at 1129 (by decide +kernel) rfl, gw_at 1130 (by decide +kernel) rfl⟩⟩
set_option maxRecDepth 20000 in
theorem mk_167 : MOK (yX8_bar, cX8_bar, 2, (some .int), 1, 8, false) := ⟨⟨gw_at 1135 rfl rfl, gw_at 78 (by decide +kernel) rfl, by decide +kernel, ⟨by decide +kernel, by decide +kernel, by decide +kernel⟩, Nat.le_of_ble_eq_true rfl⟩, ⟨_, _, rfl⟩, Or.inr ⟨rfl, gw_at 1133 (by decide +kernel) rfl, gw_at 1134 (by decide +kernel) rfl⟩⟩
set_option maxRecDepth 20000 in
theorem mk_168 : MOK (yX8_ahead, cX8_ahead, 3, (some .int), 2, 8, false) := ⟨⟨gw_at 1139 rfl rfl, gw_at 78 (by decide +kernel) rfl, by decide +kernel, ⟨by decide +kernel, by decide +kernel, by decide +kernel⟩, Nat.le_of_ble_eq_true rfl⟩, ⟨_, _, rfl⟩, Or.inr ⟨rfl, gw_at 1137 (by decide +kernel) rfl, gw_at 1138 (by decide +kernel) rfl⟩⟩
set_option maxRecDepth 20000 in
theorem mk_169 : MOK (yX8_drift, cX8_drift, 1, (some .int), 0, 8, false) := ⟨⟨gw_at 1152 rfl rfl, gw_at 78 (by decide +kernel) rfl, by decide +kernel, ⟨by decide +kernel, by decide +kernel, by decide +kernel⟩, Nat.le_of_ble_eq_true rfl⟩, ⟨_, _, rfl⟩, Or.inr ⟨rfl, gw_at 1150 (by decide +kernel) rfl, gw_at 1151 (by decide +kernel) rfl⟩⟩
set_option maxRecDepth 20000 in
theorem mk_170 : MOK (yX8_round, cX8_round, 4, (some .int), 1, 8, false) := ⟨⟨gw_at 1160 rfl rfl, gw_at 78 (by decide +kernel) rfl, by decide +kernel, ⟨by decide +kernel, by decide +kernel, by decide +kernel⟩, Nat.le_of_ble_eq_true rfl⟩, ⟨_, _, rfl⟩, Or.inr ⟨rfl, gw_at 1158 (by decide +kernel) rfl, gw_at 1159 (by decide +kernel) rfl⟩⟩
set_option maxRecDepth 20000 in
theorem mk_171 : MOK (yX8_areAlike, cX8_areAlike, 5, (some .boolean), 2, 8, false) := ⟨⟨gw_at 1164 rfl rfl, gw_at 78 (by decide +kernel) rfl, by decide +kernel, ⟨by decide +kernel, by decide +kernel, by decide +kernel⟩, Nat.le_of_ble_eq_true rfl⟩, ⟨_, _, rfl⟩, Or.inr ⟨rfl, gw_at 1163 (by decide +kernel) rfl, gw_at 55 (by decide +kernel) rfl⟩⟩
set_option maxRecDepth 20000 in
theorem mk_172 : MOK (yX8_noticed, cX8_noticed, 5, (some .int), 2, 8, false) := ⟨⟨gw_at 1169 rfl rfl, gw_at 78 (by decide +kernel) rfl, by decide +kernel, ⟨by decide +kernel, by decide +kernel, by decide +kernel⟩, Nat.le_of_ble_eq_true rfl⟩, ⟨_, _, rfl⟩, Or.inr ⟨rfl, gw_at 1167 (by decide +kernel) rfl, gw_at 1168 (by decide +kernel) rfl⟩⟩
set_option maxRecDepth 20000 in
theorem mk_173 : MOK (yX8_dancers, cX8_dancers, 12, (some .int), 5, 8, false) := ⟨⟨gw_at 1176 rfl rfl, gw_at 78 (by decide +kernel) rfl, by decide +kernel, ⟨by decide +kernel, by decide +kernel, by decide +kernel⟩, Nat.le_of_ble_eq_true rfl⟩, ⟨_, _, rfl⟩, Or.inr ⟨rfl, gw_at 1174 (by decide +kernel) rfl, gw_at 1175 (by decide +kernel) rfl⟩⟩
set_option maxRecDepth 20000 in
theorem mk_174 : MOK (yX8_countIn, cX8_countIn, 7, (some .int), 2, 8, false) := ⟨⟨gw_at 1181 rfl rfl, gw_at 78 (by decide +kernel) rfl, by decide +kernel, ⟨by decide +kernel, by decide +kernel, by decide +kernel⟩, Nat.le_of_ble_eq_true rfl⟩, ⟨_, _, rfl⟩, Or.inr ⟨rfl, gw_at 1179 (by decide +kernel) rfl, gw_at 1180 (by decide +kernel) rfl⟩⟩
set_option maxRecDepth 20000 in
theorem mk_175 : MOK (yX8_deaf, cX8_deaf, 7, (some .int), 1, 8, false) := ⟨⟨gw_at 1186 rfl rfl, gw_at 78 (by decide +kernel) rfl, by decide +kernel, ⟨by decide +kernel, by decide +kernel, by decide +kernel⟩, Nat.le_of_ble_eq_true rfl⟩, ⟨_, _, rfl⟩, Or.inr ⟨rfl, gw_at 1184 (by decide +kernel) rfl, gw_at 1185 (by decide +kernel) rfl⟩⟩
set_option maxRecDepth 20000 in
theorem mk_176 : MOK (yX8_inEar, cX8_inEar, 7, (some .int), 1, 8, false) := ⟨⟨gw_at 1190 rfl rfl, gw_at 78 (by decide +kernel) rfl, by decide +kernel, ⟨by decide +kernel, by decide +kernel, by decide +kernel⟩, Nat.le_of_ble_eq_true rfl⟩, ⟨_, _, rfl⟩, Or.inr ⟨rfl, gw_at 1188 (by decide +kernel) rfl, gw_at 1189 (by decide +kernel) rfl⟩⟩
set_option maxRecDepth 20000 in
theorem mk_177 : MOK (yX8_blame, cX8_blame, 3, (some .int), 1, 8, false) := ⟨⟨gw_at 1194 rfl rfl, gw_at 78 (by decide +kernel) rfl, by decide +kernel, ⟨by decide +kernel, by decide +kernel, by decide +kernel⟩, Nat.le_of_ble_eq_true rfl⟩, ⟨_, _, rfl⟩, Or.inr ⟨rfl, gw_at 1192 (by decide +kernel) rfl, gw_at 1193 (by decide +kernel) rfl⟩⟩
set_option maxRecDepth 20000 in
theorem mk_178 : MOK (yX8_farBy, cX8_farBy, 9, (some .int), 5, 8, false) := ⟨⟨gw_at 1202 rfl rfl, gw_at 78 (by decide +kernel) rfl, by decide +kernel, ⟨by decide +kernel, by decide +kernel, by decide +kernel⟩, Nat.le_of_ble_eq_true rfl⟩, ⟨_, _, rfl⟩, Or.inr ⟨rfl, gw_at 1201 (by decide +kernel) rfl, gw_at 56 (by decide +kernel) rfl⟩⟩
set_option maxRecDepth 20000 in
theorem mk_179 : MOK (yX8_back, cX8_back, 9, (some .int), 4, 8, false) := ⟨⟨gw_at 1198 rfl rfl, gw_at 78 (by decide +kernel) rfl, by decide +kernel, ⟨by decide +kernel, by decide +kernel, by decide +kernel⟩, Nat.le_of_ble_eq_true rfl⟩, ⟨_, _, rfl⟩, Or.inr ⟨rfl, gw_at 1196 (by decide +kernel) rfl, gw_at 1197 (by decide +kernel) rfl⟩⟩
set_option maxRecDepth 20000 in
theorem mk_180 : MOK (yX8_between, cX8_between, 10, (some .int), 3, 8, false) := ⟨⟨gw_at 1212 rfl rfl, gw_at 78 (by decide +kernel) rfl, by decide +kernel, ⟨by decide +kernel, by decide +kernel, by decide +kernel⟩, Nat.le_of_ble_eq_true rfl⟩, ⟨_, _, rfl⟩, Or.inr ⟨rfl, gw_at 1211 (by decide +kernel) rfl, gw_at 57 (by decide +kernel) rfl⟩⟩
set_option maxRecDepth 20000 in
theorem mk_181 : MOK (yX8_songs, cX8_songs, 12, (some .int), 4, 8, false) := ⟨⟨gw_at 1206 rfl rfl, gw_at 78 (by decide +kernel) rfl, by decide +kernel, ⟨by decide +kernel, by decide +kernel, by decide +kernel⟩, Nat.le_of_ble_eq_true rfl⟩, ⟨_, _, rfl⟩, Or.inr ⟨rfl, gw_at 1204 (by decide +kernel) rfl, gw_at 1205 (by decide +kernel) rfl⟩⟩
set_option maxRecDepth 20000 in
theorem mk_182 : MOK (yX8_clapped, cX8_clapped, 5, (some .int), 2, 8, false) := ⟨⟨gw_at 1216 rfl rfl, gw_at 78 (by decide +kernel) rfl, by decide +kernel, ⟨by decide +kernel, by decide +kernel, by decide +kernel⟩, Nat.le_of_ble_eq_true rfl⟩, ⟨_, _, rfl⟩, Or.inr ⟨rfl, gw_at 1214 (by decide +kernel) rfl, gw_at 1215 (by decide +kernel) rfl⟩⟩
set_option maxRecDepth 20000 in
theorem mk_183 : MOK (yX8_pushBy, cX8_pushBy, 7, (some .int), 2, 8, false) := ⟨⟨gw_at 1224 rfl rfl, gw_at 78 (by decide +kernel) rfl, by decide +kernel, ⟨by decide +kernel, by decide +kernel, by decide +kernel⟩, Nat.le_of_ble_eq_true rfl⟩, ⟨_, _, rfl⟩, Or.inr ⟨rfl, gw_at 1223 (by decide +kernel) rfl, gw_at 58 (by decide +kernel) rfl⟩⟩
set_option maxRecDepth 20000 in
theorem mk_184 : MOK (yX8_whoPushed, cX8_whoPushed, 9, (some .int), 3, 8, false) := ⟨⟨gw_at 1220 rfl rfl, gw_at 78 (by decide +kernel) rfl, by decide +kernel, ⟨by decide +kernel, by decide +kernel, by decide +kernel⟩, Nat.le_of_ble_eq_true rfl⟩, ⟨_, _, rfl⟩, Or.inr ⟨rfl, gw_at 1218 (by decide +kernel) rfl, gw_at 1219 (by decide +kernel) rfl⟩⟩
set_option maxRecDepth 20000 in
theorem mk_185 : MOK (yX8_night, cX8_night, 10, (some .int), 3, 8, false) := ⟨⟨gw_at 1228 rfl rfl, gw_at 78 (by decide +kernel) rfl, by decide +kernel, ⟨by decide +kernel, by decide +kernel, by decide +kernel⟩, Nat.le_of_ble_eq_true rfl⟩, ⟨_, _, rfl⟩, Or.inr ⟨rfl, gw_at 1226 (by decide +kernel) rfl, gw_at 1227 (by decide +kernel) rfl⟩⟩
set_option maxRecDepth 20000 in
theorem mk_186 : MOK (yX8_image, cX8_image, 3, (some .int), 1, 8, false) := ⟨⟨gw_at 1237 rfl rfl, gw_at 78 (by decide +kernel) rfl, by decide +kernel, ⟨by decide +kernel, by decide +kernel, by decide +kernel⟩, Nat.le_of_ble_eq_true rfl⟩, ⟨_, _, rfl⟩, Or.inr ⟨rfl, gw_at 1235 (by decide +kernel) rfl, gw_at 1236 (by decide +kernel) rfl⟩⟩
set_option maxRecDepth 20000 in
theorem mk_187 : MOK (yX8_restore, cX8_restore, 3, (some .int), 1, 8, false) := ⟨⟨gw_at 1241 rfl rfl, gw_at 78 (by decide +kernel) rfl, by decide +kernel, ⟨by decide +kernel, by decide +kernel, by decide +kernel⟩, Nat.le_of_ble_eq_true rfl⟩, ⟨_, _, rfl⟩, Or.inr ⟨rfl, gw_at 1239 (by decide +kernel) rfl, gw_at 1240 (by decide +kernel) rfl⟩⟩
set_option maxRecDepth 20000 in
theorem mk_188 : MOK (yX8_leaves, cX8_leaves, 2, none, 1, 8, false) := ⟨⟨gw_at 1264 rfl rfl, gw_at 78 (by decide +kernel) rfl, by decide +kernel, ⟨by decide +kernel, by decide +kernel, by decide +kernel⟩, Nat.le_of_ble_eq_true rfl⟩, ⟨_, _, rfl⟩, Or.inr ⟨rfl, gw_at 1263 (by decide +kernel) rfl, gw_at 60 (by decide +kernel) rfl⟩⟩
set_option maxRecDepth 20000 in
theorem mk_189 : MOK (yX8_kind, cX8_kind, 2, (some .int), 1, 8, false) := ⟨⟨gw_at 1245 rfl rfl, gw_at 78 (by decide +kernel) rfl, by decide +kernel, ⟨by decide +kernel, by decide +kernel, by decide +kernel⟩, Nat.le_of_ble_eq_true rfl⟩, ⟨_, _, rfl⟩, Or.inr ⟨rfl, gw_at 1243 (by decide +kernel) rfl, gw_at 1244 (by decide +kernel) rfl⟩⟩
set_option maxRecDepth 20000 in
theorem mk_190 : MOK (yX8_isOf, cX8_isOf, 2, (some .boolean), 2, 8, true) := ⟨⟨gw_at 1252 rfl rfl, gw_at 78 (by decide +kernel) rfl, by decide +kernel, ⟨by decide +kernel, by decide +kernel, by decide +kernel⟩, Nat.le_of_ble_eq_true rfl⟩, ⟨_, _, rfl⟩, Or.inl ⟨rfl, gw_at 1251 (by decide +kernel) rfl⟩⟩
set_option maxRecDepth 20000 in
theorem mk_191 : MOK (yX8_as, cX8_as, 3, (some .int), 2, 8, false) := ⟨⟨gw_at 1249 rfl rfl, gw_at 78 (by decide +kernel) rfl, by decide +kernel, ⟨by decide +kernel, by decide +kernel, by decide +kernel⟩, Nat.le_of_ble_eq_true rfl⟩, ⟨_, _, rfl⟩, Or.inr ⟨rfl, gw_at 1247 (by decide +kernel) rfl, gw_at 1248 (by decide +kernel) rfl⟩⟩
set_option maxRecDepth 20000 in
theorem mk_192 : MOK (yX8_bareSize, cX8_bareSize, 2, (some .int), 1, 8, false) := ⟨⟨gw_at 1272 rfl rfl, gw_at 78 (by decide +kernel) rfl, by decide +kernel, ⟨by decide +kernel, by decide +kernel, by decide +kernel⟩, Nat.le_of_ble_eq_true rfl⟩, ⟨_, _, rfl⟩, Or.inr ⟨rfl, gw_at 1271 (by decide +kernel) rfl, gw_at 62 (by decide +kernel) rfl⟩⟩
set_option maxRecDepth 20000 in
theorem mk_193 : MOK (yX8_bareMark, cX8_bareMark, 2, (some .int), 1, 8, false) := ⟨⟨gw_at 1284 rfl rfl, gw_at 78 (by decide +kernel) rfl, by decide +kernel, ⟨by decide +kernel, by decide +kernel, by decide +kernel⟩, Nat.le_of_ble_eq_true rfl⟩, ⟨_, _, rfl⟩, Or.inr ⟨rfl, gw_at 1283 (by decide +kernel) rfl, gw_at 65 (by decide +kernel) rfl⟩⟩
set_option maxRecDepth 20000 in
theorem mk_194 : MOK (yX8_steadyMark, cX8_steadyMark, 2, (some .int), 1, 8, false) := ⟨⟨gw_at 1280 rfl rfl, gw_at 78 (by decide +kernel) rfl, by decide +kernel, ⟨by decide +kernel, by decide +kernel, by decide +kernel⟩, Nat.le_of_ble_eq_true rfl⟩, ⟨_, _, rfl⟩, Or.inr ⟨rfl, gw_at 1279 (by decide +kernel) rfl, gw_at 64 (by decide +kernel) rfl⟩⟩
set_option maxRecDepth 20000 in
theorem mk_195 : MOK (yX8_markOfSteady, cX8_markOfSteady, 2, (some .int), 1, 8, false) := ⟨⟨gw_at 1276 rfl rfl, gw_at 78 (by decide +kernel) rfl, by decide +kernel, ⟨by decide +kernel, by decide +kernel, by decide +kernel⟩, Nat.le_of_ble_eq_true rfl⟩, ⟨_, _, rfl⟩, Or.inr ⟨rfl, gw_at 1275 (by decide +kernel) rfl, gw_at 63 (by decide +kernel) rfl⟩⟩
set_option maxRecDepth 20000 in
theorem mk_196 : MOK (yX8_steadySize, cX8_steadySize, 3, (some .int), 1, 8, false) := ⟨⟨gw_at 1268 rfl rfl, gw_at 78 (by decide +kernel) rfl, by decide +kernel, ⟨by decide +kernel, by decide +kernel, by decide +kernel⟩, Nat.le_of_ble_eq_true rfl⟩, ⟨_, _, rfl⟩, Or.inr ⟨rfl, gw_at 1267 (by decide +kernel) rfl, gw_at 61 (by decide +kernel) rfl⟩⟩
set_option maxRecDepth 20000 in
theorem mk_197 : MOK (yX8_clickedSize, cX8_clickedSize, 2, (some .int), 1, 8, false) := ⟨⟨gw_at 1288 rfl rfl, gw_at 78 (by decide +kernel) rfl, by decide +kernel, ⟨by decide +kernel, by decide +kernel, by decide +kernel⟩, Nat.le_of_ble_eq_true rfl⟩, ⟨_, _, rfl⟩, Or.inr ⟨rfl, gw_at 1287 (by decide +kernel) rfl, gw_at 66 (by decide +kernel) rfl⟩⟩
set_option maxRecDepth 20000 in
theorem mk_198 : MOK (yX8_sizeOf, cX8_sizeOf, 2, (some .int), 1, 8, false) := ⟨⟨gw_at 1260 rfl rfl, gw_at 78 (by decide +kernel) rfl, by decide +kernel, ⟨by decide +kernel, by decide +kernel, by decide +kernel⟩, Nat.le_of_ble_eq_true rfl⟩, ⟨_, _, rfl⟩, Or.inr ⟨rfl, gw_at 1259 (by decide +kernel) rfl, gw_at 59 (by decide +kernel) rfl⟩⟩
set_option maxRecDepth 20000 in
theorem mk_199 : MOK (yX8_markOf, cX8_markOf, 3, (some .int), 1, 8, false) := ⟨⟨gw_at 1292 rfl rfl, gw_at 78 (by decide +kernel) rfl, by decide +kernel, ⟨by decide +kernel, by decide +kernel, by decide +kernel⟩, Nat.le_of_ble_eq_true rfl⟩, ⟨_, _, rfl⟩, Or.inr ⟨rfl, gw_at 1291 (by decide +kernel) rfl, gw_at 67 (by decide +kernel) rfl⟩⟩
set_option maxRecDepth 20000 in
theorem mk_200 : MOK (yX8_ask, cX8_ask, 3, (some .int), 2, 8, false) := ⟨⟨gw_at 1256 rfl rfl, gw_at 78 (by decide +kernel) rfl, by decide +kernel, ⟨by decide +kernel, by decide +kernel, by decide +kernel⟩, Nat.le_of_ble_eq_true rfl⟩, ⟨_, _, rfl⟩, Or.inr ⟨rfl, gw_at 1254 (by decide +kernel) rfl, gw_at 1255 (by decide +kernel) rfl⟩⟩
set_option maxRecDepth 20000 in
theorem mk_201 : MOK (yX8_trace, cX8_trace, 2, (some .int), 1, 8, false) := ⟨⟨gw_at 1296 rfl rfl, gw_at 78 (by decide +kernel) rfl, by decide +kernel, ⟨by decide +kernel, by decide +kernel, by decide +kernel⟩, Nat.le_of_ble_eq_true rfl⟩, ⟨_, _, rfl⟩, Or.inr ⟨rfl, gw_at 1294 (by decide +kernel) rfl, gw_at 1295 (by decide +kernel) rfl⟩⟩
set_option maxRecDepth 20000 in
theorem mk_202 : MOK (yX8_rowsMany, cX8_rowsMany, 3, (some .int), 0, 8, false) := ⟨⟨gw_at 1304 rfl rfl, gw_at 78 (by decide +kernel) rfl, by decide +kernel, ⟨by decide +kernel, by decide +kernel, by decide +kernel⟩, Nat.le_of_ble_eq_true rfl⟩, ⟨_, _, rfl⟩, Or.inr ⟨rfl, gw_at 1303 (by decide +kernel) rfl, gw_at 68 (by decide +kernel) rfl⟩⟩
set_option maxRecDepth 20000 in
theorem mk_203 : MOK (yX8_count, cX8_count, 2, (some .int), 1, 8, false) := ⟨⟨gw_at 1300 rfl rfl, gw_at 78 (by decide +kernel) rfl, by decide +kernel, ⟨by decide +kernel, by decide +kernel, by decide +kernel⟩, Nat.le_of_ble_eq_true rfl⟩, ⟨_, _, rfl⟩, Or.inr ⟨rfl, gw_at 1298 (by decide +kernel) rfl, gw_at 1299 (by decide +kernel) rfl⟩⟩
set_option maxRecDepth 20000 in
theorem mk_204 : MOK (yX8_status, cX8_status, 1, (some .int), 0, 8, false) := ⟨⟨gw_at 1308 rfl rfl, gw_at 78 (by decide +kernel) rfl, by decide +kernel, ⟨by decide +kernel, by decide +kernel, by decide +kernel⟩, Nat.le_of_ble_eq_true rfl⟩, ⟨_, _, rfl⟩, Or.inr ⟨rfl, gw_at 1306 (by decide +kernel) rfl, gw_at 1307 (by decide +kernel) rfl⟩⟩
set_option maxRecDepth 100000 in
theorem mil_ok : ∀ q ∈ mil, MOK q := List.forall_mem_cons.mpr ⟨mk_0, List.forall_mem_cons.mpr ⟨mk_1, List.forall_mem_cons.mpr ⟨mk_2, List.forall_mem_cons.mpr ⟨mk_3, List.forall_mem_cons.mpr ⟨mk_4, List.forall_mem_cons.mpr ⟨mk_5, List.forall_mem_cons.mpr ⟨mk_6, List.forall_mem_cons.mpr ⟨mk_7, List.forall_mem_cons.mpr ⟨mk_8, List.forall_mem_cons.mpr ⟨mk_9, List.forall_mem_cons.mpr ⟨mk_10, List.forall_mem_cons.mpr ⟨mk_11, List.forall_mem_cons.mpr ⟨mk_12, List.forall_mem_cons.mpr ⟨mk_13, List.forall_mem_cons.mpr ⟨mk_14, List.forall_mem_cons.mpr ⟨mk_15, List.forall_mem_cons.mpr ⟨mk_16, List.forall_mem_cons.mpr ⟨mk_17, List.forall_mem_cons.mpr ⟨mk_18, List.forall_mem_cons.mpr ⟨mk_19, List.forall_mem_cons.mpr ⟨mk_20, List.forall_mem_cons.mpr ⟨mk_21, List.forall_mem_cons.mpr ⟨mk_22, List.forall_mem_cons.mpr ⟨mk_23, List.forall_mem_cons.mpr ⟨mk_24, List.forall_mem_cons.mpr ⟨mk_25, List.forall_mem_cons.mpr ⟨mk_26, List.forall_mem_cons.mpr ⟨mk_27, List.forall_mem_cons.mpr ⟨mk_28, List.forall_mem_cons.mpr ⟨mk_29, List.forall_mem_cons.mpr ⟨mk_30, List.forall_mem_cons.mpr ⟨mk_31, List.forall_mem_cons.mpr ⟨mk_32, List.forall_mem_cons.mpr ⟨mk_33, List.forall_mem_cons.mpr ⟨mk_34, List.forall_mem_cons.mpr ⟨mk_35, List.forall_mem_cons.mpr ⟨mk_36, List.forall_mem_cons.mpr ⟨mk_37, List.forall_mem_cons.mpr ⟨mk_38, List.forall_mem_cons.mpr ⟨mk_39, List.forall_mem_cons.mpr ⟨mk_40, List.forall_mem_cons.mpr ⟨mk_41, List.forall_mem_cons.mpr ⟨mk_42, List.forall_mem_cons.mpr ⟨mk_43, List.forall_mem_cons.mpr ⟨mk_44, List.forall_mem_cons.mpr ⟨mk_45, List.forall_mem_cons.mpr ⟨mk_46, List.forall_mem_cons.mpr ⟨mk_47, List.forall_mem_cons.mpr ⟨mk_48, List.forall_mem_cons.mpr ⟨mk_49, List.forall_mem_cons.mpr ⟨mk_50, List.forall_mem_cons.mpr ⟨mk_51, List.forall_mem_cons.mpr ⟨mk_52, List.forall_mem_cons.mpr ⟨mk_53, List.forall_mem_cons.mpr ⟨mk_54, List.forall_mem_cons.mpr ⟨mk_55, List.forall_mem_cons.mpr ⟨mk_56, List.forall_mem_cons.mpr ⟨mk_57, List.forall_mem_cons.mpr ⟨mk_58, List.forall_mem_cons.mpr ⟨mk_59, List.forall_mem_cons.mpr ⟨mk_60, List.forall_mem_cons.mpr ⟨mk_61, List.forall_mem_cons.mpr ⟨mk_62, List.forall_mem_cons.mpr ⟨mk_63, List.forall_mem_cons.mpr ⟨mk_64, List.forall_mem_cons.mpr ⟨mk_65, List.forall_mem_cons.mpr ⟨mk_66, List.forall_mem_cons.mpr ⟨mk_67, List.forall_mem_cons.mpr ⟨mk_68, List.forall_mem_cons.mpr ⟨mk_69, List.forall_mem_cons.mpr ⟨mk_70, List.forall_mem_cons.mpr ⟨mk_71, List.forall_mem_cons.mpr ⟨mk_72, List.forall_mem_cons.mpr ⟨mk_73, List.forall_mem_cons.mpr ⟨mk_74, List.forall_mem_cons.mpr ⟨mk_75, List.forall_mem_cons.mpr ⟨mk_76, List.forall_mem_cons.mpr ⟨mk_77, List.forall_mem_cons.mpr ⟨mk_78, List.forall_mem_cons.mpr ⟨mk_79, List.forall_mem_cons.mpr ⟨mk_80, List.forall_mem_cons.mpr ⟨mk_81, List.forall_mem_cons.mpr ⟨mk_82, List.forall_mem_cons.mpr ⟨mk_83, List.forall_mem_cons.mpr ⟨mk_84, List.forall_mem_cons.mpr ⟨mk_85, List.forall_mem_cons.mpr ⟨mk_86, List.forall_mem_cons.mpr ⟨mk_87, List.forall_mem_cons.mpr ⟨mk_88, List.forall_mem_cons.mpr ⟨mk_89, List.forall_mem_cons.mpr ⟨mk_90, List.forall_mem_cons.mpr ⟨mk_91, List.forall_mem_cons.mpr ⟨mk_92, List.forall_mem_cons.mpr ⟨mk_93, List.forall_mem_cons.mpr ⟨mk_94, List.forall_mem_cons.mpr ⟨mk_95, List.forall_mem_cons.mpr ⟨mk_96, List.forall_mem_cons.mpr ⟨mk_97, List.forall_mem_cons.mpr ⟨mk_98, List.forall_mem_cons.mpr ⟨mk_99, List.forall_mem_cons.mpr ⟨mk_100, List.forall_mem_cons.mpr ⟨mk_101, List.forall_mem_cons.mpr ⟨mk_102, List.forall_mem_cons.mpr ⟨mk_103, List.forall_mem_cons.mpr ⟨mk_104, List.forall_mem_cons.mpr ⟨mk_105, List.forall_mem_cons.mpr ⟨mk_106, List.forall_mem_cons.mpr ⟨mk_107, List.forall_mem_cons.mpr ⟨mk_108, List.forall_mem_cons.mpr ⟨mk_109, List.forall_mem_cons.mpr ⟨mk_110, List.forall_mem_cons.mpr ⟨mk_111, List.forall_mem_cons.mpr ⟨mk_112, List.forall_mem_cons.mpr ⟨mk_113, List.forall_mem_cons.mpr ⟨mk_114, List.forall_mem_cons.mpr ⟨mk_115, List.forall_mem_cons.mpr ⟨mk_116, List.forall_mem_cons.mpr ⟨mk_117, List.forall_mem_cons.mpr ⟨mk_118, List.forall_mem_cons.mpr ⟨mk_119, List.forall_mem_cons.mpr ⟨mk_120, List.forall_mem_cons.mpr ⟨mk_121, List.forall_mem_cons.mpr ⟨mk_122, List.forall_mem_cons.mpr ⟨mk_123, List.forall_mem_cons.mpr ⟨mk_124, List.forall_mem_cons.mpr ⟨mk_125, List.forall_mem_cons.mpr ⟨mk_126, List.forall_mem_cons.mpr ⟨mk_127, List.forall_mem_cons.mpr ⟨mk_128, List.forall_mem_cons.mpr ⟨mk_129, List.forall_mem_cons.mpr ⟨mk_130, List.forall_mem_cons.mpr ⟨mk_131, List.forall_mem_cons.mpr ⟨mk_132, List.forall_mem_cons.mpr ⟨mk_133, List.forall_mem_cons.mpr ⟨mk_134, List.forall_mem_cons.mpr ⟨mk_135, List.forall_mem_cons.mpr ⟨mk_136, List.forall_mem_cons.mpr ⟨mk_137, List.forall_mem_cons.mpr ⟨mk_138, List.forall_mem_cons.mpr ⟨mk_139, List.forall_mem_cons.mpr ⟨mk_140, List.forall_mem_cons.mpr ⟨mk_141, List.forall_mem_cons.mpr ⟨mk_142, List.forall_mem_cons.mpr ⟨mk_143, List.forall_mem_cons.mpr ⟨mk_144, List.forall_mem_cons.mpr ⟨mk_145, List.forall_mem_cons.mpr ⟨mk_146, List.forall_mem_cons.mpr ⟨mk_147, List.forall_mem_cons.mpr ⟨mk_148, List.forall_mem_cons.mpr ⟨mk_149, List.forall_mem_cons.mpr ⟨mk_150, List.forall_mem_cons.mpr ⟨mk_151, List.forall_mem_cons.mpr ⟨mk_152, List.forall_mem_cons.mpr ⟨mk_153, List.forall_mem_cons.mpr ⟨mk_154, List.forall_mem_cons.mpr ⟨mk_155, List.forall_mem_cons.mpr ⟨mk_156, List.forall_mem_cons.mpr ⟨mk_157, List.forall_mem_cons.mpr ⟨mk_158, List.forall_mem_cons.mpr ⟨mk_159, List.forall_mem_cons.mpr ⟨mk_160, List.forall_mem_cons.mpr ⟨mk_161, List.forall_mem_cons.mpr ⟨mk_162, List.forall_mem_cons.mpr ⟨mk_163, List.forall_mem_cons.mpr ⟨mk_164, List.forall_mem_cons.mpr ⟨mk_165, List.forall_mem_cons.mpr ⟨mk_166, List.forall_mem_cons.mpr ⟨mk_167, List.forall_mem_cons.mpr ⟨mk_168, List.forall_mem_cons.mpr ⟨mk_169, List.forall_mem_cons.mpr ⟨mk_170, List.forall_mem_cons.mpr ⟨mk_171, List.forall_mem_cons.mpr ⟨mk_172, List.forall_mem_cons.mpr ⟨mk_173, List.forall_mem_cons.mpr ⟨mk_174, List.forall_mem_cons.mpr ⟨mk_175, List.forall_mem_cons.mpr ⟨mk_176, List.forall_mem_cons.mpr ⟨mk_177, List.forall_mem_cons.mpr ⟨mk_178, List.forall_mem_cons.mpr ⟨mk_179, List.forall_mem_cons.mpr ⟨mk_180, List.forall_mem_cons.mpr ⟨mk_181, List.forall_mem_cons.mpr ⟨mk_182, List.forall_mem_cons.mpr ⟨mk_183, List.forall_mem_cons.mpr ⟨mk_184, List.forall_mem_cons.mpr ⟨mk_185, List.forall_mem_cons.mpr ⟨mk_186, List.forall_mem_cons.mpr ⟨mk_187, List.forall_mem_cons.mpr ⟨mk_188, List.forall_mem_cons.mpr ⟨mk_189, List.forall_mem_cons.mpr ⟨mk_190, List.forall_mem_cons.mpr ⟨mk_191, List.forall_mem_cons.mpr ⟨mk_192, List.forall_mem_cons.mpr ⟨mk_193, List.forall_mem_cons.mpr ⟨mk_194, List.forall_mem_cons.mpr ⟨mk_195, List.forall_mem_cons.mpr ⟨mk_196, List.forall_mem_cons.mpr ⟨mk_197, List.forall_mem_cons.mpr ⟨mk_198, List.forall_mem_cons.mpr ⟨mk_199, List.forall_mem_cons.mpr ⟨mk_200, List.forall_mem_cons.mpr ⟨mk_201, List.forall_mem_cons.mpr ⟨mk_202, List.forall_mem_cons.mpr ⟨mk_203, List.forall_mem_cons.mpr ⟨mk_204, fun _ h => absurd h List.not_mem_nil⟩⟩⟩⟩⟩⟩⟩⟩⟩⟩⟩⟩⟩⟩⟩⟩⟩⟩⟩⟩⟩⟩⟩⟩⟩⟩⟩⟩⟩⟩⟩⟩⟩⟩⟩⟩⟩⟩⟩⟩⟩⟩⟩⟩⟩⟩⟩⟩⟩⟩⟩⟩⟩⟩⟩⟩⟩⟩⟩⟩⟩⟩⟩⟩⟩⟩⟩⟩⟩⟩⟩⟩⟩⟩⟩⟩⟩⟩⟩⟩⟩⟩⟩⟩⟩⟩⟩⟩⟩⟩⟩⟩⟩⟩⟩⟩⟩⟩⟩⟩⟩⟩⟩⟩⟩⟩⟩⟩⟩⟩⟩⟩⟩⟩⟩⟩⟩⟩⟩⟩⟩⟩⟩⟩⟩⟩⟩⟩⟩⟩⟩⟩⟩⟩⟩⟩⟩⟩⟩⟩⟩⟩⟩⟩⟩⟩⟩⟩⟩⟩⟩⟩⟩⟩⟩⟩⟩⟩⟩⟩⟩⟩⟩⟩⟩⟩⟩⟩⟩⟩⟩⟩⟩⟩⟩⟩⟩⟩⟩⟩⟩⟩⟩⟩⟩⟩⟩⟩⟩⟩⟩⟩⟩⟩⟩⟩⟩⟩⟩⟩⟩⟩⟩⟩⟩
theorem uw_0 : ∀ w ∈ u_ws RX0 TX0 3, w ∈ gw := fun w h => by
  have h1 : ∀ w ∈ u_ws RX0 TX0 3, w ∈ lw_tbl ∧ goodWord w = true := by decide +kernel
  exact gw_in (h1 w h).1 (h1 w h).2
theorem fc_0 : FC 0 := ⟨RX0, TX0, 3, tyX0, rfl, tyX0_ok, nmX0⟩
theorem uw_1 : ∀ w ∈ u_ws RX1 TX1 6, w ∈ gw := fun w h => by
  have h1 : ∀ w ∈ u_ws RX1 TX1 6, w ∈ lw_tbl ∧ goodWord w = true := by decide +kernel
  exact gw_in (h1 w h).1 (h1 w h).2
theorem fc_1 : FC 1 := ⟨RX1, TX1, 6, tyX1, rfl, tyX1_ok, nmX1⟩
theorem uw_2 : ∀ w ∈ u_ws RX2 TX2 14, w ∈ gw := fun w h => by
  have h1 : ∀ w ∈ u_ws RX2 TX2 14, w ∈ lw_tbl ∧ goodWord w = true := by decide +kernel
  exact gw_in (h1 w h).1 (h1 w h).2
theorem fc_2 : FC 2 := ⟨RX2, TX2, 14, tyX2, rfl, tyX2_ok, nmX2⟩
theorem uw_3 : ∀ w ∈ u_ws RX3 TX3 3, w ∈ gw := fun w h => by
  have h1 : ∀ w ∈ u_ws RX3 TX3 3, w ∈ lw_tbl ∧ goodWord w = true := by decide +kernel
  exact gw_in (h1 w h).1 (h1 w h).2
theorem fc_3 : FC 3 := ⟨RX3, TX3, 3, tyX3, rfl, tyX3_ok, nmX3⟩
theorem uw_4 : ∀ w ∈ u_ws RX4 TX4 4, w ∈ gw := fun w h => by
  have h1 : ∀ w ∈ u_ws RX4 TX4 4, w ∈ lw_tbl ∧ goodWord w = true := by decide +kernel
  exact gw_in (h1 w h).1 (h1 w h).2
theorem fc_4 : FC 4 := ⟨RX4, TX4, 4, tyX4, rfl, tyX4_ok, nmX4⟩
theorem uw_5 : ∀ w ∈ u_ws RX5 TX5 6, w ∈ gw := fun w h => by
  have h1 : ∀ w ∈ u_ws RX5 TX5 6, w ∈ lw_tbl ∧ goodWord w = true := by decide +kernel
  exact gw_in (h1 w h).1 (h1 w h).2
theorem fc_5 : FC 5 := ⟨RX5, TX5, 6, tyX5, rfl, tyX5_ok, nmX5⟩
theorem uw_6 : ∀ w ∈ u_ws RX6 TX6 7, w ∈ gw := fun w h => by
  have h1 : ∀ w ∈ u_ws RX6 TX6 7, w ∈ lw_tbl ∧ goodWord w = true := by decide +kernel
  exact gw_in (h1 w h).1 (h1 w h).2
theorem fc_6 : FC 6 := ⟨RX6, TX6, 7, tyX6, rfl, tyX6_ok, nmX6⟩
theorem uw_7 : ∀ w ∈ u_ws RX7 TX7 11, w ∈ gw := fun w h => by
  have h1 : ∀ w ∈ u_ws RX7 TX7 11, w ∈ lw_tbl ∧ goodWord w = true := by decide +kernel
  exact gw_in (h1 w h).1 (h1 w h).2
theorem fc_7 : FC 7 := ⟨RX7, TX7, 11, tyX7, rfl, tyX7_ok, nmX7⟩
theorem uw_8 : ∀ w ∈ u_ws RX8 TX8 26, w ∈ gw := fun w h => by
  have h1 : ∀ w ∈ u_ws RX8 TX8 26, w ∈ lw_tbl ∧ goodWord w = true := by decide +kernel
  exact gw_in (h1 w h).1 (h1 w h).2
theorem fc_8 : FC 8 := ⟨RX8, TX8, 26, tyX8, rfl, tyX8_ok, nmX8⟩
def FL0 : List (Nat × Nat) := [(11, 0), (17, 1), (21, 2)]
def FL1 : List (Nat × Nat) := [(22, 72), (36, 73), (30, 74), (9, 32), (15, 33), (19, 34), (27, 35), (33, 36), (39, 37)]
def FL2 : List (Nat × Nat) := [(30, 64), (34, 65), (37, 66), (40, 67), (43, 68), (46, 69), (49, 70), (52, 71), (9, 72), (15, 73), (18, 74), (21, 75), (24, 76), (27, 77)]
def FL3 : List (Nat × Nat) := [(9, 96), (15, 97), (21, 98)]
def FL4 : List (Nat × Nat) := [(11, 128), (15, 129), (18, 130), (21, 131)]
def FL5 : List (Nat × Nat) := [(73, 64), (35, 65), (61, 66), (106, 72), (109, 73), (64, 74), (12, 160), (18, 161), (21, 162), (25, 163), (55, 164), (58, 165)]
def FL6 : List (Nat × Nat) := [(9, 192), (15, 193), (131, 194), (134, 195), (19, 196), (48, 197), (118, 198), (84, 64), (63, 65), (51, 68), (54, 69), (57, 70), (60, 71), (87, 72), (93, 73), (90, 74), (72, 77)]
def FL7 : List (Nat × Nat) := [(226, 131), (108, 193), (117, 194), (124, 195), (133, 64), (200, 65), (188, 66), (147, 67), (178, 71), (246, 72), (185, 73), (163, 74), (139, 2), (213, 164), (216, 165), (263, 97), (260, 98), (284, 32), (281, 33), (10, 224), (19, 225), (26, 226), (30, 227), (36, 228), (43, 229), (50, 230), (57, 231), (61, 232), (120, 233), (290, 234)]
def FL8 : List (Nat × Nat) := [(7, 256), (153, 257), (13, 258), (17, 259), (20, 260), (23, 261), (26, 262), (53, 263), (29, 264), (88, 265), (149, 266), (99, 267), (102, 268), (105, 269), (108, 270), (131, 271), (32, 272), (35, 273), (38, 274), (41, 275), (44, 276), (156, 277), (159, 278), (47, 279), (50, 280), (251, 281)]
def FL9 : List (Nat × Nat) := []
def FL (oi : Nat) : List (Nat × Nat) := match oi with | 0 => FL0 | 1 => FL1 | 2 => FL2 | 3 => FL3 | 4 => FL4 | 5 => FL5 | 6 => FL6 | 7 => FL7 | 8 => FL8 | 9 => FL9 | _ => []
theorem FL0_ok : ∀ q ∈ FL0, FG (ownS 0) q.1 (q.2 / 32) (q.2 % 32) := List.forall_mem_cons.mpr ⟨⟨RX0, TX0, 3, rfl, Nat.le_of_ble_eq_true rfl, gw_at 223 (by decide +kernel) rfl, uw_0, rfl⟩, List.forall_mem_cons.mpr ⟨⟨RX0, TX0, 3, rfl, Nat.le_of_ble_eq_true rfl, gw_at 224 (by decide +kernel) rfl, uw_0, rfl⟩, List.forall_mem_cons.mpr ⟨⟨RX0, TX0, 3, rfl, Nat.le_of_ble_eq_true rfl, gw_at 225 (by decide +kernel) rfl, uw_0, rfl⟩, fun _ h => absurd h List.not_mem_nil⟩⟩⟩
theorem FL1_ok : ∀ q ∈ FL1, FG (ownS 1) q.1 (q.2 / 32) (q.2 % 32) := List.forall_mem_cons.mpr ⟨⟨RX2, TX2, 14, rfl, Nat.le_of_ble_eq_true rfl, gw_at 170 (by decide +kernel) rfl, uw_2, rfl⟩, List.forall_mem_cons.mpr ⟨⟨RX2, TX2, 14, rfl, Nat.le_of_ble_eq_true rfl, gw_at 175 (by decide +kernel) rfl, uw_2, rfl⟩, List.forall_mem_cons.mpr ⟨⟨RX2, TX2, 14, rfl, Nat.le_of_ble_eq_true rfl, gw_at 180 (by decide +kernel) rfl, uw_2, rfl⟩, List.forall_mem_cons.mpr ⟨⟨RX1, TX1, 6, rfl, Nat.le_of_ble_eq_true rfl, gw_at 287 (by decide +kernel) rfl, uw_1, rfl⟩, List.forall_mem_cons.mpr ⟨⟨RX1, TX1, 6, rfl, Nat.le_of_ble_eq_true rfl, gw_at 289 (by decide +kernel) rfl, uw_1, rfl⟩, List.forall_mem_cons.mpr ⟨⟨RX1, TX1, 6, rfl, Nat.le_of_ble_eq_true rfl, gw_at 291 (by decide +kernel) rfl, uw_1, rfl⟩, List.forall_mem_cons.mpr ⟨⟨RX1, TX1, 6, rfl, Nat.le_of_ble_eq_true rfl, gw_at 292 (by decide +kernel) rfl, uw_1, rfl⟩, List.forall_mem_cons.mpr ⟨⟨RX1, TX1, 6, rfl, Nat.le_of_ble_eq_true rfl, gw_at 293 (by decide +kernel) rfl, uw_1, rfl⟩, List.forall_mem_cons.mpr ⟨⟨RX1, TX1, 6, rfl, Nat.le_of_ble_eq_true rfl, gw_at 294 (by decide +kernel) rfl, uw_1, rfl⟩, fun _ h => absurd h List.not_mem_nil⟩⟩⟩⟩⟩⟩⟩⟩⟩
theorem FL2_ok : ∀ q ∈ FL2, FG (ownS 2) q.1 (q.2 / 32) (q.2 % 32) := List.forall_mem_cons.mpr ⟨⟨RX2, TX2, 14, rfl, Nat.le_of_ble_eq_true rfl, gw_at 147 (by decide +kernel) rfl, uw_2, rfl⟩, List.forall_mem_cons.mpr ⟨⟨RX2, TX2, 14, rfl, Nat.le_of_ble_eq_true rfl, gw_at 151 (by decide +kernel) rfl, uw_2, rfl⟩, List.forall_mem_cons.mpr ⟨⟨RX2, TX2, 14, rfl, Nat.le_of_ble_eq_true rfl, gw_at 155 (by decide +kernel) rfl, uw_2, rfl⟩, List.forall_mem_cons.mpr ⟨⟨RX2, TX2, 14, rfl, Nat.le_of_ble_eq_true rfl, gw_at 158 (by decide +kernel) rfl, uw_2, rfl⟩, List.forall_mem_cons.mpr ⟨⟨RX2, TX2, 14, rfl, Nat.le_of_ble_eq_true rfl, gw_at 160 (by decide +kernel) rfl, uw_2, rfl⟩, List.forall_mem_cons.mpr ⟨⟨RX2, TX2, 14, rfl, Nat.le_of_ble_eq_true rfl, gw_at 162 (by decide +kernel) rfl, uw_2, rfl⟩, List.forall_mem_cons.mpr ⟨⟨RX2, TX2, 14, rfl, Nat.le_of_ble_eq_true rfl, gw_at 164 (by decide +kernel) rfl, uw_2, rfl⟩, List.forall_mem_cons.mpr ⟨⟨RX2, TX2, 14, rfl, Nat.le_of_ble_eq_true rfl, gw_at 166 (by decide +kernel) rfl, uw_2, rfl⟩, List.forall_mem_cons.mpr ⟨⟨RX2, TX2, 14, rfl, Nat.le_of_ble_eq_true rfl, gw_at 169 (by decide +kernel) rfl, uw_2, rfl⟩, List.forall_mem_cons.mpr ⟨⟨RX2, TX2, 14, rfl, Nat.le_of_ble_eq_true rfl, gw_at 174 (by decide +kernel) rfl, uw_2, rfl⟩, List.forall_mem_cons.mpr ⟨⟨RX2, TX2, 14, rfl, Nat.le_of_ble_eq_true rfl, gw_at 179 (by decide +kernel) rfl, uw_2, rfl⟩, List.forall_mem_cons.mpr ⟨⟨RX2, TX2, 14, rfl, Nat.le_of_ble_eq_true rfl, gw_at 184 (by decide +kernel) rfl, uw_2, rfl⟩, List.forall_mem_cons.mpr ⟨⟨RX2, TX2, 14, rfl, Nat.le_of_ble_eq_true rfl, gw_at 185 (by decide +kernel) rfl, uw_2, rfl⟩, List.forall_mem_cons.mpr ⟨⟨RX2, TX2, 14, rfl, Nat.le_of_ble_eq_true rfl, gw_at 186 (by decide +kernel) rfl, uw_2, rfl⟩, fun _ h => absurd h List.not_mem_nil⟩⟩⟩⟩⟩⟩⟩⟩⟩⟩⟩⟩⟩⟩
theorem FL3_ok : ∀ q ∈ FL3, FG (ownS 3) q.1 (q.2 / 32) (q.2 % 32) := List.forall_mem_cons.mpr ⟨⟨RX3, TX3, 3, rfl, Nat.le_of_ble_eq_true rfl, gw_at 269 (by decide +kernel) rfl, uw_3, rfl⟩, List.forall_mem_cons.mpr ⟨⟨RX3, TX3, 3, rfl, Nat.le_of_ble_eq_true rfl, gw_at 270 (by decide +kernel) rfl, uw_3, rfl⟩, List.forall_mem_cons.mpr ⟨⟨RX3, TX3, 3, rfl, Nat.le_of_ble_eq_true rfl, gw_at 272 (by decide +kernel) rfl, uw_3, rfl⟩, fun _ h => absurd h List.not_mem_nil⟩⟩⟩
theorem FL4_ok : ∀ q ∈ FL4, FG (ownS 4) q.1 (q.2 / 32) (q.2 % 32) := List.forall_mem_cons.mpr ⟨⟨RX4, TX4, 4, rfl, Nat.le_of_ble_eq_true rfl, gw_at 95 (by decide +kernel) rfl, uw_4, rfl⟩, List.forall_mem_cons.mpr ⟨⟨RX4, TX4, 4, rfl, Nat.le_of_ble_eq_true rfl, gw_at 96 (by decide +kernel) rfl, uw_4, rfl⟩, List.forall_mem_cons.mpr ⟨⟨RX4, TX4, 4, rfl, Nat.le_of_ble_eq_true rfl, gw_at 97 (by decide +kernel) rfl, uw_4, rfl⟩, List.forall_mem_cons.mpr ⟨⟨RX4, TX4, 4, rfl, Nat.le_of_ble_eq_true rfl, gw_at 98 (by decide +kernel) rfl, uw_4, rfl⟩, fun _ h => absurd h List.not_mem_nil⟩⟩⟩⟩
theorem FL5_ok : ∀ q ∈ FL5, FG (ownS 5) q.1 (q.2 / 32) (q.2 % 32) := List.forall_mem_cons.mpr ⟨⟨RX2, TX2, 14, rfl, Nat.le_of_ble_eq_true rfl, gw_at 148 (by decide +kernel) rfl, uw_2, rfl⟩, List.forall_mem_cons.mpr ⟨⟨RX2, TX2, 14, rfl, Nat.le_of_ble_eq_true rfl, gw_at 152 (by decide +kernel) rfl, uw_2, rfl⟩, List.forall_mem_cons.mpr ⟨⟨RX2, TX2, 14, rfl, Nat.le_of_ble_eq_true rfl, gw_at 156 (by decide +kernel) rfl, uw_2, rfl⟩, List.forall_mem_cons.mpr ⟨⟨RX2, TX2, 14, rfl, Nat.le_of_ble_eq_true rfl, gw_at 172 (by decide +kernel) rfl, uw_2, rfl⟩, List.forall_mem_cons.mpr ⟨⟨RX2, TX2, 14, rfl, Nat.le_of_ble_eq_true rfl, gw_at 177 (by decide +kernel) rfl, uw_2, rfl⟩, List.forall_mem_cons.mpr ⟨⟨RX2, TX2, 14, rfl, Nat.le_of_ble_eq_true rfl, gw_at 181 (by decide +kernel) rfl, uw_2, rfl⟩, List.forall_mem_cons.mpr ⟨⟨RX5, TX5, 6, rfl, Nat.le_of_ble_eq_true rfl, gw_at 242 (by decide +kernel) rfl, uw_5, rfl⟩, List.forall_mem_cons.mpr ⟨⟨RX5, TX5, 6, rfl, Nat.le_of_ble_eq_true rfl, gw_at 243 (by decide +kernel) rfl, uw_5, rfl⟩, List.forall_mem_cons.mpr ⟨⟨RX5, TX5, 6, rfl, Nat.le_of_ble_eq_true rfl, gw_at 244 (by decide +kernel) rfl, uw_5, rfl⟩, List.forall_mem_cons.mpr ⟨⟨RX5, TX5, 6, rfl, Nat.le_of_ble_eq_true rfl, gw_at 245 (by decide +kernel) rfl, uw_5, rfl⟩, List.forall_mem_cons.mpr ⟨⟨RX5, TX5, 6, rfl, Nat.le_of_ble_eq_true rfl, gw_at 246 (by decide +kernel) rfl, uw_5, rfl⟩, List.forall_mem_cons.mpr ⟨⟨RX5, TX5, 6, rfl, Nat.le_of_ble_eq_true rfl, gw_at 248 (by decide +kernel) rfl, uw_5, rfl⟩, fun _ h => absurd h List.not_mem_nil⟩⟩⟩⟩⟩⟩⟩⟩⟩⟩⟩⟩
theorem FL6_ok : ∀ q ∈ FL6, FG (ownS 6) q.1 (q.2 / 32) (q.2 % 32) := List.forall_mem_cons.mpr ⟨⟨RX6, TX6, 7, rfl, Nat.le_of_ble_eq_true rfl, gw_at 116 (by decide +kernel) rfl, uw_6, rfl⟩, List.forall_mem_cons.mpr ⟨⟨RX6, TX6, 7, rfl, Nat.le_of_ble_eq_true rfl, gw_at 117 (by decide +kernel) rfl, uw_6, rfl⟩, List.forall_mem_cons.mpr ⟨⟨RX6, TX6, 7, rfl, Nat.le_of_ble_eq_true rfl, gw_at 120 (by decide +kernel) rfl, uw_6, rfl⟩, List.forall_mem_cons.mpr ⟨⟨RX6, TX6, 7, rfl, Nat.le_of_ble_eq_true rfl, gw_at 122 (by decide +kernel) rfl, uw_6, rfl⟩, List.forall_mem_cons.mpr ⟨⟨RX6, TX6, 7, rfl, Nat.le_of_ble_eq_true rfl, gw_at 123 (by decide +kernel) rfl, uw_6, rfl⟩, List.forall_mem_cons.mpr ⟨⟨RX6, TX6, 7, rfl, Nat.le_of_ble_eq_true rfl, gw_at 124 (by decide +kernel) rfl, uw_6, rfl⟩, List.forall_mem_cons.mpr ⟨⟨RX6, TX6, 7, rfl, Nat.le_of_ble_eq_true rfl, gw_at 125 (by decide +kernel) rfl, uw_6, rfl⟩, List.forall_mem_cons.mpr ⟨⟨RX2, TX2, 14, rfl, Nat.le_of_ble_eq_true rfl, gw_at 149 (by decide +kernel) rfl, uw_2, rfl⟩, List.forall_mem_cons.mpr ⟨⟨RX2, TX2, 14, rfl, Nat.le_of_ble_eq_true rfl, gw_at 153 (by decide +kernel) rfl, uw_2, rfl⟩, List.forall_mem_cons.mpr ⟨⟨RX2, TX2, 14, rfl, Nat.le_of_ble_eq_true rfl, gw_at 161 (by decide +kernel) rfl, uw_2, rfl⟩, List.forall_mem_cons.mpr ⟨⟨RX2, TX2, 14, rfl, Nat.le_of_ble_eq_true rfl, gw_at 163 (by decide +kernel) rfl, uw_2, rfl⟩, List.forall_mem_cons.mpr ⟨⟨RX2, TX2, 14, rfl, Nat.le_of_ble_eq_true rfl, gw_at 165 (by decide +kernel) rfl, uw_2, rfl⟩, List.forall_mem_cons.mpr ⟨⟨RX2, TX2, 14, rfl, Nat.le_of_ble_eq_true rfl, gw_at 167 (by decide +kernel) rfl, uw_2, rfl⟩, List.forall_mem_cons.mpr ⟨⟨RX2, TX2, 14, rfl, Nat.le_of_ble_eq_true rfl, gw_at 171 (by decide +kernel) rfl, uw_2, rfl⟩, List.forall_mem_cons.mpr ⟨⟨RX2, TX2, 14, rfl, Nat.le_of_ble_eq_true rfl, gw_at 176 (by decide +kernel) rfl, uw_2, rfl⟩, List.forall_mem_cons.mpr ⟨⟨RX2, TX2, 14, rfl, Nat.le_of_ble_eq_true rfl, gw_at 182 (by decide +kernel) rfl, uw_2, rfl⟩, List.forall_mem_cons.mpr ⟨⟨RX2, TX2, 14, rfl, Nat.le_of_ble_eq_true rfl, gw_at 187 (by decide +kernel) rfl, uw_2, rfl⟩, fun _ h => absurd h List.not_mem_nil⟩⟩⟩⟩⟩⟩⟩⟩⟩⟩⟩⟩⟩⟩⟩⟩⟩
theorem FL7_ok : ∀ q ∈ FL7, FG (ownS 7) q.1 (q.2 / 32) (q.2 % 32) := List.forall_mem_cons.mpr ⟨⟨RX4, TX4, 4, rfl, Nat.le_of_ble_eq_true rfl, gw_at 99 (by decide +kernel) rfl, uw_4, rfl⟩, List.forall_mem_cons.mpr ⟨⟨RX6, TX6, 7, rfl, Nat.le_of_ble_eq_true rfl, gw_at 118 (by decide +kernel) rfl, uw_6, rfl⟩, List.forall_mem_cons.mpr ⟨⟨RX6, TX6, 7, rfl, Nat.le_of_ble_eq_true rfl, gw_at 119 (by decide +kernel) rfl, uw_6, rfl⟩, List.forall_mem_cons.mpr ⟨⟨RX6, TX6, 7, rfl, Nat.le_of_ble_eq_true rfl, gw_at 121 (by decide +kernel) rfl, uw_6, rfl⟩, List.forall_mem_cons.mpr ⟨⟨RX2, TX2, 14, rfl, Nat.le_of_ble_eq_true rfl, gw_at 150 (by decide +kernel) rfl, uw_2, rfl⟩, List.forall_mem_cons.mpr ⟨⟨RX2, TX2, 14, rfl, Nat.le_of_ble_eq_true rfl, gw_at 154 (by decide +kernel) rfl, uw_2, rfl⟩, List.forall_mem_cons.mpr ⟨⟨RX2, TX2, 14, rfl, Nat.le_of_ble_eq_true rfl, gw_at 157 (by decide +kernel) rfl, uw_2, rfl⟩, List.forall_mem_cons.mpr ⟨⟨RX2, TX2, 14, rfl, Nat.le_of_ble_eq_true rfl, gw_at 159 (by decide +kernel) rfl, uw_2, rfl⟩, List.forall_mem_cons.mpr ⟨⟨RX2, TX2, 14, rfl, Nat.le_of_ble_eq_true rfl, gw_at 168 (by decide +kernel) rfl, uw_2, rfl⟩, List.forall_mem_cons.mpr ⟨⟨RX2, TX2, 14, rfl, Nat.le_of_ble_eq_true rfl, gw_at 173 (by decide +kernel) rfl, uw_2, rfl⟩, List.forall_mem_cons.mpr ⟨⟨RX2, TX2, 14, rfl, Nat.le_of_ble_eq_true rfl, gw_at 178 (by decide +kernel) rfl, uw_2, rfl⟩, List.forall_mem_cons.mpr ⟨⟨RX2, TX2, 14, rfl, Nat.le_of_ble_eq_true rfl, gw_at 183 (by decide +kernel) rfl, uw_2, rfl⟩, List.forall_mem_cons.mpr ⟨⟨RX0, TX0, 3, rfl, Nat.le_of_ble_eq_true rfl, gw_at 226 (by decide +kernel) rfl, uw_0, rfl⟩, List.forall_mem_cons.mpr ⟨⟨RX5, TX5, 6, rfl, Nat.le_of_ble_eq_true rfl, gw_at 247 (by decide +kernel) rfl, uw_5, rfl⟩, List.forall_mem_cons.mpr ⟨⟨RX5, TX5, 6, rfl, Nat.le_of_ble_eq_true rfl, gw_at 249 (by decide +kernel) rfl, uw_5, rfl⟩, List.forall_mem_cons.mpr ⟨⟨RX3, TX3, 3, rfl, Nat.le_of_ble_eq_true rfl, gw_at 271 (by decide +kernel) rfl, uw_3, rfl⟩, List.forall_mem_cons.mpr ⟨⟨RX3, TX3, 3, rfl, Nat.le_of_ble_eq_true rfl, gw_at 273 (by decide +kernel) rfl, uw_3, rfl⟩, List.forall_mem_cons.mpr ⟨⟨RX1, TX1, 6, rfl, Nat.le_of_ble_eq_true rfl, gw_at 288 (by decide +kernel) rfl, uw_1, rfl⟩, List.forall_mem_cons.mpr ⟨⟨RX1, TX1, 6, rfl, Nat.le_of_ble_eq_true rfl, gw_at 290 (by decide +kernel) rfl, uw_1, rfl⟩, List.forall_mem_cons.mpr ⟨⟨RX7, TX7, 11, rfl, Nat.le_of_ble_eq_true rfl, gw_at 309 (by decide +kernel) rfl, uw_7, rfl⟩, List.forall_mem_cons.mpr ⟨⟨RX7, TX7, 11, rfl, Nat.le_of_ble_eq_true rfl, gw_at 310 (by decide +kernel) rfl, uw_7, rfl⟩, List.forall_mem_cons.mpr ⟨⟨RX7, TX7, 11, rfl, Nat.le_of_ble_eq_true rfl, gw_at 311 (by decide +kernel) rfl, uw_7, rfl⟩, List.forall_mem_cons.mpr ⟨⟨RX7, TX7, 11, rfl, Nat.le_of_ble_eq_true rfl, gw_at 312 (by decide +kernel) rfl, uw_7, rfl⟩, List.forall_mem_cons.mpr ⟨⟨RX7, TX7, 11, rfl, Nat.le_of_ble_eq_true rfl, gw_at 313 (by decide +kernel) rfl, uw_7, rfl⟩, List.forall_mem_cons.mpr ⟨⟨RX7, TX7, 11, rfl, Nat.le_of_ble_eq_true rfl, gw_at 314 (by decide +kernel) rfl, uw_7, rfl⟩, List.forall_mem_cons.mpr ⟨⟨RX7, TX7, 11, rfl, Nat.le_of_ble_eq_true rfl, gw_at 315 (by decide +kernel) rfl, uw_7, rfl⟩, List.forall_mem_cons.mpr ⟨⟨RX7, TX7, 11, rfl, Nat.le_of_ble_eq_true rfl, gw_at 316 (by decide +kernel) rfl, uw_7, rfl⟩, List.forall_mem_cons.mpr ⟨⟨RX7, TX7, 11, rfl, Nat.le_of_ble_eq_true rfl, gw_at 317 (by decide +kernel) rfl, uw_7, rfl⟩, List.forall_mem_cons.mpr ⟨⟨RX7, TX7, 11, rfl, Nat.le_of_ble_eq_true rfl, gw_at 318 (by decide +kernel) rfl, uw_7, rfl⟩, List.forall_mem_cons.mpr ⟨⟨RX7, TX7, 11, rfl, Nat.le_of_ble_eq_true rfl, gw_at 319 (by decide +kernel) rfl, uw_7, rfl⟩, fun _ h => absurd h List.not_mem_nil⟩⟩⟩⟩⟩⟩⟩⟩⟩⟩⟩⟩⟩⟩⟩⟩⟩⟩⟩⟩⟩⟩⟩⟩⟩⟩⟩⟩⟩⟩
theorem FL8_ok : ∀ q ∈ FL8, FG (ownS 8) q.1 (q.2 / 32) (q.2 % 32) := List.forall_mem_cons.mpr ⟨⟨RX8, TX8, 26, rfl, Nat.le_of_ble_eq_true rfl, gw_at 873 (by decide +kernel) rfl, uw_8, rfl⟩, List.forall_mem_cons.mpr ⟨⟨RX8, TX8, 26, rfl, Nat.le_of_ble_eq_true rfl, gw_at 874 (by decide +kernel) rfl, uw_8, rfl⟩, List.forall_mem_cons.mpr ⟨⟨RX8, TX8, 26, rfl, Nat.le_of_ble_eq_true rfl, gw_at 875 (by decide +kernel) rfl, uw_8, rfl⟩, List.forall_mem_cons.mpr ⟨⟨RX8, TX8, 26, rfl, Nat.le_of_ble_eq_true rfl, gw_at 876 (by decide +kernel) rfl, uw_8, rfl⟩, List.forall_mem_cons.mpr ⟨⟨RX8, TX8, 26, rfl, Nat.le_of_ble_eq_true rfl, gw_at 877 (by decide +kernel) rfl, uw_8, rfl⟩, List.forall_mem_cons.mpr ⟨⟨RX8, TX8, 26, rfl, Nat.le_of_ble_eq_true rfl, gw_at 878 (by decide +kernel) rfl, uw_8, rfl⟩, List.forall_mem_cons.mpr ⟨⟨RX8, TX8, 26, rfl, Nat.le_of_ble_eq_true rfl, gw_at 879 (by decide +kernel) rfl, uw_8, rfl⟩, List.forall_mem_cons.mpr ⟨⟨RX8, TX8, 26, rfl, Nat.le_of_ble_eq_true rfl, gw_at 880 (by decide +kernel) rfl, uw_8, rfl⟩, List.forall_mem_cons.mpr ⟨⟨RX8, TX8, 26, rfl, Nat.le_of_ble_eq_true rfl, gw_at 881 (by decide +kernel) rfl, uw_8, rfl⟩, List.forall_mem_cons.mpr ⟨⟨RX8, TX8, 26, rfl, Nat.le_of_ble_eq_true rfl, gw_at 882 (by decide +kernel) rfl, uw_8, rfl⟩, List.forall_mem_cons.mpr ⟨⟨RX8, TX8, 26, rfl, Nat.le_of_ble_eq_true rfl, gw_at 883 (by decide +kernel) rfl, uw_8, rfl⟩, List.forall_mem_cons.mpr ⟨⟨RX8, TX8, 26, rfl, Nat.le_of_ble_eq_true rfl, gw_at 884 (by decide +kernel) rfl, uw_8, rfl⟩, List.forall_mem_cons.mpr ⟨⟨RX8, TX8, 26, rfl, Nat.le_of_ble_eq_true rfl, gw_at 885 (by decide +kernel) rfl, uw_8, rfl⟩, List.forall_mem_cons.mpr ⟨⟨RX8, TX8, 26, rfl, Nat.le_of_ble_eq_true rfl, gw_at 886 (by decide +kernel) rfl, uw_8, rfl⟩, List.forall_mem_cons.mpr ⟨⟨RX8, TX8, 26, rfl, Nat.le_of_ble_eq_true rfl, gw_at 887 (by decide +kernel) rfl, uw_8, rfl⟩, List.forall_mem_cons.mpr ⟨⟨RX8, TX8, 26, rfl, Nat.le_of_ble_eq_true rfl, gw_at 888 (by decide +kernel) rfl, uw_8, rfl⟩, List.forall_mem_cons.mpr ⟨⟨RX8, TX8, 26, rfl, Nat.le_of_ble_eq_true rfl, gw_at 889 (by decide +kernel) rfl, uw_8, rfl⟩, List.forall_mem_cons.mpr ⟨⟨RX8, TX8, 26, rfl, Nat.le_of_ble_eq_true rfl, gw_at 890 (by decide +kernel) rfl, uw_8, rfl⟩, List.forall_mem_cons.mpr ⟨⟨RX8, TX8, 26, rfl, Nat.le_of_ble_eq_true rfl, gw_at 891 (by decide +kernel) rfl, uw_8, rfl⟩, List.forall_mem_cons.mpr ⟨⟨RX8, TX8, 26, rfl, Nat.le_of_ble_eq_true rfl, gw_at 892 (by decide +kernel) rfl, uw_8, rfl⟩, List.forall_mem_cons.mpr ⟨⟨RX8, TX8, 26, rfl, Nat.le_of_ble_eq_true rfl, gw_at 893 (by decide +kernel) rfl, uw_8, rfl⟩, List.forall_mem_cons.mpr ⟨⟨RX8, TX8, 26, rfl, Nat.le_of_ble_eq_true rfl, gw_at 894 (by decide +kernel) rfl, uw_8, rfl⟩, List.forall_mem_cons.mpr ⟨⟨RX8, TX8, 26, rfl, Nat.le_of_ble_eq_true rfl, gw_at 895 (by decide +kernel) rfl, uw_8, rfl⟩, List.forall_mem_cons.mpr ⟨⟨RX8, TX8, 26, rfl, Nat.le_of_ble_eq_true rfl, gw_at 896 (by decide +kernel) rfl, uw_8, rfl⟩, List.forall_mem_cons.mpr ⟨⟨RX8, TX8, 26, rfl, Nat.le_of_ble_eq_true rfl, gw_at 897 (by decide +kernel) rfl, uw_8, rfl⟩, List.forall_mem_cons.mpr ⟨⟨RX8, TX8, 26, rfl, Nat.le_of_ble_eq_true rfl, gw_at 898 (by decide +kernel) rfl, uw_8, rfl⟩, fun _ h => absurd h List.not_mem_nil⟩⟩⟩⟩⟩⟩⟩⟩⟩⟩⟩⟩⟩⟩⟩⟩⟩⟩⟩⟩⟩⟩⟩⟩⟩⟩
theorem FL9_ok : ∀ q ∈ FL9, FG (ownS 9) q.1 (q.2 / 32) (q.2 % 32) := fun _ h => absurd h List.not_mem_nil
theorem FL_ok : ∀ (oi : Nat) (q), q ∈ FL oi → FG (ownS oi) q.1 (q.2 / 32) (q.2 % 32) := fun oi q h => by
  match oi, h with
  | 0, h => exact FL0_ok q h
  | 1, h => exact FL1_ok q h
  | 2, h => exact FL2_ok q h
  | 3, h => exact FL3_ok q h
  | 4, h => exact FL4_ok q h
  | 5, h => exact FL5_ok q h
  | 6, h => exact FL6_ok q h
  | 7, h => exact FL7_ok q h
  | 8, h => exact FL8_ok q h
  | 9, h => exact FL9_ok q h
  | _ + 10, h => cases h
def PL0 : List (Nat × Nat) := [(17, 1), (21, 2)]
def PL1 : List (Nat × Nat) := [(15, 33), (19, 34), (27, 35), (33, 36), (39, 37)]
def PL2 : List (Nat × Nat) := [(30, 64), (34, 65), (37, 66), (40, 67), (43, 68), (46, 69), (49, 70), (52, 71)]
def PL3 : List (Nat × Nat) := [(21, 98)]
def PL4 : List (Nat × Nat) := []
def PL5 : List (Nat × Nat) := [(73, 64), (35, 65), (61, 66), (55, 164), (58, 165)]
def PL6 : List (Nat × Nat) := [(15, 193), (131, 194), (134, 195), (19, 196), (48, 197), (118, 198), (84, 64), (63, 65), (51, 68), (54, 69), (57, 70), (60, 71)]
def PL7 : List (Nat × Nat) := [(108, 193), (117, 194), (124, 195), (133, 64), (200, 65), (188, 66), (147, 67), (178, 71), (139, 2), (213, 164), (216, 165), (260, 98), (281, 33), (120, 233), (290, 234)]
def PL8 : List (Nat × Nat) := [(153, 257), (53, 263), (88, 265), (149, 266), (99, 267), (102, 268), (105, 269), (108, 270), (131, 271), (156, 277), (159, 278), (251, 281)]
def PL9 : List (Nat × Nat) := []
def PL (oi : Nat) : List (Nat × Nat) := match oi with | 0 => PL0 | 1 => PL1 | 2 => PL2 | 3 => PL3 | 4 => PL4 | 5 => PL5 | 6 => PL6 | 7 => PL7 | 8 => PL8 | 9 => PL9 | _ => []
theorem PL0_ok : ∀ q ∈ PL0, FG (ownS 0) q.1 (q.2 / 32) (q.2 % 32) ∧ FI (q.2 / 32) (q.2 % 32) := List.forall_mem_cons.mpr ⟨⟨⟨RX0, TX0, 3, rfl, Nat.le_of_ble_eq_true rfl, gw_at 224 (by decide +kernel) rfl, uw_0, rfl⟩, fc_0, RX0, TX0, 3, rfl, rfl, rfl⟩, List.forall_mem_cons.mpr ⟨⟨⟨RX0, TX0, 3, rfl, Nat.le_of_ble_eq_true rfl, gw_at 225 (by decide +kernel) rfl, uw_0, rfl⟩, fc_0, RX0, TX0, 3, rfl, rfl, rfl⟩, fun _ h => absurd h List.not_mem_nil⟩⟩
theorem PL1_ok : ∀ q ∈ PL1, FG (ownS 1) q.1 (q.2 / 32) (q.2 % 32) ∧ FI (q.2 / 32) (q.2 % 32) := List.forall_mem_cons.mpr ⟨⟨⟨RX1, TX1, 6, rfl, Nat.le_of_ble_eq_true rfl, gw_at 289 (by decide +kernel) rfl, uw_1, rfl⟩, fc_1, RX1, TX1, 6, rfl, rfl, rfl⟩, List.forall_mem_cons.mpr ⟨⟨⟨RX1, TX1, 6, rfl, Nat.le_of_ble_eq_true rfl, gw_at 291 (by decide +kernel) rfl, uw_1, rfl⟩, fc_1, RX1, TX1, 6, rfl, rfl, rfl⟩, List.forall_mem_cons.mpr ⟨⟨⟨RX1, TX1, 6, rfl, Nat.le_of_ble_eq_true rfl, gw_at 292 (by decide +kernel) rfl, uw_1, rfl⟩, fc_1, RX1, TX1, 6, rfl, rfl, rfl⟩, List.forall_mem_cons.mpr ⟨⟨⟨RX1, TX1, 6, rfl, Nat.le_of_ble_eq_true rfl, gw_at 293 (by decide +kernel) rfl, uw_1, rfl⟩, fc_1, RX1, TX1, 6, rfl, rfl, rfl⟩, List.forall_mem_cons.mpr ⟨⟨⟨RX1, TX1, 6, rfl, Nat.le_of_ble_eq_true rfl, gw_at 294 (by decide +kernel) rfl, uw_1, rfl⟩, fc_1, RX1, TX1, 6, rfl, rfl, rfl⟩, fun _ h => absurd h List.not_mem_nil⟩⟩⟩⟩⟩
theorem PL2_ok : ∀ q ∈ PL2, FG (ownS 2) q.1 (q.2 / 32) (q.2 % 32) ∧ FI (q.2 / 32) (q.2 % 32) := List.forall_mem_cons.mpr ⟨⟨⟨RX2, TX2, 14, rfl, Nat.le_of_ble_eq_true rfl, gw_at 147 (by decide +kernel) rfl, uw_2, rfl⟩, fc_2, RX2, TX2, 14, rfl, rfl, rfl⟩, List.forall_mem_cons.mpr ⟨⟨⟨RX2, TX2, 14, rfl, Nat.le_of_ble_eq_true rfl, gw_at 151 (by decide +kernel) rfl, uw_2, rfl⟩, fc_2, RX2, TX2, 14, rfl, rfl, rfl⟩, List.forall_mem_cons.mpr ⟨⟨⟨RX2, TX2, 14, rfl, Nat.le_of_ble_eq_true rfl, gw_at 155 (by decide +kernel) rfl, uw_2, rfl⟩, fc_2, RX2, TX2, 14, rfl, rfl, rfl⟩, List.forall_mem_cons.mpr ⟨⟨⟨RX2, TX2, 14, rfl, Nat.le_of_ble_eq_true rfl, gw_at 158 (by decide +kernel) rfl, uw_2, rfl⟩, fc_2, RX2, TX2, 14, rfl, rfl, rfl⟩, List.forall_mem_cons.mpr ⟨⟨⟨RX2, TX2, 14, rfl, Nat.le_of_ble_eq_true rfl, gw_at 160 (by decide +kernel) rfl, uw_2, rfl⟩, fc_2, RX2, TX2, 14, rfl, rfl, rfl⟩, List.forall_mem_cons.mpr ⟨⟨⟨RX2, TX2, 14, rfl, Nat.le_of_ble_eq_true rfl, gw_at 162 (by decide +kernel) rfl, uw_2, rfl⟩, fc_2, RX2, TX2, 14, rfl, rfl, rfl⟩, List.forall_mem_cons.mpr ⟨⟨⟨RX2, TX2, 14, rfl, Nat.le_of_ble_eq_true rfl, gw_at 164 (by decide +kernel) rfl, uw_2, rfl⟩, fc_2, RX2, TX2, 14, rfl, rfl, rfl⟩, List.forall_mem_cons.mpr ⟨⟨⟨RX2, TX2, 14, rfl, Nat.le_of_ble_eq_true rfl, gw_at 166 (by decide +kernel) rfl, uw_2, rfl⟩, fc_2, RX2, TX2, 14, rfl, rfl, rfl⟩, fun _ h => absurd h List.not_mem_nil⟩⟩⟩⟩⟩⟩⟩⟩
theorem PL3_ok : ∀ q ∈ PL3, FG (ownS 3) q.1 (q.2 / 32) (q.2 % 32) ∧ FI (q.2 / 32) (q.2 % 32) := List.forall_mem_cons.mpr ⟨⟨⟨RX3, TX3, 3, rfl, Nat.le_of_ble_eq_true rfl, gw_at 272 (by decide +kernel) rfl, uw_3, rfl⟩, fc_3, RX3, TX3, 3, rfl, rfl, rfl⟩, fun _ h => absurd h List.not_mem_nil⟩
theorem PL4_ok : ∀ q ∈ PL4, FG (ownS 4) q.1 (q.2 / 32) (q.2 % 32) ∧ FI (q.2 / 32) (q.2 % 32) := fun _ h => absurd h List.not_mem_nil
theorem PL5_ok : ∀ q ∈ PL5, FG (ownS 5) q.1 (q.2 / 32) (q.2 % 32) ∧ FI (q.2 / 32) (q.2 % 32) := List.forall_mem_cons.mpr ⟨⟨⟨RX2, TX2, 14, rfl, Nat.le_of_ble_eq_true rfl, gw_at 148 (by decide +kernel) rfl, uw_2, rfl⟩, fc_2, RX2, TX2, 14, rfl, rfl, rfl⟩, List.forall_mem_cons.mpr ⟨⟨⟨RX2, TX2, 14, rfl, Nat.le_of_ble_eq_true rfl, gw_at 152 (by decide +kernel) rfl, uw_2, rfl⟩, fc_2, RX2, TX2, 14, rfl, rfl, rfl⟩, List.forall_mem_cons.mpr ⟨⟨⟨RX2, TX2, 14, rfl, Nat.le_of_ble_eq_true rfl, gw_at 156 (by decide +kernel) rfl, uw_2, rfl⟩, fc_2, RX2, TX2, 14, rfl, rfl, rfl⟩, List.forall_mem_cons.mpr ⟨⟨⟨RX5, TX5, 6, rfl, Nat.le_of_ble_eq_true rfl, gw_at 246 (by decide +kernel) rfl, uw_5, rfl⟩, fc_5, RX5, TX5, 6, rfl, rfl, rfl⟩, List.forall_mem_cons.mpr ⟨⟨⟨RX5, TX5, 6, rfl, Nat.le_of_ble_eq_true rfl, gw_at 248 (by decide +kernel) rfl, uw_5, rfl⟩, fc_5, RX5, TX5, 6, rfl, rfl, rfl⟩, fun _ h => absurd h List.not_mem_nil⟩⟩⟩⟩⟩
theorem PL6_ok : ∀ q ∈ PL6, FG (ownS 6) q.1 (q.2 / 32) (q.2 % 32) ∧ FI (q.2 / 32) (q.2 % 32) := List.forall_mem_cons.mpr ⟨⟨⟨RX6, TX6, 7, rfl, Nat.le_of_ble_eq_true rfl, gw_at 117 (by decide +kernel) rfl, uw_6, rfl⟩, fc_6, RX6, TX6, 7, rfl, rfl, rfl⟩, List.forall_mem_cons.mpr ⟨⟨⟨RX6, TX6, 7, rfl, Nat.le_of_ble_eq_true rfl, gw_at 120 (by decide +kernel) rfl, uw_6, rfl⟩, fc_6, RX6, TX6, 7, rfl, rfl, rfl⟩, List.forall_mem_cons.mpr ⟨⟨⟨RX6, TX6, 7, rfl, Nat.le_of_ble_eq_true rfl, gw_at 122 (by decide +kernel) rfl, uw_6, rfl⟩, fc_6, RX6, TX6, 7, rfl, rfl, rfl⟩, List.forall_mem_cons.mpr ⟨⟨⟨RX6, TX6, 7, rfl, Nat.le_of_ble_eq_true rfl, gw_at 123 (by decide +kernel) rfl, uw_6, rfl⟩, fc_6, RX6, TX6, 7, rfl, rfl, rfl⟩, List.forall_mem_cons.mpr ⟨⟨⟨RX6, TX6, 7, rfl, Nat.le_of_ble_eq_true rfl, gw_at 124 (by decide +kernel) rfl, uw_6, rfl⟩, fc_6, RX6, TX6, 7, rfl, rfl, rfl⟩, List.forall_mem_cons.mpr ⟨⟨⟨RX6, TX6, 7, rfl, Nat.le_of_ble_eq_true rfl, gw_at 125 (by decide +kernel) rfl, uw_6, rfl⟩, fc_6, RX6, TX6, 7, rfl, rfl, rfl⟩, List.forall_mem_cons.mpr ⟨⟨⟨RX2, TX2, 14, rfl, Nat.le_of_ble_eq_true rfl, gw_at 149 (by decide +kernel) rfl, uw_2, rfl⟩, fc_2, RX2, TX2, 14, rfl, rfl, rfl⟩, List.forall_mem_cons.mpr ⟨⟨⟨RX2, TX2, 14, rfl, Nat.le_of_ble_eq_true rfl, gw_at 153 (by decide +kernel) rfl, uw_2, rfl⟩, fc_2, RX2, TX2, 14, rfl, rfl, rfl⟩, List.forall_mem_cons.mpr ⟨⟨⟨RX2, TX2, 14, rfl, Nat.le_of_ble_eq_true rfl, gw_at 161 (by decide +kernel) rfl, uw_2, rfl⟩, fc_2, RX2, TX2, 14, rfl, rfl, rfl⟩, List.forall_mem_cons.mpr ⟨⟨⟨RX2, TX2, 14, rfl, Nat.le_of_ble_eq_true rfl, gw_at 163 (by decide +kernel) rfl, uw_2, rfl⟩, fc_2, RX2, TX2, 14, rfl, rfl, rfl⟩, List.forall_mem_cons.mpr ⟨⟨⟨RX2, TX2, 14, rfl, Nat.le_of_ble_eq_true rfl, gw_at 165 (by decide +kernel) rfl, uw_2, rfl⟩, fc_2, RX2, TX2, 14, rfl, rfl, rfl⟩, List.forall_mem_cons.mpr ⟨⟨⟨RX2, TX2, 14, rfl, Nat.le_of_ble_eq_true rfl, gw_at 167 (by decide +kernel) rfl, uw_2, rfl⟩, fc_2, RX2, TX2, 14, rfl, rfl, rfl⟩, fun _ h => absurd h List.not_mem_nil⟩⟩⟩⟩⟩⟩⟩⟩⟩⟩⟩⟩
theorem PL7_ok : ∀ q ∈ PL7, FG (ownS 7) q.1 (q.2 / 32) (q.2 % 32) ∧ FI (q.2 / 32) (q.2 % 32) := List.forall_mem_cons.mpr ⟨⟨⟨RX6, TX6, 7, rfl, Nat.le_of_ble_eq_true rfl, gw_at 118 (by decide +kernel) rfl, uw_6, rfl⟩, fc_6, RX6, TX6, 7, rfl, rfl, rfl⟩, List.forall_mem_cons.mpr ⟨⟨⟨RX6, TX6, 7, rfl, Nat.le_of_ble_eq_true rfl, gw_at 119 (by decide +kernel) rfl, uw_6, rfl⟩, fc_6, RX6, TX6, 7, rfl, rfl, rfl⟩, List.forall_mem_cons.mpr ⟨⟨⟨RX6, TX6, 7, rfl, Nat.le_of_ble_eq_true rfl, gw_at 121 (by decide +kernel) rfl, uw_6, rfl⟩, fc_6, RX6, TX6, 7, rfl, rfl, rfl⟩, List.forall_mem_cons.mpr ⟨⟨⟨RX2, TX2, 14, rfl, Nat.le_of_ble_eq_true rfl, gw_at 150 (by decide +kernel) rfl, uw_2, rfl⟩, fc_2, RX2, TX2, 14, rfl, rfl, rfl⟩, List.forall_mem_cons.mpr ⟨⟨⟨RX2, TX2, 14, rfl, Nat.le_of_ble_eq_true rfl, gw_at 154 (by decide +kernel) rfl, uw_2, rfl⟩, fc_2, RX2, TX2, 14, rfl, rfl, rfl⟩, List.forall_mem_cons.mpr ⟨⟨⟨RX2, TX2, 14, rfl, Nat.le_of_ble_eq_true rfl, gw_at 157 (by decide +kernel) rfl, uw_2, rfl⟩, fc_2, RX2, TX2, 14, rfl, rfl, rfl⟩, List.forall_mem_cons.mpr ⟨⟨⟨RX2, TX2, 14, rfl, Nat.le_of_ble_eq_true rfl, gw_at 159 (by decide +kernel) rfl, uw_2, rfl⟩, fc_2, RX2, TX2, 14, rfl, rfl, rfl⟩, List.forall_mem_cons.mpr ⟨⟨⟨RX2, TX2, 14, rfl, Nat.le_of_ble_eq_true rfl, gw_at 168 (by decide +kernel) rfl, uw_2, rfl⟩, fc_2, RX2, TX2, 14, rfl, rfl, rfl⟩, List.forall_mem_cons.mpr ⟨⟨⟨RX0, TX0, 3, rfl, Nat.le_of_ble_eq_true rfl, gw_at 226 (by decide +kernel) rfl, uw_0, rfl⟩, fc_0, RX0, TX0, 3, rfl, rfl, rfl⟩, List.forall_mem_cons.mpr ⟨⟨⟨RX5, TX5, 6, rfl, Nat.le_of_ble_eq_true rfl, gw_at 247 (by decide +kernel) rfl, uw_5, rfl⟩, fc_5, RX5, TX5, 6, rfl, rfl, rfl⟩, List.forall_mem_cons.mpr ⟨⟨⟨RX5, TX5, 6, rfl, Nat.le_of_ble_eq_true rfl, gw_at 249 (by decide +kernel) rfl, uw_5, rfl⟩, fc_5, RX5, TX5, 6, rfl, rfl, rfl⟩, List.forall_mem_cons.mpr ⟨⟨⟨RX3, TX3, 3, rfl, Nat.le_of_ble_eq_true rfl, gw_at 273 (by decide +kernel) rfl, uw_3, rfl⟩, fc_3, RX3, TX3, 3, rfl, rfl, rfl⟩, List.forall_mem_cons.mpr ⟨⟨⟨RX1, TX1, 6, rfl, Nat.le_of_ble_eq_true rfl, gw_at 290 (by decide +kernel) rfl, uw_1, rfl⟩, fc_1, RX1, TX1, 6, rfl, rfl, rfl⟩, List.forall_mem_cons.mpr ⟨⟨⟨RX7, TX7, 11, rfl, Nat.le_of_ble_eq_true rfl, gw_at 318 (by decide +kernel) rfl, uw_7, rfl⟩, fc_7, RX7, TX7, 11, rfl, rfl, rfl⟩, List.forall_mem_cons.mpr ⟨⟨⟨RX7, TX7, 11, rfl, Nat.le_of_ble_eq_true rfl, gw_at 319 (by decide +kernel) rfl, uw_7, rfl⟩, fc_7, RX7, TX7, 11, rfl, rfl, rfl⟩, fun _ h => absurd h List.not_mem_nil⟩⟩⟩⟩⟩⟩⟩⟩⟩⟩⟩⟩⟩⟩⟩
theorem PL8_ok : ∀ q ∈ PL8, FG (ownS 8) q.1 (q.2 / 32) (q.2 % 32) ∧ FI (q.2 / 32) (q.2 % 32) := List.forall_mem_cons.mpr ⟨⟨⟨RX8, TX8, 26, rfl, Nat.le_of_ble_eq_true rfl, gw_at 874 (by decide +kernel) rfl, uw_8, rfl⟩, fc_8, RX8, TX8, 26, rfl, rfl, rfl⟩, List.forall_mem_cons.mpr ⟨⟨⟨RX8, TX8, 26, rfl, Nat.le_of_ble_eq_true rfl, gw_at 880 (by decide +kernel) rfl, uw_8, rfl⟩, fc_8, RX8, TX8, 26, rfl, rfl, rfl⟩, List.forall_mem_cons.mpr ⟨⟨⟨RX8, TX8, 26, rfl, Nat.le_of_ble_eq_true rfl, gw_at 882 (by decide +kernel) rfl, uw_8, rfl⟩, fc_8, RX8, TX8, 26, rfl, rfl, rfl⟩, List.forall_mem_cons.mpr ⟨⟨⟨RX8, TX8, 26, rfl, Nat.le_of_ble_eq_true rfl, gw_at 883 (by decide +kernel) rfl, uw_8, rfl⟩, fc_8, RX8, TX8, 26, rfl, rfl, rfl⟩, List.forall_mem_cons.mpr ⟨⟨⟨RX8, TX8, 26, rfl, Nat.le_of_ble_eq_true rfl, gw_at 884 (by decide +kernel) rfl, uw_8, rfl⟩, fc_8, RX8, TX8, 26, rfl, rfl, rfl⟩, List.forall_mem_cons.mpr ⟨⟨⟨RX8, TX8, 26, rfl, Nat.le_of_ble_eq_true rfl, gw_at 885 (by decide +kernel) rfl, uw_8, rfl⟩, fc_8, RX8, TX8, 26, rfl, rfl, rfl⟩, List.forall_mem_cons.mpr ⟨⟨⟨RX8, TX8, 26, rfl, Nat.le_of_ble_eq_true rfl, gw_at 886 (by decide +kernel) rfl, uw_8, rfl⟩, fc_8, RX8, TX8, 26, rfl, rfl, rfl⟩, List.forall_mem_cons.mpr ⟨⟨⟨RX8, TX8, 26, rfl, Nat.le_of_ble_eq_true rfl, gw_at 887 (by decide +kernel) rfl, uw_8, rfl⟩, fc_8, RX8, TX8, 26, rfl, rfl, rfl⟩, List.forall_mem_cons.mpr ⟨⟨⟨RX8, TX8, 26, rfl, Nat.le_of_ble_eq_true rfl, gw_at 888 (by decide +kernel) rfl, uw_8, rfl⟩, fc_8, RX8, TX8, 26, rfl, rfl, rfl⟩, List.forall_mem_cons.mpr ⟨⟨⟨RX8, TX8, 26, rfl, Nat.le_of_ble_eq_true rfl, gw_at 894 (by decide +kernel) rfl, uw_8, rfl⟩, fc_8, RX8, TX8, 26, rfl, rfl, rfl⟩, List.forall_mem_cons.mpr ⟨⟨⟨RX8, TX8, 26, rfl, Nat.le_of_ble_eq_true rfl, gw_at 895 (by decide +kernel) rfl, uw_8, rfl⟩, fc_8, RX8, TX8, 26, rfl, rfl, rfl⟩, List.forall_mem_cons.mpr ⟨⟨⟨RX8, TX8, 26, rfl, Nat.le_of_ble_eq_true rfl, gw_at 898 (by decide +kernel) rfl, uw_8, rfl⟩, fc_8, RX8, TX8, 26, rfl, rfl, rfl⟩, fun _ h => absurd h List.not_mem_nil⟩⟩⟩⟩⟩⟩⟩⟩⟩⟩⟩⟩
theorem PL9_ok : ∀ q ∈ PL9, FG (ownS 9) q.1 (q.2 / 32) (q.2 % 32) ∧ FI (q.2 / 32) (q.2 % 32) := fun _ h => absurd h List.not_mem_nil
theorem PL_ok : ∀ (oi : Nat) (q), q ∈ PL oi → FG (ownS oi) q.1 (q.2 / 32) (q.2 % 32) ∧ FI (q.2 / 32) (q.2 % 32) := fun oi q h => by
  match oi, h with
  | 0, h => exact PL0_ok q h
  | 1, h => exact PL1_ok q h
  | 2, h => exact PL2_ok q h
  | 3, h => exact PL3_ok q h
  | 4, h => exact PL4_ok q h
  | 5, h => exact PL5_ok q h
  | 6, h => exact PL6_ok q h
  | 7, h => exact PL7_ok q h
  | 8, h => exact PL8_ok q h
  | 9, h => exact PL9_ok q h
  | _ + 10, h => cases h
def CL0 : List (Nat × Int32) := []
def CL1 : List (Nat × Int32) := []
def CL2 : List (Nat × Int32) := []
def CL3 : List (Nat × Int32) := [(20, 2147483647)]
def CL4 : List (Nat × Int32) := []
def CL5 : List (Nat × Int32) := [(82, -1000000), (89, 2147483647)]
def CL6 : List (Nat × Int32) := []
def CL7 : List (Nat × Int32) := [(73, -1000001), (293, -1000010), (112, -1000003), (123, -1000100), (142, -1000002), (212, -1000000), (273, 999999)]
def CL8 : List (Nat × Int32) := [(70, -1000001), (57, -1000010), (91, -1000003), (152, -1000100), (182, -1000002), (220, -1000000), (226, 1000000000)]
def CL9 : List (Nat × Int32) := []
def CL (oi : Nat) : List (Nat × Int32) := match oi with | 0 => CL0 | 1 => CL1 | 2 => CL2 | 3 => CL3 | 4 => CL4 | 5 => CL5 | 6 => CL6 | 7 => CL7 | 8 => CL8 | 9 => CL9 | _ => []
theorem CL0_ok : ∀ q ∈ CL0, Cond.constant (ownS 0) q.1 q.2 ∈ gw := fun _ h => absurd h List.not_mem_nil
theorem CL1_ok : ∀ q ∈ CL1, Cond.constant (ownS 1) q.1 q.2 ∈ gw := fun _ h => absurd h List.not_mem_nil
theorem CL2_ok : ∀ q ∈ CL2, Cond.constant (ownS 2) q.1 q.2 ∈ gw := fun _ h => absurd h List.not_mem_nil
theorem CL3_ok : ∀ q ∈ CL3, Cond.constant (ownS 3) q.1 q.2 ∈ gw := List.forall_mem_cons.mpr ⟨gw_at 753 (by decide +kernel) rfl, fun _ h => absurd h List.not_mem_nil⟩
theorem CL4_ok : ∀ q ∈ CL4, Cond.constant (ownS 4) q.1 q.2 ∈ gw := fun _ h => absurd h List.not_mem_nil
theorem CL5_ok : ∀ q ∈ CL5, Cond.constant (ownS 5) q.1 q.2 ∈ gw := List.forall_mem_cons.mpr ⟨gw_at 672 (by decide +kernel) rfl, List.forall_mem_cons.mpr ⟨gw_at 696 (by decide +kernel) rfl, fun _ h => absurd h List.not_mem_nil⟩⟩
theorem CL6_ok : ∀ q ∈ CL6, Cond.constant (ownS 6) q.1 q.2 ∈ gw := fun _ h => absurd h List.not_mem_nil
theorem CL7_ok : ∀ q ∈ CL7, Cond.constant (ownS 7) q.1 q.2 ∈ gw := List.forall_mem_cons.mpr ⟨gw_at 354 (by decide +kernel) rfl, List.forall_mem_cons.mpr ⟨gw_at 359 (by decide +kernel) rfl, List.forall_mem_cons.mpr ⟨gw_at 415 (by decide +kernel) rfl, List.forall_mem_cons.mpr ⟨gw_at 506 (by decide +kernel) rfl, List.forall_mem_cons.mpr ⟨gw_at 532 (by decide +kernel) rfl, List.forall_mem_cons.mpr ⟨gw_at 660 (by decide +kernel) rfl, List.forall_mem_cons.mpr ⟨gw_at 797 (by decide +kernel) rfl, fun _ h => absurd h List.not_mem_nil⟩⟩⟩⟩⟩⟩⟩
theorem CL8_ok : ∀ q ∈ CL8, Cond.constant (ownS 8) q.1 q.2 ∈ gw := List.forall_mem_cons.mpr ⟨gw_at 965 (by decide +kernel) rfl, List.forall_mem_cons.mpr ⟨gw_at 970 (by decide +kernel) rfl, List.forall_mem_cons.mpr ⟨gw_at 999 (by decide +kernel) rfl, List.forall_mem_cons.mpr ⟨gw_at 1052 (by decide +kernel) rfl, List.forall_mem_cons.mpr ⟨gw_at 1061 (by decide +kernel) rfl, List.forall_mem_cons.mpr ⟨gw_at 1165 (by decide +kernel) rfl, List.forall_mem_cons.mpr ⟨gw_at 1182 (by decide +kernel) rfl, fun _ h => absurd h List.not_mem_nil⟩⟩⟩⟩⟩⟩⟩
theorem CL9_ok : ∀ q ∈ CL9, Cond.constant (ownS 9) q.1 q.2 ∈ gw := fun _ h => absurd h List.not_mem_nil
theorem CL_ok : ∀ (oi : Nat) (q), q ∈ CL oi → Cond.constant (ownS oi) q.1 q.2 ∈ gw := fun oi q h => by
  match oi, h with
  | 0, h => exact CL0_ok q h
  | 1, h => exact CL1_ok q h
  | 2, h => exact CL2_ok q h
  | 3, h => exact CL3_ok q h
  | 4, h => exact CL4_ok q h
  | 5, h => exact CL5_ok q h
  | 6, h => exact CL6_ok q h
  | 7, h => exact CL7_ok q h
  | 8, h => exact CL8_ok q h
  | 9, h => exact CL9_ok q h
  | _ + 10, h => cases h
def JL0 : List (Nat × Int32) := []
def JL1 : List (Nat × Int32) := []
def JL2 : List (Nat × Int32) := []
def JL3 : List (Nat × Int32) := []
def JL4 : List (Nat × Int32) := []
def JL5 : List (Nat × Int32) := [(134, 16807), (136, 2147483647), (138, 5)]
def JL6 : List (Nat × Int32) := []
def JL7 : List (Nat × Int32) := []
def JL8 : List (Nat × Int32) := [(58, 7), (68, 2), (86, 255), (95, 48), (97, 57), (186, 24), (200, 300), (202, 2500), (204, 9), (206, 40), (208, 99), (210, 3), (212, 200), (224, 10), (231, 6), (233, -1), (241, 100), (243, 999999), (245, 16807), (247, 2147483647), (249, 5)]
def JL9 : List (Nat × Int32) := []
def JL (oi : Nat) : List (Nat × Int32) := match oi with | 0 => JL0 | 1 => JL1 | 2 => JL2 | 3 => JL3 | 4 => JL4 | 5 => JL5 | 6 => JL6 | 7 => JL7 | 8 => JL8 | 9 => JL9 | _ => []
theorem JL0_ok : ∀ q ∈ JL0, Cond.constantLong (ownS 0) q.1 q.2.toInt64 ∈ gw := fun _ h => absurd h List.not_mem_nil
theorem JL1_ok : ∀ q ∈ JL1, Cond.constantLong (ownS 1) q.1 q.2.toInt64 ∈ gw := fun _ h => absurd h List.not_mem_nil
theorem JL2_ok : ∀ q ∈ JL2, Cond.constantLong (ownS 2) q.1 q.2.toInt64 ∈ gw := fun _ h => absurd h List.not_mem_nil
theorem JL3_ok : ∀ q ∈ JL3, Cond.constantLong (ownS 3) q.1 q.2.toInt64 ∈ gw := fun _ h => absurd h List.not_mem_nil
theorem JL4_ok : ∀ q ∈ JL4, Cond.constantLong (ownS 4) q.1 q.2.toInt64 ∈ gw := fun _ h => absurd h List.not_mem_nil
theorem JL5_ok : ∀ q ∈ JL5, Cond.constantLong (ownS 5) q.1 q.2.toInt64 ∈ gw := List.forall_mem_cons.mpr ⟨gw_at 802 (by decide +kernel) rfl, List.forall_mem_cons.mpr ⟨gw_at 803 (by decide +kernel) rfl, List.forall_mem_cons.mpr ⟨gw_at 804 (by decide +kernel) rfl, fun _ h => absurd h List.not_mem_nil⟩⟩⟩
theorem JL6_ok : ∀ q ∈ JL6, Cond.constantLong (ownS 6) q.1 q.2.toInt64 ∈ gw := fun _ h => absurd h List.not_mem_nil
theorem JL7_ok : ∀ q ∈ JL7, Cond.constantLong (ownS 7) q.1 q.2.toInt64 ∈ gw := fun _ h => absurd h List.not_mem_nil
theorem JL8_ok : ∀ q ∈ JL8, Cond.constantLong (ownS 8) q.1 q.2.toInt64 ∈ gw := List.forall_mem_cons.mpr ⟨gw_at 960 (by decide +kernel) rfl, List.forall_mem_cons.mpr ⟨gw_at 964 (by decide +kernel) rfl, List.forall_mem_cons.mpr ⟨gw_at 998 (by decide +kernel) rfl, List.forall_mem_cons.mpr ⟨gw_at 1028 (by decide +kernel) rfl, List.forall_mem_cons.mpr ⟨gw_at 1029 (by decide +kernel) rfl, List.forall_mem_cons.mpr ⟨gw_at 1070 (by decide +kernel) rfl, List.forall_mem_cons.mpr ⟨gw_at 1106 (by decide +kernel) rfl, List.forall_mem_cons.mpr ⟨gw_at 1107 (by decide +kernel) rfl, List.forall_mem_cons.mpr ⟨gw_at 1112 (by decide +kernel) rfl, List.forall_mem_cons.mpr ⟨gw_at 1117 (by decide +kernel) rfl, List.forall_mem_cons.mpr ⟨gw_at 1118 (by decide +kernel) rfl, List.forall_mem_cons.mpr ⟨gw_at 1127 (by decide +kernel) rfl, List.forall_mem_cons.mpr ⟨gw_at 1140 (by decide +kernel) rfl, List.forall_mem_cons.mpr ⟨gw_at 1177 (by decide +kernel) rfl, List.forall_mem_cons.mpr ⟨gw_at 1207 (by decide +kernel) rfl, List.forall_mem_cons.mpr ⟨gw_at 1208 (by decide +kernel) rfl, List.forall_mem_cons.mpr ⟨gw_at 1229 (by decide +kernel) rfl, List.forall_mem_cons.mpr ⟨gw_at 1230 (by decide +kernel) rfl, List.forall_mem_cons.mpr ⟨gw_at 1231 (by decide +kernel) rfl, List.forall_mem_cons.mpr ⟨gw_at 1232 (by decide +kernel) rfl, List.forall_mem_cons.mpr ⟨gw_at 1233 (by decide +kernel) rfl, fun _ h => absurd h List.not_mem_nil⟩⟩⟩⟩⟩⟩⟩⟩⟩⟩⟩⟩⟩⟩⟩⟩⟩⟩⟩⟩⟩
theorem JL9_ok : ∀ q ∈ JL9, Cond.constantLong (ownS 9) q.1 q.2.toInt64 ∈ gw := fun _ h => absurd h List.not_mem_nil
theorem JL_ok : ∀ (oi : Nat) (q), q ∈ JL oi → Cond.constantLong (ownS oi) q.1 q.2.toInt64 ∈ gw := fun oi q h => by
  match oi, h with
  | 0, h => exact JL0_ok q h
  | 1, h => exact JL1_ok q h
  | 2, h => exact JL2_ok q h
  | 3, h => exact JL3_ok q h
  | 4, h => exact JL4_ok q h
  | 5, h => exact JL5_ok q h
  | 6, h => exact JL6_ok q h
  | 7, h => exact JL7_ok q h
  | 8, h => exact JL8_ok q h
  | 9, h => exact JL9_ok q h
  | _ + 10, h => cases h
def VOK (own : String) (ix m : Nat) : Prop := ∃ q : MM, nth mil m = some q ∧ Cond.methodLink own ix q.1 ∈ gw
def VL0 : List (Nat × Nat) := [(28, 11), (24, 10)]
def VL1 : List (Nat × Nat) := [(42, 4), (46, 5), (49, 6), (63, 7)]
def VL2 : List (Nat × Nat) := [(61, 13), (73, 18), (76, 23), (79, 24), (82, 21), (85, 25), (65, 15)]
def VL3 : List (Nat × Nat) := [(25, 27), (35, 28), (45, 29)]
def VL4 : List (Nat × Nat) := [(30, 31)]
def VL5 : List (Nat × Nat) := [(28, 9), (32, 22), (39, 40), (43, 19), (47, 43), (51, 44), (90, 15), (94, 16), (98, 41), (102, 51), (116, 54), (123, 20), (126, 57), (130, 58)]
def VL6 : List (Nat × Nat) := [(22, 8), (27, 62), (40, 71), (64, 73), (125, 74), (75, 72), (44, 69), (107, 70), (31, 63), (34, 64), (81, 65), (37, 66), (96, 67), (99, 68), (111, 14), (114, 15), (103, 16)]
def VL7 : List (Nat × Nat) := [(65, 30), (74, 116), (78, 34), (82, 117), (85, 31), (88, 33), (91, 35), (95, 32), (98, 36), (102, 38), (105, 60), (113, 61), (127, 9), (131, 2), (136, 1), (143, 12), (150, 0), (153, 22), (156, 19), (160, 13), (167, 14), (171, 15), (175, 16), (181, 20), (191, 18), (194, 21), (197, 17), (201, 40), (205, 41), (209, 42), (219, 45), (223, 37), (229, 46), (233, 48), (236, 49), (239, 50), (242, 52), (252, 53), (256, 26), (266, 55), (269, 56), (274, 59), (278, 3), (287, 39)]
def VL8 : List (Nat × Nat) := [(71, 124), (75, 125), (78, 129), (146, 145), (134, 139), (114, 136), (92, 134), (117, 137), (111, 135), (137, 141), (124, 138), (140, 143), (143, 144), (183, 159), (188, 156), (191, 148), (171, 151), (168, 150), (162, 149), (194, 154), (197, 158), (178, 153), (174, 152), (214, 155), (217, 171), (227, 178), (235, 180), (238, 183), (278, 198), (257, 188), (272, 196), (266, 192), (269, 195), (263, 194), (260, 193), (275, 197), (281, 199), (284, 202)]
def VL9 : List (Nat × Nat) := [(13, 78), (18, 79), (22, 80), (27, 81), (32, 82), (36, 83), (41, 84), (45, 85), (49, 86), (53, 87), (58, 88), (62, 89), (66, 90), (70, 91), (74, 92), (78, 93), (82, 94), (86, 95), (90, 96), (94, 97), (98, 98), (102, 99), (106, 100), (110, 101), (114, 102), (118, 103), (123, 104), (127, 105), (131, 106), (135, 107), (139, 108), (143, 109), (147, 110), (151, 111), (155, 112), (159, 113), (163, 114), (167, 115), (17, 127), (21, 130), (26, 131), (31, 132), (35, 133), (40, 146), (44, 147), (48, 157), (52, 160), (57, 161), (61, 162), (65, 163), (69, 164), (73, 165), (77, 166), (81, 167), (85, 168), (89, 169), (93, 170), (97, 172), (101, 173), (105, 174), (109, 175), (113, 176), (117, 177), (122, 179), (126, 181), (130, 182), (134, 184), (138, 185), (142, 186), (146, 187), (150, 189), (154, 191), (158, 200), (162, 201), (166, 203), (170, 204)]
def VL (oi : Nat) : List (Nat × Nat) := match oi with | 0 => VL0 | 1 => VL1 | 2 => VL2 | 3 => VL3 | 4 => VL4 | 5 => VL5 | 6 => VL6 | 7 => VL7 | 8 => VL8 | 9 => VL9 | _ => []
theorem VL0_ok : ∀ q ∈ VL0, VOK (ownS 0) q.1 q.2 := List.forall_mem_cons.mpr ⟨⟨_, rfl, gw_at 528 (by decide +kernel) rfl⟩, List.forall_mem_cons.mpr ⟨⟨_, rfl, gw_at 545 (by decide +kernel) rfl⟩, fun _ h => absurd h List.not_mem_nil⟩⟩
theorem VL1_ok : ∀ q ∈ VL1, VOK (ownS 1) q.1 q.2 := List.forall_mem_cons.mpr ⟨⟨_, rfl, gw_at 829 (by decide +kernel) rfl⟩, List.forall_mem_cons.mpr ⟨⟨_, rfl, gw_at 836 (by decide +kernel) rfl⟩, List.forall_mem_cons.mpr ⟨⟨_, rfl, gw_at 842 (by decide +kernel) rfl⟩, List.forall_mem_cons.mpr ⟨⟨_, rfl, gw_at 846 (by decide +kernel) rfl⟩, fun _ h => absurd h List.not_mem_nil⟩⟩⟩⟩
theorem VL2_ok : ∀ q ∈ VL2, VOK (ownS 2) q.1 q.2 := List.forall_mem_cons.mpr ⟨⟨_, rfl, gw_at 494 (by decide +kernel) rfl⟩, List.forall_mem_cons.mpr ⟨⟨_, rfl, gw_at 553 (by decide +kernel) rfl⟩, List.forall_mem_cons.mpr ⟨⟨_, rfl, gw_at 557 (by decide +kernel) rfl⟩, List.forall_mem_cons.mpr ⟨⟨_, rfl, gw_at 561 (by decide +kernel) rfl⟩, List.forall_mem_cons.mpr ⟨⟨_, rfl, gw_at 565 (by decide +kernel) rfl⟩, List.forall_mem_cons.mpr ⟨⟨_, rfl, gw_at 569 (by decide +kernel) rfl⟩, List.forall_mem_cons.mpr ⟨⟨_, rfl, gw_at 614 (by decide +kernel) rfl⟩, fun _ h => absurd h List.not_mem_nil⟩⟩⟩⟩⟩⟩⟩
theorem VL3_ok : ∀ q ∈ VL3, VOK (ownS 3) q.1 q.2 := List.forall_mem_cons.mpr ⟨⟨_, rfl, gw_at 754 (by decide +kernel) rfl⟩, List.forall_mem_cons.mpr ⟨⟨_, rfl, gw_at 760 (by decide +kernel) rfl⟩, List.forall_mem_cons.mpr ⟨⟨_, rfl, gw_at 764 (by decide +kernel) rfl⟩, fun _ h => absurd h List.not_mem_nil⟩⟩⟩
theorem VL4_ok : ∀ q ∈ VL4, VOK (ownS 4) q.1 q.2 := List.forall_mem_cons.mpr ⟨⟨_, rfl, gw_at 862 (by decide +kernel) rfl⟩, fun _ h => absurd h List.not_mem_nil⟩
theorem VL5_ok : ∀ q ∈ VL5, VOK (ownS 5) q.1 q.2 := List.forall_mem_cons.mpr ⟨⟨_, rfl, gw_at 631 (by decide +kernel) rfl⟩, List.forall_mem_cons.mpr ⟨⟨_, rfl, gw_at 632 (by decide +kernel) rfl⟩, List.forall_mem_cons.mpr ⟨⟨_, rfl, gw_at 641 (by decide +kernel) rfl⟩, List.forall_mem_cons.mpr ⟨⟨_, rfl, gw_at 642 (by decide +kernel) rfl⟩, List.forall_mem_cons.mpr ⟨⟨_, rfl, gw_at 651 (by decide +kernel) rfl⟩, List.forall_mem_cons.mpr ⟨⟨_, rfl, gw_at 656 (by decide +kernel) rfl⟩, List.forall_mem_cons.mpr ⟨⟨_, rfl, gw_at 705 (by decide +kernel) rfl⟩, List.forall_mem_cons.mpr ⟨⟨_, rfl, gw_at 706 (by decide +kernel) rfl⟩, List.forall_mem_cons.mpr ⟨⟨_, rfl, gw_at 707 (by decide +kernel) rfl⟩, List.forall_mem_cons.mpr ⟨⟨_, rfl, gw_at 708 (by decide +kernel) rfl⟩, List.forall_mem_cons.mpr ⟨⟨_, rfl, gw_at 740 (by decide +kernel) rfl⟩, List.forall_mem_cons.mpr ⟨⟨_, rfl, gw_at 776 (by decide +kernel) rfl⟩, List.forall_mem_cons.mpr ⟨⟨_, rfl, gw_at 785 (by decide +kernel) rfl⟩, List.forall_mem_cons.mpr ⟨⟨_, rfl, gw_at 789 (by decide +kernel) rfl⟩, fun _ h => absurd h List.not_mem_nil⟩⟩⟩⟩⟩⟩⟩⟩⟩⟩⟩⟩⟩⟩
theorem VL6_ok : ∀ q ∈ VL6, VOK (ownS 6) q.1 q.2 := List.forall_mem_cons.mpr ⟨⟨_, rfl, gw_at 424 (by decide +kernel) rfl⟩, List.forall_mem_cons.mpr ⟨⟨_, rfl, gw_at 428 (by decide +kernel) rfl⟩, List.forall_mem_cons.mpr ⟨⟨_, rfl, gw_at 432 (by decide +kernel) rfl⟩, List.forall_mem_cons.mpr ⟨⟨_, rfl, gw_at 436 (by decide +kernel) rfl⟩, List.forall_mem_cons.mpr ⟨⟨_, rfl, gw_at 440 (by decide +kernel) rfl⟩, List.forall_mem_cons.mpr ⟨⟨_, rfl, gw_at 444 (by decide +kernel) rfl⟩, List.forall_mem_cons.mpr ⟨⟨_, rfl, gw_at 448 (by decide +kernel) rfl⟩, List.forall_mem_cons.mpr ⟨⟨_, rfl, gw_at 452 (by decide +kernel) rfl⟩, List.forall_mem_cons.mpr ⟨⟨_, rfl, gw_at 460 (by decide +kernel) rfl⟩, List.forall_mem_cons.mpr ⟨⟨_, rfl, gw_at 467 (by decide +kernel) rfl⟩, List.forall_mem_cons.mpr ⟨⟨_, rfl, gw_at 474 (by decide +kernel) rfl⟩, List.forall_mem_cons.mpr ⟨⟨_, rfl, gw_at 478 (by decide +kernel) rfl⟩, List.forall_mem_cons.mpr ⟨⟨_, rfl, gw_at 482 (by decide +kernel) rfl⟩, List.forall_mem_cons.mpr ⟨⟨_, rfl, gw_at 486 (by decide +kernel) rfl⟩, List.forall_mem_cons.mpr ⟨⟨_, rfl, gw_at 490 (by decide +kernel) rfl⟩, List.forall_mem_cons.mpr ⟨⟨_, rfl, gw_at 498 (by decide +kernel) rfl⟩, List.forall_mem_cons.mpr ⟨⟨_, rfl, gw_at 502 (by decide +kernel) rfl⟩, fun _ h => absurd h List.not_mem_nil⟩⟩⟩⟩⟩⟩⟩⟩⟩⟩⟩⟩⟩⟩⟩⟩⟩
theorem VL7_ok : ∀ q ∈ VL7, VOK (ownS 7) q.1 q.2 := List.forall_mem_cons.mpr ⟨⟨_, rfl, gw_at 347 (by decide +kernel) rfl⟩, List.forall_mem_cons.mpr ⟨⟨_, rfl, gw_at 355 (by decide +kernel) rfl⟩, List.forall_mem_cons.mpr ⟨⟨_, rfl, gw_at 360 (by decide +kernel) rfl⟩, List.forall_mem_cons.mpr ⟨⟨_, rfl, gw_at 364 (by decide +kernel) rfl⟩, List.forall_mem_cons.mpr ⟨⟨_, rfl, gw_at 372 (by decide +kernel) rfl⟩, List.forall_mem_cons.mpr ⟨⟨_, rfl, gw_at 376 (by decide +kernel) rfl⟩, List.forall_mem_cons.mpr ⟨⟨_, rfl, gw_at 380 (by decide +kernel) rfl⟩, List.forall_mem_cons.mpr ⟨⟨_, rfl, gw_at 388 (by decide +kernel) rfl⟩, List.forall_mem_cons.mpr ⟨⟨_, rfl, gw_at 392 (by decide +kernel) rfl⟩, List.forall_mem_cons.mpr ⟨⟨_, rfl, gw_at 403 (by decide +kernel) rfl⟩, List.forall_mem_cons.mpr ⟨⟨_, rfl, gw_at 411 (by decide +kernel) rfl⟩, List.forall_mem_cons.mpr ⟨⟨_, rfl, gw_at 420 (by decide +kernel) rfl⟩, List.forall_mem_cons.mpr ⟨⟨_, rfl, gw_at 507 (by decide +kernel) rfl⟩, List.forall_mem_cons.mpr ⟨⟨_, rfl, gw_at 512 (by decide +kernel) rfl⟩, List.forall_mem_cons.mpr ⟨⟨_, rfl, gw_at 524 (by decide +kernel) rfl⟩, List.forall_mem_cons.mpr ⟨⟨_, rfl, gw_at 537 (by decide +kernel) rfl⟩, List.forall_mem_cons.mpr ⟨⟨_, rfl, gw_at 541 (by decide +kernel) rfl⟩, List.forall_mem_cons.mpr ⟨⟨_, rfl, gw_at 549 (by decide +kernel) rfl⟩, List.forall_mem_cons.mpr ⟨⟨_, rfl, gw_at 576 (by decide +kernel) rfl⟩, List.forall_mem_cons.mpr ⟨⟨_, rfl, gw_at 584 (by decide +kernel) rfl⟩, List.forall_mem_cons.mpr ⟨⟨_, rfl, gw_at 589 (by decide +kernel) rfl⟩, List.forall_mem_cons.mpr ⟨⟨_, rfl, gw_at 590 (by decide +kernel) rfl⟩, List.forall_mem_cons.mpr ⟨⟨_, rfl, gw_at 591 (by decide +kernel) rfl⟩, List.forall_mem_cons.mpr ⟨⟨_, rfl, gw_at 600 (by decide +kernel) rfl⟩, List.forall_mem_cons.mpr ⟨⟨_, rfl, gw_at 608 (by decide +kernel) rfl⟩, List.forall_mem_cons.mpr ⟨⟨_, rfl, gw_at 609 (by decide +kernel) rfl⟩, List.forall_mem_cons.mpr ⟨⟨_, rfl, gw_at 610 (by decide +kernel) rfl⟩, List.forall_mem_cons.mpr ⟨⟨_, rfl, gw_at 627 (by decide +kernel) rfl⟩, List.forall_mem_cons.mpr ⟨⟨_, rfl, gw_at 637 (by decide +kernel) rfl⟩, List.forall_mem_cons.mpr ⟨⟨_, rfl, gw_at 647 (by decide +kernel) rfl⟩, List.forall_mem_cons.mpr ⟨⟨_, rfl, gw_at 665 (by decide +kernel) rfl⟩, List.forall_mem_cons.mpr ⟨⟨_, rfl, gw_at 677 (by decide +kernel) rfl⟩, List.forall_mem_cons.mpr ⟨⟨_, rfl, gw_at 681 (by decide +kernel) rfl⟩, List.forall_mem_cons.mpr ⟨⟨_, rfl, gw_at 692 (by decide +kernel) rfl⟩, List.forall_mem_cons.mpr ⟨⟨_, rfl, gw_at 701 (by decide +kernel) rfl⟩, List.forall_mem_cons.mpr ⟨⟨_, rfl, gw_at 716 (by decide +kernel) rfl⟩, List.forall_mem_cons.mpr ⟨⟨_, rfl, gw_at 724 (by decide +kernel) rfl⟩, List.forall_mem_cons.mpr ⟨⟨_, rfl, gw_at 736 (by decide +kernel) rfl⟩, List.forall_mem_cons.mpr ⟨⟨_, rfl, gw_at 749 (by decide +kernel) rfl⟩, List.forall_mem_cons.mpr ⟨⟨_, rfl, gw_at 772 (by decide +kernel) rfl⟩, List.forall_mem_cons.mpr ⟨⟨_, rfl, gw_at 781 (by decide +kernel) rfl⟩, List.forall_mem_cons.mpr ⟨⟨_, rfl, gw_at 798 (by decide +kernel) rfl⟩, List.forall_mem_cons.mpr ⟨⟨_, rfl, gw_at 825 (by decide +kernel) rfl⟩, List.forall_mem_cons.mpr ⟨⟨_, rfl, gw_at 858 (by decide +kernel) rfl⟩, fun _ h => absurd h List.not_mem_nil⟩⟩⟩⟩⟩⟩⟩⟩⟩⟩⟩⟩⟩⟩⟩⟩⟩⟩⟩⟩⟩⟩⟩⟩⟩⟩⟩⟩⟩⟩⟩⟩⟩⟩⟩⟩⟩⟩⟩⟩⟩⟩⟩⟩
theorem VL8_ok : ∀ q ∈ VL8, VOK (ownS 8) q.1 q.2 := List.forall_mem_cons.mpr ⟨⟨_, rfl, gw_at 966 (by decide +kernel) rfl⟩, List.forall_mem_cons.mpr ⟨⟨_, rfl, gw_at 971 (by decide +kernel) rfl⟩, List.forall_mem_cons.mpr ⟨⟨_, rfl, gw_at 979 (by decide +kernel) rfl⟩, List.forall_mem_cons.mpr ⟨⟨_, rfl, gw_at 1004 (by decide +kernel) rfl⟩, List.forall_mem_cons.mpr ⟨⟨_, rfl, gw_at 1008 (by decide +kernel) rfl⟩, List.forall_mem_cons.mpr ⟨⟨_, rfl, gw_at 1012 (by decide +kernel) rfl⟩, List.forall_mem_cons.mpr ⟨⟨_, rfl, gw_at 1016 (by decide +kernel) rfl⟩, List.forall_mem_cons.mpr ⟨⟨_, rfl, gw_at 1020 (by decide +kernel) rfl⟩, List.forall_mem_cons.mpr ⟨⟨_, rfl, gw_at 1024 (by decide +kernel) rfl⟩, List.forall_mem_cons.mpr ⟨⟨_, rfl, gw_at 1030 (by decide +kernel) rfl⟩, List.forall_mem_cons.mpr ⟨⟨_, rfl, gw_at 1037 (by decide +kernel) rfl⟩, List.forall_mem_cons.mpr ⟨⟨_, rfl, gw_at 1041 (by decide +kernel) rfl⟩, List.forall_mem_cons.mpr ⟨⟨_, rfl, gw_at 1048 (by decide +kernel) rfl⟩, List.forall_mem_cons.mpr ⟨⟨_, rfl, gw_at 1066 (by decide +kernel) rfl⟩, List.forall_mem_cons.mpr ⟨⟨_, rfl, gw_at 1071 (by decide +kernel) rfl⟩, List.forall_mem_cons.mpr ⟨⟨_, rfl, gw_at 1075 (by decide +kernel) rfl⟩, List.forall_mem_cons.mpr ⟨⟨_, rfl, gw_at 1079 (by decide +kernel) rfl⟩, List.forall_mem_cons.mpr ⟨⟨_, rfl, gw_at 1083 (by decide +kernel) rfl⟩, List.forall_mem_cons.mpr ⟨⟨_, rfl, gw_at 1087 (by decide +kernel) rfl⟩, List.forall_mem_cons.mpr ⟨⟨_, rfl, gw_at 1094 (by decide +kernel) rfl⟩, List.forall_mem_cons.mpr ⟨⟨_, rfl, gw_at 1102 (by decide +kernel) rfl⟩, List.forall_mem_cons.mpr ⟨⟨_, rfl, gw_at 1141 (by decide +kernel) rfl⟩, List.forall_mem_cons.mpr ⟨⟨_, rfl, gw_at 1145 (by decide +kernel) rfl⟩, List.forall_mem_cons.mpr ⟨⟨_, rfl, gw_at 1153 (by decide +kernel) rfl⟩, List.forall_mem_cons.mpr ⟨⟨_, rfl, gw_at 1161 (by decide +kernel) rfl⟩, List.forall_mem_cons.mpr ⟨⟨_, rfl, gw_at 1199 (by decide +kernel) rfl⟩, List.forall_mem_cons.mpr ⟨⟨_, rfl, gw_at 1209 (by decide +kernel) rfl⟩, List.forall_mem_cons.mpr ⟨⟨_, rfl, gw_at 1221 (by decide +kernel) rfl⟩, List.forall_mem_cons.mpr ⟨⟨_, rfl, gw_at 1257 (by decide +kernel) rfl⟩, List.forall_mem_cons.mpr ⟨⟨_, rfl, gw_at 1261 (by decide +kernel) rfl⟩, List.forall_mem_cons.mpr ⟨⟨_, rfl, gw_at 1265 (by decide +kernel) rfl⟩, List.forall_mem_cons.mpr ⟨⟨_, rfl, gw_at 1269 (by decide +kernel) rfl⟩, List.forall_mem_cons.mpr ⟨⟨_, rfl, gw_at 1273 (by decide +kernel) rfl⟩, List.forall_mem_cons.mpr ⟨⟨_, rfl, gw_at 1277 (by decide +kernel) rfl⟩, List.forall_mem_cons.mpr ⟨⟨_, rfl, gw_at 1281 (by decide +kernel) rfl⟩, List.forall_mem_cons.mpr ⟨⟨_, rfl, gw_at 1285 (by decide +kernel) rfl⟩, List.forall_mem_cons.mpr ⟨⟨_, rfl, gw_at 1289 (by decide +kernel) rfl⟩, List.forall_mem_cons.mpr ⟨⟨_, rfl, gw_at 1301 (by decide +kernel) rfl⟩, fun _ h => absurd h List.not_mem_nil⟩⟩⟩⟩⟩⟩⟩⟩⟩⟩⟩⟩⟩⟩⟩⟩⟩⟩⟩⟩⟩⟩⟩⟩⟩⟩⟩⟩⟩⟩⟩⟩⟩⟩⟩⟩⟩⟩
theorem VL9_ok : ∀ q ∈ VL9, VOK (ownS 9) q.1 q.2 := List.forall_mem_cons.mpr ⟨⟨_, rfl, gw_at 343 (by decide +kernel) rfl⟩, List.forall_mem_cons.mpr ⟨⟨_, rfl, gw_at 368 (by decide +kernel) rfl⟩, List.forall_mem_cons.mpr ⟨⟨_, rfl, gw_at 384 (by decide +kernel) rfl⟩, List.forall_mem_cons.mpr ⟨⟨_, rfl, gw_at 399 (by decide +kernel) rfl⟩, List.forall_mem_cons.mpr ⟨⟨_, rfl, gw_at 407 (by decide +kernel) rfl⟩, List.forall_mem_cons.mpr ⟨⟨_, rfl, gw_at 416 (by decide +kernel) rfl⟩, List.forall_mem_cons.mpr ⟨⟨_, rfl, gw_at 516 (by decide +kernel) rfl⟩, List.forall_mem_cons.mpr ⟨⟨_, rfl, gw_at 520 (by decide +kernel) rfl⟩, List.forall_mem_cons.mpr ⟨⟨_, rfl, gw_at 533 (by decide +kernel) rfl⟩, List.forall_mem_cons.mpr ⟨⟨_, rfl, gw_at 580 (by decide +kernel) rfl⟩, List.forall_mem_cons.mpr ⟨⟨_, rfl, gw_at 585 (by decide +kernel) rfl⟩, List.forall_mem_cons.mpr ⟨⟨_, rfl, gw_at 592 (by decide +kernel) rfl⟩, List.forall_mem_cons.mpr ⟨⟨_, rfl, gw_at 596 (by decide +kernel) rfl⟩, List.forall_mem_cons.mpr ⟨⟨_, rfl, gw_at 604 (by decide +kernel) rfl⟩, List.forall_mem_cons.mpr ⟨⟨_, rfl, gw_at 615 (by decide +kernel) rfl⟩, List.forall_mem_cons.mpr ⟨⟨_, rfl, gw_at 619 (by decide +kernel) rfl⟩, List.forall_mem_cons.mpr ⟨⟨_, rfl, gw_at 623 (by decide +kernel) rfl⟩, List.forall_mem_cons.mpr ⟨⟨_, rfl, gw_at 633 (by decide +kernel) rfl⟩, List.forall_mem_cons.mpr ⟨⟨_, rfl, gw_at 643 (by decide +kernel) rfl⟩, List.forall_mem_cons.mpr ⟨⟨_, rfl, gw_at 661 (by decide +kernel) rfl⟩, List.forall_mem_cons.mpr ⟨⟨_, rfl, gw_at 673 (by decide +kernel) rfl⟩, List.forall_mem_cons.mpr ⟨⟨_, rfl, gw_at 688 (by decide +kernel) rfl⟩, List.forall_mem_cons.mpr ⟨⟨_, rfl, gw_at 697 (by decide +kernel) rfl⟩, List.forall_mem_cons.mpr ⟨⟨_, rfl, gw_at 712 (by decide +kernel) rfl⟩, List.forall_mem_cons.mpr ⟨⟨_, rfl, gw_at 720 (by decide +kernel) rfl⟩, List.forall_mem_cons.mpr ⟨⟨_, rfl, gw_at 731 (by decide +kernel) rfl⟩, List.forall_mem_cons.mpr ⟨⟨_, rfl, gw_at 745 (by decide +kernel) rfl⟩, List.forall_mem_cons.mpr ⟨⟨_, rfl, gw_at 768 (by decide +kernel) rfl⟩, List.forall_mem_cons.mpr ⟨⟨_, rfl, gw_at 777 (by decide +kernel) rfl⟩, List.forall_mem_cons.mpr ⟨⟨_, rfl, gw_at 793 (by decide +kernel) rfl⟩, List.forall_mem_cons.mpr ⟨⟨_, rfl, gw_at 805 (by decide +kernel) rfl⟩, List.forall_mem_cons.mpr ⟨⟨_, rfl, gw_at 809 (by decide +kernel) rfl⟩, List.forall_mem_cons.mpr ⟨⟨_, rfl, gw_at 813 (by decide +kernel) rfl⟩, List.forall_mem_cons.mpr ⟨⟨_, rfl, gw_at 817 (by decide +kernel) rfl⟩, List.forall_mem_cons.mpr ⟨⟨_, rfl, gw_at 821 (by decide +kernel) rfl⟩, List.forall_mem_cons.mpr ⟨⟨_, rfl, gw_at 850 (by decide +kernel) rfl⟩, List.forall_mem_cons.mpr ⟨⟨_, rfl, gw_at 854 (by decide +kernel) rfl⟩, List.forall_mem_cons.mpr ⟨⟨_, rfl, gw_at 863 (by decide +kernel) rfl⟩, List.forall_mem_cons.mpr ⟨⟨_, rfl, gw_at 953 (by decide +kernel) rfl⟩, List.forall_mem_cons.mpr ⟨⟨_, rfl, gw_at 975 (by decide +kernel) rfl⟩, List.forall_mem_cons.mpr ⟨⟨_, rfl, gw_at 986 (by decide +kernel) rfl⟩, List.forall_mem_cons.mpr ⟨⟨_, rfl, gw_at 990 (by decide +kernel) rfl⟩, List.forall_mem_cons.mpr ⟨⟨_, rfl, gw_at 994 (by decide +kernel) rfl⟩, List.forall_mem_cons.mpr ⟨⟨_, rfl, gw_at 1000 (by decide +kernel) rfl⟩, List.forall_mem_cons.mpr ⟨⟨_, rfl, gw_at 1053 (by decide +kernel) rfl⟩, List.forall_mem_cons.mpr ⟨⟨_, rfl, gw_at 1057 (by decide +kernel) rfl⟩, List.forall_mem_cons.mpr ⟨⟨_, rfl, gw_at 1062 (by decide +kernel) rfl⟩, List.forall_mem_cons.mpr ⟨⟨_, rfl, gw_at 1098 (by decide +kernel) rfl⟩, List.forall_mem_cons.mpr ⟨⟨_, rfl, gw_at 1108 (by decide +kernel) rfl⟩, List.forall_mem_cons.mpr ⟨⟨_, rfl, gw_at 1113 (by decide +kernel) rfl⟩, List.forall_mem_cons.mpr ⟨⟨_, rfl, gw_at 1119 (by decide +kernel) rfl⟩, List.forall_mem_cons.mpr ⟨⟨_, rfl, gw_at 1123 (by decide +kernel) rfl⟩, List.forall_mem_cons.mpr ⟨⟨_, rfl, gw_at 1128 (by decide +kernel) rfl⟩, List.forall_mem_cons.mpr ⟨⟨_, rfl, gw_at 1132 (by decide +kernel) rfl⟩, List.forall_mem_cons.mpr ⟨⟨_, rfl, gw_at 1136 (by decide +kernel) rfl⟩, List.forall_mem_cons.mpr ⟨⟨_, rfl, gw_at 1149 (by decide +kernel) rfl⟩, List.forall_mem_cons.mpr ⟨⟨_, rfl, gw_at 1157 (by decide +kernel) rfl⟩, List.forall_mem_cons.mpr ⟨⟨_, rfl, gw_at 1166 (by decide +kernel) rfl⟩, List.forall_mem_cons.mpr ⟨⟨_, rfl, gw_at 1173 (by decide +kernel) rfl⟩, List.forall_mem_cons.mpr ⟨⟨_, rfl, gw_at 1178 (by decide +kernel) rfl⟩, List.forall_mem_cons.mpr ⟨⟨_, rfl, gw_at 1183 (by decide +kernel) rfl⟩, List.forall_mem_cons.mpr ⟨⟨_, rfl, gw_at 1187 (by decide +kernel) rfl⟩, List.forall_mem_cons.mpr ⟨⟨_, rfl, gw_at 1191 (by decide +kernel) rfl⟩, List.forall_mem_cons.mpr ⟨⟨_, rfl, gw_at 1195 (by decide +kernel) rfl⟩, List.forall_mem_cons.mpr ⟨⟨_, rfl, gw_at 1203 (by decide +kernel) rfl⟩, List.forall_mem_cons.mpr ⟨⟨_, rfl, gw_at 1213 (by decide +kernel) rfl⟩, List.forall_mem_cons.mpr ⟨⟨_, rfl, gw_at 1217 (by decide +kernel) rfl⟩, List.forall_mem_cons.mpr ⟨⟨_, rfl, gw_at 1225 (by decide +kernel) rfl⟩, List.forall_mem_cons.mpr ⟨⟨_, rfl, gw_at 1234 (by decide +kernel) rfl⟩, List.forall_mem_cons.mpr ⟨⟨_, rfl, gw_at 1238 (by decide +kernel) rfl⟩, List.forall_mem_cons.mpr ⟨⟨_, rfl, gw_at 1242 (by decide +kernel) rfl⟩, List.forall_mem_cons.mpr ⟨⟨_, rfl, gw_at 1246 (by decide +kernel) rfl⟩, List.forall_mem_cons.mpr ⟨⟨_, rfl, gw_at 1253 (by decide +kernel) rfl⟩, List.forall_mem_cons.mpr ⟨⟨_, rfl, gw_at 1293 (by decide +kernel) rfl⟩, List.forall_mem_cons.mpr ⟨⟨_, rfl, gw_at 1297 (by decide +kernel) rfl⟩, List.forall_mem_cons.mpr ⟨⟨_, rfl, gw_at 1305 (by decide +kernel) rfl⟩, fun _ h => absurd h List.not_mem_nil⟩⟩⟩⟩⟩⟩⟩⟩⟩⟩⟩⟩⟩⟩⟩⟩⟩⟩⟩⟩⟩⟩⟩⟩⟩⟩⟩⟩⟩⟩⟩⟩⟩⟩⟩⟩⟩⟩⟩⟩⟩⟩⟩⟩⟩⟩⟩⟩⟩⟩⟩⟩⟩⟩⟩⟩⟩⟩⟩⟩⟩⟩⟩⟩⟩⟩⟩⟩⟩⟩⟩⟩⟩⟩⟩⟩
theorem VL_ok : ∀ (oi : Nat) (q), q ∈ VL oi → VOK (ownS oi) q.1 q.2 := fun oi q h => by
  match oi, h with
  | 0, h => exact VL0_ok q h
  | 1, h => exact VL1_ok q h
  | 2, h => exact VL2_ok q h
  | 3, h => exact VL3_ok q h
  | 4, h => exact VL4_ok q h
  | 5, h => exact VL5_ok q h
  | 6, h => exact VL6_ok q h
  | 7, h => exact VL7_ok q h
  | 8, h => exact VL8_ok q h
  | 9, h => exact VL9_ok q h
  | _ + 10, h => cases h
def SOK (own : String) (ix m : Nat) : Prop := ∃ q : MM, nth mil m = some q ∧ ((q.1.cls = own ∧ Cond.methodLink own ix q.1 ∈ gw) ∨ (own, ix, q.1, RX7) ∈ nestT)
def SL0 : List (Nat × Nat) := []
def SL1 : List (Nat × Nat) := [(53, 118)]
def SL2 : List (Nat × Nat) := [(69, 119)]
def SL3 : List (Nat × Nat) := []
def SL4 : List (Nat × Nat) := []
def SL5 : List (Nat × Nat) := [(83, 47), (112, 120), (120, 119)]
def SL6 : List (Nat × Nat) := [(128, 75), (121, 118), (68, 76), (78, 77)]
def SL7 : List (Nat × Nat) := [(69, 118), (249, 120)]
def SL8 : List (Nat × Nat) := [(64, 126), (60, 121), (82, 128), (121, 140), (128, 142), (165, 123), (221, 122), (254, 190)]
def SL9 : List (Nat × Nat) := []
def SL (oi : Nat) : List (Nat × Nat) := match oi with | 0 => SL0 | 1 => SL1 | 2 => SL2 | 3 => SL3 | 4 => SL4 | 5 => SL5 | 6 => SL6 | 7 => SL7 | 8 => SL8 | 9 => SL9 | _ => []
theorem SL0_ok : ∀ q ∈ SL0, SOK (ownS 0) q.1 q.2 := fun _ h => absurd h List.not_mem_nil
theorem SL1_ok : ∀ q ∈ SL1, SOK (ownS 1) q.1 q.2 := List.forall_mem_cons.mpr ⟨⟨_, rfl, Or.inr (List.mem_of_getElem? (i := 4) rfl)⟩, fun _ h => absurd h List.not_mem_nil⟩
theorem SL2_ok : ∀ q ∈ SL2, SOK (ownS 2) q.1 q.2 := List.forall_mem_cons.mpr ⟨⟨_, rfl, Or.inr (List.mem_of_getElem? (i := 1) rfl)⟩, fun _ h => absurd h List.not_mem_nil⟩
theorem SL3_ok : ∀ q ∈ SL3, SOK (ownS 3) q.1 q.2 := fun _ h => absurd h List.not_mem_nil
theorem SL4_ok : ∀ q ∈ SL4, SOK (ownS 4) q.1 q.2 := fun _ h => absurd h List.not_mem_nil
theorem SL5_ok : ∀ q ∈ SL5, SOK (ownS 5) q.1 q.2 := List.forall_mem_cons.mpr ⟨⟨_, rfl, Or.inl ⟨rfl, gw_at 685 (by decide +kernel) rfl⟩⟩, List.forall_mem_cons.mpr ⟨⟨_, rfl, Or.inr (List.mem_of_getElem? (i := 2) rfl)⟩, List.forall_mem_cons.mpr ⟨⟨_, rfl, Or.inr (List.mem_of_getElem? (i := 3) rfl)⟩, fun _ h => absurd h List.not_mem_nil⟩⟩⟩
theorem SL6_ok : ∀ q ∈ SL6, SOK (ownS 6) q.1 q.2 := List.forall_mem_cons.mpr ⟨⟨_, rfl, Or.inl ⟨rfl, gw_at 456 (by decide +kernel) rfl⟩⟩, List.forall_mem_cons.mpr ⟨⟨_, rfl, Or.inr (List.mem_of_getElem? (i := 0) rfl)⟩, List.forall_mem_cons.mpr ⟨⟨_, rfl, Or.inl ⟨rfl, gw_at 464 (by decide +kernel) rfl⟩⟩, List.forall_mem_cons.mpr ⟨⟨_, rfl, Or.inl ⟨rfl, gw_at 471 (by decide +kernel) rfl⟩⟩, fun _ h => absurd h List.not_mem_nil⟩⟩⟩⟩
theorem SL7_ok : ∀ q ∈ SL7, SOK (ownS 7) q.1 q.2 := List.forall_mem_cons.mpr ⟨⟨_, rfl, Or.inl ⟨rfl, gw_at 351 (by decide +kernel) rfl⟩⟩, List.forall_mem_cons.mpr ⟨⟨_, rfl, Or.inl ⟨rfl, gw_at 735 (by decide +kernel) rfl⟩⟩, fun _ h => absurd h List.not_mem_nil⟩⟩
theorem SL8_ok : ∀ q ∈ SL8, SOK (ownS 8) q.1 q.2 := List.forall_mem_cons.mpr ⟨⟨_, rfl, Or.inl ⟨rfl, gw_at 957 (by decide +kernel) rfl⟩⟩, List.forall_mem_cons.mpr ⟨⟨_, rfl, Or.inl ⟨rfl, gw_at 961 (by decide +kernel) rfl⟩⟩, List.forall_mem_cons.mpr ⟨⟨_, rfl, Or.inl ⟨rfl, gw_at 983 (by decide +kernel) rfl⟩⟩, List.forall_mem_cons.mpr ⟨⟨_, rfl, Or.inl ⟨rfl, gw_at 1034 (by decide +kernel) rfl⟩⟩, List.forall_mem_cons.mpr ⟨⟨_, rfl, Or.inl ⟨rfl, gw_at 1045 (by decide +kernel) rfl⟩⟩, List.forall_mem_cons.mpr ⟨⟨_, rfl, Or.inl ⟨rfl, gw_at 1091 (by decide +kernel) rfl⟩⟩, List.forall_mem_cons.mpr ⟨⟨_, rfl, Or.inl ⟨rfl, gw_at 1170 (by decide +kernel) rfl⟩⟩, List.forall_mem_cons.mpr ⟨⟨_, rfl, Or.inl ⟨rfl, gw_at 1250 (by decide +kernel) rfl⟩⟩, fun _ h => absurd h List.not_mem_nil⟩⟩⟩⟩⟩⟩⟩⟩
theorem SL9_ok : ∀ q ∈ SL9, SOK (ownS 9) q.1 q.2 := fun _ h => absurd h List.not_mem_nil
theorem SL_ok : ∀ (oi : Nat) (q), q ∈ SL oi → SOK (ownS oi) q.1 q.2 := fun oi q h => by
  match oi, h with
  | 0, h => exact SL0_ok q h
  | 1, h => exact SL1_ok q h
  | 2, h => exact SL2_ok q h
  | 3, h => exact SL3_ok q h
  | 4, h => exact SL4_ok q h
  | 5, h => exact SL5_ok q h
  | 6, h => exact SL6_ok q h
  | 7, h => exact SL7_ok q h
  | 8, h => exact SL8_ok q h
  | 9, h => exact SL9_ok q h
  | _ + 10, h => cases h
def YL0 : List (Nat) := []
def YL1 : List (Nat) := []
def YL2 : List (Nat) := [55]
def YL3 : List (Nat) := [29]
def YL4 : List (Nat) := [24]
def YL5 : List (Nat) := [67]
def YL6 : List (Nat) := []
def YL7 : List (Nat) := []
def YL8 : List (Nat) := []
def YL9 : List (Nat) := []
def YL (oi : Nat) : List (Nat) := match oi with | 0 => YL0 | 1 => YL1 | 2 => YL2 | 3 => YL3 | 4 => YL4 | 5 => YL5 | 6 => YL6 | 7 => YL7 | 8 => YL8 | 9 => YL9 | _ => []
theorem YL0_ok : ∀ q ∈ YL0, Cond.methodLink (ownS 0) q arraycopyName ∈ gw := fun _ h => absurd h List.not_mem_nil
theorem YL1_ok : ∀ q ∈ YL1, Cond.methodLink (ownS 1) q arraycopyName ∈ gw := fun _ h => absurd h List.not_mem_nil
theorem YL2_ok : ∀ q ∈ YL2, Cond.methodLink (ownS 2) q arraycopyName ∈ gw := List.forall_mem_cons.mpr ⟨gw_at 511 (by decide +kernel) rfl, fun _ h => absurd h List.not_mem_nil⟩
theorem YL3_ok : ∀ q ∈ YL3, Cond.methodLink (ownS 3) q arraycopyName ∈ gw := List.forall_mem_cons.mpr ⟨gw_at 759 (by decide +kernel) rfl, fun _ h => absurd h List.not_mem_nil⟩
theorem YL4_ok : ∀ q ∈ YL4, Cond.methodLink (ownS 4) q arraycopyName ∈ gw := List.forall_mem_cons.mpr ⟨gw_at 396 (by decide +kernel) rfl, fun _ h => absurd h List.not_mem_nil⟩
theorem YL5_ok : ∀ q ∈ YL5, Cond.methodLink (ownS 5) q arraycopyName ∈ gw := List.forall_mem_cons.mpr ⟨gw_at 655 (by decide +kernel) rfl, fun _ h => absurd h List.not_mem_nil⟩
theorem YL6_ok : ∀ q ∈ YL6, Cond.methodLink (ownS 6) q arraycopyName ∈ gw := fun _ h => absurd h List.not_mem_nil
theorem YL7_ok : ∀ q ∈ YL7, Cond.methodLink (ownS 7) q arraycopyName ∈ gw := fun _ h => absurd h List.not_mem_nil
theorem YL8_ok : ∀ q ∈ YL8, Cond.methodLink (ownS 8) q arraycopyName ∈ gw := fun _ h => absurd h List.not_mem_nil
theorem YL9_ok : ∀ q ∈ YL9, Cond.methodLink (ownS 9) q arraycopyName ∈ gw := fun _ h => absurd h List.not_mem_nil
theorem YL_ok : ∀ (oi : Nat) (q), q ∈ YL oi → Cond.methodLink (ownS oi) q arraycopyName ∈ gw := fun oi q h => by
  match oi, h with
  | 0, h => exact YL0_ok q h
  | 1, h => exact YL1_ok q h
  | 2, h => exact YL2_ok q h
  | 3, h => exact YL3_ok q h
  | 4, h => exact YL4_ok q h
  | 5, h => exact YL5_ok q h
  | 6, h => exact YL6_ok q h
  | 7, h => exact YL7_ok q h
  | 8, h => exact YL8_ok q h
  | 9, h => exact YL9_ok q h
  | _ + 10, h => cases h
def AL0 : List (Nat) := []
def AL1 : List (Nat) := []
def AL2 : List (Nat) := []
def AL3 : List (Nat) := [39]
def AL4 : List (Nat) := []
def AL5 : List (Nat) := [76]
def AL6 : List (Nat) := []
def AL7 : List (Nat) := []
def AL8 : List (Nat) := []
def AL9 : List (Nat) := []
def AL (oi : Nat) : List (Nat) := match oi with | 0 => AL0 | 1 => AL1 | 2 => AL2 | 3 => AL3 | 4 => AL4 | 5 => AL5 | 6 => AL6 | 7 => AL7 | 8 => AL8 | 9 => AL9 | _ => []
theorem AL0_ok : ∀ q ∈ AL0, Cond.methodLink (ownS 0) q Lib.Math.abs.name ∈ gw := fun _ h => absurd h List.not_mem_nil
theorem AL1_ok : ∀ q ∈ AL1, Cond.methodLink (ownS 1) q Lib.Math.abs.name ∈ gw := fun _ h => absurd h List.not_mem_nil
theorem AL2_ok : ∀ q ∈ AL2, Cond.methodLink (ownS 2) q Lib.Math.abs.name ∈ gw := fun _ h => absurd h List.not_mem_nil
theorem AL3_ok : ∀ q ∈ AL3, Cond.methodLink (ownS 3) q Lib.Math.abs.name ∈ gw := List.forall_mem_cons.mpr ⟨gw_at 758 (by decide +kernel) rfl, fun _ h => absurd h List.not_mem_nil⟩
theorem AL4_ok : ∀ q ∈ AL4, Cond.methodLink (ownS 4) q Lib.Math.abs.name ∈ gw := fun _ h => absurd h List.not_mem_nil
theorem AL5_ok : ∀ q ∈ AL5, Cond.methodLink (ownS 5) q Lib.Math.abs.name ∈ gw := List.forall_mem_cons.mpr ⟨gw_at 669 (by decide +kernel) rfl, fun _ h => absurd h List.not_mem_nil⟩
theorem AL6_ok : ∀ q ∈ AL6, Cond.methodLink (ownS 6) q Lib.Math.abs.name ∈ gw := fun _ h => absurd h List.not_mem_nil
theorem AL7_ok : ∀ q ∈ AL7, Cond.methodLink (ownS 7) q Lib.Math.abs.name ∈ gw := fun _ h => absurd h List.not_mem_nil
theorem AL8_ok : ∀ q ∈ AL8, Cond.methodLink (ownS 8) q Lib.Math.abs.name ∈ gw := fun _ h => absurd h List.not_mem_nil
theorem AL9_ok : ∀ q ∈ AL9, Cond.methodLink (ownS 9) q Lib.Math.abs.name ∈ gw := fun _ h => absurd h List.not_mem_nil
theorem AL_ok : ∀ (oi : Nat) (q), q ∈ AL oi → Cond.methodLink (ownS oi) q Lib.Math.abs.name ∈ gw := fun oi q h => by
  match oi, h with
  | 0, h => exact AL0_ok q h
  | 1, h => exact AL1_ok q h
  | 2, h => exact AL2_ok q h
  | 3, h => exact AL3_ok q h
  | 4, h => exact AL4_ok q h
  | 5, h => exact AL5_ok q h
  | 6, h => exact AL6_ok q h
  | 7, h => exact AL7_ok q h
  | 8, h => exact AL8_ok q h
  | 9, h => exact AL9_ok q h
  | _ + 10, h => cases h
theorem ac_nat : Cond.native arraycopyName ∈ gw := gw_at 398 (by decide +kernel) rfl
theorem ac_stat : Cond.static arraycopyName ∈ gw := gw_at 397 (by decide +kernel) rfl
theorem ac_ini : Cond.initialized "java/lang/System" ∈ gw := gw_at 79 (by decide +kernel) rfl
theorem ma_stat : Cond.static Lib.Math.abs.name ∈ gw := gw_at 670 (by decide +kernel) rfl
theorem ma_ini : Cond.initialized "java/lang/Math" ∈ gw := gw_at 80 (by decide +kernel) rfl
set_option maxRecDepth 20000 in
theorem ma_code : Cond.code Lib.Math.abs.name Lib.Math.abs.code 1 (some .int) ∈ gw := gw_at 671 rfl rfl
end
