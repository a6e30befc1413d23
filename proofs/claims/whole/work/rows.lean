section
-- ===== PART A: goes FIRST, ahead of the names: the tables' words, and 'selects' of the private methods out of them =====
/-- a private method of a class that the tables say can be made, by its rows of tables_1 -/
def lw_okq (q : MethodName × Nat) : Prop := (q.1.cls ≠ "java/lang/invoke/MethodHandle" ∧ q.1.cls ≠ "java/lang/invoke/VarHandle") ∧ Cond.instantiable q.1.cls q.2 ∈ tables_1 ∧ Cond.privateMethod q.1 ∈ tables_1 ∧ Cond.instanceMethod q.1 ∈ tables_1
theorem lw_p0 : lw_okq (⟨"MirrorWires", "isGate", "(I)Z"⟩, 9) := ⟨⟨by decide +kernel, by decide +kernel⟩, List.mem_of_getElem? (i := 14) (by decide +kernel), List.mem_of_getElem? (i := 224) (by decide +kernel), List.mem_of_getElem? (i := 225) (by decide +kernel)⟩
theorem lw_p1 : lw_okq (⟨"MirrorWires", "isState", "(I)Z"⟩, 9) := ⟨⟨by decide +kernel, by decide +kernel⟩, List.mem_of_getElem? (i := 14) (by decide +kernel), List.mem_of_getElem? (i := 241) (by decide +kernel), List.mem_of_getElem? (i := 242) (by decide +kernel)⟩
theorem lw_p2 : lw_okq (⟨"MirrorWires$Tape", "readWires", "(LMirrorWires$Board;)Z"⟩, 3) := ⟨⟨by decide +kernel, by decide +kernel⟩, List.mem_of_getElem? (i := 80) (by decide +kernel), List.mem_of_getElem? (i := 277) (by decide +kernel), List.mem_of_getElem? (i := 278) (by decide +kernel)⟩
theorem lw_p3 : lw_okq (⟨"MirrorWires$Tape", "skipBlanks", "()V"⟩, 3) := ⟨⟨by decide +kernel, by decide +kernel⟩, List.mem_of_getElem? (i := 80) (by decide +kernel), List.mem_of_getElem? (i := 281) (by decide +kernel), List.mem_of_getElem? (i := 282) (by decide +kernel)⟩
theorem lw_p4 : lw_okq (⟨"MirrorWires$Tape", "digitHere", "()I"⟩, 3) := ⟨⟨by decide +kernel, by decide +kernel⟩, List.mem_of_getElem? (i := 80) (by decide +kernel), List.mem_of_getElem? (i := 285) (by decide +kernel), List.mem_of_getElem? (i := 286) (by decide +kernel)⟩
theorem lw_p5 : lw_okq (⟨"MirrorWires$Tape", "readBits", "(LMirrorWires$Board;)Z"⟩, 3) := ⟨⟨by decide +kernel, by decide +kernel⟩, List.mem_of_getElem? (i := 80) (by decide +kernel), List.mem_of_getElem? (i := 290) (by decide +kernel), List.mem_of_getElem? (i := 291) (by decide +kernel)⟩
theorem lw_p6 : lw_okq (⟨"MirrorWires$Tape", "takes", "(C)Z"⟩, 3) := ⟨⟨by decide +kernel, by decide +kernel⟩, List.mem_of_getElem? (i := 80) (by decide +kernel), List.mem_of_getElem? (i := 294) (by decide +kernel), List.mem_of_getElem? (i := 295) (by decide +kernel)⟩
theorem lw_p7 : lw_okq (⟨"MirrorWires$Tape", "readGates", "(LMirrorWires$Board;)Z"⟩, 3) := ⟨⟨by decide +kernel, by decide +kernel⟩, List.mem_of_getElem? (i := 80) (by decide +kernel), List.mem_of_getElem? (i := 299) (by decide +kernel), List.mem_of_getElem? (i := 300) (by decide +kernel)⟩
theorem lw_p8 : lw_okq (⟨"MirrorWires$Tape", "isAtEnd", "()Z"⟩, 3) := ⟨⟨by decide +kernel, by decide +kernel⟩, List.mem_of_getElem? (i := 80) (by decide +kernel), List.mem_of_getElem? (i := 303) (by decide +kernel), List.mem_of_getElem? (i := 304) (by decide +kernel)⟩
theorem lw_p9 : lw_okq (⟨"MirrorWires$Tape", "readGate", "(LMirrorWires$Board;)Z"⟩, 3) := ⟨⟨by decide +kernel, by decide +kernel⟩, List.mem_of_getElem? (i := 80) (by decide +kernel), List.mem_of_getElem? (i := 307) (by decide +kernel), List.mem_of_getElem? (i := 308) (by decide +kernel)⟩
theorem lw_p10 : lw_okq (⟨"MirrorWires", "isWire", "(I)Z"⟩, 9) := ⟨⟨by decide +kernel, by decide +kernel⟩, List.mem_of_getElem? (i := 14) (by decide +kernel), List.mem_of_getElem? (i := 375) (by decide +kernel), List.mem_of_getElem? (i := 376) (by decide +kernel)⟩
theorem lw_p11 : lw_okq (⟨"MirrorWires", "areTwoGates", "(II)Z"⟩, 9) := ⟨⟨by decide +kernel, by decide +kernel⟩, List.mem_of_getElem? (i := 14) (by decide +kernel), List.mem_of_getElem? (i := 399) (by decide +kernel), List.mem_of_getElem? (i := 400) (by decide +kernel)⟩
theorem lw_p12 : lw_okq (⟨"MirrorWires$Foretold", "learnRuns", "()V"⟩, 8) := ⟨⟨by decide +kernel, by decide +kernel⟩, List.mem_of_getElem? (i := 99) (by decide +kernel), List.mem_of_getElem? (i := 468) (by decide +kernel), List.mem_of_getElem? (i := 469) (by decide +kernel)⟩
theorem lw_p13 : lw_okq (⟨"MirrorWires$Foretold", "countRing", "(I)V"⟩, 8) := ⟨⟨by decide +kernel, by decide +kernel⟩, List.mem_of_getElem? (i := 99) (by decide +kernel), List.mem_of_getElem? (i := 473) (by decide +kernel), List.mem_of_getElem? (i := 474) (by decide +kernel)⟩
theorem lw_p14 : lw_okq (⟨"MirrorWires$Foretold", "runChanged", "(III)I"⟩, 8) := ⟨⟨by decide +kernel, by decide +kernel⟩, List.mem_of_getElem? (i := 99) (by decide +kernel), List.mem_of_getElem? (i := 499) (by decide +kernel), List.mem_of_getElem? (i := 500) (by decide +kernel)⟩
theorem lw_p15 : lw_okq (⟨"MirrorWires$Foretold", "mayBeLeftOut", "(II)Z"⟩, 8) := ⟨⟨by decide +kernel, by decide +kernel⟩, List.mem_of_getElem? (i := 99) (by decide +kernel), List.mem_of_getElem? (i := 512) (by decide +kernel), List.mem_of_getElem? (i := 513) (by decide +kernel)⟩
def lw_privs_1 : List (MethodName × Nat) := [(⟨"MirrorWires", "isGate", "(I)Z"⟩, 9), (⟨"MirrorWires", "isState", "(I)Z"⟩, 9), (⟨"MirrorWires$Tape", "readWires", "(LMirrorWires$Board;)Z"⟩, 3), (⟨"MirrorWires$Tape", "skipBlanks", "()V"⟩, 3), (⟨"MirrorWires$Tape", "digitHere", "()I"⟩, 3), (⟨"MirrorWires$Tape", "readBits", "(LMirrorWires$Board;)Z"⟩, 3), (⟨"MirrorWires$Tape", "takes", "(C)Z"⟩, 3), (⟨"MirrorWires$Tape", "readGates", "(LMirrorWires$Board;)Z"⟩, 3), (⟨"MirrorWires$Tape", "isAtEnd", "()Z"⟩, 3), (⟨"MirrorWires$Tape", "readGate", "(LMirrorWires$Board;)Z"⟩, 3), (⟨"MirrorWires", "isWire", "(I)Z"⟩, 9), (⟨"MirrorWires", "areTwoGates", "(II)Z"⟩, 9), (⟨"MirrorWires$Foretold", "learnRuns", "()V"⟩, 8), (⟨"MirrorWires$Foretold", "countRing", "(I)V"⟩, 8), (⟨"MirrorWires$Foretold", "runChanged", "(III)I"⟩, 8), (⟨"MirrorWires$Foretold", "mayBeLeftOut", "(II)Z"⟩, 8)]
theorem lw_r1 : ∀ q ∈ lw_privs_1, lw_okq q := List.forall_mem_cons.mpr ⟨lw_p0, List.forall_mem_cons.mpr ⟨lw_p1, List.forall_mem_cons.mpr ⟨lw_p2, List.forall_mem_cons.mpr ⟨lw_p3, List.forall_mem_cons.mpr ⟨lw_p4, List.forall_mem_cons.mpr ⟨lw_p5, List.forall_mem_cons.mpr ⟨lw_p6, List.forall_mem_cons.mpr ⟨lw_p7, List.forall_mem_cons.mpr ⟨lw_p8, List.forall_mem_cons.mpr ⟨lw_p9, List.forall_mem_cons.mpr ⟨lw_p10, List.forall_mem_cons.mpr ⟨lw_p11, List.forall_mem_cons.mpr ⟨lw_p12, List.forall_mem_cons.mpr ⟨lw_p13, List.forall_mem_cons.mpr ⟨lw_p14, List.forall_mem_cons.mpr ⟨lw_p15, fun _ h => absurd h List.not_mem_nil⟩⟩⟩⟩⟩⟩⟩⟩⟩⟩⟩⟩⟩⟩⟩⟩
theorem lw_p16 : lw_okq (⟨"MirrorWires$Foretold", "nearerGate", "(I)I"⟩, 8) := ⟨⟨by decide +kernel, by decide +kernel⟩, List.mem_of_getElem? (i := 99) (by decide +kernel), List.mem_of_getElem? (i := 549) (by decide +kernel), List.mem_of_getElem? (i := 550) (by decide +kernel)⟩
theorem lw_p17 : lw_okq (⟨"MirrorWires$Foretold", "weight", "(II)I"⟩, 8) := ⟨⟨by decide +kernel, by decide +kernel⟩, List.mem_of_getElem? (i := 99) (by decide +kernel), List.mem_of_getElem? (i := 584) (by decide +kernel), List.mem_of_getElem? (i := 585) (by decide +kernel)⟩
theorem lw_p18 : lw_okq (⟨"MirrorWires", "areStates", "(III)Z"⟩, 9) := ⟨⟨by decide +kernel, by decide +kernel⟩, List.mem_of_getElem? (i := 14) (by decide +kernel), List.mem_of_getElem? (i := 604) (by decide +kernel), List.mem_of_getElem? (i := 605) (by decide +kernel)⟩
theorem lw_p19 : lw_okq (⟨"MirrorWires$Foretold", "tellsOf", "(LMirrorWires$Sheet;IIIII)Z"⟩, 8) := ⟨⟨by decide +kernel, by decide +kernel⟩, List.mem_of_getElem? (i := 99) (by decide +kernel), List.mem_of_getElem? (i := 627) (by decide +kernel), List.mem_of_getElem? (i := 628) (by decide +kernel)⟩
theorem lw_p20 : lw_okq (⟨"MirrorWires$Sheet", "cut", "(J)J"⟩, 4) := ⟨⟨by decide +kernel, by decide +kernel⟩, List.mem_of_getElem? (i := 135) (by decide +kernel), List.mem_of_getElem? (i := 656) (by decide +kernel), List.mem_of_getElem? (i := 657) (by decide +kernel)⟩
theorem lw_p21 : lw_okq (⟨"MirrorWiresModel", "clear", "(I)V"⟩, 15) := ⟨⟨by decide +kernel, by decide +kernel⟩, List.mem_of_getElem? (i := 685) (by decide +kernel), List.mem_of_getElem? (i := 744) (by decide +kernel), List.mem_of_getElem? (i := 745) (by decide +kernel)⟩
theorem lw_p22 : lw_okq (⟨"MirrorWiresModel", "isWire", "(I)Z"⟩, 15) := ⟨⟨by decide +kernel, by decide +kernel⟩, List.mem_of_getElem? (i := 685) (by decide +kernel), List.mem_of_getElem? (i := 752) (by decide +kernel), List.mem_of_getElem? (i := 753) (by decide +kernel)⟩
theorem lw_p23 : lw_okq (⟨"MirrorWiresModel", "put", "(IIIII)I"⟩, 15) := ⟨⟨by decide +kernel, by decide +kernel⟩, List.mem_of_getElem? (i := 685) (by decide +kernel), List.mem_of_getElem? (i := 762) (by decide +kernel), List.mem_of_getElem? (i := 763) (by decide +kernel)⟩
theorem lw_p24 : lw_okq (⟨"MirrorWiresModel", "isGate", "(I)Z"⟩, 15) := ⟨⟨by decide +kernel, by decide +kernel⟩, List.mem_of_getElem? (i := 685) (by decide +kernel), List.mem_of_getElem? (i := 770) (by decide +kernel), List.mem_of_getElem? (i := 771) (by decide +kernel)⟩
theorem lw_p25 : lw_okq (⟨"MirrorWiresModel", "isState", "(I)Z"⟩, 15) := ⟨⟨by decide +kernel, by decide +kernel⟩, List.mem_of_getElem? (i := 685) (by decide +kernel), List.mem_of_getElem? (i := 778) (by decide +kernel), List.mem_of_getElem? (i := 779) (by decide +kernel)⟩
theorem lw_p26 : lw_okq (⟨"MirrorWiresModel", "states", "()I"⟩, 15) := ⟨⟨by decide +kernel, by decide +kernel⟩, List.mem_of_getElem? (i := 685) (by decide +kernel), List.mem_of_getElem? (i := 782) (by decide +kernel), List.mem_of_getElem? (i := 783) (by decide +kernel)⟩
theorem lw_p27 : lw_okq (⟨"MirrorWiresModel", "doneIn", "(III)I"⟩, 15) := ⟨⟨by decide +kernel, by decide +kernel⟩, List.mem_of_getElem? (i := 685) (by decide +kernel), List.mem_of_getElem? (i := 786) (by decide +kernel), List.mem_of_getElem? (i := 787) (by decide +kernel)⟩
theorem lw_p28 : lw_okq (⟨"MirrorWiresModel", "readWires", "()I"⟩, 15) := ⟨⟨by decide +kernel, by decide +kernel⟩, List.mem_of_getElem? (i := 685) (by decide +kernel), List.mem_of_getElem? (i := 807) (by decide +kernel), List.mem_of_getElem? (i := 808) (by decide +kernel)⟩
theorem lw_p29 : lw_okq (⟨"MirrorWiresModel", "digit", "(II)I"⟩, 15) := ⟨⟨by decide +kernel, by decide +kernel⟩, List.mem_of_getElem? (i := 685) (by decide +kernel), List.mem_of_getElem? (i := 811) (by decide +kernel), List.mem_of_getElem? (i := 812) (by decide +kernel)⟩
theorem lw_p30 : lw_okq (⟨"MirrorWiresModel", "here", "()I"⟩, 15) := ⟨⟨by decide +kernel, by decide +kernel⟩, List.mem_of_getElem? (i := 685) (by decide +kernel), List.mem_of_getElem? (i := 815) (by decide +kernel), List.mem_of_getElem? (i := 816) (by decide +kernel)⟩
theorem lw_p31 : lw_okq (⟨"MirrorWiresModel", "fault", "(I)V"⟩, 15) := ⟨⟨by decide +kernel, by decide +kernel⟩, List.mem_of_getElem? (i := 685) (by decide +kernel), List.mem_of_getElem? (i := 819) (by decide +kernel), List.mem_of_getElem? (i := 820) (by decide +kernel)⟩
def lw_privs_2 : List (MethodName × Nat) := [(⟨"MirrorWires$Foretold", "nearerGate", "(I)I"⟩, 8), (⟨"MirrorWires$Foretold", "weight", "(II)I"⟩, 8), (⟨"MirrorWires", "areStates", "(III)Z"⟩, 9), (⟨"MirrorWires$Foretold", "tellsOf", "(LMirrorWires$Sheet;IIIII)Z"⟩, 8), (⟨"MirrorWires$Sheet", "cut", "(J)J"⟩, 4), (⟨"MirrorWiresModel", "clear", "(I)V"⟩, 15), (⟨"MirrorWiresModel", "isWire", "(I)Z"⟩, 15), (⟨"MirrorWiresModel", "put", "(IIIII)I"⟩, 15), (⟨"MirrorWiresModel", "isGate", "(I)Z"⟩, 15), (⟨"MirrorWiresModel", "isState", "(I)Z"⟩, 15), (⟨"MirrorWiresModel", "states", "()I"⟩, 15), (⟨"MirrorWiresModel", "doneIn", "(III)I"⟩, 15), (⟨"MirrorWiresModel", "readWires", "()I"⟩, 15), (⟨"MirrorWiresModel", "digit", "(II)I"⟩, 15), (⟨"MirrorWiresModel", "here", "()I"⟩, 15), (⟨"MirrorWiresModel", "fault", "(I)V"⟩, 15)]
theorem lw_r2 : ∀ q ∈ lw_privs_2, lw_okq q := List.forall_mem_cons.mpr ⟨lw_p16, List.forall_mem_cons.mpr ⟨lw_p17, List.forall_mem_cons.mpr ⟨lw_p18, List.forall_mem_cons.mpr ⟨lw_p19, List.forall_mem_cons.mpr ⟨lw_p20, List.forall_mem_cons.mpr ⟨lw_p21, List.forall_mem_cons.mpr ⟨lw_p22, List.forall_mem_cons.mpr ⟨lw_p23, List.forall_mem_cons.mpr ⟨lw_p24, List.forall_mem_cons.mpr ⟨lw_p25, List.forall_mem_cons.mpr ⟨lw_p26, List.forall_mem_cons.mpr ⟨lw_p27, List.forall_mem_cons.mpr ⟨lw_p28, List.forall_mem_cons.mpr ⟨lw_p29, List.forall_mem_cons.mpr ⟨lw_p30, List.forall_mem_cons.mpr ⟨lw_p31, fun _ h => absurd h List.not_mem_nil⟩⟩⟩⟩⟩⟩⟩⟩⟩⟩⟩⟩⟩⟩⟩⟩
theorem lw_p32 : lw_okq (⟨"MirrorWiresModel", "fine", "()Z"⟩, 15) := ⟨⟨by decide +kernel, by decide +kernel⟩, List.mem_of_getElem? (i := 685) (by decide +kernel), List.mem_of_getElem? (i := 823) (by decide +kernel), List.mem_of_getElem? (i := 824) (by decide +kernel)⟩
theorem lw_p33 : lw_okq (⟨"MirrorWiresModel", "readState", "(I)V"⟩, 15) := ⟨⟨by decide +kernel, by decide +kernel⟩, List.mem_of_getElem? (i := 685) (by decide +kernel), List.mem_of_getElem? (i := 827) (by decide +kernel), List.mem_of_getElem? (i := 828) (by decide +kernel)⟩
theorem lw_p34 : lw_okq (⟨"MirrorWiresModel", "need", "(I)V"⟩, 15) := ⟨⟨by decide +kernel, by decide +kernel⟩, List.mem_of_getElem? (i := 685) (by decide +kernel), List.mem_of_getElem? (i := 831) (by decide +kernel), List.mem_of_getElem? (i := 832) (by decide +kernel)⟩
theorem lw_p35 : lw_okq (⟨"MirrorWiresModel", "readGates", "(I)V"⟩, 15) := ⟨⟨by decide +kernel, by decide +kernel⟩, List.mem_of_getElem? (i := 685) (by decide +kernel), List.mem_of_getElem? (i := 835) (by decide +kernel), List.mem_of_getElem? (i := 836) (by decide +kernel)⟩
theorem lw_p36 : lw_okq (⟨"MirrorWiresModel", "readGate", "(I)V"⟩, 15) := ⟨⟨by decide +kernel, by decide +kernel⟩, List.mem_of_getElem? (i := 685) (by decide +kernel), List.mem_of_getElem? (i := 839) (by decide +kernel), List.mem_of_getElem? (i := 840) (by decide +kernel)⟩
theorem lw_p37 : lw_okq (⟨"MirrorWiresModel", "dead", "()I"⟩, 15) := ⟨⟨by decide +kernel, by decide +kernel⟩, List.mem_of_getElem? (i := 685) (by decide +kernel), List.mem_of_getElem? (i := 850) (by decide +kernel), List.mem_of_getElem? (i := 851) (by decide +kernel)⟩
theorem lw_p38 : lw_okq (⟨"MirrorWiresModel", "remember", "()V"⟩, 15) := ⟨⟨by decide +kernel, by decide +kernel⟩, List.mem_of_getElem? (i := 685) (by decide +kernel), List.mem_of_getElem? (i := 861) (by decide +kernel), List.mem_of_getElem? (i := 862) (by decide +kernel)⟩
theorem lw_p39 : lw_okq (⟨"MirrorWiresModel", "copyRow", "(III)V"⟩, 15) := ⟨⟨by decide +kernel, by decide +kernel⟩, List.mem_of_getElem? (i := 685) (by decide +kernel), List.mem_of_getElem? (i := 865) (by decide +kernel), List.mem_of_getElem? (i := 866) (by decide +kernel)⟩
theorem lw_p40 : lw_okq (⟨"MirrorWiresModel", "stepOn", "()V"⟩, 15) := ⟨⟨by decide +kernel, by decide +kernel⟩, List.mem_of_getElem? (i := 685) (by decide +kernel), List.mem_of_getElem? (i := 869) (by decide +kernel), List.mem_of_getElem? (i := 870) (by decide +kernel)⟩
theorem lw_p41 : lw_okq (⟨"MirrorWiresModel", "deaden", "(II)I"⟩, 15) := ⟨⟨by decide +kernel, by decide +kernel⟩, List.mem_of_getElem? (i := 685) (by decide +kernel), List.mem_of_getElem? (i := 889) (by decide +kernel), List.mem_of_getElem? (i := 890) (by decide +kernel)⟩
theorem lw_p42 : lw_okq (⟨"MirrorWiresModel", "swapIn", "(III)V"⟩, 15) := ⟨⟨by decide +kernel, by decide +kernel⟩, List.mem_of_getElem? (i := 685) (by decide +kernel), List.mem_of_getElem? (i := 901) (by decide +kernel), List.mem_of_getElem? (i := 902) (by decide +kernel)⟩
theorem lw_p43 : lw_okq (⟨"MirrorWiresModel", "runIn", "(II)I"⟩, 15) := ⟨⟨by decide +kernel, by decide +kernel⟩, List.mem_of_getElem? (i := 685) (by decide +kernel), List.mem_of_getElem? (i := 925) (by decide +kernel), List.mem_of_getElem? (i := 926) (by decide +kernel)⟩
theorem lw_p44 : lw_okq (⟨"MirrorWiresModel", "layRuns", "()V"⟩, 15) := ⟨⟨by decide +kernel, by decide +kernel⟩, List.mem_of_getElem? (i := 685) (by decide +kernel), List.mem_of_getElem? (i := 934) (by decide +kernel), List.mem_of_getElem? (i := 935) (by decide +kernel)⟩
theorem lw_p45 : lw_okq (⟨"MirrorWiresModel", "ringOf", "(I)I"⟩, 15) := ⟨⟨by decide +kernel, by decide +kernel⟩, List.mem_of_getElem? (i := 685) (by decide +kernel), List.mem_of_getElem? (i := 938) (by decide +kernel), List.mem_of_getElem? (i := 939) (by decide +kernel)⟩
theorem lw_p46 : lw_okq (⟨"MirrorWiresModel", "ringMany", "()I"⟩, 15) := ⟨⟨by decide +kernel, by decide +kernel⟩, List.mem_of_getElem? (i := 685) (by decide +kernel), List.mem_of_getElem? (i := 950) (by decide +kernel), List.mem_of_getElem? (i := 951) (by decide +kernel)⟩
theorem lw_p47 : lw_okq (⟨"MirrorWiresModel", "isLeast", "(I)Z"⟩, 15) := ⟨⟨by decide +kernel, by decide +kernel⟩, List.mem_of_getElem? (i := 685) (by decide +kernel), List.mem_of_getElem? (i := 954) (by decide +kernel), List.mem_of_getElem? (i := 955) (by decide +kernel)⟩
def lw_privs_3 : List (MethodName × Nat) := [(⟨"MirrorWiresModel", "fine", "()Z"⟩, 15), (⟨"MirrorWiresModel", "readState", "(I)V"⟩, 15), (⟨"MirrorWiresModel", "need", "(I)V"⟩, 15), (⟨"MirrorWiresModel", "readGates", "(I)V"⟩, 15), (⟨"MirrorWiresModel", "readGate", "(I)V"⟩, 15), (⟨"MirrorWiresModel", "dead", "()I"⟩, 15), (⟨"MirrorWiresModel", "remember", "()V"⟩, 15), (⟨"MirrorWiresModel", "copyRow", "(III)V"⟩, 15), (⟨"MirrorWiresModel", "stepOn", "()V"⟩, 15), (⟨"MirrorWiresModel", "deaden", "(II)I"⟩, 15), (⟨"MirrorWiresModel", "swapIn", "(III)V"⟩, 15), (⟨"MirrorWiresModel", "runIn", "(II)I"⟩, 15), (⟨"MirrorWiresModel", "layRuns", "()V"⟩, 15), (⟨"MirrorWiresModel", "ringOf", "(I)I"⟩, 15), (⟨"MirrorWiresModel", "ringMany", "()I"⟩, 15), (⟨"MirrorWiresModel", "isLeast", "(I)Z"⟩, 15)]
theorem lw_r3 : ∀ q ∈ lw_privs_3, lw_okq q := List.forall_mem_cons.mpr ⟨lw_p32, List.forall_mem_cons.mpr ⟨lw_p33, List.forall_mem_cons.mpr ⟨lw_p34, List.forall_mem_cons.mpr ⟨lw_p35, List.forall_mem_cons.mpr ⟨lw_p36, List.forall_mem_cons.mpr ⟨lw_p37, List.forall_mem_cons.mpr ⟨lw_p38, List.forall_mem_cons.mpr ⟨lw_p39, List.forall_mem_cons.mpr ⟨lw_p40, List.forall_mem_cons.mpr ⟨lw_p41, List.forall_mem_cons.mpr ⟨lw_p42, List.forall_mem_cons.mpr ⟨lw_p43, List.forall_mem_cons.mpr ⟨lw_p44, List.forall_mem_cons.mpr ⟨lw_p45, List.forall_mem_cons.mpr ⟨lw_p46, List.forall_mem_cons.mpr ⟨lw_p47, fun _ h => absurd h List.not_mem_nil⟩⟩⟩⟩⟩⟩⟩⟩⟩⟩⟩⟩⟩⟩⟩⟩
theorem lw_p48 : lw_okq (⟨"MirrorWiresModel", "beginTry", "()V"⟩, 15) := ⟨⟨by decide +kernel, by decide +kernel⟩, List.mem_of_getElem? (i := 685) (by decide +kernel), List.mem_of_getElem? (i := 973) (by decide +kernel), List.mem_of_getElem? (i := 974) (by decide +kernel)⟩
theorem lw_p49 : lw_okq (⟨"MirrorWiresModel", "isSame", "()Z"⟩, 15) := ⟨⟨by decide +kernel, by decide +kernel⟩, List.mem_of_getElem? (i := 685) (by decide +kernel), List.mem_of_getElem? (i := 977) (by decide +kernel), List.mem_of_getElem? (i := 978) (by decide +kernel)⟩
theorem lw_p50 : lw_okq (⟨"MirrorWiresModel", "killIn", "(I)V"⟩, 15) := ⟨⟨by decide +kernel, by decide +kernel⟩, List.mem_of_getElem? (i := 685) (by decide +kernel), List.mem_of_getElem? (i := 985) (by decide +kernel), List.mem_of_getElem? (i := 986) (by decide +kernel)⟩
theorem lw_p51 : lw_okq (⟨"MirrorWiresModel", "layYet", "(I)V"⟩, 15) := ⟨⟨by decide +kernel, by decide +kernel⟩, List.mem_of_getElem? (i := 685) (by decide +kernel), List.mem_of_getElem? (i := 997) (by decide +kernel), List.mem_of_getElem? (i := 998) (by decide +kernel)⟩
theorem lw_p52 : lw_okq (⟨"MirrorWiresModel", "kthOn", "(II)I"⟩, 15) := ⟨⟨by decide +kernel, by decide +kernel⟩, List.mem_of_getElem? (i := 685) (by decide +kernel), List.mem_of_getElem? (i := 1001) (by decide +kernel), List.mem_of_getElem? (i := 1002) (by decide +kernel)⟩
theorem lw_p53 : lw_okq (⟨"MirrorWiresModel", "shownBy", "(I)I"⟩, 15) := ⟨⟨by decide +kernel, by decide +kernel⟩, List.mem_of_getElem? (i := 685) (by decide +kernel), List.mem_of_getElem? (i := 1013) (by decide +kernel), List.mem_of_getElem? (i := 1014) (by decide +kernel)⟩
theorem lw_p54 : lw_okq (⟨"MirrorWiresModel", "found", "(IIII)I"⟩, 15) := ⟨⟨by decide +kernel, by decide +kernel⟩, List.mem_of_getElem? (i := 685) (by decide +kernel), List.mem_of_getElem? (i := 1043) (by decide +kernel), List.mem_of_getElem? (i := 1044) (by decide +kernel)⟩
theorem lw_p55 : lw_okq (⟨"MirrorWiresModel", "deaths", "(IIII)I"⟩, 15) := ⟨⟨by decide +kernel, by decide +kernel⟩, List.mem_of_getElem? (i := 685) (by decide +kernel), List.mem_of_getElem? (i := 1047) (by decide +kernel), List.mem_of_getElem? (i := 1048) (by decide +kernel)⟩
theorem lw_p56 : lw_okq (⟨"MirrorWiresModel", "isToldIn", "(IIIII)Z"⟩, 15) := ⟨⟨by decide +kernel, by decide +kernel⟩, List.mem_of_getElem? (i := 685) (by decide +kernel), List.mem_of_getElem? (i := 1051) (by decide +kernel), List.mem_of_getElem? (i := 1052) (by decide +kernel)⟩
theorem lw_p57 : lw_okq (⟨"MirrorWiresModel", "ups", "(IIII)I"⟩, 15) := ⟨⟨by decide +kernel, by decide +kernel⟩, List.mem_of_getElem? (i := 685) (by decide +kernel), List.mem_of_getElem? (i := 1055) (by decide +kernel), List.mem_of_getElem? (i := 1056) (by decide +kernel)⟩
theorem lw_p58 : lw_okq (⟨"MirrorWiresModel", "kinds", "(IIIII)I"⟩, 15) := ⟨⟨by decide +kernel, by decide +kernel⟩, List.mem_of_getElem? (i := 685) (by decide +kernel), List.mem_of_getElem? (i := 1059) (by decide +kernel), List.mem_of_getElem? (i := 1060) (by decide +kernel)⟩
def lw_privs_4 : List (MethodName × Nat) := [(⟨"MirrorWiresModel", "beginTry", "()V"⟩, 15), (⟨"MirrorWiresModel", "isSame", "()Z"⟩, 15), (⟨"MirrorWiresModel", "killIn", "(I)V"⟩, 15), (⟨"MirrorWiresModel", "layYet", "(I)V"⟩, 15), (⟨"MirrorWiresModel", "kthOn", "(II)I"⟩, 15), (⟨"MirrorWiresModel", "shownBy", "(I)I"⟩, 15), (⟨"MirrorWiresModel", "found", "(IIII)I"⟩, 15), (⟨"MirrorWiresModel", "deaths", "(IIII)I"⟩, 15), (⟨"MirrorWiresModel", "isToldIn", "(IIIII)Z"⟩, 15), (⟨"MirrorWiresModel", "ups", "(IIII)I"⟩, 15), (⟨"MirrorWiresModel", "kinds", "(IIIII)I"⟩, 15)]
theorem lw_r4 : ∀ q ∈ lw_privs_4, lw_okq q := List.forall_mem_cons.mpr ⟨lw_p48, List.forall_mem_cons.mpr ⟨lw_p49, List.forall_mem_cons.mpr ⟨lw_p50, List.forall_mem_cons.mpr ⟨lw_p51, List.forall_mem_cons.mpr ⟨lw_p52, List.forall_mem_cons.mpr ⟨lw_p53, List.forall_mem_cons.mpr ⟨lw_p54, List.forall_mem_cons.mpr ⟨lw_p55, List.forall_mem_cons.mpr ⟨lw_p56, List.forall_mem_cons.mpr ⟨lw_p57, List.forall_mem_cons.mpr ⟨lw_p58, fun _ h => absurd h List.not_mem_nil⟩⟩⟩⟩⟩⟩⟩⟩⟩⟩⟩
def lw_privs : List (MethodName × Nat) := lw_privs_1 ++ (lw_privs_2 ++ (lw_privs_3 ++ (lw_privs_4)))
def lw_tbl : List Cond := k2_sels lw_privs ++ tables_1
theorem lw_privs_ok : ∀ q ∈ lw_privs, lw_okq q := by
  show ∀ q ∈ lw_privs_1 ++ (lw_privs_2 ++ (lw_privs_3 ++ (lw_privs_4))), lw_okq q
  exact List.forall_mem_append.mpr ⟨lw_r1, List.forall_mem_append.mpr ⟨lw_r2, List.forall_mem_append.mpr ⟨lw_r3, lw_r4⟩⟩⟩
/-! names of classes, fields, methods (as printed of the program) -/
def RX0 : String := "MirrorWires$Board"
def TX0 : u_T := fun k => match k with
  | 0 => ("MirrorWires$Board", "wires", "I", false)
  | 1 => ("MirrorWires$Board", "count", "I", false)
  | 2 => ("MirrorWires$Board", "gates", "[I", true)
  | 3 => ("MirrorWires$Board", "bits", "I", false)
  | 4 => ("MirrorWires$Board", "place", "I", false)
  | _ => ("MirrorWires$Board", "draw", "I", false)
def tyX0 : Nat → FieldType := fun k => match k with
  | 0 => .int
  | 1 => .int
  | 2 => .array .int
  | 3 => .int
  | 4 => .int
  | _ => .int
abbrev wsX00 : List Cond := u_ws RX0 TX0 6
theorem nmX0 : ∀ a, a < 6 → ∀ b, b < 6 → a ≠ b → (TX0 a).2.1 ≠ (TX0 b).2.1 := by decide +kernel
theorem tyX0_ok : ∀ k, k < 6 → parseFieldDescriptor (TX0 k).2.2.1 = some (tyX0 k) := by decide +kernel
abbrev cX0_init : ByteArray := prog_2_method_1_code
def yX0_init : MethodName := ⟨RX0, "<init>", "()V"⟩
abbrev cX0_states : ByteArray := prog_2_method_2_code
def yX0_states : MethodName := ⟨RX0, "states", "()I"⟩
abbrev cX0_clear : ByteArray := prog_2_method_3_code
def yX0_clear : MethodName := ⟨RX0, "clear", "(I)V"⟩
abbrev cX0_becomes : ByteArray := prog_2_method_4_code
def yX0_becomes : MethodName := ⟨RX0, "becomes", "(LMirrorWires$Board;)V"⟩
abbrev cX0_add : ByteArray := prog_2_method_5_code
def yX0_add : MethodName := ⟨RX0, "add", "(I)V"⟩
abbrev cX0_deadOnes : ByteArray := prog_2_method_6_code
def yX0_deadOnes : MethodName := ⟨RX0, "deadOnes", "()I"⟩
abbrev cX0_stepOn : ByteArray := prog_2_method_7_code
def yX0_stepOn : MethodName := ⟨RX0, "stepOn", "()V"⟩
abbrev cX0_stepBack : ByteArray := prog_2_method_8_code
def yX0_stepBack : MethodName := ⟨RX0, "stepBack", "()V"⟩
abbrev cX0_turnOver : ByteArray := prog_2_method_9_code
def yX0_turnOver : MethodName := ⟨RX0, "turnOver", "(I)V"⟩
abbrev cX0_driftOn : ByteArray := prog_2_method_10_code
def yX0_driftOn : MethodName := ⟨RX0, "driftOn", "()V"⟩
abbrev cX0_run : ByteArray := prog_2_method_11_code
def yX0_run : MethodName := ⟨RX0, "run", "(I)I"⟩
abbrev cX0_runBack : ByteArray := prog_2_method_12_code
def yX0_runBack : MethodName := ⟨RX0, "runBack", "(I)I"⟩
abbrev cX0_runWith : ByteArray := prog_2_method_13_code
def yX0_runWith : MethodName := ⟨RX0, "runWith", "(III)I"⟩
def RX1 : String := "MirrorWires$Foretold"
def TX1 : u_T := fun k => match k with
  | 0 => ("MirrorWires$Foretold", "board", "LMirrorWires$Board;", true)
  | 1 => ("MirrorWires$Foretold", "to", "[I", true)
  | 2 => ("MirrorWires$Foretold", "work", "[I", true)
  | 3 => ("MirrorWires$Foretold", "line", "[I", true)
  | 4 => ("MirrorWires$Foretold", "ringCount", "I", false)
  | 5 => ("MirrorWires$Foretold", "longestRing", "I", false)
  | 6 => ("MirrorWires$Foretold", "stillStates", "I", false)
  | _ => ("MirrorWires$Foretold", "allRings", "I", false)
def tyX1 : Nat → FieldType := fun k => match k with
  | 0 => .object "MirrorWires$Board"
  | 1 => .array .int
  | 2 => .array .int
  | 3 => .array .int
  | 4 => .int
  | 5 => .int
  | 6 => .int
  | _ => .int
abbrev wsX10 : List Cond := u_ws RX1 TX1 8
theorem nmX1 : ∀ a, a < 8 → ∀ b, b < 8 → a ≠ b → (TX1 a).2.1 ≠ (TX1 b).2.1 := by decide +kernel
theorem tyX1_ok : ∀ k, k < 8 → parseFieldDescriptor (TX1 k).2.2.1 = some (tyX1 k) := by decide +kernel
abbrev cX1_init : ByteArray := prog_3_method_1_code
def yX1_init : MethodName := ⟨RX1, "<init>", "(LMirrorWires$Board;)V"⟩
abbrev cX1_learnRuns : ByteArray := prog_3_method_2_code
def yX1_learnRuns : MethodName := ⟨RX1, "learnRuns", "()V"⟩
abbrev cX1_ringLength : ByteArray := prog_3_method_3_code
def yX1_ringLength : MethodName := ⟨RX1, "ringLength", "(I)I"⟩
abbrev cX1_behindRuns : ByteArray := prog_3_method_4_code
def yX1_behindRuns : MethodName := ⟨RX1, "behindRuns", "(II)I"⟩
abbrev cX1_lookAtRings : ByteArray := prog_3_method_5_code
def yX1_lookAtRings : MethodName := ⟨RX1, "lookAtRings", "()V"⟩
abbrev cX1_countRing : ByteArray := prog_3_method_6_code
def yX1_countRing : MethodName := ⟨RX1, "countRing", "(I)V"⟩
abbrev cX1_commonDivisor : ByteArray := prog_3_method_7_code
def yX1_commonDivisor : MethodName := ⟨RX1, "commonDivisor", "(II)I"⟩
abbrev cX1_mayChangePlaces : ByteArray := prog_3_method_8_code
def yX1_mayChangePlaces : MethodName := ⟨RX1, "mayChangePlaces", "(II)Z"⟩
abbrev cX1_runChanged : ByteArray := prog_3_method_9_code
def yX1_runChanged : MethodName := ⟨RX1, "runChanged", "(III)I"⟩
abbrev cX1_firstPair : ByteArray := prog_3_method_10_code
def yX1_firstPair : MethodName := ⟨RX1, "firstPair", "()I"⟩
abbrev cX1_mayBeLeftOut : ByteArray := prog_3_method_11_code
def yX1_mayBeLeftOut : MethodName := ⟨RX1, "mayBeLeftOut", "(II)Z"⟩
abbrev cX1_hangsOn : ByteArray := prog_3_method_12_code
def yX1_hangsOn : MethodName := ⟨RX1, "hangsOn", "(I)I"⟩
abbrev cX1_turnedStates : ByteArray := prog_3_method_13_code
def yX1_turnedStates : MethodName := ⟨RX1, "turnedStates", "(I)I"⟩
abbrev cX1_spreadFrom : ByteArray := prog_3_method_14_code
def yX1_spreadFrom : MethodName := ⟨RX1, "spreadFrom", "(I)I"⟩
abbrev cX1_wayLength : ByteArray := prog_3_method_15_code
def yX1_wayLength : MethodName := ⟨RX1, "wayLength", "(II)I"⟩
abbrev cX1_wayGate : ByteArray := prog_3_method_16_code
def yX1_wayGate : MethodName := ⟨RX1, "wayGate", "(III)I"⟩
abbrev cX1_nearerGate : ByteArray := prog_3_method_17_code
def yX1_nearerGate : MethodName := ⟨RX1, "nearerGate", "(I)I"⟩
abbrev cX1_shownGates : ByteArray := prog_3_method_18_code
def yX1_shownGates : MethodName := ⟨RX1, "shownGates", "(I)I"⟩
abbrev cX1_tellingState : ByteArray := prog_3_method_19_code
def yX1_tellingState : MethodName := ⟨RX1, "tellingState", "()I"⟩
abbrev cX1_likelySet : ByteArray := prog_3_method_20_code
def yX1_likelySet : MethodName := ⟨RX1, "likelySet", "(IIZ)I"⟩
abbrev cX1_weight : ByteArray := prog_3_method_21_code
def yX1_weight : MethodName := ⟨RX1, "weight", "(II)I"⟩
abbrev cX1_deathsBy : ByteArray := prog_3_method_22_code
def yX1_deathsBy : MethodName := ⟨RX1, "deathsBy", "(LMirrorWires$Sheet;III)I"⟩
abbrev cX1_kindsBy : ByteArray := prog_3_method_23_code
def yX1_kindsBy : MethodName := ⟨RX1, "kindsBy", "(LMirrorWires$Sheet;IIII)I"⟩
abbrev cX1_tellsOf : ByteArray := prog_3_method_24_code
def yX1_tellsOf : MethodName := ⟨RX1, "tellsOf", "(LMirrorWires$Sheet;IIIII)Z"⟩
abbrev cX1_runsBy : ByteArray := prog_3_method_25_code
def yX1_runsBy : MethodName := ⟨RX1, "runsBy", "(LMirrorWires$Sheet;III)I"⟩
def RX2 : String := "MirrorWires$Gate"
def TX2 : u_T := fun k => match k with
  | _ => ("", "", "", false)
def tyX2 : Nat → FieldType := fun k => match k with
  | _ => .int
abbrev wsX20 : List Cond := u_ws RX2 TX2 0
theorem nmX2 : ∀ a, a < 0 → ∀ b, b < 0 → a ≠ b → (TX2 a).2.1 ≠ (TX2 b).2.1 := by decide +kernel
theorem tyX2_ok : ∀ k, k < 0 → parseFieldDescriptor (TX2 k).2.2.1 = some (tyX2 k) := by decide +kernel
abbrev cX2_pack : ByteArray := prog_4_method_2_code
def yX2_pack : MethodName := ⟨RX2, "pack", "(IIII)I"⟩
abbrev cX2_kindOf : ByteArray := prog_4_method_3_code
def yX2_kindOf : MethodName := ⟨RX2, "kindOf", "(I)I"⟩
abbrev cX2_wireAt : ByteArray := prog_4_method_4_code
def yX2_wireAt : MethodName := ⟨RX2, "wireAt", "(II)I"⟩
abbrev cX2_isDead : ByteArray := prog_4_method_5_code
def yX2_isDead : MethodName := ⟨RX2, "isDead", "(I)Z"⟩
abbrev cX2_killed : ByteArray := prog_4_method_6_code
def yX2_killed : MethodName := ⟨RX2, "killed", "(I)I"⟩
abbrev cX2_healed : ByteArray := prog_4_method_7_code
def yX2_healed : MethodName := ⟨RX2, "healed", "(I)I"⟩
abbrev cX2_asKind : ByteArray := prog_4_method_8_code
def yX2_asKind : MethodName := ⟨RX2, "asKind", "(II)I"⟩
abbrev cX2_wiresOf : ByteArray := prog_4_method_9_code
def yX2_wiresOf : MethodName := ⟨RX2, "wiresOf", "(I)I"⟩
abbrev cX2_kindNamed : ByteArray := prog_4_method_10_code
def yX2_kindNamed : MethodName := ⟨RX2, "kindNamed", "(I)I"⟩
abbrev cX2_areUnlike : ByteArray := prog_4_method_11_code
def yX2_areUnlike : MethodName := ⟨RX2, "areUnlike", "(IIII)Z"⟩
abbrev cX2_mayLie : ByteArray := prog_4_method_12_code
def yX2_mayLie : MethodName := ⟨RX2, "mayLie", "(IIIII)Z"⟩
abbrev cX2_act : ByteArray := prog_4_method_13_code
def yX2_act : MethodName := ⟨RX2, "act", "(II)I"⟩
abbrev cX2_turnIf : ByteArray := prog_4_method_14_code
def yX2_turnIf : MethodName := ⟨RX2, "turnIf", "(III)I"⟩
abbrev cX2_change : ByteArray := prog_4_method_15_code
def yX2_change : MethodName := ⟨RX2, "change", "(III)I"⟩
def RX3 : String := "MirrorWires$Past"
def TX3 : u_T := fun k => match k with
  | 0 => ("MirrorWires$Past", "boards", "[LMirrorWires$Board;", true)
  | 1 => ("MirrorWires$Past", "next", "I", false)
  | _ => ("MirrorWires$Past", "known", "I", false)
def tyX3 : Nat → FieldType := fun k => match k with
  | 0 => .array (.object "MirrorWires$Board")
  | 1 => .int
  | _ => .int
abbrev wsX30 : List Cond := u_ws RX3 TX3 3
theorem nmX3 : ∀ a, a < 3 → ∀ b, b < 3 → a ≠ b → (TX3 a).2.1 ≠ (TX3 b).2.1 := by decide +kernel
theorem tyX3_ok : ∀ k, k < 3 → parseFieldDescriptor (TX3 k).2.2.1 = some (tyX3 k) := by decide +kernel
abbrev cX3_init : ByteArray := prog_5_method_1_code
def yX3_init : MethodName := ⟨RX3, "<init>", "()V"⟩
abbrev cX3_keep : ByteArray := prog_5_method_2_code
def yX3_keep : MethodName := ⟨RX3, "keep", "(LMirrorWires$Board;)V"⟩
abbrev cX3_giveBack : ByteArray := prog_5_method_3_code
def yX3_giveBack : MethodName := ⟨RX3, "giveBack", "(LMirrorWires$Board;)Z"⟩
abbrev cX3_forget : ByteArray := prog_5_method_4_code
def yX3_forget : MethodName := ⟨RX3, "forget", "()V"⟩
abbrev cX3_becomes : ByteArray := prog_5_method_5_code
def yX3_becomes : MethodName := ⟨RX3, "becomes", "(LMirrorWires$Past;)V"⟩
def RX4 : String := "MirrorWires$Sheet"
def TX4 : u_T := fun k => match k with
  | 0 => ("MirrorWires$Sheet", "there", "Z", false)
  | 1 => ("MirrorWires$Sheet", "lane", "I", false)
  | 2 => ("MirrorWires$Sheet", "size", "I", false)
  | _ => ("MirrorWires$Sheet", "items", "[J", true)
def tyX4 : Nat → FieldType := fun k => match k with
  | 0 => .boolean
  | 1 => .int
  | 2 => .int
  | _ => .array .long
abbrev wsX40 : List Cond := u_ws RX4 TX4 4
theorem nmX4 : ∀ a, a < 4 → ∀ b, b < 4 → a ≠ b → (TX4 a).2.1 ≠ (TX4 b).2.1 := by decide +kernel
theorem tyX4_ok : ∀ k, k < 4 → parseFieldDescriptor (TX4 k).2.2.1 = some (tyX4 k) := by decide +kernel
abbrev cX4_init : ByteArray := prog_6_method_1_code
def yX4_init : MethodName := ⟨RX4, "<init>", "()V"⟩
abbrev cX4_begin : ByteArray := prog_6_method_2_code
def yX4_begin : MethodName := ⟨RX4, "begin", "(II)V"⟩
abbrev cX4_faultOf : ByteArray := prog_6_method_3_code
def yX4_faultOf : MethodName := ⟨RX4, "faultOf", "(III)I"⟩
abbrev cX4_spans : ByteArray := prog_6_method_4_code
def yX4_spans : MethodName := ⟨RX4, "spans", "(II)Z"⟩
abbrev cX4_put : ByteArray := prog_6_method_5_code
def yX4_put : MethodName := ⟨RX4, "put", "(IJ)V"⟩
abbrev cX4_cut : ByteArray := prog_6_method_6_code
def yX4_cut : MethodName := ⟨RX4, "cut", "(J)J"⟩
def RX5 : String := "MirrorWires$Tape"
def TX5 : u_T := fun k => match k with
  | 0 => ("MirrorWires$Tape", "letters", "[C", true)
  | 1 => ("MirrorWires$Tape", "length", "I", false)
  | _ => ("MirrorWires$Tape", "at", "I", false)
def tyX5 : Nat → FieldType := fun k => match k with
  | 0 => .array .char
  | 1 => .int
  | _ => .int
abbrev wsX50 : List Cond := u_ws RX5 TX5 3
theorem nmX5 : ∀ a, a < 3 → ∀ b, b < 3 → a ≠ b → (TX5 a).2.1 ≠ (TX5 b).2.1 := by decide +kernel
theorem tyX5_ok : ∀ k, k < 3 → parseFieldDescriptor (TX5 k).2.2.1 = some (tyX5 k) := by decide +kernel
abbrev cX5_init : ByteArray := prog_7_method_1_code
def yX5_init : MethodName := ⟨RX5, "<init>", "()V"⟩
abbrev cX5_add : ByteArray := prog_7_method_2_code
def yX5_add : MethodName := ⟨RX5, "add", "(C)Z"⟩
abbrev cX5_readInto : ByteArray := prog_7_method_3_code
def yX5_readInto : MethodName := ⟨RX5, "readInto", "(LMirrorWires$Board;)Z"⟩
abbrev cX5_readWires : ByteArray := prog_7_method_4_code
def yX5_readWires : MethodName := ⟨RX5, "readWires", "(LMirrorWires$Board;)Z"⟩
abbrev cX5_readBits : ByteArray := prog_7_method_5_code
def yX5_readBits : MethodName := ⟨RX5, "readBits", "(LMirrorWires$Board;)Z"⟩
abbrev cX5_readGates : ByteArray := prog_7_method_6_code
def yX5_readGates : MethodName := ⟨RX5, "readGates", "(LMirrorWires$Board;)Z"⟩
abbrev cX5_readGate : ByteArray := prog_7_method_7_code
def yX5_readGate : MethodName := ⟨RX5, "readGate", "(LMirrorWires$Board;)Z"⟩
abbrev cX5_skipBlanks : ByteArray := prog_7_method_8_code
def yX5_skipBlanks : MethodName := ⟨RX5, "skipBlanks", "()V"⟩
abbrev cX5_isAtEnd : ByteArray := prog_7_method_9_code
def yX5_isAtEnd : MethodName := ⟨RX5, "isAtEnd", "()Z"⟩
abbrev cX5_takes : ByteArray := prog_7_method_10_code
def yX5_takes : MethodName := ⟨RX5, "takes", "(C)Z"⟩
abbrev cX5_digitHere : ByteArray := prog_7_method_11_code
def yX5_digitHere : MethodName := ⟨RX5, "digitHere", "()I"⟩
def RX6 : String := "MirrorWires"
def TX6 : u_T := fun k => match k with
  | 0 => ("MirrorWires", "now", "LMirrorWires$Board;", true)
  | 1 => ("MirrorWires", "past", "LMirrorWires$Past;", true)
  | 2 => ("MirrorWires", "imageNow", "LMirrorWires$Board;", true)
  | 3 => ("MirrorWires", "imagePast", "LMirrorWires$Past;", true)
  | 4 => ("MirrorWires", "hasImage", "Z", false)
  | 5 => ("MirrorWires", "tape", "LMirrorWires$Tape;", true)
  | 6 => ("MirrorWires", "draft", "LMirrorWires$Board;", true)
  | 7 => ("MirrorWires", "foretold", "LMirrorWires$Foretold;", true)
  | _ => ("MirrorWires", "sheets", "[LMirrorWires$Sheet;", true)
def tyX6 : Nat → FieldType := fun k => match k with
  | 0 => .object "MirrorWires$Board"
  | 1 => .object "MirrorWires$Past"
  | 2 => .object "MirrorWires$Board"
  | 3 => .object "MirrorWires$Past"
  | 4 => .boolean
  | 5 => .object "MirrorWires$Tape"
  | 6 => .object "MirrorWires$Board"
  | 7 => .object "MirrorWires$Foretold"
  | _ => .array (.object "MirrorWires$Sheet")
abbrev wsX60 : List Cond := u_ws RX6 TX6 9
theorem nmX6 : ∀ a, a < 9 → ∀ b, b < 9 → a ≠ b → (TX6 a).2.1 ≠ (TX6 b).2.1 := by decide +kernel
theorem tyX6_ok : ∀ k, k < 9 → parseFieldDescriptor (TX6 k).2.2.1 = some (tyX6 k) := by decide +kernel
abbrev cX6_init : ByteArray := prog_1_method_1_code
def yX6_init : MethodName := ⟨RX6, "<init>", "()V"⟩
abbrev cX6_wires : ByteArray := prog_1_method_2_code
def yX6_wires : MethodName := ⟨RX6, "wires", "(I)I"⟩
abbrev cX6_gate : ByteArray := prog_1_method_3_code
def yX6_gate : MethodName := ⟨RX6, "gate", "(IIII)I"⟩
abbrev cX6_of : ByteArray := prog_1_method_4_code
def yX6_of : MethodName := ⟨RX6, "of", "(II)I"⟩
abbrev cX6_does : ByteArray := prog_1_method_5_code
def yX6_does : MethodName := ⟨RX6, "does", "(II)I"⟩
abbrev cX6_type : ByteArray := prog_1_method_6_code
def yX6_type : MethodName := ⟨RX6, "type", "(I)I"⟩
abbrev cX6_circuit : ByteArray := prog_1_method_7_code
def yX6_circuit : MethodName := ⟨RX6, "circuit", "()I"⟩
abbrev cX6_count : ByteArray := prog_1_method_8_code
def yX6_count : MethodName := ⟨RX6, "count", "(I)I"⟩
abbrev cX6_step : ByteArray := prog_1_method_9_code
def yX6_step : MethodName := ⟨RX6, "step", "(I)I"⟩
abbrev cX6_back : ByteArray := prog_1_method_10_code
def yX6_back : MethodName := ⟨RX6, "back", "(I)I"⟩
abbrev cX6_home : ByteArray := prog_1_method_11_code
def yX6_home : MethodName := ⟨RX6, "home", "()I"⟩
abbrev cX6_flip : ByteArray := prog_1_method_12_code
def yX6_flip : MethodName := ⟨RX6, "flip", "(I)I"⟩
abbrev cX6_kill : ByteArray := prog_1_method_13_code
def yX6_kill : MethodName := ⟨RX6, "kill", "(I)I"⟩
abbrev cX6_heal : ByteArray := prog_1_method_14_code
def yX6_heal : MethodName := ⟨RX6, "heal", "(I)I"⟩
abbrev cX6_move : ByteArray := prog_1_method_15_code
def yX6_move : MethodName := ⟨RX6, "move", "(II)I"⟩
abbrev cX6_drift : ByteArray := prog_1_method_16_code
def yX6_drift : MethodName := ⟨RX6, "drift", "(I)I"⟩
abbrev cX6_undo : ByteArray := prog_1_method_17_code
def yX6_undo : MethodName := ⟨RX6, "undo", "()I"⟩
abbrev cX6_seed : ByteArray := prog_1_method_18_code
def yX6_seed : MethodName := ⟨RX6, "seed", "(I)I"⟩
abbrev cX6_goes : ByteArray := prog_1_method_19_code
def yX6_goes : MethodName := ⟨RX6, "goes", "(II)I"⟩
abbrev cX6_far : ByteArray := prog_1_method_20_code
def yX6_far : MethodName := ⟨RX6, "far", "(II)I"⟩
abbrev cX6_ring : ByteArray := prog_1_method_21_code
def yX6_ring : MethodName := ⟨RX6, "ring", "(I)I"⟩
abbrev cX6_rings : ByteArray := prog_1_method_22_code
def yX6_rings : MethodName := ⟨RX6, "rings", "(I)I"⟩
abbrev cX6_order : ByteArray := prog_1_method_23_code
def yX6_order : MethodName := ⟨RX6, "order", "()I"⟩
abbrev cX6_odd : ByteArray := prog_1_method_24_code
def yX6_odd : MethodName := ⟨RX6, "odd", "()I"⟩
abbrev cX6_alike : ByteArray := prog_1_method_25_code
def yX6_alike : MethodName := ⟨RX6, "alike", "(II)I"⟩
abbrev cX6_pair : ByteArray := prog_1_method_26_code
def yX6_pair : MethodName := ⟨RX6, "pair", "()I"⟩
abbrev cX6_hangs : ByteArray := prog_1_method_27_code
def yX6_hangs : MethodName := ⟨RX6, "hangs", "(II)I"⟩
abbrev cX6_way : ByteArray := prog_1_method_28_code
def yX6_way : MethodName := ⟨RX6, "way", "(III)I"⟩
abbrev cX6_reach : ByteArray := prog_1_method_29_code
def yX6_reach : MethodName := ⟨RX6, "reach", "(I)I"⟩
abbrev cX6_shows : ByteArray := prog_1_method_30_code
def yX6_shows : MethodName := ⟨RX6, "shows", "(I)I"⟩
abbrev cX6_telling : ByteArray := prog_1_method_31_code
def yX6_telling : MethodName := ⟨RX6, "telling", "(I)I"⟩
abbrev cX6_likely : ByteArray := prog_1_method_32_code
def yX6_likely : MethodName := ⟨RX6, "likely", "(III)I"⟩
abbrev cX6_image : ByteArray := prog_1_method_33_code
def yX6_image : MethodName := ⟨RX6, "image", "()I"⟩
abbrev cX6_restore : ByteArray := prog_1_method_34_code
def yX6_restore : MethodName := ⟨RX6, "restore", "()I"⟩
abbrev cX6_came : ByteArray := prog_1_method_35_code
def yX6_came : MethodName := ⟨RX6, "came", "(IIIIII)I"⟩
abbrev cX6_film : ByteArray := prog_1_method_36_code
def yX6_film : MethodName := ⟨RX6, "film", "(IIIII)I"⟩
abbrev cX6_sheet : ByteArray := prog_1_method_37_code
def yX6_sheet : MethodName := ⟨RX6, "sheet", "(III)I"⟩
abbrev cX6_drop : ByteArray := prog_1_method_38_code
def yX6_drop : MethodName := ⟨RX6, "drop", "(I)I"⟩
abbrev cX6_item : ByteArray := prog_1_method_39_code
def yX6_item : MethodName := ⟨RX6, "item", "(IIIJ)I"⟩
abbrev cX6_copy : ByteArray := prog_1_method_40_code
def yX6_copy : MethodName := ⟨RX6, "copy", "(IIIII)I"⟩
abbrev cX6_isWire : ByteArray := prog_1_method_41_code
def yX6_isWire : MethodName := ⟨RX6, "isWire", "(I)Z"⟩
abbrev cX6_isGate : ByteArray := prog_1_method_42_code
def yX6_isGate : MethodName := ⟨RX6, "isGate", "(I)Z"⟩
abbrev cX6_areTwoGates : ByteArray := prog_1_method_43_code
def yX6_areTwoGates : MethodName := ⟨RX6, "areTwoGates", "(II)Z"⟩
abbrev cX6_isState : ByteArray := prog_1_method_44_code
def yX6_isState : MethodName := ⟨RX6, "isState", "(I)Z"⟩
abbrev cX6_areStates : ByteArray := prog_1_method_45_code
def yX6_areStates : MethodName := ⟨RX6, "areStates", "(III)Z"⟩
abbrev cX6_isSheet : ByteArray := prog_1_method_46_code
def yX6_isSheet : MethodName := ⟨RX6, "isSheet", "(I)Z"⟩
abbrev cX6_isLaneOfSheet : ByteArray := prog_1_method_47_code
def yX6_isLaneOfSheet : MethodName := ⟨RX6, "isLaneOfSheet", "(II)Z"⟩
def RX7 : String := "MirrorWiresModel"
def TX7 : u_T := fun k => match k with
  | 0 => ("MirrorWiresModel", "w", "[I", true)
  | 1 => ("MirrorWiresModel", "kept", "Z", false)
  | 2 => ("MirrorWiresModel", "tape", "[I", true)
  | 3 => ("MirrorWiresModel", "taped", "I", false)
  | 4 => ("MirrorWiresModel", "items", "[J", true)
  | 5 => ("MirrorWiresModel", "lanes", "[I", true)
  | 6 => ("MirrorWiresModel", "sizes", "[I", true)
  | 7 => ("MirrorWiresModel", "to", "[I", true)
  | 8 => ("MirrorWiresModel", "at", "I", false)
  | 9 => ("MirrorWiresModel", "wrong", "I", false)
  | 10 => ("MirrorWiresModel", "readBits", "I", false)
  | 11 => ("MirrorWiresModel", "readMany", "I", false)
  | 12 => ("MirrorWiresModel", "read", "[I", true)
  | 13 => ("MirrorWiresModel", "told", "[I", true)
  | _ => ("MirrorWiresModel", "yet", "[I", true)
def tyX7 : Nat → FieldType := fun k => match k with
  | 0 => .array .int
  | 1 => .boolean
  | 2 => .array .int
  | 3 => .int
  | 4 => .array .long
  | 5 => .array .int
  | 6 => .array .int
  | 7 => .array .int
  | 8 => .int
  | 9 => .int
  | 10 => .int
  | 11 => .int
  | 12 => .array .int
  | 13 => .array .int
  | _ => .array .int
abbrev wsX70 : List Cond := u_ws RX7 TX7 15
theorem nmX7 : ∀ a, a < 15 → ∀ b, b < 15 → a ≠ b → (TX7 a).2.1 ≠ (TX7 b).2.1 := by decide +kernel
theorem tyX7_ok : ∀ k, k < 15 → parseFieldDescriptor (TX7 k).2.2.1 = some (tyX7 k) := by decide +kernel
abbrev cX7_init : ByteArray := prog_9_method_1_code
def yX7_init : MethodName := ⟨RX7, "<init>", "()V"⟩
abbrev cX7_in : ByteArray := prog_9_method_3_code
def yX7_in : MethodName := ⟨RX7, "in", "(III)Z"⟩
abbrev cX7_has : ByteArray := prog_9_method_4_code
def yX7_has : MethodName := ⟨RX7, "has", "(II)Z"⟩
abbrev cX7_bits : ByteArray := prog_9_method_5_code
def yX7_bits : MethodName := ⟨RX7, "bits", "(I)I"⟩
abbrev cX7_copyRow : ByteArray := prog_9_method_6_code
def yX7_copyRow : MethodName := ⟨RX7, "copyRow", "(III)V"⟩
abbrev cX7_states : ByteArray := prog_9_method_7_code
def yX7_states : MethodName := ⟨RX7, "states", "()I"⟩
abbrev cX7_isState : ByteArray := prog_9_method_8_code
def yX7_isState : MethodName := ⟨RX7, "isState", "(I)Z"⟩
abbrev cX7_isWire : ByteArray := prog_9_method_9_code
def yX7_isWire : MethodName := ⟨RX7, "isWire", "(I)Z"⟩
abbrev cX7_isGate : ByteArray := prog_9_method_10_code
def yX7_isGate : MethodName := ⟨RX7, "isGate", "(I)Z"⟩
abbrev cX7_wiresOf : ByteArray := prog_9_method_11_code
def yX7_wiresOf : MethodName := ⟨RX7, "wiresOf", "(I)I"⟩
abbrev cX7_areUnlike : ByteArray := prog_9_method_12_code
def yX7_areUnlike : MethodName := ⟨RX7, "areUnlike", "(IIII)Z"⟩
abbrev cX7_clear : ByteArray := prog_9_method_13_code
def yX7_clear : MethodName := ⟨RX7, "clear", "(I)V"⟩
abbrev cX7_wires : ByteArray := prog_9_method_14_code
def yX7_wires : MethodName := ⟨RX7, "wires", "(I)I"⟩
abbrev cX7_put : ByteArray := prog_9_method_15_code
def yX7_put : MethodName := ⟨RX7, "put", "(IIIII)I"⟩
abbrev cX7_gate : ByteArray := prog_9_method_16_code
def yX7_gate : MethodName := ⟨RX7, "gate", "(IIII)I"⟩
abbrev cX7_of : ByteArray := prog_9_method_17_code
def yX7_of : MethodName := ⟨RX7, "of", "(II)I"⟩
abbrev cX7_changed : ByteArray := prog_9_method_18_code
def yX7_changed : MethodName := ⟨RX7, "changed", "(III)I"⟩
abbrev cX7_doneBy : ByteArray := prog_9_method_19_code
def yX7_doneBy : MethodName := ⟨RX7, "doneBy", "(IIIII)I"⟩
abbrev cX7_doneIn : ByteArray := prog_9_method_20_code
def yX7_doneIn : MethodName := ⟨RX7, "doneIn", "(III)I"⟩
abbrev cX7_does : ByteArray := prog_9_method_21_code
def yX7_does : MethodName := ⟨RX7, "does", "(II)I"⟩
abbrev cX7_type : ByteArray := prog_9_method_22_code
def yX7_type : MethodName := ⟨RX7, "type", "(I)I"⟩
abbrev cX7_here : ByteArray := prog_9_method_23_code
def yX7_here : MethodName := ⟨RX7, "here", "()I"⟩
abbrev cX7_fine : ByteArray := prog_9_method_24_code
def yX7_fine : MethodName := ⟨RX7, "fine", "()Z"⟩
abbrev cX7_fault : ByteArray := prog_9_method_25_code
def yX7_fault : MethodName := ⟨RX7, "fault", "(I)V"⟩
abbrev cX7_need : ByteArray := prog_9_method_26_code
def yX7_need : MethodName := ⟨RX7, "need", "(I)V"⟩
abbrev cX7_digit : ByteArray := prog_9_method_27_code
def yX7_digit : MethodName := ⟨RX7, "digit", "(II)I"⟩
abbrev cX7_readState : ByteArray := prog_9_method_28_code
def yX7_readState : MethodName := ⟨RX7, "readState", "(I)V"⟩
abbrev cX7_kindOf : ByteArray := prog_9_method_29_code
def yX7_kindOf : MethodName := ⟨RX7, "kindOf", "(I)I"⟩
abbrev cX7_readGate : ByteArray := prog_9_method_30_code
def yX7_readGate : MethodName := ⟨RX7, "readGate", "(I)V"⟩
abbrev cX7_readWires : ByteArray := prog_9_method_31_code
def yX7_readWires : MethodName := ⟨RX7, "readWires", "()I"⟩
abbrev cX7_readGates : ByteArray := prog_9_method_32_code
def yX7_readGates : MethodName := ⟨RX7, "readGates", "(I)V"⟩
abbrev cX7_circuit : ByteArray := prog_9_method_33_code
def yX7_circuit : MethodName := ⟨RX7, "circuit", "()I"⟩
abbrev cX7_dead : ByteArray := prog_9_method_34_code
def yX7_dead : MethodName := ⟨RX7, "dead", "()I"⟩
abbrev cX7_count : ByteArray := prog_9_method_35_code
def yX7_count : MethodName := ⟨RX7, "count", "(I)I"⟩
abbrev cX7_remember : ByteArray := prog_9_method_36_code
def yX7_remember : MethodName := ⟨RX7, "remember", "()V"⟩
abbrev cX7_stepOn : ByteArray := prog_9_method_37_code
def yX7_stepOn : MethodName := ⟨RX7, "stepOn", "()V"⟩
abbrev cX7_step : ByteArray := prog_9_method_38_code
def yX7_step : MethodName := ⟨RX7, "step", "(I)I"⟩
abbrev cX7_back : ByteArray := prog_9_method_39_code
def yX7_back : MethodName := ⟨RX7, "back", "(I)I"⟩
abbrev cX7_home : ByteArray := prog_9_method_40_code
def yX7_home : MethodName := ⟨RX7, "home", "()I"⟩
abbrev cX7_flip : ByteArray := prog_9_method_41_code
def yX7_flip : MethodName := ⟨RX7, "flip", "(I)I"⟩
abbrev cX7_deaden : ByteArray := prog_9_method_42_code
def yX7_deaden : MethodName := ⟨RX7, "deaden", "(II)I"⟩
abbrev cX7_kill : ByteArray := prog_9_method_43_code
def yX7_kill : MethodName := ⟨RX7, "kill", "(I)I"⟩
abbrev cX7_heal : ByteArray := prog_9_method_44_code
def yX7_heal : MethodName := ⟨RX7, "heal", "(I)I"⟩
abbrev cX7_swapIn : ByteArray := prog_9_method_45_code
def yX7_swapIn : MethodName := ⟨RX7, "swapIn", "(III)V"⟩
abbrev cX7_move : ByteArray := prog_9_method_46_code
def yX7_move : MethodName := ⟨RX7, "move", "(II)I"⟩
abbrev cX7_drift : ByteArray := prog_9_method_47_code
def yX7_drift : MethodName := ⟨RX7, "drift", "(I)I"⟩
abbrev cX7_undo : ByteArray := prog_9_method_48_code
def yX7_undo : MethodName := ⟨RX7, "undo", "()I"⟩
abbrev cX7_seed : ByteArray := prog_9_method_49_code
def yX7_seed : MethodName := ⟨RX7, "seed", "(I)I"⟩
abbrev cX7_runIn : ByteArray := prog_9_method_50_code
def yX7_runIn : MethodName := ⟨RX7, "runIn", "(II)I"⟩
abbrev cX7_layRuns : ByteArray := prog_9_method_51_code
def yX7_layRuns : MethodName := ⟨RX7, "layRuns", "()V"⟩
abbrev cX7_goes : ByteArray := prog_9_method_52_code
def yX7_goes : MethodName := ⟨RX7, "goes", "(II)I"⟩
abbrev cX7_ringOf : ByteArray := prog_9_method_53_code
def yX7_ringOf : MethodName := ⟨RX7, "ringOf", "(I)I"⟩
abbrev cX7_far : ByteArray := prog_9_method_54_code
def yX7_far : MethodName := ⟨RX7, "far", "(II)I"⟩
abbrev cX7_ring : ByteArray := prog_9_method_55_code
def yX7_ring : MethodName := ⟨RX7, "ring", "(I)I"⟩
abbrev cX7_isLeast : ByteArray := prog_9_method_56_code
def yX7_isLeast : MethodName := ⟨RX7, "isLeast", "(I)Z"⟩
abbrev cX7_ringMany : ByteArray := prog_9_method_57_code
def yX7_ringMany : MethodName := ⟨RX7, "ringMany", "()I"⟩
abbrev cX7_rings : ByteArray := prog_9_method_58_code
def yX7_rings : MethodName := ⟨RX7, "rings", "(I)I"⟩
abbrev cX7_common : ByteArray := prog_9_method_59_code
def yX7_common : MethodName := ⟨RX7, "common", "(II)I"⟩
abbrev cX7_order : ByteArray := prog_9_method_60_code
def yX7_order : MethodName := ⟨RX7, "order", "()I"⟩
abbrev cX7_odd : ByteArray := prog_9_method_61_code
def yX7_odd : MethodName := ⟨RX7, "odd", "()I"⟩
abbrev cX7_isSame : ByteArray := prog_9_method_62_code
def yX7_isSame : MethodName := ⟨RX7, "isSame", "()Z"⟩
abbrev cX7_beginTry : ByteArray := prog_9_method_63_code
def yX7_beginTry : MethodName := ⟨RX7, "beginTry", "()V"⟩
abbrev cX7_alike : ByteArray := prog_9_method_64_code
def yX7_alike : MethodName := ⟨RX7, "alike", "(II)I"⟩
abbrev cX7_killIn : ByteArray := prog_9_method_65_code
def yX7_killIn : MethodName := ⟨RX7, "killIn", "(I)V"⟩
abbrev cX7_pair : ByteArray := prog_9_method_66_code
def yX7_pair : MethodName := ⟨RX7, "pair", "()I"⟩
abbrev cX7_hangs : ByteArray := prog_9_method_67_code
def yX7_hangs : MethodName := ⟨RX7, "hangs", "(II)I"⟩
abbrev cX7_layYet : ByteArray := prog_9_method_68_code
def yX7_layYet : MethodName := ⟨RX7, "layYet", "(I)V"⟩
abbrev cX7_kthOn : ByteArray := prog_9_method_69_code
def yX7_kthOn : MethodName := ⟨RX7, "kthOn", "(II)I"⟩
abbrev cX7_way : ByteArray := prog_9_method_70_code
def yX7_way : MethodName := ⟨RX7, "way", "(III)I"⟩
abbrev cX7_reach : ByteArray := prog_9_method_71_code
def yX7_reach : MethodName := ⟨RX7, "reach", "(I)I"⟩
abbrev cX7_shownBy : ByteArray := prog_9_method_72_code
def yX7_shownBy : MethodName := ⟨RX7, "shownBy", "(I)I"⟩
abbrev cX7_shows : ByteArray := prog_9_method_73_code
def yX7_shows : MethodName := ⟨RX7, "shows", "(I)I"⟩
abbrev cX7_telling : ByteArray := prog_9_method_74_code
def yX7_telling : MethodName := ⟨RX7, "telling", "(I)I"⟩
abbrev cX7_likely : ByteArray := prog_9_method_75_code
def yX7_likely : MethodName := ⟨RX7, "likely", "(III)I"⟩
abbrev cX7_image : ByteArray := prog_9_method_76_code
def yX7_image : MethodName := ⟨RX7, "image", "()I"⟩
abbrev cX7_restore : ByteArray := prog_9_method_77_code
def yX7_restore : MethodName := ⟨RX7, "restore", "()I"⟩
abbrev cX7_isSheet : ByteArray := prog_9_method_78_code
def yX7_isSheet : MethodName := ⟨RX7, "isSheet", "(I)Z"⟩
abbrev cX7_isLane : ByteArray := prog_9_method_79_code
def yX7_isLane : MethodName := ⟨RX7, "isLane", "(I)Z"⟩
abbrev cX7_found : ByteArray := prog_9_method_80_code
def yX7_found : MethodName := ⟨RX7, "found", "(IIII)I"⟩
abbrev cX7_isToldIn : ByteArray := prog_9_method_81_code
def yX7_isToldIn : MethodName := ⟨RX7, "isToldIn", "(IIIII)Z"⟩
abbrev cX7_deaths : ByteArray := prog_9_method_82_code
def yX7_deaths : MethodName := ⟨RX7, "deaths", "(IIII)I"⟩
abbrev cX7_kinds : ByteArray := prog_9_method_83_code
def yX7_kinds : MethodName := ⟨RX7, "kinds", "(IIIII)I"⟩
abbrev cX7_ups : ByteArray := prog_9_method_84_code
def yX7_ups : MethodName := ⟨RX7, "ups", "(IIII)I"⟩
abbrev cX7_came : ByteArray := prog_9_method_85_code
def yX7_came : MethodName := ⟨RX7, "came", "(IIIIII)I"⟩
abbrev cX7_film : ByteArray := prog_9_method_86_code
def yX7_film : MethodName := ⟨RX7, "film", "(IIIII)I"⟩
abbrev cX7_sheet : ByteArray := prog_9_method_87_code
def yX7_sheet : MethodName := ⟨RX7, "sheet", "(III)I"⟩
abbrev cX7_drop : ByteArray := prog_9_method_88_code
def yX7_drop : MethodName := ⟨RX7, "drop", "(I)I"⟩
abbrev cX7_item : ByteArray := prog_9_method_89_code
def yX7_item : MethodName := ⟨RX7, "item", "(IIIJ)I"⟩
abbrev cX7_copy : ByteArray := prog_9_method_90_code
def yX7_copy : MethodName := ⟨RX7, "copy", "(IIIII)I"⟩
def RJ6 : String := "java/lang/Integer"
def TJ6 : u_T := fun k => match k with
  | _ => ("", "", "", false)
def tyJ6 : Nat → FieldType := fun k => match k with
  | _ => .int
abbrev wsJ60 : List Cond := u_ws RJ6 TJ6 0
theorem nmJ6 : ∀ a, a < 0 → ∀ b, b < 0 → a ≠ b → (TJ6 a).2.1 ≠ (TJ6 b).2.1 := by decide +kernel
theorem tyJ6_ok : ∀ k, k < 0 → parseFieldDescriptor (TJ6 k).2.2.1 = some (tyJ6 k) := by decide +kernel
abbrev cJ6_bitCount_0f7a4 : ByteArray := prog_10_method_49_code
def yJ6_bitCount_0f7a4 : MethodName := ⟨RJ6, "bitCount", "(I)I"⟩
def RJ9 : String := "java/lang/Math"
def TJ9 : u_T := fun k => match k with
  | _ => ("", "", "", false)
def tyJ9 : Nat → FieldType := fun k => match k with
  | _ => .int
abbrev wsJ90 : List Cond := u_ws RJ9 TJ9 0
theorem nmJ9 : ∀ a, a < 0 → ∀ b, b < 0 → a ≠ b → (TJ9 a).2.1 ≠ (TJ9 b).2.1 := by decide +kernel
theorem tyJ9_ok : ∀ k, k < 0 → parseFieldDescriptor (TJ9 k).2.2.1 = some (tyJ9 k) := by decide +kernel
abbrev cJ9_max_7cf53 : ByteArray := prog_11_method_65_code
def yJ9_max_7cf53 : MethodName := ⟨RJ9, "max", "(II)I"⟩
abbrev cJ9_min_7cf53 : ByteArray := prog_11_method_69_code
def yJ9_min_7cf53 : MethodName := ⟨RJ9, "min", "(II)I"⟩
def RJ10 : String := "java/lang/System"
def TJ10 : u_T := fun k => match k with
  | _ => ("", "", "", false)
def tyJ10 : Nat → FieldType := fun k => match k with
  | _ => .int
abbrev wsJ100 : List Cond := u_ws RJ10 TJ10 0
theorem nmJ10 : ∀ a, a < 0 → ∀ b, b < 0 → a ≠ b → (TJ10 a).2.1 ≠ (TJ10 b).2.1 := by decide +kernel
theorem tyJ10_ok : ∀ k, k < 0 → parseFieldDescriptor (TJ10 k).2.2.1 = some (tyJ10 k) := by decide +kernel
def RJ7 : String := "java/util/Arrays"
def TJ7 : u_T := fun k => match k with
  | _ => ("", "", "", false)
def tyJ7 : Nat → FieldType := fun k => match k with
  | _ => .int
abbrev wsJ70 : List Cond := u_ws RJ7 TJ7 0
theorem nmJ7 : ∀ a, a < 0 → ∀ b, b < 0 → a ≠ b → (TJ7 a).2.1 ≠ (TJ7 b).2.1 := by decide +kernel
theorem tyJ7_ok : ∀ k, k < 0 → parseFieldDescriptor (TJ7 k).2.2.1 = some (tyJ7 k) := by decide +kernel
abbrev cJ7_fill_d0a16 : ByteArray := prog_13_method_101_code
def yJ7_fill_d0a16 : MethodName := ⟨RJ7, "fill", "([JJ)V"⟩
abbrev cJ7_fill_53178 : ByteArray := prog_13_method_103_code
def yJ7_fill_53178 : MethodName := ⟨RJ7, "fill", "([II)V"⟩
def RL : String := "MirrorWiresLaw"
abbrev cL_law : ByteArray := code
def yL_law : MethodName := ⟨RL, "law", "([I)Z"⟩
abbrev vwCl : List vw_C := [(RX0, TX0, 6), (RX1, TX1, 8), (RX3, TX3, 3), (RX4, TX4, 4), (RX5, TX5, 3), (RX6, TX6, 9), (RX7, TX7, 15)]
theorem mem_r {big : List Cond} (ws : List Cond) (ps : List Nat) (hp : ws = ps.filterMap (fun i => big[i]?)) : ∀ w ∈ ws, w ∈ big := by
  intro w hw
  rw [hp] at hw
  obtain ⟨i, -, hi⟩ := List.mem_filterMap.mp hw
  exact List.mem_of_getElem? hi
def lw_g : List Cond := lw_tbl.filter goodWord
theorem lw_goodIn : GoodIn lw_g lw_g := fun w hw => ⟨hw, good_of_word (List.mem_filter.mp hw).2⟩
theorem lw_gin {w : Cond} (i : Nat) (h : lw_tbl[i]? = some w) (hg : goodWord w = true) : w ∈ lw_g := List.mem_filter.mpr ⟨List.mem_of_getElem? h, hg⟩
theorem lw_gall {ws : List Cond} (h : ∀ w ∈ ws, w ∈ lw_tbl) (hg : ws.all goodWord = true) : ∀ w ∈ ws, w ∈ lw_g := fun w hw => List.mem_filter.mpr ⟨h w hw, List.all_eq_true.mp hg w hw⟩
theorem inX0 : ∀ w ∈ wsX00, w ∈ lw_tbl := mem_r wsX00 [104, 106, 108, 110, 112, 114] (by decide +kernel)
theorem inX1 : ∀ w ∈ wsX10, w ∈ lw_tbl := mem_r wsX10 [175, 177, 179, 181, 183, 185, 187, 189] (by decide +kernel)
theorem inX2 : ∀ w ∈ wsX20, w ∈ lw_tbl := fun w h => absurd h List.not_mem_nil
theorem inX3 : ∀ w ∈ wsX30, w ∈ lw_tbl := mem_r wsX30 [131, 133, 135] (by decide +kernel)
theorem inX4 : ∀ w ∈ wsX40, w ∈ lw_tbl := mem_r wsX40 [208, 210, 212, 214] (by decide +kernel)
theorem inX5 : ∀ w ∈ wsX50, w ∈ lw_tbl := mem_r wsX50 [149, 151, 153] (by decide +kernel)
theorem inX6 : ∀ w ∈ wsX60, w ∈ lw_tbl := mem_r wsX60 [227, 229, 231, 233, 235, 237, 239, 241, 243] (by decide +kernel)
theorem inX7 : ∀ w ∈ wsX70, w ∈ lw_tbl := mem_r wsX70 [764, 766, 768, 770, 772, 774, 776, 778, 780, 782, 784, 786, 788, 790, 792] (by decide +kernel)
theorem igX0 : ∀ w ∈ wsX00, w ∈ lw_g := lw_gall inX0 (by decide +kernel)
theorem igX1 : ∀ w ∈ wsX10, w ∈ lw_g := lw_gall inX1 (by decide +kernel)
theorem igX2 : ∀ w ∈ wsX20, w ∈ lw_g := lw_gall inX2 (by decide +kernel)
theorem igX3 : ∀ w ∈ wsX30, w ∈ lw_g := lw_gall inX3 (by decide +kernel)
theorem igX4 : ∀ w ∈ wsX40, w ∈ lw_g := lw_gall inX4 (by decide +kernel)
theorem igX5 : ∀ w ∈ wsX50, w ∈ lw_g := lw_gall inX5 (by decide +kernel)
theorem igX6 : ∀ w ∈ wsX60, w ∈ lw_g := lw_gall inX6 (by decide +kernel)
theorem igX7 : ∀ w ∈ wsX70, w ∈ lw_g := lw_gall inX7 (by decide +kernel)
end
section
/-! THE ABSTRACT WORLD: cells by places 0, 1 ..; a reference is a place; 'ad' says where a place lies -/
abbrev aw_E : Type := (Nat × vp_A) ⊕ (Nat × List Value)
abbrev aw_H : Type := List aw_E
abbrev aw_R : Type := Option Value → aw_H → Prop
abbrev aw_T : Type := List Value → aw_H → aw_R → Prop
def aw_v (ad : Nat → Nat) : Value → Value
  | .ref p => .ref (ad p)
  | .int x => .int x
  | .long x => .long x
  | .float x => .float x
  | .double x => .double x
  | .null => .null
  | .retAddr x => .retAddr x
theorem aw_v_cat (ad : Nat → Nat) (v : Value) : (aw_v ad v).category = v.category := by cases v <;> rfl
def aw_a (ad : Nat → Nat) (a : vp_A) : vp_A := match a with
  | (n, .inl f) => (n, .inl f)
  | (n, .inr (.inl f)) => (n, .inr (.inl f))
  | (n, .inr (.inr (.inl f))) => (n, .inr (.inr (.inl f)))
  | (n, .inr (.inr (.inr (.inl f)))) => (n, .inr (.inr (.inr (.inl f))))
  | (n, .inr (.inr (.inr (.inr f)))) => (n, .inr (.inr (.inr (.inr fun j => (f j).map ad))))
def aw_e (ad : Nat → Nat) (aC : Nat → ClassId) : aw_E → va_E
  | .inl (k, a) => .inl (aC k, aw_a ad a)
  | .inr (ci, fs) => .inr (ci, fs.map (aw_v ad))
def aw_w (ad : Nat → Nat) (aC : Nat → ClassId) (h : aw_H) : va_W := h.mapIdx fun p e => (ad p, aw_e ad aC e)
theorem aw_w_get {ad : Nat → Nat} {aC : Nat → ClassId} {h : aw_H} {p : Nat} {e : aw_E} (hp : h[p]? = some e) : (aw_w ad aC h)[p]? = some (ad p, aw_e ad aC e) := by
  simp [aw_w, List.getElem?_mapIdx, hp]
theorem aw_w_set (ad : Nat → Nat) (aC : Nat → ClassId) (h : aw_H) (p : Nat) (e : aw_E) : aw_w ad aC (h.set p e) = (aw_w ad aC h).set p (ad p, aw_e ad aC e) := by
  apply List.ext_getElem?
  intro i
  simp only [aw_w, List.getElem?_mapIdx, List.getElem?_set, List.length_mapIdx]
  by_cases hi : p = i
  · subst hi
    by_cases hl : p < h.length
    · simp [hl]
    · simp [hl]
  · simp [hi]
/-- the fixed things of a world: launch, classes' numbers, array classes, addresses, what may change -/
abbrev aw_F : Type := Launch × va_G × (Nat → ClassId) × (Nat → Nat) × (Nat → Prop)
def aw_t (aC : Nat → ClassId) : List (ClassId × FieldType) := [(aC 0, .int), (aC 1, .long), (aC 2, .char), (aC 3, .object RX0), (aC 4, .object RX4)]
def aw_W (E : aw_F) (h : aw_H) (H : Heap) : Prop := va_P E.2.1 vwCl (aw_w E.2.2.2.1 E.2.2.1 h) H ∧ va_D E.2.2.2.2 (aw_w E.2.2.2.1 E.2.2.1 h)
/-- locals: a list by places; null: nothing is known of it -/
def aw_l (ad : Nat → Nat) : Nat → List Value → List (Nat × Value)
  | _, [] => []
  | i, .null :: r => aw_l ad (i + 1) r
  | i, .int x :: r => (i, .int x) :: aw_l ad (i + 1) r
  | i, .long x :: r => (i, .long x) :: aw_l ad (i + 1) r
  | i, .float x :: r => (i, .float x) :: aw_l ad (i + 1) r
  | i, .double x :: r => (i, .double x) :: aw_l ad (i + 1) r
  | i, .ref x :: r => (i, .ref (ad x)) :: aw_l ad (i + 1) r
  | i, .retAddr x :: r => (i, .retAddr x) :: aw_l ad (i + 1) r
theorem aw_l_cons (ad : Nat → Nat) (i : Nat) (v : Value) (r : List Value) (hv : v ≠ .null) : aw_l ad i (v :: r) = (i, aw_v ad v) :: aw_l ad (i + 1) r := by
  cases v <;> first | rfl | exact absurd rfl hv
theorem aw_l_mem {ad : Nat → Nat} : ∀ {L : List Value} {i : Nat} {q : Nat × Value}, q ∈ aw_l ad i L ↔ ∃ j v, L[j]? = some v ∧ v ≠ .null ∧ q = (i + j, aw_v ad v)
  | [], i, q => by simp [aw_l]
  | v :: r, i, q => by
    by_cases hv : v = .null
    · subst hv
      rw [show aw_l ad i (.null :: r) = aw_l ad (i + 1) r from rfl, aw_l_mem]
      constructor
      · rintro ⟨j, w, h1, h2, h3⟩
        exact ⟨j + 1, w, by simpa using h1, h2, by rw [h3]; congr 1; omega⟩
      · rintro ⟨j, w, h1, h2, h3⟩
        cases j with
        | zero => simp at h1; exact absurd h1.symm h2
        | succ j => exact ⟨j, w, by simpa using h1, h2, by rw [h3]; congr 1; omega⟩
    · rw [aw_l_cons ad i v r hv, List.mem_cons, aw_l_mem]
      constructor
      · rintro (h | ⟨j, w, h1, h2, h3⟩)
        · exact ⟨0, v, rfl, hv, by simpa using h⟩
        · exact ⟨j + 1, w, by simpa using h1, h2, by rw [h3]; congr 1; omega⟩
      · rintro ⟨j, w, h1, h2, h3⟩
        cases j with
        | zero =>
          simp at h1
          subst h1
          exact Or.inl (by simpa using h3)
        | succ j => exact Or.inr ⟨j, w, by simpa using h1, h2, by rw [h3]; congr 1; omega⟩
theorem lv_mono {ls : Array Slot} {nL : Nat} {l l' : List (Nat × Value)} (h : lv_has ls nL l) (hl : ∀ q ∈ l', q ∈ l) : lv_has ls nL l' := ⟨h.1, h.2.1, fun q hq => h.2.2 q (hl q hq)⟩
/-- a store at i takes away a long that stands ahead of it -/
def aw_k : Value → Value
  | .long _ => .null
  | .double _ => .null
  | .int x => .int x
  | .float x => .float x
  | .ref x => .ref x
  | .null => .null
  | .retAddr x => .retAddr x
def aw_s : List Value → Nat → Value → List Value
  | [], _, _ => []
  | _ :: r, 0, w => w :: r
  | [u], 1, _ => [aw_k u]
  | u :: _ :: r, 1, w => aw_k u :: w :: r
  | u :: r, i + 2, w => u :: aw_s r (i + 1) w
theorem aw_k_or (u : Value) : (aw_k u = u ∧ u.category = 1) ∨ aw_k u = .null := by cases u <;> simp [aw_k, Value.category]
theorem aw_s_get : ∀ (L : List Value) (i : Nat) (w : Value) (j : Nat) (v : Value), (aw_s L i w)[j]? = some v → v ≠ .null → (j = i ∧ v = w) ∨ (j ≠ i ∧ L[j]? = some v ∧ ¬ (j + 1 = i ∧ v.category = 2))
  | [], i, w, j, v, h, _ => by simp [aw_s] at h
  | u :: r, 0, w, j, v, h, hv => by
    cases j with
    | zero => simp [aw_s] at h; exact Or.inl ⟨rfl, h.symm⟩
    | succ j => simp [aw_s] at h; exact Or.inr ⟨by omega, by simpa using h, by omega⟩
  | [u], 1, w, j, v, h, hv => by
    cases j with
    | zero =>
      simp [aw_s] at h
      rcases aw_k_or u with ⟨h1, h2⟩ | h1
      · rw [h1] at h; subst h; exact Or.inr ⟨by omega, rfl, by omega⟩
      · rw [h1] at h; exact absurd h.symm hv
    | succ j => simp [aw_s] at h
  | u :: u2 :: r, 1, w, j, v, h, hv => by
    match j with
    | 0 =>
      simp [aw_s] at h
      rcases aw_k_or u with ⟨h1, h2⟩ | h1
      · rw [h1] at h; subst h; exact Or.inr ⟨by omega, rfl, by omega⟩
      · rw [h1] at h; exact absurd h.symm hv
    | 1 => simp [aw_s] at h; exact Or.inl ⟨rfl, h.symm⟩
    | j + 2 => simp [aw_s] at h; exact Or.inr ⟨by omega, by simpa using h, by omega⟩
  | u :: r, i + 2, w, j, v, h, hv => by
    cases j with
    | zero => simp [aw_s] at h; subst h; exact Or.inr ⟨by omega, rfl, by omega⟩
    | succ j =>
      have h' : (aw_s r (i + 1) w)[j]? = some v := by simpa [aw_s] using h
      rcases aw_s_get r (i + 1) w j v h' hv with ⟨h1, h2⟩ | ⟨h1, h2, h3⟩
      · exact Or.inl ⟨by omega, h2⟩
      · exact Or.inr ⟨by omega, by simpa using h2, by omega⟩
/-- a long takes two places -/
def aw_s2 (L : List Value) (i : Nat) (w : Value) : List Value := (aw_s (L.set (i + 1) .null) i w)
theorem aw_s_has {ad : Nat → Nat} {L : List Value} {i : Nat} {w : Value} {ls : Array Slot} {nL : Nat} (h : lv_has ls nL ((i, aw_v ad w) :: (aw_l ad 0 L).filter (fun q => !(q.1 == i) && !(q.1 + 1 == i && q.2.category == 2)))) : lv_has ls nL (aw_l ad 0 (aw_s L i w)) := by
  refine lv_mono h (fun q hq => ?_)
  obtain ⟨j, v, h1, h2, h3⟩ := aw_l_mem.mp hq
  rcases aw_s_get L i w j v h1 h2 with ⟨e1, e2⟩ | ⟨e1, e2, e3⟩
  · subst e1; subst e2
    rw [h3]
    simp
  · refine List.mem_cons_of_mem _ (List.mem_filter.mpr ⟨aw_l_mem.mpr ⟨j, v, e2, h2, h3⟩, ?_⟩)
    rw [h3]
    simp only [Nat.zero_add, aw_v_cat, Bool.and_eq_true, Bool.not_eq_true', beq_eq_false_iff_ne, ne_eq, Bool.and_eq_false_iff]
    refine ⟨e1, ?_⟩
    by_cases hj : j + 1 = i
    · exact Or.inr (fun hc => e3 ⟨hj, hc⟩)
    · exact Or.inl hj
theorem aw_s2_has {ad : Nat → Nat} {L : List Value} {i : Nat} {w : Value} {ls : Array Slot} {nL : Nat} (h : lv_has ls nL ((i, aw_v ad w) :: (aw_l ad 0 L).filter (fun q => !(q.1 == i) && (!(q.1 == i + 1) && !(q.1 + 1 == i && q.2.category == 2))))) : lv_has ls nL (aw_l ad 0 (aw_s2 L i w)) := by
  refine lv_mono h (fun q hq => ?_)
  obtain ⟨j, v, h1, h2, h3⟩ := aw_l_mem.mp hq
  rcases aw_s_get _ i w j v h1 h2 with ⟨e1, e2⟩ | ⟨e1, e2, e3⟩
  · subst e1; subst e2
    rw [h3]
    simp
  · have hj1 : j ≠ i + 1 := by
      intro hj
      subst hj
      rw [List.getElem?_set] at e2
      simp at e2
      exact h2 e2.2.symm
    have e2' : L[j]? = some v := by rwa [List.getElem?_set_ne (Ne.symm hj1)] at e2
    refine List.mem_cons_of_mem _ (List.mem_filter.mpr ⟨aw_l_mem.mpr ⟨j, v, e2', h2, h3⟩, ?_⟩)
    rw [h3]
    simp only [Nat.zero_add, aw_v_cat, Bool.and_eq_true, Bool.not_eq_true', beq_eq_false_iff_ne, ne_eq, Bool.and_eq_false_iff]
    refine ⟨e1, hj1, ?_⟩
    by_cases hj : j + 1 = i
    · exact Or.inr (fun hc => e3 ⟨hj, hc⟩)
    · exact Or.inl hj
/-- where the machine stands -/
abbrev aw_X : Type := aw_F × Program × Env × Room × State × MethodId × Array Value × List Frame × Method × Code × Nat × Nat × (State → Prop)
/-- from this place with these locals, this stack, this world the machine comes to its end -/
def Sat (X : aw_X) (pc : Nat) (L st : List Value) (h : aw_H) : Prop := match X with
  | (E, p, e, R, s, m, args, below, meth, c, kc, ks, Q) => ∀ (ls : Array Slot) (H : Heap) (locs : List Loc), lv_has ls c.maxLocals (aw_l E.2.2.2.1 0 L) → aw_W E h H → va_S E.2.2.2.2 s.heap H locs → W p E.1 e R s m args below meth c H locs kc ks Q (F0 m pc ls (st.map (aw_v E.2.2.2.1)))
/-- what is known there -/
def aw_C (X : aw_X) (cc : ByteArray) (own : String) (nL d : Nat) : Prop := match X with
  | (E, p, e, R, s, m, args, below, meth, c, kc, ks, Q) => p.tables.exec = Jvm.exec ∧ c.code = cc ∧ c.maxLocals = nL ∧ s.vm.findClass own = some m.cls ∧ (∀ w ∈ lw_g, w.before args s = true) ∧ va_K E.2.1 vwCl (aw_t E.2.2.1) s ∧ d ≤ R.frames ∧ 40 * d ≤ R.locals ∧ kc ≤ R.cells ∧ ks ≤ R.slots
def aw_ok : Option FieldType → Option Value → Prop
  | some .int, some (.int _) => True
  | some .boolean, some (.int v) => v = 0 ∨ v = 1
  | some .long, some (.long _) => True
  | none, none => True
  | _, _ => False
/-- the end: what a return must show -/
def aw_Z (X : aw_X) (cc : ByteArray) (ret : Option FieldType) (Q0 : aw_R) : Prop := match X with
  | (E, p, e, R, s, m, args, below, meth, c, kc, ks, Q) => ∀ (pc : Nat) (ls : Array Slot) (H : Heap) (locs : List Loc) (r : Option Value) (h : aw_H), aw_ok ret r → (match r with
      | some (.int _) => decode cc pc = .ok (.ireturn, 1)
      | some (.long _) => decode cc pc = .ok (.lreturn, 1)
      | none => decode cc pc = .ok (.return_, 1)
      | _ => False) → aw_W E h H → va_S E.2.2.2.2 s.heap H locs → Q0 r h → W p E.1 e R s m args below meth c H locs kc ks Q (F0 m pc ls ((r.map (aw_v E.2.2.2.1)).toList))
theorem Sat.mask {X : aw_X} {pc : Nat} {L L' st : List Value} {h : aw_H} (k : Sat X pc L' st h) (hm : ∀ (i : Nat) (v : Value), L'[i]? = some v → v = .null ∨ L[i]? = some v) : Sat X pc L st h := by
  obtain ⟨E, p, e, R, s, m, args, below, meth, c, kc, ks, Q⟩ := X
  intro ls H locs a b d
  refine k ls H locs (lv_mono a (fun q hq => ?_)) b d
  obtain ⟨j, v, h1, h2, h3⟩ := aw_l_mem.mp hq
  rcases hm j v h1 with e1 | e1
  · exact absurd e1 h2
  · exact aw_l_mem.mpr ⟨j, v, e1, h2, h3⟩
theorem mk_0 : ∀ (i : Nat) (v : Value), ([] : List Value)[i]? = some v → v = .null ∨ ([] : List Value)[i]? = some v := fun i v h => by simp at h
theorem mk_y {L L' : List Value} {u : Value} (k : ∀ (i : Nat) (v : Value), L'[i]? = some v → v = .null ∨ L[i]? = some v) : ∀ (i : Nat) (v : Value), (u :: L')[i]? = some v → v = .null ∨ (u :: L)[i]? = some v := fun i v h => by
  cases i with
  | zero => exact Or.inr (by simpa using h)
  | succ i => simpa using k i v (by simpa using h)
theorem mk_n {L L' : List Value} {u : Value} (k : ∀ (i : Nat) (v : Value), L'[i]? = some v → v = .null ∨ L[i]? = some v) : ∀ (i : Nat) (v : Value), (Value.null :: L')[i]? = some v → v = .null ∨ (u :: L)[i]? = some v := fun i v h => by
  cases i with
  | zero => exact Or.inl (by simpa using h.symm)
  | succ i => simpa using k i v (by simpa using h)
end
section
/-! ONE INSTRUCTION, A ROW: over the abstract world -/
def sg_I (h : aw_H) (p ci k : Nat) (K : Int32 → Prop) : Prop := match h[p]? with
  | some (.inr (c, fs)) => c = ci ∧ (match fs[k]? with
    | some (.int v) => K v
    | _ => False)
  | _ => False
def sg_R (h : aw_H) (p ci k : Nat) (K : Nat → Prop) : Prop := match h[p]? with
  | some (.inr (c, fs)) => c = ci ∧ (match fs[k]? with
    | some (.ref v) => K v
    | _ => False)
  | _ => False
def sp_I (h : aw_H) (p ci k : Nat) (v : Int32) (K : aw_H → Prop) : Prop := match h[p]? with
  | some (.inr (c, fs)) => c = ci ∧ k < fs.length ∧ K (h.set p (.inr (ci, fs.set k (.int v))))
  | _ => False
def sa_I (h : aw_H) (p : Nat) (i : Int32) (K : Int32 → Prop) : Prop := match h[p]? with
  | some (.inl (t, n, .inl f)) => t = 0 ∧ vp_in i n ∧ K (f i.toNatClampNeg)
  | _ => False
def sa_C (h : aw_H) (p : Nat) (i : Int32) (K : Int32 → Prop) : Prop := match h[p]? with
  | some (.inl (t, n, .inl f)) => t = 2 ∧ vp_in i n ∧ K (f i.toNatClampNeg)
  | _ => False
def sa_L (h : aw_H) (p : Nat) (i : Int32) (K : Int64 → Prop) : Prop := match h[p]? with
  | some (.inl (t, n, .inr (.inl f))) => t = 1 ∧ vp_in i n ∧ K (f i.toNatClampNeg)
  | _ => False
def sa_R (h : aw_H) (t0 : Nat) (p : Nat) (i : Int32) (K : Nat → Prop) : Prop := match h[p]? with
  | some (.inl (t, n, .inr (.inr (.inr (.inr f))))) => t = t0 ∧ vp_in i n ∧ (match f i.toNatClampNeg with
    | some q => K q
    | none => False)
  | _ => False
def sa_N (h : aw_H) (p : Nat) (K : Int32 → Prop) : Prop := match h[p]? with
  | some (.inl (t, n, _)) => t < 5 ∧ K (Int32.ofNat n)
  | _ => False
def ss_I (h : aw_H) (p : Nat) (i x : Int32) (K : aw_H → Prop) : Prop := match h[p]? with
  | some (.inl (t, n, .inl f)) => t = 0 ∧ vp_in i n ∧ K (h.set p (.inl (0, n, .inl (upd f i.toNatClampNeg x))))
  | _ => False
def ss_C (h : aw_H) (p : Nat) (i x : Int32) (K : aw_H → Prop) : Prop := match h[p]? with
  | some (.inl (t, n, .inl f)) => t = 2 ∧ vp_in i n ∧ K (h.set p (.inl (2, n, .inl (upd f i.toNatClampNeg (vp_nar .char x)))))
  | _ => False
def ss_L (h : aw_H) (p : Nat) (i : Int32) (x : Int64) (K : aw_H → Prop) : Prop := match h[p]? with
  | some (.inl (t, n, .inr (.inl f))) => t = 1 ∧ vp_in i n ∧ K (h.set p (.inl (1, n, .inr (.inl (vp_updL f i.toNatClampNeg x)))))
  | _ => False
def sc_I (h : aw_H) (ps : Nat) (sp : Int32) (pd : Nat) (dp n : Int32) (K : aw_H → Prop) : Prop := match h[ps]?, h[pd]? with
  | some (.inl (t0, n0, .inl f)), some (.inl (t1, n1, .inl g)) => t0 = 0 ∧ t1 = 0 ∧ ¬ sp < 0 ∧ ¬ dp < 0 ∧ ¬ n < 0 ∧ sp.toNatClampNeg + n.toNatClampNeg ≤ n0 ∧ dp.toNatClampNeg + n.toNatClampNeg ≤ n1 ∧ K (h.set pd (.inl (0, n1, .inl (va_cpy f g sp.toNatClampNeg dp.toNatClampNeg n.toNatClampNeg))))
  | _, _ => False
def sc_L (h : aw_H) (ps : Nat) (sp : Int32) (pd : Nat) (dp n : Int32) (K : aw_H → Prop) : Prop := match h[ps]?, h[pd]? with
  | some (.inl (t0, n0, .inr (.inl f))), some (.inl (t1, n1, .inr (.inl g))) => t0 = 1 ∧ t1 = 1 ∧ ¬ sp < 0 ∧ ¬ dp < 0 ∧ ¬ n < 0 ∧ sp.toNatClampNeg + n.toNatClampNeg ≤ n0 ∧ dp.toNatClampNeg + n.toNatClampNeg ≤ n1 ∧ K (h.set pd (.inl (1, n1, .inr (.inl (va_cpy f g sp.toNatClampNeg dp.toNatClampNeg n.toNatClampNeg)))))
  | _, _ => False
/-- an object of a class stands there -/
def sv_O (h : aw_H) (p ci : Nat) (A : Prop) : Prop := match h[p]? with
  | some (.inr (c, _)) => c = ci ∧ A
  | _ => False
def sr_I (r : Option Value) (K : Int32 → Prop) : Prop := match r with
  | some (.int v) => K v
  | _ => False
def sr_L (r : Option Value) (K : Int64 → Prop) : Prop := match r with
  | some (.long v) => K v
  | _ => False
def sr_V (r : Option Value) (K : Prop) : Prop := match r with
  | none => K
  | _ => False
theorem sg_I_e {h : aw_H} {p ci k : Nat} {K : Int32 → Prop} (hh : sg_I h p ci k K) : ∃ fs v, h[p]? = some (.inr (ci, fs)) ∧ fs[k]? = some (.int v) ∧ K v := by
  unfold sg_I at hh
  split at hh
  · rename_i c fs hp
    obtain ⟨rfl, hh⟩ := hh
    split at hh
    · rename_i v hv
      exact ⟨fs, v, hp, hv, hh⟩
    · exact hh.elim
  · exact hh.elim
theorem sg_R_e {h : aw_H} {p ci k : Nat} {K : Nat → Prop} (hh : sg_R h p ci k K) : ∃ fs v, h[p]? = some (.inr (ci, fs)) ∧ fs[k]? = some (.ref v) ∧ K v := by
  unfold sg_R at hh
  split at hh
  · rename_i c fs hp
    obtain ⟨rfl, hh⟩ := hh
    split at hh
    · rename_i v hv
      exact ⟨fs, v, hp, hv, hh⟩
    · exact hh.elim
  · exact hh.elim
theorem sp_I_e {h : aw_H} {p ci k : Nat} {v : Int32} {K : aw_H → Prop} (hh : sp_I h p ci k v K) : ∃ fs, h[p]? = some (.inr (ci, fs)) ∧ k < fs.length ∧ K (h.set p (.inr (ci, fs.set k (.int v)))) := by
  unfold sp_I at hh
  split at hh
  · rename_i c fs hp
    obtain ⟨rfl, hh⟩ := hh
    exact ⟨fs, hp, hh.1, hh.2⟩
  · exact hh.elim
theorem sa_I_e {h : aw_H} {p : Nat} {i : Int32} {K : Int32 → Prop} (hh : sa_I h p i K) : ∃ n f, h[p]? = some (.inl (0, n, .inl f)) ∧ vp_in i n ∧ K (f i.toNatClampNeg) := by
  unfold sa_I at hh
  split at hh
  · rename_i t n f hp
    obtain ⟨rfl, h1, h2⟩ := hh
    exact ⟨n, f, hp, h1, h2⟩
  · exact hh.elim
theorem sa_C_e {h : aw_H} {p : Nat} {i : Int32} {K : Int32 → Prop} (hh : sa_C h p i K) : ∃ n f, h[p]? = some (.inl (2, n, .inl f)) ∧ vp_in i n ∧ K (f i.toNatClampNeg) := by
  unfold sa_C at hh
  split at hh
  · rename_i t n f hp
    obtain ⟨rfl, h1, h2⟩ := hh
    exact ⟨n, f, hp, h1, h2⟩
  · exact hh.elim
theorem sa_L_e {h : aw_H} {p : Nat} {i : Int32} {K : Int64 → Prop} (hh : sa_L h p i K) : ∃ n f, h[p]? = some (.inl (1, n, .inr (.inl f))) ∧ vp_in i n ∧ K (f i.toNatClampNeg) := by
  unfold sa_L at hh
  split at hh
  · rename_i t n f hp
    obtain ⟨rfl, h1, h2⟩ := hh
    exact ⟨n, f, hp, h1, h2⟩
  · exact hh.elim
theorem sa_R_e {h : aw_H} {t0 p : Nat} {i : Int32} {K : Nat → Prop} (hh : sa_R h t0 p i K) : ∃ n f q, h[p]? = some (.inl (t0, n, .inr (.inr (.inr (.inr f))))) ∧ vp_in i n ∧ f i.toNatClampNeg = some q ∧ K q := by
  unfold sa_R at hh
  split at hh
  · rename_i t n f hp
    obtain ⟨rfl, h1, h2⟩ := hh
    split at h2
    · rename_i q hq
      exact ⟨n, f, q, hp, h1, hq, h2⟩
    · exact h2.elim
  · exact hh.elim
theorem sa_N_e {h : aw_H} {p : Nat} {K : Int32 → Prop} (hh : sa_N h p K) : ∃ t n x, h[p]? = some (.inl (t, n, x)) ∧ t < 5 ∧ K (Int32.ofNat n) := by
  unfold sa_N at hh
  split at hh
  · rename_i t n x hp
    exact ⟨t, n, x, hp, hh.1, hh.2⟩
  · exact hh.elim
theorem ss_I_e {h : aw_H} {p : Nat} {i x : Int32} {K : aw_H → Prop} (hh : ss_I h p i x K) : ∃ n f, h[p]? = some (.inl (0, n, .inl f)) ∧ vp_in i n ∧ K (h.set p (.inl (0, n, .inl (upd f i.toNatClampNeg x)))) := by
  unfold ss_I at hh
  split at hh
  · rename_i t n f hp
    obtain ⟨rfl, h1, h2⟩ := hh
    exact ⟨n, f, hp, h1, h2⟩
  · exact hh.elim
theorem ss_C_e {h : aw_H} {p : Nat} {i x : Int32} {K : aw_H → Prop} (hh : ss_C h p i x K) : ∃ n f, h[p]? = some (.inl (2, n, .inl f)) ∧ vp_in i n ∧ K (h.set p (.inl (2, n, .inl (upd f i.toNatClampNeg (vp_nar .char x))))) := by
  unfold ss_C at hh
  split at hh
  · rename_i t n f hp
    obtain ⟨rfl, h1, h2⟩ := hh
    exact ⟨n, f, hp, h1, h2⟩
  · exact hh.elim
theorem ss_L_e {h : aw_H} {p : Nat} {i : Int32} {x : Int64} {K : aw_H → Prop} (hh : ss_L h p i x K) : ∃ n f, h[p]? = some (.inl (1, n, .inr (.inl f))) ∧ vp_in i n ∧ K (h.set p (.inl (1, n, .inr (.inl (vp_updL f i.toNatClampNeg x))))) := by
  unfold ss_L at hh
  split at hh
  · rename_i t n f hp
    obtain ⟨rfl, h1, h2⟩ := hh
    exact ⟨n, f, hp, h1, h2⟩
  · exact hh.elim
theorem sv_O_e {h : aw_H} {p ci : Nat} {A : Prop} (hh : sv_O h p ci A) : (∃ fs, h[p]? = some (.inr (ci, fs))) ∧ A := by
  unfold sv_O at hh
  split at hh
  · rename_i c fs hp
    obtain ⟨rfl, h1⟩ := hh
    exact ⟨⟨fs, hp⟩, h1⟩
  · exact hh.elim
theorem sr_I_e {r : Option Value} {K : Int32 → Prop} (hh : sr_I r K) : ∃ v, r = some (.int v) ∧ K v := by
  unfold sr_I at hh
  split at hh
  · exact ⟨_, rfl, hh⟩
  · exact hh.elim
theorem sr_L_e {r : Option Value} {K : Int64 → Prop} (hh : sr_L r K) : ∃ v, r = some (.long v) ∧ K v := by
  unfold sr_L at hh
  split at hh
  · exact ⟨_, rfl, hh⟩
  · exact hh.elim
theorem sr_V_e {r : Option Value} {K : Prop} (hh : sr_V r K) : r = none ∧ K := by
  unfold sr_V at hh
  split at hh
  · exact ⟨rfl, hh⟩
  · exact hh.elim
theorem if_e {c : Prop} [Decidable c] {A B : Prop} (hh : if c then A else B) : (c ∧ A) ∨ (¬ c ∧ B) := by
  split at hh
  · rename_i hc
    exact Or.inl ⟨hc, hh⟩
  · rename_i hc
    exact Or.inr ⟨hc, hh⟩
theorem if_y {c : Prop} [Decidable c] {A B : Prop} (hc : c) (hh : if c then A else B) : A := by rwa [if_pos hc] at hh
theorem if_n {c : Prop} [Decidable c] {A B : Prop} (hc : ¬ c) (hh : if c then A else B) : B := by rwa [if_neg hc] at hh
theorem aw_at {ad : Nat → Nat} {ls : Array Slot} {nL i : Nat} {L : List Value} {v : Value} (a : lv_has ls nL (aw_l ad 0 L)) (hl : L[i]? = some v) (hv : v ≠ .null) : ls[i]? = some (.val (aw_v ad v)) :=
  a.2.2 (i, aw_v ad v) (aw_l_mem.mpr ⟨i, v, hl, hv, by rw [Nat.zero_add]⟩)
section OPS
variable {X : aw_X} {cc : ByteArray} {own : String} {nL d pc : Nat} {L st : List Value} {h : aw_H}
theorem ow_iconst (C : aw_C X cc own nL d) {n : Int} {v : Int32} (hd : decode cc pc = .ok (.iconst n, 1)) (hv : Int32.ofInt n = v) (k : Sat X (pc + 1) L (.int v :: st) h) : Sat X pc L (st) h := by
  obtain ⟨E, pg, ev, R, s, m, args, below, meth, c, kc, ks, Q⟩ := X
  obtain ⟨hx, hb, hml, hown, hts, hK, hfr, hlo, hkc, hks⟩ := C
  intro ls H locs a b z
  exact lv_iconst hx hb hd hv (k ls H locs a b z)
theorem ow_bipush (C : aw_C X cc own nL d) {n : Int} {v : Int32} (hd : decode cc pc = .ok (.bipush n, 2)) (hv : (Int8.ofInt n).toInt32 = v) (k : Sat X (pc + 2) L (.int v :: st) h) : Sat X pc L (st) h := by
  obtain ⟨E, pg, ev, R, s, m, args, below, meth, c, kc, ks, Q⟩ := X
  obtain ⟨hx, hb, hml, hown, hts, hK, hfr, hlo, hkc, hks⟩ := C
  intro ls H locs a b z
  exact lv_bipush hx hb hd hv (k ls H locs a b z)
theorem ow_sipush (C : aw_C X cc own nL d) {n : Int} {v : Int32} (hd : decode cc pc = .ok (.sipush n, 3)) (hv : (Int16.ofInt n).toInt32 = v) (k : Sat X (pc + 3) L (.int v :: st) h) : Sat X pc L (st) h := by
  obtain ⟨E, pg, ev, R, s, m, args, below, meth, c, kc, ks, Q⟩ := X
  obtain ⟨hx, hb, hml, hown, hts, hK, hfr, hlo, hkc, hks⟩ := C
  intro ls H locs a b z
  exact lv_sipush hx hb hd hv (k ls H locs a b z)
theorem ow_lconst (C : aw_C X cc own nL d) {n : Fin 2} {v : Int64} (hd : decode cc pc = .ok (.lconst n, 1)) (hv : Int64.ofNat (n : Nat) = v) (k : Sat X (pc + 1) L (.long v :: st) h) : Sat X pc L (st) h := by
  obtain ⟨E, pg, ev, R, s, m, args, below, meth, c, kc, ks, Q⟩ := X
  obtain ⟨hx, hb, hml, hown, hts, hK, hfr, hlo, hkc, hks⟩ := C
  intro ls H locs a b z
  exact lv_lconst hx hb hd hv (k ls H locs a b z)
theorem ow_iload_n (C : aw_C X cc own nL d) {k0 : Fin 4} {i : Nat} {x : Int32} (hd : decode cc pc = .ok (.iload_n k0, 1)) (hi : (k0 : Nat) = i) (hl : L[i]? = some (.int x)) (k : Sat X (pc + 1) L (.int x :: st) h) : Sat X pc L (st) h := by
  obtain ⟨E, pg, ev, R, s, m, args, below, meth, c, kc, ks, Q⟩ := X
  obtain ⟨hx, hb, hml, hown, hts, hK, hfr, hlo, hkc, hks⟩ := C
  intro ls H locs a b z
  exact lv_iload_n hx hb hd hi (aw_at a hl (fun q => by cases q)) (k ls H locs a b z)
theorem ow_iload (C : aw_C X cc own nL d) {i : Nat} {x : Int32} (hd : decode cc pc = .ok (.iload i, 2)) (hl : L[i]? = some (.int x)) (k : Sat X (pc + 2) L (.int x :: st) h) : Sat X pc L (st) h := by
  obtain ⟨E, pg, ev, R, s, m, args, below, meth, c, kc, ks, Q⟩ := X
  obtain ⟨hx, hb, hml, hown, hts, hK, hfr, hlo, hkc, hks⟩ := C
  intro ls H locs a b z
  exact lv_iload hx hb hd (aw_at a hl (fun q => by cases q)) (k ls H locs a b z)
theorem ow_lload_n (C : aw_C X cc own nL d) {k0 : Fin 4} {i : Nat} {x : Int64} (hd : decode cc pc = .ok (.lload_n k0, 1)) (hi : (k0 : Nat) = i) (hl : L[i]? = some (.long x)) (k : Sat X (pc + 1) L (.long x :: st) h) : Sat X pc L (st) h := by
  obtain ⟨E, pg, ev, R, s, m, args, below, meth, c, kc, ks, Q⟩ := X
  obtain ⟨hx, hb, hml, hown, hts, hK, hfr, hlo, hkc, hks⟩ := C
  intro ls H locs a b z
  exact lv_lload_n hx hb hd hi (aw_at a hl (fun q => by cases q)) (k ls H locs a b z)
theorem ow_lload (C : aw_C X cc own nL d) {i : Nat} {x : Int64} (hd : decode cc pc = .ok (.lload i, 2)) (hl : L[i]? = some (.long x)) (k : Sat X (pc + 2) L (.long x :: st) h) : Sat X pc L (st) h := by
  obtain ⟨E, pg, ev, R, s, m, args, below, meth, c, kc, ks, Q⟩ := X
  obtain ⟨hx, hb, hml, hown, hts, hK, hfr, hlo, hkc, hks⟩ := C
  intro ls H locs a b z
  exact lv_lload hx hb hd (aw_at a hl (fun q => by cases q)) (k ls H locs a b z)
theorem ow_aload_n (C : aw_C X cc own nL d) {k0 : Fin 4} {i : Nat} {x : Nat} (hd : decode cc pc = .ok (.aload_n k0, 1)) (hi : (k0 : Nat) = i) (hl : L[i]? = some (.ref x)) (k : Sat X (pc + 1) L (.ref x :: st) h) : Sat X pc L (st) h := by
  obtain ⟨E, pg, ev, R, s, m, args, below, meth, c, kc, ks, Q⟩ := X
  obtain ⟨hx, hb, hml, hown, hts, hK, hfr, hlo, hkc, hks⟩ := C
  intro ls H locs a b z
  exact lv_aload_n hx hb hd hi (aw_at a hl (fun q => by cases q)) (k ls H locs a b z)
theorem ow_aload (C : aw_C X cc own nL d) {i : Nat} {x : Nat} (hd : decode cc pc = .ok (.aload i, 2)) (hl : L[i]? = some (.ref x)) (k : Sat X (pc + 2) L (.ref x :: st) h) : Sat X pc L (st) h := by
  obtain ⟨E, pg, ev, R, s, m, args, below, meth, c, kc, ks, Q⟩ := X
  obtain ⟨hx, hb, hml, hown, hts, hK, hfr, hlo, hkc, hks⟩ := C
  intro ls H locs a b z
  exact lv_aload hx hb hd (aw_at a hl (fun q => by cases q)) (k ls H locs a b z)
theorem ow_istore_n (C : aw_C X cc own nL d) {k0 : Fin 4} {i : Nat} {x : Int32} {L' : List Value} (hd : decode cc pc = .ok (.istore_n k0, 1)) (hi : (k0 : Nat) = i) (hn : i < nL) (hL : aw_s L i (.int x) = L') (k : Sat X (pc + 1) L' st h) : Sat X pc L (.int x :: st) h := by
  obtain ⟨E, pg, ev, R, s, m, args, below, meth, c, kc, ks, Q⟩ := X
  obtain ⟨hx, hb, hml, hown, hts, hK, hfr, hlo, hkc, hks⟩ := C
  intro ls H locs a b z
  subst hL
  exact lv_istore_n hx hb hd hi a (by rw [hml]; exact hn) rfl (fun ls' hl' => k ls' H locs (aw_s_has (w := .int x) hl') b z)
theorem ow_istore (C : aw_C X cc own nL d) {i : Nat} {x : Int32} {L' : List Value} (hd : decode cc pc = .ok (.istore i, 2)) (hn : i < nL) (hL : aw_s L i (.int x) = L') (k : Sat X (pc + 2) L' st h) : Sat X pc L (.int x :: st) h := by
  obtain ⟨E, pg, ev, R, s, m, args, below, meth, c, kc, ks, Q⟩ := X
  obtain ⟨hx, hb, hml, hown, hts, hK, hfr, hlo, hkc, hks⟩ := C
  intro ls H locs a b z
  subst hL
  exact lv_istore hx hb hd a (by rw [hml]; exact hn) rfl (fun ls' hl' => k ls' H locs (aw_s_has (w := .int x) hl') b z)
theorem ow_astore_n (C : aw_C X cc own nL d) {k0 : Fin 4} {i : Nat} {x : Nat} {L' : List Value} (hd : decode cc pc = .ok (.astore_n k0, 1)) (hi : (k0 : Nat) = i) (hn : i < nL) (hL : aw_s L i (.ref x) = L') (k : Sat X (pc + 1) L' st h) : Sat X pc L (.ref x :: st) h := by
  obtain ⟨E, pg, ev, R, s, m, args, below, meth, c, kc, ks, Q⟩ := X
  obtain ⟨hx, hb, hml, hown, hts, hK, hfr, hlo, hkc, hks⟩ := C
  intro ls H locs a b z
  subst hL
  exact lv_astore_n hx hb hd hi a (by rw [hml]; exact hn) rfl (fun ls' hl' => k ls' H locs (aw_s_has (w := .ref x) hl') b z)
theorem ow_astore (C : aw_C X cc own nL d) {i : Nat} {x : Nat} {L' : List Value} (hd : decode cc pc = .ok (.astore i, 2)) (hn : i < nL) (hL : aw_s L i (.ref x) = L') (k : Sat X (pc + 2) L' st h) : Sat X pc L (.ref x :: st) h := by
  obtain ⟨E, pg, ev, R, s, m, args, below, meth, c, kc, ks, Q⟩ := X
  obtain ⟨hx, hb, hml, hown, hts, hK, hfr, hlo, hkc, hks⟩ := C
  intro ls H locs a b z
  subst hL
  exact lv_astore hx hb hd a (by rw [hml]; exact hn) rfl (fun ls' hl' => k ls' H locs (aw_s_has (w := .ref x) hl') b z)
theorem ow_lstore_n (C : aw_C X cc own nL d) {k0 : Fin 4} {i : Nat} {x : Int64} {L' : List Value} (hd : decode cc pc = .ok (.lstore_n k0, 1)) (hi : (k0 : Nat) = i) (hn : i + 1 < nL) (hL : aw_s2 L i (.long x) = L') (k : Sat X (pc + 1) L' st h) : Sat X pc L (.long x :: st) h := by
  obtain ⟨E, pg, ev, R, s, m, args, below, meth, c, kc, ks, Q⟩ := X
  obtain ⟨hx, hb, hml, hown, hts, hK, hfr, hlo, hkc, hks⟩ := C
  intro ls H locs a b z
  subst hL
  exact lv_lstore_n hx hb hd hi a (by rw [hml]; exact hn) rfl (fun ls' hl' => k ls' H locs (aw_s2_has (w := .long x) hl') b z)
theorem ow_lstore (C : aw_C X cc own nL d) {i : Nat} {x : Int64} {L' : List Value} (hd : decode cc pc = .ok (.lstore i, 2)) (hn : i + 1 < nL) (hL : aw_s2 L i (.long x) = L') (k : Sat X (pc + 2) L' st h) : Sat X pc L (.long x :: st) h := by
  obtain ⟨E, pg, ev, R, s, m, args, below, meth, c, kc, ks, Q⟩ := X
  obtain ⟨hx, hb, hml, hown, hts, hK, hfr, hlo, hkc, hks⟩ := C
  intro ls H locs a b z
  subst hL
  exact lv_lstore hx hb hd a (by rw [hml]; exact hn) rfl (fun ls' hl' => k ls' H locs (aw_s2_has (w := .long x) hl') b z)
theorem ow_iinc (C : aw_C X cc own nL d) {i : Nat} {n : Int} {x v : Int32} {L' : List Value} (hd : decode cc pc = .ok (.iinc i n, 3)) (hl : L[i]? = some (.int x)) (hv : x + Int32.ofInt n = v) (hn : i < nL) (hL : aw_s L i (.int v) = L') (k : Sat X (pc + 3) L' st h) : Sat X pc L st h := by
  obtain ⟨E, pg, ev, R, s, m, args, below, meth, c, kc, ks, Q⟩ := X
  obtain ⟨hx, hb, hml, hown, hts, hK, hfr, hlo, hkc, hks⟩ := C
  intro ls H locs a b z
  subst hL
  obtain ⟨k0, hk0⟩ := List.getElem?_of_mem (aw_l_mem.mpr ⟨i, .int x, hl, (fun q => by cases q), rfl⟩ : (0 + i, aw_v E.2.2.2.1 (.int x)) ∈ aw_l E.2.2.2.1 0 L)
  rw [Nat.zero_add] at hk0
  exact lv_iinc hx hb hd a hk0 hv (by rw [hml]; exact hn) rfl (fun ls' hl' => k ls' H locs (aw_s_has (w := .int v) hl') b z)
theorem ow_iadd (C : aw_C X cc own nL d) {x y : Int32} (hd : decode cc pc = .ok (.iadd, 1))  (k : Sat X (pc + 1) L (.int (x + y) :: st) h) : Sat X pc L (.int y :: .int x :: st) h := by
  obtain ⟨E, pg, ev, R, s, m, args, below, meth, c, kc, ks, Q⟩ := X
  obtain ⟨hx, hb, hml, hown, hts, hK, hfr, hlo, hkc, hks⟩ := C
  intro ls H locs a b z
  exact lv_iadd hx hb hd  (k ls H locs a b z)
theorem ow_isub (C : aw_C X cc own nL d) {x y : Int32} (hd : decode cc pc = .ok (.isub, 1))  (k : Sat X (pc + 1) L (.int (x - y) :: st) h) : Sat X pc L (.int y :: .int x :: st) h := by
  obtain ⟨E, pg, ev, R, s, m, args, below, meth, c, kc, ks, Q⟩ := X
  obtain ⟨hx, hb, hml, hown, hts, hK, hfr, hlo, hkc, hks⟩ := C
  intro ls H locs a b z
  exact lv_isub hx hb hd  (k ls H locs a b z)
theorem ow_imul (C : aw_C X cc own nL d) {x y : Int32} (hd : decode cc pc = .ok (.imul, 1))  (k : Sat X (pc + 1) L (.int (x * y) :: st) h) : Sat X pc L (.int y :: .int x :: st) h := by
  obtain ⟨E, pg, ev, R, s, m, args, below, meth, c, kc, ks, Q⟩ := X
  obtain ⟨hx, hb, hml, hown, hts, hK, hfr, hlo, hkc, hks⟩ := C
  intro ls H locs a b z
  exact lv_imul hx hb hd  (k ls H locs a b z)
theorem ow_iand (C : aw_C X cc own nL d) {x y : Int32} (hd : decode cc pc = .ok (.iand, 1))  (k : Sat X (pc + 1) L (.int (x &&& y) :: st) h) : Sat X pc L (.int y :: .int x :: st) h := by
  obtain ⟨E, pg, ev, R, s, m, args, below, meth, c, kc, ks, Q⟩ := X
  obtain ⟨hx, hb, hml, hown, hts, hK, hfr, hlo, hkc, hks⟩ := C
  intro ls H locs a b z
  exact lv_iand hx hb hd  (k ls H locs a b z)
theorem ow_ior (C : aw_C X cc own nL d) {x y : Int32} (hd : decode cc pc = .ok (.ior, 1))  (k : Sat X (pc + 1) L (.int (x ||| y) :: st) h) : Sat X pc L (.int y :: .int x :: st) h := by
  obtain ⟨E, pg, ev, R, s, m, args, below, meth, c, kc, ks, Q⟩ := X
  obtain ⟨hx, hb, hml, hown, hts, hK, hfr, hlo, hkc, hks⟩ := C
  intro ls H locs a b z
  exact lv_ior hx hb hd  (k ls H locs a b z)
theorem ow_ixor (C : aw_C X cc own nL d) {x y : Int32} (hd : decode cc pc = .ok (.ixor, 1))  (k : Sat X (pc + 1) L (.int (x ^^^ y) :: st) h) : Sat X pc L (.int y :: .int x :: st) h := by
  obtain ⟨E, pg, ev, R, s, m, args, below, meth, c, kc, ks, Q⟩ := X
  obtain ⟨hx, hb, hml, hown, hts, hK, hfr, hlo, hkc, hks⟩ := C
  intro ls H locs a b z
  exact lv_ixor hx hb hd  (k ls H locs a b z)
theorem ow_ishl (C : aw_C X cc own nL d) {x y : Int32} (hd : decode cc pc = .ok (.ishl, 1))  (k : Sat X (pc + 1) L (.int (x <<< (y &&& 31)) :: st) h) : Sat X pc L (.int y :: .int x :: st) h := by
  obtain ⟨E, pg, ev, R, s, m, args, below, meth, c, kc, ks, Q⟩ := X
  obtain ⟨hx, hb, hml, hown, hts, hK, hfr, hlo, hkc, hks⟩ := C
  intro ls H locs a b z
  exact lv_ishl hx hb hd  (k ls H locs a b z)
theorem ow_ishr (C : aw_C X cc own nL d) {x y : Int32} (hd : decode cc pc = .ok (.ishr, 1))  (k : Sat X (pc + 1) L (.int (x >>> (y &&& 31)) :: st) h) : Sat X pc L (.int y :: .int x :: st) h := by
  obtain ⟨E, pg, ev, R, s, m, args, below, meth, c, kc, ks, Q⟩ := X
  obtain ⟨hx, hb, hml, hown, hts, hK, hfr, hlo, hkc, hks⟩ := C
  intro ls H locs a b z
  exact lv_ishr hx hb hd  (k ls H locs a b z)
theorem ow_iushr (C : aw_C X cc own nL d) {x y : Int32} (hd : decode cc pc = .ok (.iushr, 1))  (k : Sat X (pc + 1) L (.int ((x.toUInt32 >>> (y.toUInt32 &&& Int32.toUInt32 31)).toInt32) :: st) h) : Sat X pc L (.int y :: .int x :: st) h := by
  obtain ⟨E, pg, ev, R, s, m, args, below, meth, c, kc, ks, Q⟩ := X
  obtain ⟨hx, hb, hml, hown, hts, hK, hfr, hlo, hkc, hks⟩ := C
  intro ls H locs a b z
  exact lv_iushr hx hb hd rfl (k ls H locs a b z)
theorem ow_ladd (C : aw_C X cc own nL d) {x y : Int64} (hd : decode cc pc = .ok (.ladd, 1))  (k : Sat X (pc + 1) L (.long (x + y) :: st) h) : Sat X pc L (.long y :: .long x :: st) h := by
  obtain ⟨E, pg, ev, R, s, m, args, below, meth, c, kc, ks, Q⟩ := X
  obtain ⟨hx, hb, hml, hown, hts, hK, hfr, hlo, hkc, hks⟩ := C
  intro ls H locs a b z
  exact lv_ladd hx hb hd  (k ls H locs a b z)
theorem ow_lsub (C : aw_C X cc own nL d) {x y : Int64} (hd : decode cc pc = .ok (.lsub, 1))  (k : Sat X (pc + 1) L (.long (x - y) :: st) h) : Sat X pc L (.long y :: .long x :: st) h := by
  obtain ⟨E, pg, ev, R, s, m, args, below, meth, c, kc, ks, Q⟩ := X
  obtain ⟨hx, hb, hml, hown, hts, hK, hfr, hlo, hkc, hks⟩ := C
  intro ls H locs a b z
  exact lv_lsub hx hb hd  (k ls H locs a b z)
theorem ow_lmul (C : aw_C X cc own nL d) {x y : Int64} (hd : decode cc pc = .ok (.lmul, 1))  (k : Sat X (pc + 1) L (.long (x * y) :: st) h) : Sat X pc L (.long y :: .long x :: st) h := by
  obtain ⟨E, pg, ev, R, s, m, args, below, meth, c, kc, ks, Q⟩ := X
  obtain ⟨hx, hb, hml, hown, hts, hK, hfr, hlo, hkc, hks⟩ := C
  intro ls H locs a b z
  exact lv_lmul hx hb hd  (k ls H locs a b z)
theorem ow_land (C : aw_C X cc own nL d) {x y : Int64} (hd : decode cc pc = .ok (.land, 1))  (k : Sat X (pc + 1) L (.long (x &&& y) :: st) h) : Sat X pc L (.long y :: .long x :: st) h := by
  obtain ⟨E, pg, ev, R, s, m, args, below, meth, c, kc, ks, Q⟩ := X
  obtain ⟨hx, hb, hml, hown, hts, hK, hfr, hlo, hkc, hks⟩ := C
  intro ls H locs a b z
  exact lv_land hx hb hd  (k ls H locs a b z)
theorem ow_lor (C : aw_C X cc own nL d) {x y : Int64} (hd : decode cc pc = .ok (.lor, 1))  (k : Sat X (pc + 1) L (.long (x ||| y) :: st) h) : Sat X pc L (.long y :: .long x :: st) h := by
  obtain ⟨E, pg, ev, R, s, m, args, below, meth, c, kc, ks, Q⟩ := X
  obtain ⟨hx, hb, hml, hown, hts, hK, hfr, hlo, hkc, hks⟩ := C
  intro ls H locs a b z
  exact lv_lor hx hb hd  (k ls H locs a b z)
theorem ow_lshl (C : aw_C X cc own nL d) {x : Int64} {y : Int32} (hd : decode cc pc = .ok (.lshl, 1))  (k : Sat X (pc + 1) L (.long (x <<< (y.toInt64 &&& 63)) :: st) h) : Sat X pc L (.int y :: .long x :: st) h := by
  obtain ⟨E, pg, ev, R, s, m, args, below, meth, c, kc, ks, Q⟩ := X
  obtain ⟨hx, hb, hml, hown, hts, hK, hfr, hlo, hkc, hks⟩ := C
  intro ls H locs a b z
  exact lv_lshl hx hb hd rfl (k ls H locs a b z)
theorem ow_lshr (C : aw_C X cc own nL d) {x : Int64} {y : Int32} (hd : decode cc pc = .ok (.lshr, 1))  (k : Sat X (pc + 1) L (.long (x >>> (y.toInt64 &&& 63)) :: st) h) : Sat X pc L (.int y :: .long x :: st) h := by
  obtain ⟨E, pg, ev, R, s, m, args, below, meth, c, kc, ks, Q⟩ := X
  obtain ⟨hx, hb, hml, hown, hts, hK, hfr, hlo, hkc, hks⟩ := C
  intro ls H locs a b z
  exact lv_lshr hx hb hd rfl (k ls H locs a b z)
theorem ow_lcmp (C : aw_C X cc own nL d) {x y : Int64} (hd : decode cc pc = .ok (.lcmp, 1))  (k : Sat X (pc + 1) L (.int (lg_cmp x y) :: st) h) : Sat X pc L (.long y :: .long x :: st) h := by
  obtain ⟨E, pg, ev, R, s, m, args, below, meth, c, kc, ks, Q⟩ := X
  obtain ⟨hx, hb, hml, hown, hts, hK, hfr, hlo, hkc, hks⟩ := C
  intro ls H locs a b z
  exact W.lcmp hx hb hd  (k ls H locs a b z)
theorem ow_i2l (C : aw_C X cc own nL d) {x : Int32} (hd : decode cc pc = .ok (.i2l, 1))  (k : Sat X (pc + 1) L (.long (x.toInt64) :: st) h) : Sat X pc L (.int x :: st) h := by
  obtain ⟨E, pg, ev, R, s, m, args, below, meth, c, kc, ks, Q⟩ := X
  obtain ⟨hx, hb, hml, hown, hts, hK, hfr, hlo, hkc, hks⟩ := C
  intro ls H locs a b z
  exact lv_i2l hx hb hd rfl (k ls H locs a b z)
theorem ow_l2i (C : aw_C X cc own nL d) {x : Int64} (hd : decode cc pc = .ok (.l2i, 1))  (k : Sat X (pc + 1) L (.int (x.toInt32) :: st) h) : Sat X pc L (.long x :: st) h := by
  obtain ⟨E, pg, ev, R, s, m, args, below, meth, c, kc, ks, Q⟩ := X
  obtain ⟨hx, hb, hml, hown, hts, hK, hfr, hlo, hkc, hks⟩ := C
  intro ls H locs a b z
  exact lv_l2i hx hb hd rfl (k ls H locs a b z)
theorem ow_i2b (C : aw_C X cc own nL d) {x : Int32} (hd : decode cc pc = .ok (.i2b, 1))  (k : Sat X (pc + 1) L (.int (x.toInt8.toInt32) :: st) h) : Sat X pc L (.int x :: st) h := by
  obtain ⟨E, pg, ev, R, s, m, args, below, meth, c, kc, ks, Q⟩ := X
  obtain ⟨hx, hb, hml, hown, hts, hK, hfr, hlo, hkc, hks⟩ := C
  intro ls H locs a b z
  exact lv_i2b hx hb hd rfl (k ls H locs a b z)
theorem ow_i2s (C : aw_C X cc own nL d) {x : Int32} (hd : decode cc pc = .ok (.i2s, 1))  (k : Sat X (pc + 1) L (.int (x.toInt16.toInt32) :: st) h) : Sat X pc L (.int x :: st) h := by
  obtain ⟨E, pg, ev, R, s, m, args, below, meth, c, kc, ks, Q⟩ := X
  obtain ⟨hx, hb, hml, hown, hts, hK, hfr, hlo, hkc, hks⟩ := C
  intro ls H locs a b z
  exact lv_i2s hx hb hd rfl (k ls H locs a b z)
theorem ow_i2c (C : aw_C X cc own nL d) {x : Int32} (hd : decode cc pc = .ok (.i2c, 1))  (k : Sat X (pc + 1) L (.int ((x.toUInt32 % 65536).toInt32) :: st) h) : Sat X pc L (.int x :: st) h := by
  obtain ⟨E, pg, ev, R, s, m, args, below, meth, c, kc, ks, Q⟩ := X
  obtain ⟨hx, hb, hml, hown, hts, hK, hfr, hlo, hkc, hks⟩ := C
  intro ls H locs a b z
  exact lv_i2c hx hb hd rfl (k ls H locs a b z)
theorem ow_idiv (C : aw_C X cc own nL d) {x y : Int32} {A : Prop} (hd : decode cc pc = .ok (.idiv, 1)) (hh : ¬ y = 0 ∧ A) (k : A → Sat X (pc + 1) L (.int (x / y) :: st) h) : Sat X pc L (.int y :: .int x :: st) h := by
  obtain ⟨E, pg, ev, R, s, m, args, below, meth, c, kc, ks, Q⟩ := X
  obtain ⟨hx, hb, hml, hown, hts, hK, hfr, hlo, hkc, hks⟩ := C
  intro ls H locs a b z
  exact lv_idiv hx hb hd hh.1 (k hh.2 ls H locs a b z)
theorem ow_irem (C : aw_C X cc own nL d) {x y : Int32} {A : Prop} (hd : decode cc pc = .ok (.irem, 1)) (hh : ¬ y = 0 ∧ A) (k : A → Sat X (pc + 1) L (.int (x - x / y * y) :: st) h) : Sat X pc L (.int y :: .int x :: st) h := by
  obtain ⟨E, pg, ev, R, s, m, args, below, meth, c, kc, ks, Q⟩ := X
  obtain ⟨hx, hb, hml, hown, hts, hK, hfr, hlo, hkc, hks⟩ := C
  intro ls H locs a b z
  exact lv_irem hx hb hd hh.1 (k hh.2 ls H locs a b z)
theorem ow_dup (C : aw_C X cc own nL d) {v : Value} (hd : decode cc pc = .ok (.dup, 1)) (hv : v.category = 1) (k : Sat X (pc + 1) L (v :: v :: st) h) : Sat X pc L (v :: st) h := by
  obtain ⟨E, pg, ev, R, s, m, args, below, meth, c, kc, ks, Q⟩ := X
  obtain ⟨hx, hb, hml, hown, hts, hK, hfr, hlo, hkc, hks⟩ := C
  intro ls H locs a b z
  exact lv_dup hx hb hd (by rw [aw_v_cat]; exact hv) (k ls H locs a b z)
theorem ow_pop (C : aw_C X cc own nL d) {v : Value} (hd : decode cc pc = .ok (.pop, 1)) (hv : v.category = 1) (k : Sat X (pc + 1) L st h) : Sat X pc L (v :: st) h := by
  obtain ⟨E, pg, ev, R, s, m, args, below, meth, c, kc, ks, Q⟩ := X
  obtain ⟨hx, hb, hml, hown, hts, hK, hfr, hlo, hkc, hks⟩ := C
  intro ls H locs a b z
  exact lv_pop hx hb hd (by rw [aw_v_cat]; exact hv) (k ls H locs a b z)
theorem ow_dup2 (C : aw_C X cc own nL d) {v u : Value} (hd : decode cc pc = .ok (.dup2, 1)) (hv : v.category = 1) (hu : u.category = 1) (k : Sat X (pc + 1) L (v :: u :: v :: u :: st) h) : Sat X pc L (v :: u :: st) h := by
  obtain ⟨E, pg, ev, R, s, m, args, below, meth, c, kc, ks, Q⟩ := X
  obtain ⟨hx, hb, hml, hown, hts, hK, hfr, hlo, hkc, hks⟩ := C
  intro ls H locs a b z
  exact lv_dup2_11 hx hb hd (by rw [aw_v_cat]; exact hv) (by rw [aw_v_cat]; exact hu) (k ls H locs a b z)
theorem ow_if_eq (C : aw_C X cc own nL d) {x : Int32} {off : Int} {tgt : Nat} {A B : Prop} (hd : decode cc pc = .ok (.ifCond .eq off, 3)) (ht : (pc : Int) + off = (tgt : Int)) (hh : if x = 0 then A else B) (kt : A → Sat X tgt L st h) (kf : B → Sat X (pc + 3) L st h) : Sat X pc L (.int x :: st) h := by
  obtain ⟨E, pg, ev, R, s, m, args, below, meth, c, kc, ks, Q⟩ := X
  obtain ⟨hx, hb, hml, hown, hts, hK, hfr, hlo, hkc, hks⟩ := C
  intro ls H locs a b z
  exact lv_if_eq hx hb hd ht (fun hc => kt (if_y hc hh) ls H locs a b z) (fun hc => kf (if_n hc hh) ls H locs a b z)
theorem ow_icmp_eq (C : aw_C X cc own nL d) {x y : Int32} {off : Int} {tgt : Nat} {A B : Prop} (hd : decode cc pc = .ok (.if_icmp .eq off, 3)) (ht : (pc : Int) + off = (tgt : Int)) (hh : if x = y then A else B) (kt : A → Sat X tgt L st h) (kf : B → Sat X (pc + 3) L st h) : Sat X pc L (.int y :: .int x :: st) h := by
  obtain ⟨E, pg, ev, R, s, m, args, below, meth, c, kc, ks, Q⟩ := X
  obtain ⟨hx, hb, hml, hown, hts, hK, hfr, hlo, hkc, hks⟩ := C
  intro ls H locs a b z
  exact lv_icmp_eq hx hb hd ht (fun hc => kt (if_y hc hh) ls H locs a b z) (fun hc => kf (if_n hc hh) ls H locs a b z)
theorem ow_if_ne (C : aw_C X cc own nL d) {x : Int32} {off : Int} {tgt : Nat} {A B : Prop} (hd : decode cc pc = .ok (.ifCond .ne off, 3)) (ht : (pc : Int) + off = (tgt : Int)) (hh : if ¬ x = 0 then A else B) (kt : A → Sat X tgt L st h) (kf : B → Sat X (pc + 3) L st h) : Sat X pc L (.int x :: st) h := by
  obtain ⟨E, pg, ev, R, s, m, args, below, meth, c, kc, ks, Q⟩ := X
  obtain ⟨hx, hb, hml, hown, hts, hK, hfr, hlo, hkc, hks⟩ := C
  intro ls H locs a b z
  exact lv_if_ne hx hb hd ht (fun hc => kt (if_y hc hh) ls H locs a b z) (fun hc => kf (if_n (fun q => q hc) hh) ls H locs a b z)
theorem ow_icmp_ne (C : aw_C X cc own nL d) {x y : Int32} {off : Int} {tgt : Nat} {A B : Prop} (hd : decode cc pc = .ok (.if_icmp .ne off, 3)) (ht : (pc : Int) + off = (tgt : Int)) (hh : if ¬ x = y then A else B) (kt : A → Sat X tgt L st h) (kf : B → Sat X (pc + 3) L st h) : Sat X pc L (.int y :: .int x :: st) h := by
  obtain ⟨E, pg, ev, R, s, m, args, below, meth, c, kc, ks, Q⟩ := X
  obtain ⟨hx, hb, hml, hown, hts, hK, hfr, hlo, hkc, hks⟩ := C
  intro ls H locs a b z
  exact lv_icmp_ne hx hb hd ht (fun hc => kt (if_y hc hh) ls H locs a b z) (fun hc => kf (if_n (fun q => q hc) hh) ls H locs a b z)
theorem ow_if_lt (C : aw_C X cc own nL d) {x : Int32} {off : Int} {tgt : Nat} {A B : Prop} (hd : decode cc pc = .ok (.ifCond .lt off, 3)) (ht : (pc : Int) + off = (tgt : Int)) (hh : if x < 0 then A else B) (kt : A → Sat X tgt L st h) (kf : B → Sat X (pc + 3) L st h) : Sat X pc L (.int x :: st) h := by
  obtain ⟨E, pg, ev, R, s, m, args, below, meth, c, kc, ks, Q⟩ := X
  obtain ⟨hx, hb, hml, hown, hts, hK, hfr, hlo, hkc, hks⟩ := C
  intro ls H locs a b z
  exact lv_if_lt hx hb hd ht (fun hc => kt (if_y hc hh) ls H locs a b z) (fun hc => kf (if_n hc hh) ls H locs a b z)
theorem ow_icmp_lt (C : aw_C X cc own nL d) {x y : Int32} {off : Int} {tgt : Nat} {A B : Prop} (hd : decode cc pc = .ok (.if_icmp .lt off, 3)) (ht : (pc : Int) + off = (tgt : Int)) (hh : if x < y then A else B) (kt : A → Sat X tgt L st h) (kf : B → Sat X (pc + 3) L st h) : Sat X pc L (.int y :: .int x :: st) h := by
  obtain ⟨E, pg, ev, R, s, m, args, below, meth, c, kc, ks, Q⟩ := X
  obtain ⟨hx, hb, hml, hown, hts, hK, hfr, hlo, hkc, hks⟩ := C
  intro ls H locs a b z
  exact lv_icmp_lt hx hb hd ht (fun hc => kt (if_y hc hh) ls H locs a b z) (fun hc => kf (if_n hc hh) ls H locs a b z)
theorem ow_if_ge (C : aw_C X cc own nL d) {x : Int32} {off : Int} {tgt : Nat} {A B : Prop} (hd : decode cc pc = .ok (.ifCond .ge off, 3)) (ht : (pc : Int) + off = (tgt : Int)) (hh : if 0 ≤ x then A else B) (kt : A → Sat X tgt L st h) (kf : B → Sat X (pc + 3) L st h) : Sat X pc L (.int x :: st) h := by
  obtain ⟨E, pg, ev, R, s, m, args, below, meth, c, kc, ks, Q⟩ := X
  obtain ⟨hx, hb, hml, hown, hts, hK, hfr, hlo, hkc, hks⟩ := C
  intro ls H locs a b z
  exact lv_if_ge hx hb hd ht (fun hc => kt (if_y hc hh) ls H locs a b z) (fun hc => kf (if_n hc hh) ls H locs a b z)
theorem ow_icmp_ge (C : aw_C X cc own nL d) {x y : Int32} {off : Int} {tgt : Nat} {A B : Prop} (hd : decode cc pc = .ok (.if_icmp .ge off, 3)) (ht : (pc : Int) + off = (tgt : Int)) (hh : if y ≤ x then A else B) (kt : A → Sat X tgt L st h) (kf : B → Sat X (pc + 3) L st h) : Sat X pc L (.int y :: .int x :: st) h := by
  obtain ⟨E, pg, ev, R, s, m, args, below, meth, c, kc, ks, Q⟩ := X
  obtain ⟨hx, hb, hml, hown, hts, hK, hfr, hlo, hkc, hks⟩ := C
  intro ls H locs a b z
  exact lv_icmp_ge hx hb hd ht (fun hc => kt (if_y hc hh) ls H locs a b z) (fun hc => kf (if_n hc hh) ls H locs a b z)
theorem ow_if_gt (C : aw_C X cc own nL d) {x : Int32} {off : Int} {tgt : Nat} {A B : Prop} (hd : decode cc pc = .ok (.ifCond .gt off, 3)) (ht : (pc : Int) + off = (tgt : Int)) (hh : if 0 < x then A else B) (kt : A → Sat X tgt L st h) (kf : B → Sat X (pc + 3) L st h) : Sat X pc L (.int x :: st) h := by
  obtain ⟨E, pg, ev, R, s, m, args, below, meth, c, kc, ks, Q⟩ := X
  obtain ⟨hx, hb, hml, hown, hts, hK, hfr, hlo, hkc, hks⟩ := C
  intro ls H locs a b z
  exact lv_if_gt hx hb hd ht (fun hc => kt (if_y hc hh) ls H locs a b z) (fun hc => kf (if_n hc hh) ls H locs a b z)
theorem ow_icmp_gt (C : aw_C X cc own nL d) {x y : Int32} {off : Int} {tgt : Nat} {A B : Prop} (hd : decode cc pc = .ok (.if_icmp .gt off, 3)) (ht : (pc : Int) + off = (tgt : Int)) (hh : if y < x then A else B) (kt : A → Sat X tgt L st h) (kf : B → Sat X (pc + 3) L st h) : Sat X pc L (.int y :: .int x :: st) h := by
  obtain ⟨E, pg, ev, R, s, m, args, below, meth, c, kc, ks, Q⟩ := X
  obtain ⟨hx, hb, hml, hown, hts, hK, hfr, hlo, hkc, hks⟩ := C
  intro ls H locs a b z
  exact lv_icmp_gt hx hb hd ht (fun hc => kt (if_y hc hh) ls H locs a b z) (fun hc => kf (if_n hc hh) ls H locs a b z)
theorem ow_if_le (C : aw_C X cc own nL d) {x : Int32} {off : Int} {tgt : Nat} {A B : Prop} (hd : decode cc pc = .ok (.ifCond .le off, 3)) (ht : (pc : Int) + off = (tgt : Int)) (hh : if x ≤ 0 then A else B) (kt : A → Sat X tgt L st h) (kf : B → Sat X (pc + 3) L st h) : Sat X pc L (.int x :: st) h := by
  obtain ⟨E, pg, ev, R, s, m, args, below, meth, c, kc, ks, Q⟩ := X
  obtain ⟨hx, hb, hml, hown, hts, hK, hfr, hlo, hkc, hks⟩ := C
  intro ls H locs a b z
  exact lv_if_le hx hb hd ht (fun hc => kt (if_y hc hh) ls H locs a b z) (fun hc => kf (if_n hc hh) ls H locs a b z)
theorem ow_icmp_le (C : aw_C X cc own nL d) {x y : Int32} {off : Int} {tgt : Nat} {A B : Prop} (hd : decode cc pc = .ok (.if_icmp .le off, 3)) (ht : (pc : Int) + off = (tgt : Int)) (hh : if x ≤ y then A else B) (kt : A → Sat X tgt L st h) (kf : B → Sat X (pc + 3) L st h) : Sat X pc L (.int y :: .int x :: st) h := by
  obtain ⟨E, pg, ev, R, s, m, args, below, meth, c, kc, ks, Q⟩ := X
  obtain ⟨hx, hb, hml, hown, hts, hK, hfr, hlo, hkc, hks⟩ := C
  intro ls H locs a b z
  exact lv_icmp_le hx hb hd ht (fun hc => kt (if_y hc hh) ls H locs a b z) (fun hc => kf (if_n hc hh) ls H locs a b z)
theorem ow_goto (C : aw_C X cc own nL d) {off : Int} {tgt : Nat} (hd : decode cc pc = .ok (.goto off, 3)) (ht : (pc : Int) + off = (tgt : Int)) (k : Sat X tgt L st h) : Sat X pc L st h := by
  obtain ⟨E, pg, ev, R, s, m, args, below, meth, c, kc, ks, Q⟩ := X
  obtain ⟨hx, hb, hml, hown, hts, hK, hfr, hlo, hkc, hks⟩ := C
  intro ls H locs a b z
  exact lv_goto hx hb hd ht (k ls H locs a b z)
theorem ow_ldc (C : aw_C X cc own nL d) {idx : Nat} {v : Int32} (hw : Cond.constant own idx v ∈ lw_g) (hd : decode cc pc = .ok (.ldc idx, 2)) (k : Sat X (pc + 2) L (.int v :: st) h) : Sat X pc L st h := by
  obtain ⟨E, pg, ev, R, s, m, args, below, meth, c, kc, ks, Q⟩ := X
  obtain ⟨hx, hb, hml, hown, hts, hK, hfr, hlo, hkc, hks⟩ := C
  intro ls H locs a b z
  exact lv_ldc hx hb hown (hts _ hw) hd (k ls H locs a b z)
theorem ow_ldc_w (C : aw_C X cc own nL d) {idx : Nat} {v : Int32} (hw : Cond.constant own idx v ∈ lw_g) (hd : decode cc pc = .ok (.ldc_w idx, 3)) (k : Sat X (pc + 3) L (.int v :: st) h) : Sat X pc L st h := by
  obtain ⟨E, pg, ev, R, s, m, args, below, meth, c, kc, ks, Q⟩ := X
  obtain ⟨hx, hb, hml, hown, hts, hK, hfr, hlo, hkc, hks⟩ := C
  intro ls H locs a b z
  exact lv_ldcw hx hb hown (hts _ hw) hd (k ls H locs a b z)
theorem ow_ldc2 (C : aw_C X cc own nL d) {idx : Nat} {v : Int64} (hw : Cond.constantLong own idx v ∈ lw_g) (hd : decode cc pc = .ok (.ldc2_w idx, 3)) (k : Sat X (pc + 3) L (.long v :: st) h) : Sat X pc L st h := by
  obtain ⟨E, pg, ev, R, s, m, args, below, meth, c, kc, ks, Q⟩ := X
  obtain ⟨hx, hb, hml, hown, hts, hK, hfr, hlo, hkc, hks⟩ := C
  intro ls H locs a b z
  exact lv_ldc2 hx hb hown (hts _ hw) hd (k ls H locs a b z)
theorem ow_tableIn (C : aw_C X cc own nL d) {dflt lo hi : Int} {offs : Array Int} {len : Nat} {x v : Int32} {off : Int} {tgt : Nat} (hd : decode cc pc = .ok (.tableswitch dflt lo hi offs, len)) (hv : x = v) (h1 : ¬ v.toInt < lo) (h2 : ¬ hi < v.toInt) (ho : offs[(v.toInt - lo).toNat]? = some off) (ht : (pc : Int) + off = (tgt : Int)) (k : Sat X tgt L st h) : Sat X pc L (.int x :: st) h := by
  obtain ⟨E, pg, ev, R, s, m, args, below, meth, c, kc, ks, Q⟩ := X
  obtain ⟨hx, hb, hml, hown, hts, hK, hfr, hlo, hkc, hks⟩ := C
  intro ls H locs a b z
  subst hv
  exact lv_tableIn hx hb hd h1 h2 ho ht (k ls H locs a b z)
theorem ow_tableOut (C : aw_C X cc own nL d) {dflt lo hi : Int} {offs : Array Int} {len : Nat} {x : Int32} {tgt : Nat} (hd : decode cc pc = .ok (.tableswitch dflt lo hi offs, len)) (ho : x.toInt < lo ∨ hi < x.toInt) (ht : (pc : Int) + dflt = (tgt : Int)) (k : Sat X tgt L st h) : Sat X pc L (.int x :: st) h := by
  obtain ⟨E, pg, ev, R, s, m, args, below, meth, c, kc, ks, Q⟩ := X
  obtain ⟨hx, hb, hml, hown, hts, hK, hfr, hlo, hkc, hks⟩ := C
  intro ls H locs a b z
  exact lv_tableOut hx hb hd ho ht (k ls H locs a b z)
theorem ow_lookup (C : aw_C X cc own nL d) {dflt : Int} {ps : Array (Int × Int)} {len : Nat} {x : Int32} {off : Int} {tgt : Nat} (hd : decode cc pc = .ok (.lookupswitch dflt ps, len)) (hp : (ps.toList.zip (ps.toList.drop 1)).all (fun (a, next) => a.1 < next.1) = true) (ho : Op.lookupswitch.offset ps.toList dflt x.toInt = off) (ht : (pc : Int) + off = (tgt : Int)) (k : Sat X tgt L st h) : Sat X pc L (.int x :: st) h := by
  obtain ⟨E, pg, ev, R, s, m, args, below, meth, c, kc, ks, Q⟩ := X
  obtain ⟨hx, hb, hml, hown, hts, hK, hfr, hlo, hkc, hks⟩ := C
  intro ls H locs a b z
  exact lv_lookup hx hb hd hp ho ht (k ls H locs a b z)
theorem ow_getI (C : aw_C X cc own nL d) {ci k idx p : Nat} {Cn : String} {T : u_T} {N : Nat} (hc : vwCl[ci]? = some (Cn, T, N)) (hin : ∀ w ∈ u_ws Cn T N, w ∈ lw_g) (hk : k < N) (hw : Cond.fieldLink own idx (T k).1 (T k).2.1 (T k).2.2.1 ∈ lw_g) (hd : decode cc pc = .ok (.getfield idx, 3)) {K : Int32 → Prop} (hh : sg_I h p ci k K) (kk : ∀ v, K v → Sat X (pc + 3) L (.int v :: st) h) : Sat X pc L (.ref p :: st) h := by
  obtain ⟨E, pg, ev, R, s, m, args, below, meth, c, kc, ks, Q⟩ := X
  obtain ⟨hx, hb, hml, hown, hts, hK, hfr, hlo, hkc, hks⟩ := C
  intro ls H locs a b z
  obtain ⟨fs, v, h1, h2, h3⟩ := sg_I_e hh
  exact va_get hx hb hts hin hown hK b.1 p (aw_w_get h1) hc k hk (hts _ hw) (fun _ q => q) (v := aw_v E.2.2.2.1 (.int v)) (by rw [List.getElem?_map, h2]; rfl) hd (kk v h3 ls H locs a b z)
theorem ow_getR (C : aw_C X cc own nL d) {ci k idx p : Nat} {Cn : String} {T : u_T} {N : Nat} (hc : vwCl[ci]? = some (Cn, T, N)) (hin : ∀ w ∈ u_ws Cn T N, w ∈ lw_g) (hk : k < N) (hw : Cond.fieldLink own idx (T k).1 (T k).2.1 (T k).2.2.1 ∈ lw_g) (hd : decode cc pc = .ok (.getfield idx, 3)) {K : Nat → Prop} (hh : sg_R h p ci k K) (kk : ∀ v, K v → Sat X (pc + 3) L (.ref v :: st) h) : Sat X pc L (.ref p :: st) h := by
  obtain ⟨E, pg, ev, R, s, m, args, below, meth, c, kc, ks, Q⟩ := X
  obtain ⟨hx, hb, hml, hown, hts, hK, hfr, hlo, hkc, hks⟩ := C
  intro ls H locs a b z
  obtain ⟨fs, v, h1, h2, h3⟩ := sg_R_e hh
  exact va_get hx hb hts hin hown hK b.1 p (aw_w_get h1) hc k hk (hts _ hw) (fun _ q => q) (v := aw_v E.2.2.2.1 (.ref v)) (by rw [List.getElem?_map, h2]; rfl) hd (kk v h3 ls H locs a b z)
theorem ow_putI (C : aw_C X cc own nL d) {ci k idx p : Nat} {v : Int32} {Cn : String} {T : u_T} {N : Nat} (hc : vwCl[ci]? = some (Cn, T, N)) (hin : ∀ w ∈ u_ws Cn T N, w ∈ lw_g) (ty0 : Nat → FieldType) (hty : ∀ k, k < N → parseFieldDescriptor (T k).2.2.1 = some (ty0 k)) (hnm : ∀ a, a < N → ∀ b, b < N → a ≠ b → (T a).2.1 ≠ (T b).2.1) (hk : k < N) (hw : Cond.fieldLink own idx (T k).1 (T k).2.1 (T k).2.2.1 ∈ lw_g) (hfin : (T k).2.2.2 = false) (hdy : parseFieldDescriptor (T k).2.2.1 = some .int) (hd : decode cc pc = .ok (.putfield idx, 3)) {K : aw_H → Prop} (hh : sp_I h p ci k v K) (kk : ∀ h', K h' → Sat X (pc + 3) L st h') : Sat X pc L (.int v :: .ref p :: st) h := by
  obtain ⟨E, pg, ev, R, s, m, args, below, meth, c, kc, ks, Q⟩ := X
  obtain ⟨hx, hb, hml, hown, hts, hK, hfr, hlo, hkc, hks⟩ := C
  intro ls H locs a b z
  obtain ⟨fs, h1, h2, h3⟩ := sp_I_e hh
  refine va_put (v := .int v) (ty := .int) hx hb hts hin ty0 hty hnm hown hK b.1 b.2 z p (aw_w_get h1) hc k hk (hts _ hw) (fun _ q => q) hfin hdy rfl rfl (by rw [List.length_map]; exact h2) hd (fun H1 locs1 q1 q2 q3 => ?_)
  have e1 : aw_w E.2.2.2.1 E.2.2.1 (h.set p (.inr (ci, fs.set k (.int v)))) = (aw_w E.2.2.2.1 E.2.2.1 h).set p (E.2.2.2.1 p, .inr (ci, (fs.map (aw_v E.2.2.2.1)).set k (.int v))) := by
    rw [aw_w_set]
    show _ = _
    rw [show aw_e E.2.2.2.1 E.2.2.1 (.inr (ci, fs.set k (.int v))) = .inr (ci, (fs.set k (.int v)).map (aw_v E.2.2.2.1)) from rfl, List.map_set]
    rfl
  exact kk _ h3 ls H1 locs1 a ⟨by rw [e1]; exact q1, by rw [e1]; exact q2⟩ q3
theorem ow_putZ (C : aw_C X cc own nL d) {ci k idx p : Nat} {v : Int32} {Cn : String} {T : u_T} {N : Nat} (hc : vwCl[ci]? = some (Cn, T, N)) (hin : ∀ w ∈ u_ws Cn T N, w ∈ lw_g) (ty0 : Nat → FieldType) (hty : ∀ k, k < N → parseFieldDescriptor (T k).2.2.1 = some (ty0 k)) (hnm : ∀ a, a < N → ∀ b, b < N → a ≠ b → (T a).2.1 ≠ (T b).2.1) (hk : k < N) (hw : Cond.fieldLink own idx (T k).1 (T k).2.1 (T k).2.2.1 ∈ lw_g) (hfin : (T k).2.2.2 = false) (hdy : parseFieldDescriptor (T k).2.2.1 = some .boolean) (hbl : v = 0 ∨ v = 1) (hd : decode cc pc = .ok (.putfield idx, 3)) {K : aw_H → Prop} (hh : sp_I h p ci k v K) (kk : ∀ h', K h' → Sat X (pc + 3) L st h') : Sat X pc L (.int v :: .ref p :: st) h := by
  obtain ⟨E, pg, ev, R, s, m, args, below, meth, c, kc, ks, Q⟩ := X
  obtain ⟨hx, hb, hml, hown, hts, hK, hfr, hlo, hkc, hks⟩ := C
  intro ls H locs a b z
  obtain ⟨fs, h1, h2, h3⟩ := sp_I_e hh
  refine va_put (v := .int v) (ty := .boolean) hx hb hts hin ty0 hty hnm hown hK b.1 b.2 z p (aw_w_get h1) hc k hk (hts _ hw) (fun _ q => q) hfin hdy (by rcases hbl with q | q <;> (rw [q]; rfl)) (by rcases hbl with q | q <;> (rw [q]; rfl)) (by rw [List.length_map]; exact h2) hd (fun H1 locs1 q1 q2 q3 => ?_)
  have e1 : aw_w E.2.2.2.1 E.2.2.1 (h.set p (.inr (ci, fs.set k (.int v)))) = (aw_w E.2.2.2.1 E.2.2.1 h).set p (E.2.2.2.1 p, .inr (ci, (fs.map (aw_v E.2.2.2.1)).set k (.int v))) := by
    rw [aw_w_set]
    show _ = _
    rw [show aw_e E.2.2.2.1 E.2.2.1 (.inr (ci, fs.set k (.int v))) = .inr (ci, (fs.set k (.int v)).map (aw_v E.2.2.2.1)) from rfl, List.map_set]
    rfl
  exact kk _ h3 ls H1 locs1 a ⟨by rw [e1]; exact q1, by rw [e1]; exact q2⟩ q3
theorem ow_iaload (C : aw_C X cc own nL d) {p : Nat} {i : Int32} (hd : decode cc pc = .ok (.iaload, 1)) {K : Int32 → Prop} (hh : sa_I h p i K) (kk : ∀ v, K v → Sat X (pc + 1) L (.int v :: st) h) : Sat X pc L (.int i :: .ref p :: st) h := by
  obtain ⟨E, pg, ev, R, s, m, args, below, meth, c, kc, ks, Q⟩ := X
  obtain ⟨hx, hb, hml, hown, hts, hK, hfr, hlo, hkc, hks⟩ := C
  intro ls H locs a b z
  obtain ⟨n, f, h1, h2, h3⟩ := sa_I_e hh
  exact va_iald hx hb hK b.1 p 0 (aw_w_get h1) rfl h2 hd (kk _ h3 ls H locs a b z)
theorem ow_caload (C : aw_C X cc own nL d) {p : Nat} {i : Int32} (hd : decode cc pc = .ok (.caload, 1)) {K : Int32 → Prop} (hh : sa_C h p i K) (kk : ∀ v, K v → Sat X (pc + 1) L (.int v :: st) h) : Sat X pc L (.int i :: .ref p :: st) h := by
  obtain ⟨E, pg, ev, R, s, m, args, below, meth, c, kc, ks, Q⟩ := X
  obtain ⟨hx, hb, hml, hown, hts, hK, hfr, hlo, hkc, hks⟩ := C
  intro ls H locs a b z
  obtain ⟨n, f, h1, h2, h3⟩ := sa_C_e hh
  exact va_cald hx hb hK b.1 p 2 (aw_w_get h1) rfl h2 hd (kk _ h3 ls H locs a b z)
theorem ow_laload (C : aw_C X cc own nL d) {p : Nat} {i : Int32} (hd : decode cc pc = .ok (.laload, 1)) {K : Int64 → Prop} (hh : sa_L h p i K) (kk : ∀ v, K v → Sat X (pc + 1) L (.long v :: st) h) : Sat X pc L (.int i :: .ref p :: st) h := by
  obtain ⟨E, pg, ev, R, s, m, args, below, meth, c, kc, ks, Q⟩ := X
  obtain ⟨hx, hb, hml, hown, hts, hK, hfr, hlo, hkc, hks⟩ := C
  intro ls H locs a b z
  obtain ⟨n, f, h1, h2, h3⟩ := sa_L_e hh
  exact va_lald hx hb hK b.1 p 1 (aw_w_get h1) rfl h2 hd (kk _ h3 ls H locs a b z)
theorem ow_aaload (C : aw_C X cc own nL d) {t0 p : Nat} {i : Int32} {Cn : String} (hd : decode cc pc = .ok (.aaload, 1)) (ht : ∀ aC : Nat → ClassId, (aw_t aC)[t0]? = some (aC t0, .object Cn)) {K : Nat → Prop} (hh : sa_R h t0 p i K) (kk : ∀ v, K v → Sat X (pc + 1) L (.ref v :: st) h) : Sat X pc L (.int i :: .ref p :: st) h := by
  obtain ⟨E, pg, ev, R, s, m, args, below, meth, c, kc, ks, Q⟩ := X
  obtain ⟨hx, hb, hml, hown, hts, hK, hfr, hlo, hkc, hks⟩ := C
  intro ls H locs a b z
  obtain ⟨n, f, q, h1, h2, h3, h4⟩ := sa_R_e hh
  refine va_aldq (C := Cn) hx hb hK b.1 p t0 (aw_w_get h1) (ht _) h2 hd ?_
  have e1 : va_rf ((fun j => (f j).map E.2.2.2.1) i.toNatClampNeg) = .ref (E.2.2.2.1 q) := by
    show va_rf ((f i.toNatClampNeg).map E.2.2.2.1) = _
    rw [h3]
    rfl
  rw [e1]
  exact kk _ h4 ls H locs a b z
theorem ow_alen (C : aw_C X cc own nL d) {p : Nat} (hd : decode cc pc = .ok (.arraylength, 1)) {K : Int32 → Prop} (hh : sa_N h p K) (kk : ∀ v, K v → Sat X (pc + 1) L (.int v :: st) h) : Sat X pc L (.ref p :: st) h := by
  obtain ⟨E, pg, ev, R, s, m, args, below, meth, c, kc, ks, Q⟩ := X
  obtain ⟨hx, hb, hml, hown, hts, hK, hfr, hlo, hkc, hks⟩ := C
  intro ls H locs a b z
  obtain ⟨t, n, x, h1, h2, h3⟩ := sa_N_e hh
  have hn : (aw_a E.2.2.2.1 (n, x)).1 = n := by rcases x with f | f | f | f | f <;> rfl
  rcases (show t = 0 ∨ t = 1 ∨ t = 2 ∨ t = 3 ∨ t = 4 by omega) with q | q | q | q | q <;> subst q
  · exact va_alen hx hb hK b.1 p 0 (aw_w_get h1) rfl (by rw [hn]) hd (kk _ h3 ls H locs a b z)
  · exact va_alen hx hb hK b.1 p 1 (aw_w_get h1) rfl (by rw [hn]) hd (kk _ h3 ls H locs a b z)
  · exact va_alen hx hb hK b.1 p 2 (aw_w_get h1) rfl (by rw [hn]) hd (kk _ h3 ls H locs a b z)
  · exact va_alen hx hb hK b.1 p 3 (aw_w_get h1) rfl (by rw [hn]) hd (kk _ h3 ls H locs a b z)
  · exact va_alen hx hb hK b.1 p 4 (aw_w_get h1) rfl (by rw [hn]) hd (kk _ h3 ls H locs a b z)
theorem ow_iastore (C : aw_C X cc own nL d) {p : Nat} {i : Int32} {x : Int32} (hd : decode cc pc = .ok (.iastore, 1)) {K : aw_H → Prop} (hh : ss_I h p i x K) (kk : ∀ h', K h' → Sat X (pc + 1) L st h') : Sat X pc L (.int x :: .int i :: .ref p :: st) h := by
  obtain ⟨E, pg, ev, R, s, m, args, below, meth, c, kc, ks, Q⟩ := X
  obtain ⟨hx, hb, hml, hown, hts, hK, hfr, hlo, hkc, hks⟩ := C
  intro ls H locs a b z
  obtain ⟨n, f, h1, h2, h3⟩ := ss_I_e hh
  refine va_iast hx hb hK b.1 b.2 z p 0 (aw_w_get h1) rfl h2 hd (fun H1 locs1 q1 q2 q3 => ?_)
  have e1 := aw_w_set E.2.2.2.1 E.2.2.1 h p (.inl (0, n, .inl (upd f i.toNatClampNeg x)))
  exact kk _ h3 ls H1 locs1 a ⟨by rw [e1]; exact q1, by rw [e1]; exact q2⟩ q3
theorem ow_castore (C : aw_C X cc own nL d) {p : Nat} {i : Int32} {x : Int32} (hd : decode cc pc = .ok (.castore, 1)) {K : aw_H → Prop} (hh : ss_C h p i x K) (kk : ∀ h', K h' → Sat X (pc + 1) L st h') : Sat X pc L (.int x :: .int i :: .ref p :: st) h := by
  obtain ⟨E, pg, ev, R, s, m, args, below, meth, c, kc, ks, Q⟩ := X
  obtain ⟨hx, hb, hml, hown, hts, hK, hfr, hlo, hkc, hks⟩ := C
  intro ls H locs a b z
  obtain ⟨n, f, h1, h2, h3⟩ := ss_C_e hh
  refine va_cast hx hb hK b.1 b.2 z p 2 (aw_w_get h1) rfl h2 hd (fun H1 locs1 q1 q2 q3 => ?_)
  have e1 := aw_w_set E.2.2.2.1 E.2.2.1 h p (.inl (2, n, .inl (upd f i.toNatClampNeg (vp_nar .char x))))
  exact kk _ h3 ls H1 locs1 a ⟨by rw [e1]; exact q1, by rw [e1]; exact q2⟩ q3
theorem ow_lastore (C : aw_C X cc own nL d) {p : Nat} {i : Int32} {x : Int64} (hd : decode cc pc = .ok (.lastore, 1)) {K : aw_H → Prop} (hh : ss_L h p i x K) (kk : ∀ h', K h' → Sat X (pc + 1) L st h') : Sat X pc L (.long x :: .int i :: .ref p :: st) h := by
  obtain ⟨E, pg, ev, R, s, m, args, below, meth, c, kc, ks, Q⟩ := X
  obtain ⟨hx, hb, hml, hown, hts, hK, hfr, hlo, hkc, hks⟩ := C
  intro ls H locs a b z
  obtain ⟨n, f, h1, h2, h3⟩ := ss_L_e hh
  refine va_last hx hb hK b.1 b.2 z p 1 (aw_w_get h1) rfl h2 hd (fun H1 locs1 q1 q2 q3 => ?_)
  have e1 := aw_w_set E.2.2.2.1 E.2.2.1 h p (.inl (1, n, .inr (.inl (vp_updL f i.toNatClampNeg x))))
  exact kk _ h3 ls H1 locs1 a ⟨by rw [e1]; exact q1, by rw [e1]; exact q2⟩ q3
theorem ow_copyI (C : aw_C X cc own nL d) {ps pd idx : Nat} {sp dp n : Int32} (hd0 : 1 ≤ d) (w1 : Cond.methodLink own idx arraycopyName ∈ lw_g) (w2 : Cond.native arraycopyName ∈ lw_g) (w3 : Cond.static arraycopyName ∈ lw_g) (w4 : Cond.initialized "java/lang/System" ∈ lw_g) (hd : decode cc pc = .ok (.invokestatic idx, 3)) {K : aw_H → Prop} (hh : sc_I h ps sp pd dp n K) (hr : (st.map fun v => v.category).sum ≤ 8) (kk : ∀ h', K h' → Sat X (pc + 3) L st h') : Sat X pc L (.int n :: .int dp :: .ref pd :: .int sp :: .ref ps :: st) h := by
  obtain ⟨E, pg, ev, R, s, m, args, below, meth, c, kc, ks, Q⟩ := X
  obtain ⟨hx, hb, hml, hown, hts, hK, hfr, hlo, hkc, hks⟩ := C
  intro ls H locs a b z
  unfold sc_I at hh
  split at hh
  · rename_i t0 n0 f t1 n1 g h1 h2
    obtain ⟨rfl, rfl, q1, q2, q3, q4, q5, h3⟩ := hh
    have hr' : ((st.map (aw_v E.2.2.2.1)).map fun v => v.category).sum ≤ 8 := by rw [List.map_map, show ((fun v : Value => v.category) ∘ aw_v E.2.2.2.1) = fun v => v.category from funext (fun v => aw_v_cat _ v)]; exact hr
    have hnf : nativeFrameWords "java/lang/System" "arraycopy" 5 ≤ 20 := by decide
    refine va_copyi hx hb (by rw [a.1]) hown (hts _ w1) (hts _ w2) (hts _ w3) (hts _ w4) hK b.1 b.2 z ps pd 0 0 (aw_w_get h1) (aw_w_get h2) rfl rfl rfl q1 q2 q3 q4 q5 (fun _ _ => rfl) (by omega) (by omega) hd (fun H1 locs1 r1 r2 r3 => ?_)
    have e1 := aw_w_set E.2.2.2.1 E.2.2.1 h pd (.inl (0, n1, .inl (va_cpy f g sp.toNatClampNeg dp.toNatClampNeg n.toNatClampNeg)))
    exact kk _ h3 ls H1 locs1 a ⟨by rw [e1]; exact r1, by rw [e1]; exact r2⟩ r3
  · exact hh.elim
theorem ow_copyL (C : aw_C X cc own nL d) {ps pd idx : Nat} {sp dp n : Int32} (hd0 : 1 ≤ d) (w1 : Cond.methodLink own idx arraycopyName ∈ lw_g) (w2 : Cond.native arraycopyName ∈ lw_g) (w3 : Cond.static arraycopyName ∈ lw_g) (w4 : Cond.initialized "java/lang/System" ∈ lw_g) (hd : decode cc pc = .ok (.invokestatic idx, 3)) {K : aw_H → Prop} (hh : sc_L h ps sp pd dp n K) (hr : (st.map fun v => v.category).sum ≤ 8) (kk : ∀ h', K h' → Sat X (pc + 3) L st h') : Sat X pc L (.int n :: .int dp :: .ref pd :: .int sp :: .ref ps :: st) h := by
  obtain ⟨E, pg, ev, R, s, m, args, below, meth, c, kc, ks, Q⟩ := X
  obtain ⟨hx, hb, hml, hown, hts, hK, hfr, hlo, hkc, hks⟩ := C
  intro ls H locs a b z
  unfold sc_L at hh
  split at hh
  · rename_i t0 n0 f t1 n1 g h1 h2
    obtain ⟨rfl, rfl, q1, q2, q3, q4, q5, h3⟩ := hh
    have hr' : ((st.map (aw_v E.2.2.2.1)).map fun v => v.category).sum ≤ 8 := by rw [List.map_map, show ((fun v : Value => v.category) ∘ aw_v E.2.2.2.1) = fun v => v.category from funext (fun v => aw_v_cat _ v)]; exact hr
    have hnf : nativeFrameWords "java/lang/System" "arraycopy" 5 ≤ 20 := by decide
    refine va_copyl hx hb (by rw [a.1]) hown (hts _ w1) (hts _ w2) (hts _ w3) (hts _ w4) hK b.1 b.2 z ps pd 1 1 (aw_w_get h1) (aw_w_get h2) rfl rfl rfl q1 q2 q3 q4 q5 (fun _ _ => rfl) (by omega) (by omega) hd (fun H1 locs1 r1 r2 r3 => ?_)
    have e1 := aw_w_set E.2.2.2.1 E.2.2.1 h pd (.inl (1, n1, .inr (.inl (va_cpy f g sp.toNatClampNeg dp.toNatClampNeg n.toNatClampNeg))))
    exact kk _ h3 ls H1 locs1 a ⟨by rw [e1]; exact r1, by rw [e1]; exact r2⟩ r3
  · exact hh.elim
theorem ow_mmax (C : aw_C X cc own nL d) {idx : Nat} {x y : Int32} (hd0 : 1 ≤ d) (w1 : Cond.methodLink own idx Lib.Math.max.name ∈ lw_g) (w2 : Cond.static Lib.Math.max.name ∈ lw_g) (w3 : Cond.initialized "java/lang/Math" ∈ lw_g) (w4 : Cond.code Lib.Math.max.name Lib.Math.max.code 2 (some .int) ∈ lw_g) (hd : decode cc pc = .ok (.invokestatic idx, 3)) (hr : (st.map fun v => v.category).sum ≤ 8) (k : Sat X (pc + 3) L (.int (if x < y then y else x) :: st) h) : Sat X pc L (.int y :: .int x :: st) h := by
  obtain ⟨E, pg, ev, R, s, m, args, below, meth, c, kc, ks, Q⟩ := X
  obtain ⟨hx, hb, hml, hown, hts, hK, hfr, hlo, hkc, hks⟩ := C
  intro ls H locs a b z
  have hr' : ((st.map (aw_v E.2.2.2.1)).map fun v => v.category).sum ≤ 8 := by rw [List.map_map, show ((fun v : Value => v.category) ∘ aw_v E.2.2.2.1) = fun v => v.category from funext (fun v => aw_v_cat _ v)]; exact hr
  exact va_mmax hx hb (by rw [a.1]) hown (hts _ w1) (hts _ w2) (hts _ w3) (hts _ w4) (by omega) (by omega) hkc hks hd (k ls H locs a b z)
theorem ow_mmin (C : aw_C X cc own nL d) {idx : Nat} {x y : Int32} (hd0 : 1 ≤ d) (w1 : Cond.methodLink own idx Lib.Math.min.name ∈ lw_g) (w2 : Cond.static Lib.Math.min.name ∈ lw_g) (w3 : Cond.initialized "java/lang/Math" ∈ lw_g) (w4 : Cond.code Lib.Math.min.name Lib.Math.min.code 2 (some .int) ∈ lw_g) (hd : decode cc pc = .ok (.invokestatic idx, 3)) (hr : (st.map fun v => v.category).sum ≤ 8) (k : Sat X (pc + 3) L (.int (if y < x then y else x) :: st) h) : Sat X pc L (.int y :: .int x :: st) h := by
  obtain ⟨E, pg, ev, R, s, m, args, below, meth, c, kc, ks, Q⟩ := X
  obtain ⟨hx, hb, hml, hown, hts, hK, hfr, hlo, hkc, hks⟩ := C
  intro ls H locs a b z
  have hr' : ((st.map (aw_v E.2.2.2.1)).map fun v => v.category).sum ≤ 8 := by rw [List.map_map, show ((fun v : Value => v.category) ∘ aw_v E.2.2.2.1) = fun v => v.category from funext (fun v => aw_v_cat _ v)]; exact hr
  exact va_mmin hx hb (by rw [a.1]) hown (hts _ w1) (hts _ w2) (hts _ w3) (hts _ w4) (by omega) (by omega) hkc hks hd (k ls H locs a b z)
end OPS
end
section
/-! CONTRACTS: a method by what it does to the abstract world -/
def aw_r (d : Nat) : Room := { frames := d, cells := 0, slots := 0, locals := 40 * d }
def aw_Pc (E : aw_F) (as : List Value) (h : aw_H) : Array Value → State → Prop := fun v U => v = (as.map (aw_v E.2.2.2.1)).toArray ∧ aw_W E h U.heap ∧ va_K E.2.1 vwCl (aw_t E.2.2.1) U
def aw_Qc (E : aw_F) (Q0 : aw_R) : Array Value → State → Outcome → State → Prop := fun _ st oc t => (∃ (r : Option Value) (h' : aw_H), oc = .returned (r.map (aw_v E.2.2.2.1)) ∧ Q0 r h' ∧ aw_W E h' t.heap) ∧ va_F E.2.2.2.2 st t
def CT (E : aw_F) (y : MethodName) (bytes : ByteArray) (maxL : Nat) (ret : Option FieldType) (d : Nat) (G : aw_T) : Prop := ∀ (as : List Value) (h : aw_H) (Q0 : aw_R), G as h Q0 → Met E.1 y (.code y bytes maxL ret :: lw_g) (aw_r d) (aw_Pc E as h) (aw_Qc E Q0) 0 0 E.2.2.2.2
/-- what a call of a method needs, beside its link -/
def CS (E : aw_F) (y : MethodName) (bytes : ByteArray) (maxL : Nat) (ret : Option FieldType) (d n : Nat) (G : aw_T) : Prop := CT E y bytes maxL ret d G ∧ maxL ≤ 21 ∧ Cond.static y ∈ lw_g ∧ Cond.initialized y.cls ∈ lw_g ∧ Cond.code y bytes maxL ret ∈ lw_g ∧ (y.cls ≠ "java/lang/invoke/MethodHandle" ∧ y.cls ≠ "java/lang/invoke/VarHandle" ∧ (parseMethodDescriptor y.desc).map (fun d => d.parameters.length) = some n)
def CV (E : aw_F) (y : MethodName) (bytes : ByteArray) (maxL : Nat) (ret : Option FieldType) (d n ci : Nat) (G : aw_T) : Prop := CT E y bytes maxL ret d G ∧ maxL ≤ 21 ∧ Cond.instanceMethod y ∈ lw_g ∧ Cond.selects y.cls y y ∈ lw_g ∧ Cond.initialized y.cls ∈ lw_g ∧ Cond.code y bytes maxL ret ∈ lw_g ∧ (y.cls ≠ "java/lang/invoke/MethodHandle" ∧ y.cls ≠ "java/lang/invoke/VarHandle" ∧ (parseMethodDescriptor y.desc).map (fun d => d.parameters.length) = some n) ∧ ∃ T N, vwCl[ci]? = some (y.cls, T, N)
theorem aw_blind (E : aw_F) (as : List Value) (h : aw_H) : FrameBlind (aw_Pc E as h) := fun a U g mk q => ⟨q.1, q.2.1, va_K.moved (u := U) (U := U.calling g mk a) (Vm.Alike.refl U.vm) q.2.2⟩
theorem aw_goodc {w : Cond} (hw : w ∈ lw_g) : GoodIn lw_g (w :: lw_g) := fun w' h => by
  rcases List.mem_cons.mp h with rfl | h
  · exact lw_goodIn _ hw
  · exact lw_goodIn _ h
theorem aw_catsum (ad : Nat → Nat) (st : List Value) : ((st.map (aw_v ad)).map fun v => v.category).sum = (st.map fun v => v.category).sum := by
  rw [List.map_map, show ((fun v : Value => v.category) ∘ aw_v ad) = fun v => v.category from funext (fun v => aw_v_cat _ v)]
theorem ow_run {E : aw_F} {p : Program} {e : Env} {R : Room} {s : State} {m : MethodId} {args a : Array Value} {below : List Frame} {meth : Method} {c : Code} {H : Heap} {locs : List Loc} {kc ks pc : Nat} {Q : State → Prop} {ls : Array Slot} {st0 rest : List Value} {K : aw_R}
    (hr : va_Run p E.1 e R s m args below meth c H locs kc ks 0 0 (F0 m pc ls st0) rest (aw_Qc E K a) E.2.2.2.2) (hS : va_S E.2.2.2.2 s.heap H locs)
    (kk : ∀ (r : Option Value) (h' : aw_H) (H1 : Heap) (locs1 : List Loc), K r h' → aw_W E h' H1 → va_S E.2.2.2.2 s.heap H1 locs1 → W p E.1 e R s m args below meth c H1 locs1 kc ks Q (F0 m (pc + 3) ls ((r.map (aw_v E.2.2.2.1)).toList ++ rest))) : W p E.1 e R s m args below meth c H locs kc ks Q (F0 m pc ls st0) := by
  intro T hT X
  obtain ⟨v, st₀, t, T', L, h0, X', hL, e1, e2, ⟨⟨r, h', hv, hk, hw⟩, hz, hkp⟩, st⟩ := hr T hT X
  injection hv with hv
  subst hv
  rw [h0] at hz hkp
  obtain ⟨t2, a1, b1⟩ := kk r h' T'.heap (locs ++ L) hk (by rw [e1]; exact hw)
    ⟨Nat.le_trans hS.1 (by rw [e1]; exact hz), fun q h1 h2 => by rw [e1, hkp q (Nat.lt_of_lt_of_le h1 hS.1) h2]; exact hS.2.1 q h1 h2, fun q hq => by
      rcases List.mem_append.mp hq with h | h
      · exact hS.2.2 q h
      · exact hL q h⟩ T' rfl X'
  exact ⟨t2, st t2 a1, b1⟩
section CALLS
variable {X : aw_X} {cc : ByteArray} {own : String} {nL d pc : Nat} {L st : List Value} {h : aw_H}
theorem ow_callS {y : MethodName} {bytes : ByteArray} {maxL d' n idx : Nat} {ret : Option FieldType} {G : aw_T} {as st0 : List Value} {K : aw_R} (C : aw_C X cc own nL d) (ct : CS X.1 y bytes maxL ret d' n G) (hd' : d' + 1 ≤ d) (w1 : Cond.methodLink own idx y ∈ lw_g) (hdg : decode cc pc = .ok (.invokestatic idx, 3)) (hn : as.length = n) (hst : st0 = as.reverse ++ st) (hr : (st.map fun v => v.category).sum ≤ 8) (hh : G as h K)
    (kk : ∀ (r : Option Value) (h' : aw_H), K r h' → Sat X (pc + 3) L (r.toList ++ st) h') : Sat X pc L st0 h := by
  obtain ⟨E, pg, ev, R, s, m, args, below, meth, c, kc, ks, Q⟩ := X
  obtain ⟨hx, hb, hml, hown, hts, hK, hfr, hlo, hkc, hks⟩ := C
  obtain ⟨ct, hm, w2, w3, w4, hy⟩ := ct
  intro ls H locs a b z
  subst hst
  refine ow_run (K := K) (a := (as.map (aw_v E.2.2.2.1)).toArray) (rest := st.map (aw_v E.2.2.2.1)) (va_runS (As := as.map (aw_v E.2.2.2.1)) (nL := nL) (Ts := lw_g) (n := n) (bytes := bytes) (maxL := maxL) (ret := ret) ⟨hx, hb, hml, hown, hts⟩ (ct as h K hh) ⟨callB_of n hts (aw_goodc w4) rfl rfl rfl (hts _ w3) (hts _ w1) hy ⟨Nat.le_trans hd' hfr, by show 8 + (maxL + 11) + 40 * d' ≤ _; omega⟩, hts _ w2⟩ ⟨aw_blind E as h, fun U hU hW => ⟨rfl, by rw [hU]; exact b, va_K.moved hW.alike hK⟩⟩ rfl (by rw [List.length_map]; exact hn) (by rw [← hml]; exact a.1) (by show List.map _ _ = _; rw [List.map_append, List.map_reverse]) (lv_room (by rw [aw_catsum]; exact hr)) hdg ⟨hkc, hks⟩) z (fun r h' H1 locs1 q1 q2 q3 => ?_)
  have := kk r h' q1 ls H1 locs1 a q2 q3
  rw [List.map_append] at this
  cases r <;> exact this
theorem ow_callV {y : MethodName} {bytes : ByteArray} {maxL d' n idx ci p : Nat} {ret : Option FieldType} {G : aw_T} {as st0 : List Value} {K : aw_R} (C : aw_C X cc own nL d) (ct : CV X.1 y bytes maxL ret d' n ci G) (hd' : d' + 1 ≤ d) (w1 : Cond.methodLink own idx y ∈ lw_g) (hdg : decode cc pc = .ok (.invokevirtual idx, 3)) (hn : as.length = n) (hst : st0 = as.reverse ++ .ref p :: st) (hr : (st.map fun v => v.category).sum ≤ 8) (hh : sv_O h p ci (G (.ref p :: as) h K))
    (kk : ∀ (r : Option Value) (h' : aw_H), K r h' → Sat X (pc + 3) L (r.toList ++ st) h') : Sat X pc L st0 h := by
  obtain ⟨E, pg, ev, R, s, m, args, below, meth, c, kc, ks, Q⟩ := X
  obtain ⟨hx, hb, hml, hown, hts, hK, hfr, hlo, hkc, hks⟩ := C
  obtain ⟨ct, hm, w2, w5, w3, w4, hy, T, N, hc⟩ := ct
  obtain ⟨⟨fs, hp⟩, hh⟩ := sv_O_e hh
  intro ls H locs a b z
  subst hst
  refine ow_run (K := K) (a := ((Value.ref p :: as).map (aw_v E.2.2.2.1)).toArray) (rest := st.map (aw_v E.2.2.2.1)) (va_runV (C := y.cls) (b := E.2.2.2.1 p) (As := as.map (aw_v E.2.2.2.1)) (nL := nL) (Ts := lw_g) (n := n) (bytes := bytes) (maxL := maxL) (ret := ret) ⟨hx, hb, hml, hown, hts⟩ (ct (.ref p :: as) h K hh) ⟨callB_of n hts (aw_goodc w4) rfl rfl rfl (hts _ w3) (hts _ w1) hy ⟨Nat.le_trans hd' hfr, by show 8 + (maxL + 11) + 40 * d' ≤ _; omega⟩, hts _ w2, hts _ w5⟩ ⟨aw_blind E _ h, va_recv hK b.1 hc (aw_w_get hp), fun U hU hW => ⟨rfl, by rw [hU]; exact b, va_K.moved hW.alike hK⟩⟩ rfl (by rw [List.length_map]; exact hn) (by rw [← hml]; exact a.1) (by show List.map _ _ = _; rw [List.map_append, List.map_reverse]; rfl) (lv_room (by rw [aw_catsum]; exact hr)) hdg ⟨hkc, hks⟩) z (fun r h' H1 locs1 q1 q2 q3 => ?_)
  have := kk r h' q1 ls H1 locs1 a q2 q3
  rw [List.map_append] at this
  cases r <;> exact this
theorem ow_iret {Q0 : aw_R} {v : Int32} {ret : Option FieldType} (Z : aw_Z X cc ret Q0) (hd : decode cc pc = .ok (.ireturn, 1)) (hok : aw_ok ret (some (.int v))) (hh : Q0 (some (.int v)) h) : Sat X pc L [.int v] h := by
  obtain ⟨E, pg, ev, R, s, m, args, below, meth, c, kc, ks, Q⟩ := X
  intro ls H locs a b z
  exact Z pc ls H locs (some (.int v)) h hok hd b z hh
theorem ow_lret {Q0 : aw_R} {v : Int64} {ret : Option FieldType} (Z : aw_Z X cc ret Q0) (hd : decode cc pc = .ok (.lreturn, 1)) (hok : aw_ok ret (some (.long v))) (hh : Q0 (some (.long v)) h) : Sat X pc L [.long v] h := by
  obtain ⟨E, pg, ev, R, s, m, args, below, meth, c, kc, ks, Q⟩ := X
  intro ls H locs a b z
  exact Z pc ls H locs (some (.long v)) h hok hd b z hh
theorem ow_vret {Q0 : aw_R} {ret : Option FieldType} (Z : aw_Z X cc ret Q0) (hd : decode cc pc = .ok (.return_, 1)) (hok : aw_ok ret none) (hh : Q0 none h) : Sat X pc L [] h := by
  obtain ⟨E, pg, ev, R, s, m, args, below, meth, c, kc, ks, Q⟩ := X
  intro ls H locs a b z
  exact Z pc ls H locs none h hok hd b z hh
end CALLS
theorem ct_of {E : aw_F} {y : MethodName} {bytes : ByteArray} {maxL d : Nat} {ret : Option FieldType} {G : aw_T} (hy : plainName y.cls = true)
    (body : ∀ (X : aw_X) (Q0 : aw_R) (as : List Value) (h : aw_H), X.1 = E → aw_C X bytes y.cls maxL d → aw_Z X bytes ret Q0 → G as h Q0 → ∃ L : List Value, aw_l E.2.2.2.1 0 L = lv_args 0 (as.map (aw_v E.2.2.2.1)) ∧ (lg_sl (as.map (aw_v E.2.2.2.1))).length ≤ maxL ∧ Sat X 0 L [] h) : CT E y bytes maxL ret d G := by
  intro as h Q0 hG
  refine Met.ofW (cc := bytes) (maxL := maxL) (ret := ret) hy rfl ?_
  intro p e s m args below meth c s₁ B hml hv
  obtain ⟨rfl, hW, hK⟩ := hv
  have hx := B.exec
  have hb := B.bytes
  have hr := B.returns
  have hts := atoms_spec (ws := .code y bytes maxL ret :: lw_g) B.pre
  have hown : s.vm.findClass y.cls = some m.cls := findClass_of_methodNamed B.named
  have hlocks := B.notSynchronized
  obtain ⟨L, hL, hl, hs⟩ := body (E, p, e, aw_r d, s, m, (as.map (aw_v E.2.2.2.1)).toArray, below, meth, c, 0, 0, MQ below (aw_Qc E Q0) (as.map (aw_v E.2.2.2.1)).toArray s 0 0 E.2.2.2.2) Q0 as h rfl ⟨hx, hb, hml, hown, fun w hw => hts w (List.mem_cons_of_mem _ hw), hK, Nat.le_refl _, Nat.le_refl _, Nat.zero_le _, Nat.zero_le _⟩ (by
      intro pc ls H locs r h' hok hd hw hS hq
      have hf : ∀ q ∈ locs, E.2.2.2.2 q.base := hS.2.2
      cases r with
      | none =>
        cases ret with
        | none => exact W.vret hx hb hr (fun t ht _ => ⟨⟨none, h', rfl, hq, by rw [ht]; exact hw⟩, hS.F ht⟩) hf hd
        | some ty => cases ty <;> exact hok.elim
      | some v =>
        cases v with
        | int v =>
          cases ret with
          | none => exact hok.elim
          | some ty =>
            cases ty with
            | int => exact W.iret hx hb hr (fun t ht _ => ⟨⟨some (.int v), h', rfl, hq, by rw [ht]; exact hw⟩, hS.F ht⟩) hf hd
            | boolean => exact W.zret hx hb hr (by rcases (hok : v = 0 ∨ v = 1) with q | q <;> (rw [q]; rfl)) (fun t ht _ => ⟨⟨some (.int v), h', rfl, hq, by rw [ht]; exact hw⟩, hS.F ht⟩) hf hd
            | _ => exact hok.elim
        | long v =>
          cases ret with
          | none => exact hok.elim
          | some ty =>
            cases ty with
            | long => exact W.lret hx hb hr (fun t ht _ => ⟨⟨some (.long v), h', rfl, hq, by rw [ht]; exact hw⟩, hS.F ht⟩) hf hd
            | _ => exact hok.elim
        | _ => exact hd.elim) hG
  rw [lg_entry_eq]
  have hl2 := lv_entry (as.map (aw_v E.2.2.2.1)) hl
  exact hs _ _ _ (by rw [hL, hml]; exact hl2) hW va_S.rf
end
