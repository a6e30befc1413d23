-- ===== PART A: goes FIRST, ahead of the names: the tables' words, and 'selects' of the private methods out of them =====
/-- a private method of a class that the tables say can be made, by its rows of tables_1 -/
def lw_okq (q : MethodName × Nat) : Prop := (q.1.cls ≠ "java/lang/invoke/MethodHandle" ∧ q.1.cls ≠ "java/lang/invoke/VarHandle") ∧ Cond.instantiable q.1.cls q.2 ∈ tables_1 ∧ Cond.privateMethod q.1 ∈ tables_1 ∧ Cond.instanceMethod q.1 ∈ tables_1
theorem lw_p0 : lw_okq (⟨"MirrorWires", "isGate", "(I)Z"⟩, 9) := ⟨⟨by decide +kernel, by decide +kernel⟩, List.mem_of_getElem? (i := 14) (by decide +kernel), List.mem_of_getElem? (i := 227) (by decide +kernel), List.mem_of_getElem? (i := 228) (by decide +kernel)⟩
theorem lw_p1 : lw_okq (⟨"MirrorWires", "isState", "(I)Z"⟩, 9) := ⟨⟨by decide +kernel, by decide +kernel⟩, List.mem_of_getElem? (i := 14) (by decide +kernel), List.mem_of_getElem? (i := 244) (by decide +kernel), List.mem_of_getElem? (i := 245) (by decide +kernel)⟩
theorem lw_p2 : lw_okq (⟨"MirrorWires$Tape", "readWires", "(LMirrorWires$Board;)Z"⟩, 3) := ⟨⟨by decide +kernel, by decide +kernel⟩, List.mem_of_getElem? (i := 118) (by decide +kernel), List.mem_of_getElem? (i := 280) (by decide +kernel), List.mem_of_getElem? (i := 281) (by decide +kernel)⟩
theorem lw_p3 : lw_okq (⟨"MirrorWires$Tape", "skipBlanks", "()V"⟩, 3) := ⟨⟨by decide +kernel, by decide +kernel⟩, List.mem_of_getElem? (i := 118) (by decide +kernel), List.mem_of_getElem? (i := 284) (by decide +kernel), List.mem_of_getElem? (i := 285) (by decide +kernel)⟩
theorem lw_p4 : lw_okq (⟨"MirrorWires$Tape", "digitHere", "()I"⟩, 3) := ⟨⟨by decide +kernel, by decide +kernel⟩, List.mem_of_getElem? (i := 118) (by decide +kernel), List.mem_of_getElem? (i := 288) (by decide +kernel), List.mem_of_getElem? (i := 289) (by decide +kernel)⟩
theorem lw_p5 : lw_okq (⟨"MirrorWires$Tape", "readBits", "(LMirrorWires$Board;)Z"⟩, 3) := ⟨⟨by decide +kernel, by decide +kernel⟩, List.mem_of_getElem? (i := 118) (by decide +kernel), List.mem_of_getElem? (i := 293) (by decide +kernel), List.mem_of_getElem? (i := 294) (by decide +kernel)⟩
theorem lw_p6 : lw_okq (⟨"MirrorWires$Tape", "takes", "(C)Z"⟩, 3) := ⟨⟨by decide +kernel, by decide +kernel⟩, List.mem_of_getElem? (i := 118) (by decide +kernel), List.mem_of_getElem? (i := 297) (by decide +kernel), List.mem_of_getElem? (i := 298) (by decide +kernel)⟩
theorem lw_p7 : lw_okq (⟨"MirrorWires$Tape", "readGates", "(LMirrorWires$Board;)Z"⟩, 3) := ⟨⟨by decide +kernel, by decide +kernel⟩, List.mem_of_getElem? (i := 118) (by decide +kernel), List.mem_of_getElem? (i := 302) (by decide +kernel), List.mem_of_getElem? (i := 303) (by decide +kernel)⟩
theorem lw_p8 : lw_okq (⟨"MirrorWires$Tape", "isAtEnd", "()Z"⟩, 3) := ⟨⟨by decide +kernel, by decide +kernel⟩, List.mem_of_getElem? (i := 118) (by decide +kernel), List.mem_of_getElem? (i := 306) (by decide +kernel), List.mem_of_getElem? (i := 307) (by decide +kernel)⟩
theorem lw_p9 : lw_okq (⟨"MirrorWires$Tape", "readGate", "(LMirrorWires$Board;)Z"⟩, 3) := ⟨⟨by decide +kernel, by decide +kernel⟩, List.mem_of_getElem? (i := 118) (by decide +kernel), List.mem_of_getElem? (i := 310) (by decide +kernel), List.mem_of_getElem? (i := 311) (by decide +kernel)⟩
theorem lw_p10 : lw_okq (⟨"MirrorWires", "isWire", "(I)Z"⟩, 9) := ⟨⟨by decide +kernel, by decide +kernel⟩, List.mem_of_getElem? (i := 14) (by decide +kernel), List.mem_of_getElem? (i := 378) (by decide +kernel), List.mem_of_getElem? (i := 379) (by decide +kernel)⟩
theorem lw_p11 : lw_okq (⟨"MirrorWires", "areTwoGates", "(II)Z"⟩, 9) := ⟨⟨by decide +kernel, by decide +kernel⟩, List.mem_of_getElem? (i := 14) (by decide +kernel), List.mem_of_getElem? (i := 402) (by decide +kernel), List.mem_of_getElem? (i := 403) (by decide +kernel)⟩
theorem lw_p12 : lw_okq (⟨"MirrorWires$Foretold", "learnRuns", "()V"⟩, 8) := ⟨⟨by decide +kernel, by decide +kernel⟩, List.mem_of_getElem? (i := 22) (by decide +kernel), List.mem_of_getElem? (i := 471) (by decide +kernel), List.mem_of_getElem? (i := 472) (by decide +kernel)⟩
theorem lw_p13 : lw_okq (⟨"MirrorWires$Foretold", "countRing", "(I)V"⟩, 8) := ⟨⟨by decide +kernel, by decide +kernel⟩, List.mem_of_getElem? (i := 22) (by decide +kernel), List.mem_of_getElem? (i := 476) (by decide +kernel), List.mem_of_getElem? (i := 477) (by decide +kernel)⟩
theorem lw_p14 : lw_okq (⟨"MirrorWires$Foretold", "runChanged", "(III)I"⟩, 8) := ⟨⟨by decide +kernel, by decide +kernel⟩, List.mem_of_getElem? (i := 22) (by decide +kernel), List.mem_of_getElem? (i := 502) (by decide +kernel), List.mem_of_getElem? (i := 503) (by decide +kernel)⟩
theorem lw_p15 : lw_okq (⟨"MirrorWires$Foretold", "mayBeLeftOut", "(II)Z"⟩, 8) := ⟨⟨by decide +kernel, by decide +kernel⟩, List.mem_of_getElem? (i := 22) (by decide +kernel), List.mem_of_getElem? (i := 515) (by decide +kernel), List.mem_of_getElem? (i := 516) (by decide +kernel)⟩
def lw_privs_1 : List (MethodName × Nat) := [(⟨"MirrorWires", "isGate", "(I)Z"⟩, 9), (⟨"MirrorWires", "isState", "(I)Z"⟩, 9), (⟨"MirrorWires$Tape", "readWires", "(LMirrorWires$Board;)Z"⟩, 3), (⟨"MirrorWires$Tape", "skipBlanks", "()V"⟩, 3), (⟨"MirrorWires$Tape", "digitHere", "()I"⟩, 3), (⟨"MirrorWires$Tape", "readBits", "(LMirrorWires$Board;)Z"⟩, 3), (⟨"MirrorWires$Tape", "takes", "(C)Z"⟩, 3), (⟨"MirrorWires$Tape", "readGates", "(LMirrorWires$Board;)Z"⟩, 3), (⟨"MirrorWires$Tape", "isAtEnd", "()Z"⟩, 3), (⟨"MirrorWires$Tape", "readGate", "(LMirrorWires$Board;)Z"⟩, 3), (⟨"MirrorWires", "isWire", "(I)Z"⟩, 9), (⟨"MirrorWires", "areTwoGates", "(II)Z"⟩, 9), (⟨"MirrorWires$Foretold", "learnRuns", "()V"⟩, 8), (⟨"MirrorWires$Foretold", "countRing", "(I)V"⟩, 8), (⟨"MirrorWires$Foretold", "runChanged", "(III)I"⟩, 8), (⟨"MirrorWires$Foretold", "mayBeLeftOut", "(II)Z"⟩, 8)]
theorem lw_r1 : ∀ q ∈ lw_privs_1, lw_okq q := List.forall_mem_cons.mpr ⟨lw_p0, List.forall_mem_cons.mpr ⟨lw_p1, List.forall_mem_cons.mpr ⟨lw_p2, List.forall_mem_cons.mpr ⟨lw_p3, List.forall_mem_cons.mpr ⟨lw_p4, List.forall_mem_cons.mpr ⟨lw_p5, List.forall_mem_cons.mpr ⟨lw_p6, List.forall_mem_cons.mpr ⟨lw_p7, List.forall_mem_cons.mpr ⟨lw_p8, List.forall_mem_cons.mpr ⟨lw_p9, List.forall_mem_cons.mpr ⟨lw_p10, List.forall_mem_cons.mpr ⟨lw_p11, List.forall_mem_cons.mpr ⟨lw_p12, List.forall_mem_cons.mpr ⟨lw_p13, List.forall_mem_cons.mpr ⟨lw_p14, List.forall_mem_cons.mpr ⟨lw_p15, fun _ h => absurd h List.not_mem_nil⟩⟩⟩⟩⟩⟩⟩⟩⟩⟩⟩⟩⟩⟩⟩⟩
theorem lw_p16 : lw_okq (⟨"MirrorWires$Foretold", "nearerGate", "(I)I"⟩, 8) := ⟨⟨by decide +kernel, by decide +kernel⟩, List.mem_of_getElem? (i := 22) (by decide +kernel), List.mem_of_getElem? (i := 552) (by decide +kernel), List.mem_of_getElem? (i := 553) (by decide +kernel)⟩
theorem lw_p17 : lw_okq (⟨"MirrorWires$Foretold", "weight", "(II)I"⟩, 8) := ⟨⟨by decide +kernel, by decide +kernel⟩, List.mem_of_getElem? (i := 22) (by decide +kernel), List.mem_of_getElem? (i := 587) (by decide +kernel), List.mem_of_getElem? (i := 588) (by decide +kernel)⟩
theorem lw_p18 : lw_okq (⟨"MirrorWires", "areStates", "(III)Z"⟩, 9) := ⟨⟨by decide +kernel, by decide +kernel⟩, List.mem_of_getElem? (i := 14) (by decide +kernel), List.mem_of_getElem? (i := 607) (by decide +kernel), List.mem_of_getElem? (i := 608) (by decide +kernel)⟩
theorem lw_p19 : lw_okq (⟨"MirrorWires$Foretold", "tellsOf", "(LMirrorWires$Sheet;IIIII)Z"⟩, 8) := ⟨⟨by decide +kernel, by decide +kernel⟩, List.mem_of_getElem? (i := 22) (by decide +kernel), List.mem_of_getElem? (i := 630) (by decide +kernel), List.mem_of_getElem? (i := 631) (by decide +kernel)⟩
theorem lw_p20 : lw_okq (⟨"MirrorWires$Sheet", "cut", "(J)J"⟩, 4) := ⟨⟨by decide +kernel, by decide +kernel⟩, List.mem_of_getElem? (i := 138) (by decide +kernel), List.mem_of_getElem? (i := 659) (by decide +kernel), List.mem_of_getElem? (i := 660) (by decide +kernel)⟩
theorem lw_p21 : lw_okq (⟨"MirrorWiresModel", "clear", "(I)V"⟩, 15) := ⟨⟨by decide +kernel, by decide +kernel⟩, List.mem_of_getElem? (i := 688) (by decide +kernel), List.mem_of_getElem? (i := 747) (by decide +kernel), List.mem_of_getElem? (i := 748) (by decide +kernel)⟩
theorem lw_p22 : lw_okq (⟨"MirrorWiresModel", "isWire", "(I)Z"⟩, 15) := ⟨⟨by decide +kernel, by decide +kernel⟩, List.mem_of_getElem? (i := 688) (by decide +kernel), List.mem_of_getElem? (i := 755) (by decide +kernel), List.mem_of_getElem? (i := 756) (by decide +kernel)⟩
theorem lw_p23 : lw_okq (⟨"MirrorWiresModel", "put", "(IIIII)I"⟩, 15) := ⟨⟨by decide +kernel, by decide +kernel⟩, List.mem_of_getElem? (i := 688) (by decide +kernel), List.mem_of_getElem? (i := 765) (by decide +kernel), List.mem_of_getElem? (i := 766) (by decide +kernel)⟩
theorem lw_p24 : lw_okq (⟨"MirrorWiresModel", "isGate", "(I)Z"⟩, 15) := ⟨⟨by decide +kernel, by decide +kernel⟩, List.mem_of_getElem? (i := 688) (by decide +kernel), List.mem_of_getElem? (i := 773) (by decide +kernel), List.mem_of_getElem? (i := 774) (by decide +kernel)⟩
theorem lw_p25 : lw_okq (⟨"MirrorWiresModel", "isState", "(I)Z"⟩, 15) := ⟨⟨by decide +kernel, by decide +kernel⟩, List.mem_of_getElem? (i := 688) (by decide +kernel), List.mem_of_getElem? (i := 781) (by decide +kernel), List.mem_of_getElem? (i := 782) (by decide +kernel)⟩
theorem lw_p26 : lw_okq (⟨"MirrorWiresModel", "states", "()I"⟩, 15) := ⟨⟨by decide +kernel, by decide +kernel⟩, List.mem_of_getElem? (i := 688) (by decide +kernel), List.mem_of_getElem? (i := 785) (by decide +kernel), List.mem_of_getElem? (i := 786) (by decide +kernel)⟩
theorem lw_p27 : lw_okq (⟨"MirrorWiresModel", "doneIn", "(III)I"⟩, 15) := ⟨⟨by decide +kernel, by decide +kernel⟩, List.mem_of_getElem? (i := 688) (by decide +kernel), List.mem_of_getElem? (i := 789) (by decide +kernel), List.mem_of_getElem? (i := 790) (by decide +kernel)⟩
theorem lw_p28 : lw_okq (⟨"MirrorWiresModel", "readWires", "()I"⟩, 15) := ⟨⟨by decide +kernel, by decide +kernel⟩, List.mem_of_getElem? (i := 688) (by decide +kernel), List.mem_of_getElem? (i := 810) (by decide +kernel), List.mem_of_getElem? (i := 811) (by decide +kernel)⟩
theorem lw_p29 : lw_okq (⟨"MirrorWiresModel", "digit", "(II)I"⟩, 15) := ⟨⟨by decide +kernel, by decide +kernel⟩, List.mem_of_getElem? (i := 688) (by decide +kernel), List.mem_of_getElem? (i := 814) (by decide +kernel), List.mem_of_getElem? (i := 815) (by decide +kernel)⟩
theorem lw_p30 : lw_okq (⟨"MirrorWiresModel", "here", "()I"⟩, 15) := ⟨⟨by decide +kernel, by decide +kernel⟩, List.mem_of_getElem? (i := 688) (by decide +kernel), List.mem_of_getElem? (i := 818) (by decide +kernel), List.mem_of_getElem? (i := 819) (by decide +kernel)⟩
theorem lw_p31 : lw_okq (⟨"MirrorWiresModel", "fault", "(I)V"⟩, 15) := ⟨⟨by decide +kernel, by decide +kernel⟩, List.mem_of_getElem? (i := 688) (by decide +kernel), List.mem_of_getElem? (i := 822) (by decide +kernel), List.mem_of_getElem? (i := 823) (by decide +kernel)⟩
def lw_privs_2 : List (MethodName × Nat) := [(⟨"MirrorWires$Foretold", "nearerGate", "(I)I"⟩, 8), (⟨"MirrorWires$Foretold", "weight", "(II)I"⟩, 8), (⟨"MirrorWires", "areStates", "(III)Z"⟩, 9), (⟨"MirrorWires$Foretold", "tellsOf", "(LMirrorWires$Sheet;IIIII)Z"⟩, 8), (⟨"MirrorWires$Sheet", "cut", "(J)J"⟩, 4), (⟨"MirrorWiresModel", "clear", "(I)V"⟩, 15), (⟨"MirrorWiresModel", "isWire", "(I)Z"⟩, 15), (⟨"MirrorWiresModel", "put", "(IIIII)I"⟩, 15), (⟨"MirrorWiresModel", "isGate", "(I)Z"⟩, 15), (⟨"MirrorWiresModel", "isState", "(I)Z"⟩, 15), (⟨"MirrorWiresModel", "states", "()I"⟩, 15), (⟨"MirrorWiresModel", "doneIn", "(III)I"⟩, 15), (⟨"MirrorWiresModel", "readWires", "()I"⟩, 15), (⟨"MirrorWiresModel", "digit", "(II)I"⟩, 15), (⟨"MirrorWiresModel", "here", "()I"⟩, 15), (⟨"MirrorWiresModel", "fault", "(I)V"⟩, 15)]
theorem lw_r2 : ∀ q ∈ lw_privs_2, lw_okq q := List.forall_mem_cons.mpr ⟨lw_p16, List.forall_mem_cons.mpr ⟨lw_p17, List.forall_mem_cons.mpr ⟨lw_p18, List.forall_mem_cons.mpr ⟨lw_p19, List.forall_mem_cons.mpr ⟨lw_p20, List.forall_mem_cons.mpr ⟨lw_p21, List.forall_mem_cons.mpr ⟨lw_p22, List.forall_mem_cons.mpr ⟨lw_p23, List.forall_mem_cons.mpr ⟨lw_p24, List.forall_mem_cons.mpr ⟨lw_p25, List.forall_mem_cons.mpr ⟨lw_p26, List.forall_mem_cons.mpr ⟨lw_p27, List.forall_mem_cons.mpr ⟨lw_p28, List.forall_mem_cons.mpr ⟨lw_p29, List.forall_mem_cons.mpr ⟨lw_p30, List.forall_mem_cons.mpr ⟨lw_p31, fun _ h => absurd h List.not_mem_nil⟩⟩⟩⟩⟩⟩⟩⟩⟩⟩⟩⟩⟩⟩⟩⟩
theorem lw_p32 : lw_okq (⟨"MirrorWiresModel", "fine", "()Z"⟩, 15) := ⟨⟨by decide +kernel, by decide +kernel⟩, List.mem_of_getElem? (i := 688) (by decide +kernel), List.mem_of_getElem? (i := 826) (by decide +kernel), List.mem_of_getElem? (i := 827) (by decide +kernel)⟩
theorem lw_p33 : lw_okq (⟨"MirrorWiresModel", "readState", "(I)V"⟩, 15) := ⟨⟨by decide +kernel, by decide +kernel⟩, List.mem_of_getElem? (i := 688) (by decide +kernel), List.mem_of_getElem? (i := 830) (by decide +kernel), List.mem_of_getElem? (i := 831) (by decide +kernel)⟩
theorem lw_p34 : lw_okq (⟨"MirrorWiresModel", "need", "(I)V"⟩, 15) := ⟨⟨by decide +kernel, by decide +kernel⟩, List.mem_of_getElem? (i := 688) (by decide +kernel), List.mem_of_getElem? (i := 834) (by decide +kernel), List.mem_of_getElem? (i := 835) (by decide +kernel)⟩
theorem lw_p35 : lw_okq (⟨"MirrorWiresModel", "readGates", "(I)V"⟩, 15) := ⟨⟨by decide +kernel, by decide +kernel⟩, List.mem_of_getElem? (i := 688) (by decide +kernel), List.mem_of_getElem? (i := 838) (by decide +kernel), List.mem_of_getElem? (i := 839) (by decide +kernel)⟩
theorem lw_p36 : lw_okq (⟨"MirrorWiresModel", "readGate", "(I)V"⟩, 15) := ⟨⟨by decide +kernel, by decide +kernel⟩, List.mem_of_getElem? (i := 688) (by decide +kernel), List.mem_of_getElem? (i := 842) (by decide +kernel), List.mem_of_getElem? (i := 843) (by decide +kernel)⟩
theorem lw_p37 : lw_okq (⟨"MirrorWiresModel", "dead", "()I"⟩, 15) := ⟨⟨by decide +kernel, by decide +kernel⟩, List.mem_of_getElem? (i := 688) (by decide +kernel), List.mem_of_getElem? (i := 853) (by decide +kernel), List.mem_of_getElem? (i := 854) (by decide +kernel)⟩
theorem lw_p38 : lw_okq (⟨"MirrorWiresModel", "remember", "()V"⟩, 15) := ⟨⟨by decide +kernel, by decide +kernel⟩, List.mem_of_getElem? (i := 688) (by decide +kernel), List.mem_of_getElem? (i := 864) (by decide +kernel), List.mem_of_getElem? (i := 865) (by decide +kernel)⟩
theorem lw_p39 : lw_okq (⟨"MirrorWiresModel", "copyRow", "(III)V"⟩, 15) := ⟨⟨by decide +kernel, by decide +kernel⟩, List.mem_of_getElem? (i := 688) (by decide +kernel), List.mem_of_getElem? (i := 868) (by decide +kernel), List.mem_of_getElem? (i := 869) (by decide +kernel)⟩
theorem lw_p40 : lw_okq (⟨"MirrorWiresModel", "stepOn", "()V"⟩, 15) := ⟨⟨by decide +kernel, by decide +kernel⟩, List.mem_of_getElem? (i := 688) (by decide +kernel), List.mem_of_getElem? (i := 872) (by decide +kernel), List.mem_of_getElem? (i := 873) (by decide +kernel)⟩
theorem lw_p41 : lw_okq (⟨"MirrorWiresModel", "deaden", "(II)I"⟩, 15) := ⟨⟨by decide +kernel, by decide +kernel⟩, List.mem_of_getElem? (i := 688) (by decide +kernel), List.mem_of_getElem? (i := 892) (by decide +kernel), List.mem_of_getElem? (i := 893) (by decide +kernel)⟩
theorem lw_p42 : lw_okq (⟨"MirrorWiresModel", "swapIn", "(III)V"⟩, 15) := ⟨⟨by decide +kernel, by decide +kernel⟩, List.mem_of_getElem? (i := 688) (by decide +kernel), List.mem_of_getElem? (i := 904) (by decide +kernel), List.mem_of_getElem? (i := 905) (by decide +kernel)⟩
theorem lw_p43 : lw_okq (⟨"MirrorWiresModel", "runIn", "(II)I"⟩, 15) := ⟨⟨by decide +kernel, by decide +kernel⟩, List.mem_of_getElem? (i := 688) (by decide +kernel), List.mem_of_getElem? (i := 928) (by decide +kernel), List.mem_of_getElem? (i := 929) (by decide +kernel)⟩
theorem lw_p44 : lw_okq (⟨"MirrorWiresModel", "layRuns", "()V"⟩, 15) := ⟨⟨by decide +kernel, by decide +kernel⟩, List.mem_of_getElem? (i := 688) (by decide +kernel), List.mem_of_getElem? (i := 937) (by decide +kernel), List.mem_of_getElem? (i := 938) (by decide +kernel)⟩
theorem lw_p45 : lw_okq (⟨"MirrorWiresModel", "ringOf", "(I)I"⟩, 15) := ⟨⟨by decide +kernel, by decide +kernel⟩, List.mem_of_getElem? (i := 688) (by decide +kernel), List.mem_of_getElem? (i := 941) (by decide +kernel), List.mem_of_getElem? (i := 942) (by decide +kernel)⟩
theorem lw_p46 : lw_okq (⟨"MirrorWiresModel", "ringMany", "()I"⟩, 15) := ⟨⟨by decide +kernel, by decide +kernel⟩, List.mem_of_getElem? (i := 688) (by decide +kernel), List.mem_of_getElem? (i := 953) (by decide +kernel), List.mem_of_getElem? (i := 954) (by decide +kernel)⟩
theorem lw_p47 : lw_okq (⟨"MirrorWiresModel", "isLeast", "(I)Z"⟩, 15) := ⟨⟨by decide +kernel, by decide +kernel⟩, List.mem_of_getElem? (i := 688) (by decide +kernel), List.mem_of_getElem? (i := 957) (by decide +kernel), List.mem_of_getElem? (i := 958) (by decide +kernel)⟩
def lw_privs_3 : List (MethodName × Nat) := [(⟨"MirrorWiresModel", "fine", "()Z"⟩, 15), (⟨"MirrorWiresModel", "readState", "(I)V"⟩, 15), (⟨"MirrorWiresModel", "need", "(I)V"⟩, 15), (⟨"MirrorWiresModel", "readGates", "(I)V"⟩, 15), (⟨"MirrorWiresModel", "readGate", "(I)V"⟩, 15), (⟨"MirrorWiresModel", "dead", "()I"⟩, 15), (⟨"MirrorWiresModel", "remember", "()V"⟩, 15), (⟨"MirrorWiresModel", "copyRow", "(III)V"⟩, 15), (⟨"MirrorWiresModel", "stepOn", "()V"⟩, 15), (⟨"MirrorWiresModel", "deaden", "(II)I"⟩, 15), (⟨"MirrorWiresModel", "swapIn", "(III)V"⟩, 15), (⟨"MirrorWiresModel", "runIn", "(II)I"⟩, 15), (⟨"MirrorWiresModel", "layRuns", "()V"⟩, 15), (⟨"MirrorWiresModel", "ringOf", "(I)I"⟩, 15), (⟨"MirrorWiresModel", "ringMany", "()I"⟩, 15), (⟨"MirrorWiresModel", "isLeast", "(I)Z"⟩, 15)]
theorem lw_r3 : ∀ q ∈ lw_privs_3, lw_okq q := List.forall_mem_cons.mpr ⟨lw_p32, List.forall_mem_cons.mpr ⟨lw_p33, List.forall_mem_cons.mpr ⟨lw_p34, List.forall_mem_cons.mpr ⟨lw_p35, List.forall_mem_cons.mpr ⟨lw_p36, List.forall_mem_cons.mpr ⟨lw_p37, List.forall_mem_cons.mpr ⟨lw_p38, List.forall_mem_cons.mpr ⟨lw_p39, List.forall_mem_cons.mpr ⟨lw_p40, List.forall_mem_cons.mpr ⟨lw_p41, List.forall_mem_cons.mpr ⟨lw_p42, List.forall_mem_cons.mpr ⟨lw_p43, List.forall_mem_cons.mpr ⟨lw_p44, List.forall_mem_cons.mpr ⟨lw_p45, List.forall_mem_cons.mpr ⟨lw_p46, List.forall_mem_cons.mpr ⟨lw_p47, fun _ h => absurd h List.not_mem_nil⟩⟩⟩⟩⟩⟩⟩⟩⟩⟩⟩⟩⟩⟩⟩⟩
theorem lw_p48 : lw_okq (⟨"MirrorWiresModel", "beginTry", "()V"⟩, 15) := ⟨⟨by decide +kernel, by decide +kernel⟩, List.mem_of_getElem? (i := 688) (by decide +kernel), List.mem_of_getElem? (i := 976) (by decide +kernel), List.mem_of_getElem? (i := 977) (by decide +kernel)⟩
theorem lw_p49 : lw_okq (⟨"MirrorWiresModel", "isSame", "()Z"⟩, 15) := ⟨⟨by decide +kernel, by decide +kernel⟩, List.mem_of_getElem? (i := 688) (by decide +kernel), List.mem_of_getElem? (i := 980) (by decide +kernel), List.mem_of_getElem? (i := 981) (by decide +kernel)⟩
theorem lw_p50 : lw_okq (⟨"MirrorWiresModel", "killIn", "(I)V"⟩, 15) := ⟨⟨by decide +kernel, by decide +kernel⟩, List.mem_of_getElem? (i := 688) (by decide +kernel), List.mem_of_getElem? (i := 988) (by decide +kernel), List.mem_of_getElem? (i := 989) (by decide +kernel)⟩
theorem lw_p51 : lw_okq (⟨"MirrorWiresModel", "layYet", "(I)V"⟩, 15) := ⟨⟨by decide +kernel, by decide +kernel⟩, List.mem_of_getElem? (i := 688) (by decide +kernel), List.mem_of_getElem? (i := 1000) (by decide +kernel), List.mem_of_getElem? (i := 1001) (by decide +kernel)⟩
theorem lw_p52 : lw_okq (⟨"MirrorWiresModel", "kthOn", "(II)I"⟩, 15) := ⟨⟨by decide +kernel, by decide +kernel⟩, List.mem_of_getElem? (i := 688) (by decide +kernel), List.mem_of_getElem? (i := 1004) (by decide +kernel), List.mem_of_getElem? (i := 1005) (by decide +kernel)⟩
theorem lw_p53 : lw_okq (⟨"MirrorWiresModel", "shownBy", "(I)I"⟩, 15) := ⟨⟨by decide +kernel, by decide +kernel⟩, List.mem_of_getElem? (i := 688) (by decide +kernel), List.mem_of_getElem? (i := 1016) (by decide +kernel), List.mem_of_getElem? (i := 1017) (by decide +kernel)⟩
theorem lw_p54 : lw_okq (⟨"MirrorWiresModel", "found", "(IIII)I"⟩, 15) := ⟨⟨by decide +kernel, by decide +kernel⟩, List.mem_of_getElem? (i := 688) (by decide +kernel), List.mem_of_getElem? (i := 1046) (by decide +kernel), List.mem_of_getElem? (i := 1047) (by decide +kernel)⟩
theorem lw_p55 : lw_okq (⟨"MirrorWiresModel", "deaths", "(IIII)I"⟩, 15) := ⟨⟨by decide +kernel, by decide +kernel⟩, List.mem_of_getElem? (i := 688) (by decide +kernel), List.mem_of_getElem? (i := 1050) (by decide +kernel), List.mem_of_getElem? (i := 1051) (by decide +kernel)⟩
theorem lw_p56 : lw_okq (⟨"MirrorWiresModel", "isToldIn", "(IIIII)Z"⟩, 15) := ⟨⟨by decide +kernel, by decide +kernel⟩, List.mem_of_getElem? (i := 688) (by decide +kernel), List.mem_of_getElem? (i := 1054) (by decide +kernel), List.mem_of_getElem? (i := 1055) (by decide +kernel)⟩
theorem lw_p57 : lw_okq (⟨"MirrorWiresModel", "ups", "(IIII)I"⟩, 15) := ⟨⟨by decide +kernel, by decide +kernel⟩, List.mem_of_getElem? (i := 688) (by decide +kernel), List.mem_of_getElem? (i := 1058) (by decide +kernel), List.mem_of_getElem? (i := 1059) (by decide +kernel)⟩
theorem lw_p58 : lw_okq (⟨"MirrorWiresModel", "kinds", "(IIIII)I"⟩, 15) := ⟨⟨by decide +kernel, by decide +kernel⟩, List.mem_of_getElem? (i := 688) (by decide +kernel), List.mem_of_getElem? (i := 1062) (by decide +kernel), List.mem_of_getElem? (i := 1063) (by decide +kernel)⟩
def lw_privs_4 : List (MethodName × Nat) := [(⟨"MirrorWiresModel", "beginTry", "()V"⟩, 15), (⟨"MirrorWiresModel", "isSame", "()Z"⟩, 15), (⟨"MirrorWiresModel", "killIn", "(I)V"⟩, 15), (⟨"MirrorWiresModel", "layYet", "(I)V"⟩, 15), (⟨"MirrorWiresModel", "kthOn", "(II)I"⟩, 15), (⟨"MirrorWiresModel", "shownBy", "(I)I"⟩, 15), (⟨"MirrorWiresModel", "found", "(IIII)I"⟩, 15), (⟨"MirrorWiresModel", "deaths", "(IIII)I"⟩, 15), (⟨"MirrorWiresModel", "isToldIn", "(IIIII)Z"⟩, 15), (⟨"MirrorWiresModel", "ups", "(IIII)I"⟩, 15), (⟨"MirrorWiresModel", "kinds", "(IIIII)I"⟩, 15)]
theorem lw_r4 : ∀ q ∈ lw_privs_4, lw_okq q := List.forall_mem_cons.mpr ⟨lw_p48, List.forall_mem_cons.mpr ⟨lw_p49, List.forall_mem_cons.mpr ⟨lw_p50, List.forall_mem_cons.mpr ⟨lw_p51, List.forall_mem_cons.mpr ⟨lw_p52, List.forall_mem_cons.mpr ⟨lw_p53, List.forall_mem_cons.mpr ⟨lw_p54, List.forall_mem_cons.mpr ⟨lw_p55, List.forall_mem_cons.mpr ⟨lw_p56, List.forall_mem_cons.mpr ⟨lw_p57, List.forall_mem_cons.mpr ⟨lw_p58, fun _ h => absurd h List.not_mem_nil⟩⟩⟩⟩⟩⟩⟩⟩⟩⟩⟩
def lw_privs : List (MethodName × Nat) := lw_privs_1 ++ (lw_privs_2 ++ (lw_privs_3 ++ (lw_privs_4)))
def lw_tbl : List Cond := k2_sels lw_privs ++ tables_1
theorem lw_privs_ok : ∀ q ∈ lw_privs, lw_okq q := by
  show ∀ q ∈ lw_privs_1 ++ (lw_privs_2 ++ (lw_privs_3 ++ (lw_privs_4))), lw_okq q
  exact List.forall_mem_append.mpr ⟨lw_r1, List.forall_mem_append.mpr ⟨lw_r2, List.forall_mem_append.mpr ⟨lw_r3, lw_r4⟩⟩⟩
/-! names of classes, fields, methods (as printed of the program) -/
def RX0 : String := "MirrorWires$Board"
def TX0 : u_T := fun k => match k with
  | 0 => ("MirrorWires$Board", "wires", "I", false)
  | 1 => ("MirrorWires$Board", "count", "I", false)
  | 2 => ("MirrorWires$Board", "gates", "[I", true)
  | 3 => ("MirrorWires$Board", "bits", "I", false)
  | 4 => ("MirrorWires$Board", "place", "I", false)
  | _ => ("MirrorWires$Board", "draw", "I", false)
def tyX0 : Nat → FieldType := fun k => match k with
  | 0 => .int
  | 1 => .int
  | 2 => .array .int
  | 3 => .int
  | 4 => .int
  | _ => .int
abbrev wsX00 : List Cond := u_ws RX0 TX0 6
theorem nmX0 : ∀ a, a < 6 → ∀ b, b < 6 → a ≠ b → (TX0 a).2.1 ≠ (TX0 b).2.1 := by decide +kernel
theorem tyX0_ok : ∀ k, k < 6 → parseFieldDescriptor (TX0 k).2.2.1 = some (tyX0 k) := by decide +kernel
abbrev cX0_init : ByteArray := prog_2_method_1_code
def yX0_init : MethodName := ⟨RX0, "<init>", "()V"⟩
abbrev cX0_states : ByteArray := prog_2_method_2_code
def yX0_states : MethodName := ⟨RX0, "states", "()I"⟩
abbrev cX0_clear : ByteArray := prog_2_method_3_code
def yX0_clear : MethodName := ⟨RX0, "clear", "(I)V"⟩
abbrev cX0_becomes : ByteArray := prog_2_method_4_code
def yX0_becomes : MethodName := ⟨RX0, "becomes", "(LMirrorWires$Board;)V"⟩
abbrev cX0_add : ByteArray := prog_2_method_5_code
def yX0_add : MethodName := ⟨RX0, "add", "(I)V"⟩
abbrev cX0_deadOnes : ByteArray := prog_2_method_6_code
def yX0_deadOnes : MethodName := ⟨RX0, "deadOnes", "()I"⟩
abbrev cX0_stepOn : ByteArray := prog_2_method_7_code
def yX0_stepOn : MethodName := ⟨RX0, "stepOn", "()V"⟩
abbrev cX0_stepBack : ByteArray := prog_2_method_8_code
def yX0_stepBack : MethodName := ⟨RX0, "stepBack", "()V"⟩
abbrev cX0_turnOver : ByteArray := prog_2_method_9_code
def yX0_turnOver : MethodName := ⟨RX0, "turnOver", "(I)V"⟩
abbrev cX0_driftOn : ByteArray := prog_2_method_10_code
def yX0_driftOn : MethodName := ⟨RX0, "driftOn", "()V"⟩
abbrev cX0_run : ByteArray := prog_2_method_11_code
def yX0_run : MethodName := ⟨RX0, "run", "(I)I"⟩
abbrev cX0_runBack : ByteArray := prog_2_method_12_code
def yX0_runBack : MethodName := ⟨RX0, "runBack", "(I)I"⟩
abbrev cX0_runWith : ByteArray := prog_2_method_13_code
def yX0_runWith : MethodName := ⟨RX0, "runWith", "(III)I"⟩
def RX1 : String := "MirrorWires$Foretold"
def TX1 : u_T := fun k => match k with
  | 0 => ("MirrorWires$Foretold", "board", "LMirrorWires$Board;", true)
  | 1 => ("MirrorWires$Foretold", "to", "[I", true)
  | 2 => ("MirrorWires$Foretold", "work", "[I", true)
  | 3 => ("MirrorWires$Foretold", "line", "[I", true)
  | 4 => ("MirrorWires$Foretold", "ringCount", "I", false)
  | 5 => ("MirrorWires$Foretold", "longestRing", "I", false)
  | 6 => ("MirrorWires$Foretold", "stillStates", "I", false)
  | _ => ("MirrorWires$Foretold", "allRings", "I", false)
def tyX1 : Nat → FieldType := fun k => match k with
  | 0 => .object "MirrorWires$Board"
  | 1 => .array .int
  | 2 => .array .int
  | 3 => .array .int
  | 4 => .int
  | 5 => .int
  | 6 => .int
  | _ => .int
abbrev wsX10 : List Cond := u_ws RX1 TX1 8
theorem nmX1 : ∀ a, a < 8 → ∀ b, b < 8 → a ≠ b → (TX1 a).2.1 ≠ (TX1 b).2.1 := by decide +kernel
theorem tyX1_ok : ∀ k, k < 8 → parseFieldDescriptor (TX1 k).2.2.1 = some (tyX1 k) := by decide +kernel
abbrev cX1_init : ByteArray := prog_3_method_1_code
def yX1_init : MethodName := ⟨RX1, "<init>", "()V"⟩
abbrev cX1_learnRuns : ByteArray := prog_3_method_2_code
def yX1_learnRuns : MethodName := ⟨RX1, "learnRuns", "()V"⟩
abbrev cX1_ringLength : ByteArray := prog_3_method_3_code
def yX1_ringLength : MethodName := ⟨RX1, "ringLength", "(I)I"⟩
abbrev cX1_behindRuns : ByteArray := prog_3_method_4_code
def yX1_behindRuns : MethodName := ⟨RX1, "behindRuns", "(II)I"⟩
abbrev cX1_lookAtRings : ByteArray := prog_3_method_5_code
def yX1_lookAtRings : MethodName := ⟨RX1, "lookAtRings", "()V"⟩
abbrev cX1_countRing : ByteArray := prog_3_method_6_code
def yX1_countRing : MethodName := ⟨RX1, "countRing", "(I)V"⟩
abbrev cX1_commonDivisor : ByteArray := prog_3_method_7_code
def yX1_commonDivisor : MethodName := ⟨RX1, "commonDivisor", "(II)I"⟩
abbrev cX1_mayChangePlaces : ByteArray := prog_3_method_8_code
def yX1_mayChangePlaces : MethodName := ⟨RX1, "mayChangePlaces", "(II)Z"⟩
abbrev cX1_runChanged : ByteArray := prog_3_method_9_code
def yX1_runChanged : MethodName := ⟨RX1, "runChanged", "(III)I"⟩
abbrev cX1_firstPair : ByteArray := prog_3_method_10_code
def yX1_firstPair : MethodName := ⟨RX1, "firstPair", "()I"⟩
abbrev cX1_mayBeLeftOut : ByteArray := prog_3_method_11_code
def yX1_mayBeLeftOut : MethodName := ⟨RX1, "mayBeLeftOut", "(II)Z"⟩
abbrev cX1_hangsOn : ByteArray := prog_3_method_12_code
def yX1_hangsOn : MethodName := ⟨RX1, "hangsOn", "(I)I"⟩
abbrev cX1_turnedStates : ByteArray := prog_3_method_13_code
def yX1_turnedStates : MethodName := ⟨RX1, "turnedStates", "(I)I"⟩
abbrev cX1_spreadFrom : ByteArray := prog_3_method_14_code
def yX1_spreadFrom : MethodName := ⟨RX1, "spreadFrom", "(I)I"⟩
abbrev cX1_wayLength : ByteArray := prog_3_method_15_code
def yX1_wayLength : MethodName := ⟨RX1, "wayLength", "(II)I"⟩
abbrev cX1_wayGate : ByteArray := prog_3_method_16_code
def yX1_wayGate : MethodName := ⟨RX1, "wayGate", "(III)I"⟩
abbrev cX1_nearerGate : ByteArray := prog_3_method_17_code
def yX1_nearerGate : MethodName := ⟨RX1, "nearerGate", "(I)I"⟩
abbrev cX1_shownGates : ByteArray := prog_3_method_18_code
def yX1_shownGates : MethodName := ⟨RX1, "shownGates", "(I)I"⟩
abbrev cX1_tellingState : ByteArray := prog_3_method_19_code
def yX1_tellingState : MethodName := ⟨RX1, "tellingState", "()I"⟩
abbrev cX1_likelySet : ByteArray := prog_3_method_20_code
def yX1_likelySet : MethodName := ⟨RX1, "likelySet", "(IIZ)I"⟩
abbrev cX1_weight : ByteArray := prog_3_method_21_code
def yX1_weight : MethodName := ⟨RX1, "weight", "(II)I"⟩
abbrev cX1_deathsBy : ByteArray := prog_3_method_22_code
def yX1_deathsBy : MethodName := ⟨RX1, "deathsBy", "(LMirrorWires$Sheet;III)I"⟩
abbrev cX1_kindsBy : ByteArray := prog_3_method_23_code
def yX1_kindsBy : MethodName := ⟨RX1, "kindsBy", "(LMirrorWires$Sheet;IIII)I"⟩
abbrev cX1_tellsOf : ByteArray := prog_3_method_24_code
def yX1_tellsOf : MethodName := ⟨RX1, "tellsOf", "(LMirrorWires$Sheet;IIIII)Z"⟩
abbrev cX1_runsBy : ByteArray := prog_3_method_25_code
def yX1_runsBy : MethodName := ⟨RX1, "runsBy", "(LMirrorWires$Sheet;III)I"⟩
def RX2 : String := "MirrorWires$Gate"
def TX2 : u_T := fun k => match k with
  | _ => ("", "", "", false)
def tyX2 : Nat → FieldType := fun k => match k with
  | _ => .int
abbrev wsX20 : List Cond := u_ws RX2 TX2 0
theorem nmX2 : ∀ a, a < 0 → ∀ b, b < 0 → a ≠ b → (TX2 a).2.1 ≠ (TX2 b).2.1 := by decide +kernel
theorem tyX2_ok : ∀ k, k < 0 → parseFieldDescriptor (TX2 k).2.2.1 = some (tyX2 k) := by decide +kernel
abbrev cX2_pack : ByteArray := prog_4_method_2_code
def yX2_pack : MethodName := ⟨RX2, "pack", "(IIII)I"⟩
abbrev cX2_kindOf : ByteArray := prog_4_method_3_code
def yX2_kindOf : MethodName := ⟨RX2, "kindOf", "(I)I"⟩
abbrev cX2_wireAt : ByteArray := prog_4_method_4_code
def yX2_wireAt : MethodName := ⟨RX2, "wireAt", "(II)I"⟩
abbrev cX2_isDead : ByteArray := prog_4_method_5_code
def yX2_isDead : MethodName := ⟨RX2, "isDead", "(I)Z"⟩
abbrev cX2_killed : ByteArray := prog_4_method_6_code
def yX2_killed : MethodName := ⟨RX2, "killed", "(I)I"⟩
abbrev cX2_healed : ByteArray := prog_4_method_7_code
def yX2_healed : MethodName := ⟨RX2, "healed", "(I)I"⟩
abbrev cX2_asKind : ByteArray := prog_4_method_8_code
def yX2_asKind : MethodName := ⟨RX2, "asKind", "(II)I"⟩
abbrev cX2_wiresOf : ByteArray := prog_4_method_9_code
def yX2_wiresOf : MethodName := ⟨RX2, "wiresOf", "(I)I"⟩
abbrev cX2_kindNamed : ByteArray := prog_4_method_10_code
def yX2_kindNamed : MethodName := ⟨RX2, "kindNamed", "(I)I"⟩
abbrev cX2_areUnlike : ByteArray := prog_4_method_11_code
def yX2_areUnlike : MethodName := ⟨RX2, "areUnlike", "(IIII)Z"⟩
abbrev cX2_mayLie : ByteArray := prog_4_method_12_code
def yX2_mayLie : MethodName := ⟨RX2, "mayLie", "(IIIII)Z"⟩
abbrev cX2_act : ByteArray := prog_4_method_13_code
def yX2_act : MethodName := ⟨RX2, "act", "(II)I"⟩
abbrev cX2_turnIf : ByteArray := prog_4_method_14_code
def yX2_turnIf : MethodName := ⟨RX2, "turnIf", "(III)I"⟩
abbrev cX2_change : ByteArray := prog_4_method_15_code
def yX2_change : MethodName := ⟨RX2, "change", "(III)I"⟩
def RX3 : String := "MirrorWires$Past"
def TX3 : u_T := fun k => match k with
  | 0 => ("MirrorWires$Past", "boards", "[LMirrorWires$Board;", true)
  | 1 => ("MirrorWires$Past", "next", "I", false)
  | _ => ("MirrorWires$Past", "known", "I", false)
def tyX3 : Nat → FieldType := fun k => match k with
  | 0 => .array (.object "MirrorWires$Board")
  | 1 => .int
  | _ => .int
abbrev wsX30 : List Cond := u_ws RX3 TX3 3
theorem nmX3 : ∀ a, a < 3 → ∀ b, b < 3 → a ≠ b → (TX3 a).2.1 ≠ (TX3 b).2.1 := by decide +kernel
theorem tyX3_ok : ∀ k, k < 3 → parseFieldDescriptor (TX3 k).2.2.1 = some (tyX3 k) := by decide +kernel
abbrev cX3_init : ByteArray := prog_5_method_1_code
def yX3_init : MethodName := ⟨RX3, "<init>", "()V"⟩
abbrev cX3_keep : ByteArray := prog_5_method_2_code
def yX3_keep : MethodName := ⟨RX3, "keep", "(LMirrorWires$Board;)V"⟩
abbrev cX3_giveBack : ByteArray := prog_5_method_3_code
def yX3_giveBack : MethodName := ⟨RX3, "giveBack", "(LMirrorWires$Board;)Z"⟩
abbrev cX3_forget : ByteArray := prog_5_method_4_code
def yX3_forget : MethodName := ⟨RX3, "forget", "()V"⟩
abbrev cX3_becomes : ByteArray := prog_5_method_5_code
def yX3_becomes : MethodName := ⟨RX3, "becomes", "(LMirrorWires$Past;)V"⟩
def RX4 : String := "MirrorWires$Sheet"
def TX4 : u_T := fun k => match k with
  | 0 => ("MirrorWires$Sheet", "there", "Z", false)
  | 1 => ("MirrorWires$Sheet", "lane", "I", false)
  | 2 => ("MirrorWires$Sheet", "size", "I", false)
  | _ => ("MirrorWires$Sheet", "items", "[J", true)
def tyX4 : Nat → FieldType := fun k => match k with
  | 0 => .boolean
  | 1 => .int
  | 2 => .int
  | _ => .array .long
abbrev wsX40 : List Cond := u_ws RX4 TX4 4
theorem nmX4 : ∀ a, a < 4 → ∀ b, b < 4 → a ≠ b → (TX4 a).2.1 ≠ (TX4 b).2.1 := by decide +kernel
theorem tyX4_ok : ∀ k, k < 4 → parseFieldDescriptor (TX4 k).2.2.1 = some (tyX4 k) := by decide +kernel
abbrev cX4_init : ByteArray := prog_6_method_1_code
def yX4_init : MethodName := ⟨RX4, "<init>", "()V"⟩
abbrev cX4_begin : ByteArray := prog_6_method_2_code
def yX4_begin : MethodName := ⟨RX4, "begin", "(II)V"⟩
abbrev cX4_faultOf : ByteArray := prog_6_method_3_code
def yX4_faultOf : MethodName := ⟨RX4, "faultOf", "(III)I"⟩
abbrev cX4_spans : ByteArray := prog_6_method_4_code
def yX4_spans : MethodName := ⟨RX4, "spans", "(II)Z"⟩
abbrev cX4_put : ByteArray := prog_6_method_5_code
def yX4_put : MethodName := ⟨RX4, "put", "(IJ)V"⟩
abbrev cX4_cut : ByteArray := prog_6_method_6_code
def yX4_cut : MethodName := ⟨RX4, "cut", "(J)J"⟩
def RX5 : String := "MirrorWires$Tape"
def TX5 : u_T := fun k => match k with
  | 0 => ("MirrorWires$Tape", "letters", "[C", true)
  | 1 => ("MirrorWires$Tape", "length", "I", false)
  | _ => ("MirrorWires$Tape", "at", "I", false)
def tyX5 : Nat → FieldType := fun k => match k with
  | 0 => .array .char
  | 1 => .int
  | _ => .int
abbrev wsX50 : List Cond := u_ws RX5 TX5 3
theorem nmX5 : ∀ a, a < 3 → ∀ b, b < 3 → a ≠ b → (TX5 a).2.1 ≠ (TX5 b).2.1 := by decide +kernel
theorem tyX5_ok : ∀ k, k < 3 → parseFieldDescriptor (TX5 k).2.2.1 = some (tyX5 k) := by decide +kernel
abbrev cX5_init : ByteArray := prog_7_method_1_code
def yX5_init : MethodName := ⟨RX5, "<init>", "()V"⟩
abbrev cX5_add : ByteArray := prog_7_method_2_code
def yX5_add : MethodName := ⟨RX5, "add", "(C)Z"⟩
abbrev cX5_readInto : ByteArray := prog_7_method_3_code
def yX5_readInto : MethodName := ⟨RX5, "readInto", "(LMirrorWires$Board;)Z"⟩
abbrev cX5_readWires : ByteArray := prog_7_method_4_code
def yX5_readWires : MethodName := ⟨RX5, "readWires", "(LMirrorWires$Board;)Z"⟩
abbrev cX5_readBits : ByteArray := prog_7_method_5_code
def yX5_readBits : MethodName := ⟨RX5, "readBits", "(LMirrorWires$Board;)Z"⟩
abbrev cX5_readGates : ByteArray := prog_7_method_6_code
def yX5_readGates : MethodName := ⟨RX5, "readGates", "(LMirrorWires$Board;)Z"⟩
abbrev cX5_readGate : ByteArray := prog_7_method_7_code
def yX5_readGate : MethodName := ⟨RX5, "readGate", "(LMirrorWires$Board;)Z"⟩
abbrev cX5_skipBlanks : ByteArray := prog_7_method_8_code
def yX5_skipBlanks : MethodName := ⟨RX5, "skipBlanks", "()V"⟩
abbrev cX5_isAtEnd : ByteArray := prog_7_method_9_code
def yX5_isAtEnd : MethodName := ⟨RX5, "isAtEnd", "()Z"⟩
abbrev cX5_takes : ByteArray := prog_7_method_10_code
def yX5_takes : MethodName := ⟨RX5, "takes", "(C)Z"⟩
abbrev cX5_digitHere : ByteArray := prog_7_method_11_code
def yX5_digitHere : MethodName := ⟨RX5, "digitHere", "()I"⟩
def RX6 : String := "MirrorWires"
def TX6 : u_T := fun k => match k with
  | 0 => ("MirrorWires", "foretold", "LMirrorWires$Foretold;", true)
  | 1 => ("MirrorWires", "now", "LMirrorWires$Board;", true)
  | 2 => ("MirrorWires", "past", "LMirrorWires$Past;", true)
  | 3 => ("MirrorWires", "imageNow", "LMirrorWires$Board;", true)
  | 4 => ("MirrorWires", "imagePast", "LMirrorWires$Past;", true)
  | 5 => ("MirrorWires", "hasImage", "Z", false)
  | 6 => ("MirrorWires", "tape", "LMirrorWires$Tape;", true)
  | 7 => ("MirrorWires", "draft", "LMirrorWires$Board;", true)
  | _ => ("MirrorWires", "sheets", "[LMirrorWires$Sheet;", true)
def tyX6 : Nat → FieldType := fun k => match k with
  | 0 => .object "MirrorWires$Foretold"
  | 1 => .object "MirrorWires$Board"
  | 2 => .object "MirrorWires$Past"
  | 3 => .object "MirrorWires$Board"
  | 4 => .object "MirrorWires$Past"
  | 5 => .boolean
  | 6 => .object "MirrorWires$Tape"
  | 7 => .object "MirrorWires$Board"
  | _ => .array (.object "MirrorWires$Sheet")
abbrev wsX60 : List Cond := u_ws RX6 TX6 9
theorem nmX6 : ∀ a, a < 9 → ∀ b, b < 9 → a ≠ b → (TX6 a).2.1 ≠ (TX6 b).2.1 := by decide +kernel
theorem tyX6_ok : ∀ k, k < 9 → parseFieldDescriptor (TX6 k).2.2.1 = some (tyX6 k) := by decide +kernel
abbrev cX6_init : ByteArray := prog_1_method_1_code
def yX6_init : MethodName := ⟨RX6, "<init>", "()V"⟩
abbrev cX6_wires : ByteArray := prog_1_method_2_code
def yX6_wires : MethodName := ⟨RX6, "wires", "(I)I"⟩
abbrev cX6_gate : ByteArray := prog_1_method_3_code
def yX6_gate : MethodName := ⟨RX6, "gate", "(IIII)I"⟩
abbrev cX6_of : ByteArray := prog_1_method_4_code
def yX6_of : MethodName := ⟨RX6, "of", "(II)I"⟩
abbrev cX6_does : ByteArray := prog_1_method_5_code
def yX6_does : MethodName := ⟨RX6, "does", "(II)I"⟩
abbrev cX6_type : ByteArray := prog_1_method_6_code
def yX6_type : MethodName := ⟨RX6, "type", "(I)I"⟩
abbrev cX6_circuit : ByteArray := prog_1_method_7_code
def yX6_circuit : MethodName := ⟨RX6, "circuit", "()I"⟩
abbrev cX6_count : ByteArray := prog_1_method_8_code
def yX6_count : MethodName := ⟨RX6, "count", "(I)I"⟩
abbrev cX6_step : ByteArray := prog_1_method_9_code
def yX6_step : MethodName := ⟨RX6, "step", "(I)I"⟩
abbrev cX6_back : ByteArray := prog_1_method_10_code
def yX6_back : MethodName := ⟨RX6, "back", "(I)I"⟩
abbrev cX6_home : ByteArray := prog_1_method_11_code
def yX6_home : MethodName := ⟨RX6, "home", "()I"⟩
abbrev cX6_flip : ByteArray := prog_1_method_12_code
def yX6_flip : MethodName := ⟨RX6, "flip", "(I)I"⟩
abbrev cX6_kill : ByteArray := prog_1_method_13_code
def yX6_kill : MethodName := ⟨RX6, "kill", "(I)I"⟩
abbrev cX6_heal : ByteArray := prog_1_method_14_code
def yX6_heal : MethodName := ⟨RX6, "heal", "(I)I"⟩
abbrev cX6_move : ByteArray := prog_1_method_15_code
def yX6_move : MethodName := ⟨RX6, "move", "(II)I"⟩
abbrev cX6_drift : ByteArray := prog_1_method_16_code
def yX6_drift : MethodName := ⟨RX6, "drift", "(I)I"⟩
abbrev cX6_undo : ByteArray := prog_1_method_17_code
def yX6_undo : MethodName := ⟨RX6, "undo", "()I"⟩
abbrev cX6_seed : ByteArray := prog_1_method_18_code
def yX6_seed : MethodName := ⟨RX6, "seed", "(I)I"⟩
abbrev cX6_goes : ByteArray := prog_1_method_19_code
def yX6_goes : MethodName := ⟨RX6, "goes", "(II)I"⟩
abbrev cX6_far : ByteArray := prog_1_method_20_code
def yX6_far : MethodName := ⟨RX6, "far", "(II)I"⟩
abbrev cX6_ring : ByteArray := prog_1_method_21_code
def yX6_ring : MethodName := ⟨RX6, "ring", "(I)I"⟩
abbrev cX6_rings : ByteArray := prog_1_method_22_code
def yX6_rings : MethodName := ⟨RX6, "rings", "(I)I"⟩
abbrev cX6_order : ByteArray := prog_1_method_23_code
def yX6_order : MethodName := ⟨RX6, "order", "()I"⟩
abbrev cX6_odd : ByteArray := prog_1_method_24_code
def yX6_odd : MethodName := ⟨RX6, "odd", "()I"⟩
abbrev cX6_alike : ByteArray := prog_1_method_25_code
def yX6_alike : MethodName := ⟨RX6, "alike", "(II)I"⟩
abbrev cX6_pair : ByteArray := prog_1_method_26_code
def yX6_pair : MethodName := ⟨RX6, "pair", "()I"⟩
abbrev cX6_hangs : ByteArray := prog_1_method_27_code
def yX6_hangs : MethodName := ⟨RX6, "hangs", "(II)I"⟩
abbrev cX6_way : ByteArray := prog_1_method_28_code
def yX6_way : MethodName := ⟨RX6, "way", "(III)I"⟩
abbrev cX6_reach : ByteArray := prog_1_method_29_code
def yX6_reach : MethodName := ⟨RX6, "reach", "(I)I"⟩
abbrev cX6_shows : ByteArray := prog_1_method_30_code
def yX6_shows : MethodName := ⟨RX6, "shows", "(I)I"⟩
abbrev cX6_telling : ByteArray := prog_1_method_31_code
def yX6_telling : MethodName := ⟨RX6, "telling", "(I)I"⟩
abbrev cX6_likely : ByteArray := prog_1_method_32_code
def yX6_likely : MethodName := ⟨RX6, "likely", "(III)I"⟩
abbrev cX6_image : ByteArray := prog_1_method_33_code
def yX6_image : MethodName := ⟨RX6, "image", "()I"⟩
abbrev cX6_restore : ByteArray := prog_1_method_34_code
def yX6_restore : MethodName := ⟨RX6, "restore", "()I"⟩
abbrev cX6_came : ByteArray := prog_1_method_35_code
def yX6_came : MethodName := ⟨RX6, "came", "(IIIIII)I"⟩
abbrev cX6_film : ByteArray := prog_1_method_36_code
def yX6_film : MethodName := ⟨RX6, "film", "(IIIII)I"⟩
abbrev cX6_sheet : ByteArray := prog_1_method_37_code
def yX6_sheet : MethodName := ⟨RX6, "sheet", "(III)I"⟩
abbrev cX6_drop : ByteArray := prog_1_method_38_code
def yX6_drop : MethodName := ⟨RX6, "drop", "(I)I"⟩
abbrev cX6_item : ByteArray := prog_1_method_39_code
def yX6_item : MethodName := ⟨RX6, "item", "(IIIJ)I"⟩
abbrev cX6_copy : ByteArray := prog_1_method_40_code
def yX6_copy : MethodName := ⟨RX6, "copy", "(IIIII)I"⟩
abbrev cX6_isWire : ByteArray := prog_1_method_41_code
def yX6_isWire : MethodName := ⟨RX6, "isWire", "(I)Z"⟩
abbrev cX6_isGate : ByteArray := prog_1_method_42_code
def yX6_isGate : MethodName := ⟨RX6, "isGate", "(I)Z"⟩
abbrev cX6_areTwoGates : ByteArray := prog_1_method_43_code
def yX6_areTwoGates : MethodName := ⟨RX6, "areTwoGates", "(II)Z"⟩
abbrev cX6_isState : ByteArray := prog_1_method_44_code
def yX6_isState : MethodName := ⟨RX6, "isState", "(I)Z"⟩
abbrev cX6_areStates : ByteArray := prog_1_method_45_code
def yX6_areStates : MethodName := ⟨RX6, "areStates", "(III)Z"⟩
abbrev cX6_isSheet : ByteArray := prog_1_method_46_code
def yX6_isSheet : MethodName := ⟨RX6, "isSheet", "(I)Z"⟩
abbrev cX6_isLaneOfSheet : ByteArray := prog_1_method_47_code
def yX6_isLaneOfSheet : MethodName := ⟨RX6, "isLaneOfSheet", "(II)Z"⟩
def RX7 : String := "MirrorWiresModel"
def TX7 : u_T := fun k => match k with
  | 0 => ("MirrorWiresModel", "w", "[I", true)
  | 1 => ("MirrorWiresModel", "kept", "Z", false)
  | 2 => ("MirrorWiresModel", "tape", "[I", true)
  | 3 => ("MirrorWiresModel", "taped", "I", false)
  | 4 => ("MirrorWiresModel", "items", "[J", true)
  | 5 => ("MirrorWiresModel", "lanes", "[I", true)
  | 6 => ("MirrorWiresModel", "sizes", "[I", true)
  | 7 => ("MirrorWiresModel", "to", "[I", true)
  | 8 => ("MirrorWiresModel", "at", "I", false)
  | 9 => ("MirrorWiresModel", "wrong", "I", false)
  | 10 => ("MirrorWiresModel", "readBits", "I", false)
  | 11 => ("MirrorWiresModel", "readMany", "I", false)
  | 12 => ("MirrorWiresModel", "read", "[I", true)
  | 13 => ("MirrorWiresModel", "told", "[I", true)
  | _ => ("MirrorWiresModel", "yet", "[I", true)
def tyX7 : Nat → FieldType := fun k => match k with
  | 0 => .array .int
  | 1 => .boolean
  | 2 => .array .int
  | 3 => .int
  | 4 => .array .long
  | 5 => .array .int
  | 6 => .array .int
  | 7 => .array .int
  | 8 => .int
  | 9 => .int
  | 10 => .int
  | 11 => .int
  | 12 => .array .int
  | 13 => .array .int
  | _ => .array .int
abbrev wsX70 : List Cond := u_ws RX7 TX7 15
theorem nmX7 : ∀ a, a < 15 → ∀ b, b < 15 → a ≠ b → (TX7 a).2.1 ≠ (TX7 b).2.1 := by decide +kernel
theorem tyX7_ok : ∀ k, k < 15 → parseFieldDescriptor (TX7 k).2.2.1 = some (tyX7 k) := by decide +kernel
abbrev cX7_init : ByteArray := prog_9_method_1_code
def yX7_init : MethodName := ⟨RX7, "<init>", "()V"⟩
abbrev cX7_in : ByteArray := prog_9_method_3_code
def yX7_in : MethodName := ⟨RX7, "in", "(III)Z"⟩
abbrev cX7_has : ByteArray := prog_9_method_4_code
def yX7_has : MethodName := ⟨RX7, "has", "(II)Z"⟩
abbrev cX7_bits : ByteArray := prog_9_method_5_code
def yX7_bits : MethodName := ⟨RX7, "bits", "(I)I"⟩
abbrev cX7_copyRow : ByteArray := prog_9_method_6_code
def yX7_copyRow : MethodName := ⟨RX7, "copyRow", "(III)V"⟩
abbrev cX7_states : ByteArray := prog_9_method_7_code
def yX7_states : MethodName := ⟨RX7, "states", "()I"⟩
abbrev cX7_isState : ByteArray := prog_9_method_8_code
def yX7_isState : MethodName := ⟨RX7, "isState", "(I)Z"⟩
abbrev cX7_isWire : ByteArray := prog_9_method_9_code
def yX7_isWire : MethodName := ⟨RX7, "isWire", "(I)Z"⟩
abbrev cX7_isGate : ByteArray := prog_9_method_10_code
def yX7_isGate : MethodName := ⟨RX7, "isGate", "(I)Z"⟩
abbrev cX7_wiresOf : ByteArray := prog_9_method_11_code
def yX7_wiresOf : MethodName := ⟨RX7, "wiresOf", "(I)I"⟩
abbrev cX7_areUnlike : ByteArray := prog_9_method_12_code
def yX7_areUnlike : MethodName := ⟨RX7, "areUnlike", "(IIII)Z"⟩
abbrev cX7_clear : ByteArray := prog_9_method_13_code
def yX7_clear : MethodName := ⟨RX7, "clear", "(I)V"⟩
abbrev cX7_wires : ByteArray := prog_9_method_14_code
def yX7_wires : MethodName := ⟨RX7, "wires", "(I)I"⟩
abbrev cX7_put : ByteArray := prog_9_method_15_code
def yX7_put : MethodName := ⟨RX7, "put", "(IIIII)I"⟩
abbrev cX7_gate : ByteArray := prog_9_method_16_code
def yX7_gate : MethodName := ⟨RX7, "gate", "(IIII)I"⟩
abbrev cX7_of : ByteArray := prog_9_method_17_code
def yX7_of : MethodName := ⟨RX7, "of", "(II)I"⟩
abbrev cX7_changed : ByteArray := prog_9_method_18_code
def yX7_changed : MethodName := ⟨RX7, "changed", "(III)I"⟩
abbrev cX7_doneBy : ByteArray := prog_9_method_19_code
def yX7_doneBy : MethodName := ⟨RX7, "doneBy", "(IIIII)I"⟩
abbrev cX7_doneIn : ByteArray := prog_9_method_20_code
def yX7_doneIn : MethodName := ⟨RX7, "doneIn", "(III)I"⟩
abbrev cX7_does : ByteArray := prog_9_method_21_code
def yX7_does : MethodName := ⟨RX7, "does", "(II)I"⟩
abbrev cX7_type : ByteArray := prog_9_method_22_code
def yX7_type : MethodName := ⟨RX7, "type", "(I)I"⟩
abbrev cX7_here : ByteArray := prog_9_method_23_code
def yX7_here : MethodName := ⟨RX7, "here", "()I"⟩
abbrev cX7_fine : ByteArray := prog_9_method_24_code
def yX7_fine : MethodName := ⟨RX7, "fine", "()Z"⟩
abbrev cX7_fault : ByteArray := prog_9_method_25_code
def yX7_fault : MethodName := ⟨RX7, "fault", "(I)V"⟩
abbrev cX7_need : ByteArray := prog_9_method_26_code
def yX7_need : MethodName := ⟨RX7, "need", "(I)V"⟩
abbrev cX7_digit : ByteArray := prog_9_method_27_code
def yX7_digit : MethodName := ⟨RX7, "digit", "(II)I"⟩
abbrev cX7_readState : ByteArray := prog_9_method_28_code
def yX7_readState : MethodName := ⟨RX7, "readState", "(I)V"⟩
abbrev cX7_kindOf : ByteArray := prog_9_method_29_code
def yX7_kindOf : MethodName := ⟨RX7, "kindOf", "(I)I"⟩
abbrev cX7_readGate : ByteArray := prog_9_method_30_code
def yX7_readGate : MethodName := ⟨RX7, "readGate", "(I)V"⟩
abbrev cX7_readWires : ByteArray := prog_9_method_31_code
def yX7_readWires : MethodName := ⟨RX7, "readWires", "()I"⟩
abbrev cX7_readGates : ByteArray := prog_9_method_32_code
def yX7_readGates : MethodName := ⟨RX7, "readGates", "(I)V"⟩
abbrev cX7_circuit : ByteArray := prog_9_method_33_code
def yX7_circuit : MethodName := ⟨RX7, "circuit", "()I"⟩
abbrev cX7_dead : ByteArray := prog_9_method_34_code
def yX7_dead : MethodName := ⟨RX7, "dead", "()I"⟩
abbrev cX7_count : ByteArray := prog_9_method_35_code
def yX7_count : MethodName := ⟨RX7, "count", "(I)I"⟩
abbrev cX7_remember : ByteArray := prog_9_method_36_code
def yX7_remember : MethodName := ⟨RX7, "remember", "()V"⟩
abbrev cX7_stepOn : ByteArray := prog_9_method_37_code
def yX7_stepOn : MethodName := ⟨RX7, "stepOn", "()V"⟩
abbrev cX7_step : ByteArray := prog_9_method_38_code
def yX7_step : MethodName := ⟨RX7, "step", "(I)I"⟩
abbrev cX7_back : ByteArray := prog_9_method_39_code
def yX7_back : MethodName := ⟨RX7, "back", "(I)I"⟩
abbrev cX7_home : ByteArray := prog_9_method_40_code
def yX7_home : MethodName := ⟨RX7, "home", "()I"⟩
abbrev cX7_flip : ByteArray := prog_9_method_41_code
def yX7_flip : MethodName := ⟨RX7, "flip", "(I)I"⟩
abbrev cX7_deaden : ByteArray := prog_9_method_42_code
def yX7_deaden : MethodName := ⟨RX7, "deaden", "(II)I"⟩
abbrev cX7_kill : ByteArray := prog_9_method_43_code
def yX7_kill : MethodName := ⟨RX7, "kill", "(I)I"⟩
abbrev cX7_heal : ByteArray := prog_9_method_44_code
def yX7_heal : MethodName := ⟨RX7, "heal", "(I)I"⟩
abbrev cX7_swapIn : ByteArray := prog_9_method_45_code
def yX7_swapIn : MethodName := ⟨RX7, "swapIn", "(III)V"⟩
abbrev cX7_move : ByteArray := prog_9_method_46_code
def yX7_move : MethodName := ⟨RX7, "move", "(II)I"⟩
abbrev cX7_drift : ByteArray := prog_9_method_47_code
def yX7_drift : MethodName := ⟨RX7, "drift", "(I)I"⟩
abbrev cX7_undo : ByteArray := prog_9_method_48_code
def yX7_undo : MethodName := ⟨RX7, "undo", "()I"⟩
abbrev cX7_seed : ByteArray := prog_9_method_49_code
def yX7_seed : MethodName := ⟨RX7, "seed", "(I)I"⟩
abbrev cX7_runIn : ByteArray := prog_9_method_50_code
def yX7_runIn : MethodName := ⟨RX7, "runIn", "(II)I"⟩
abbrev cX7_layRuns : ByteArray := prog_9_method_51_code
def yX7_layRuns : MethodName := ⟨RX7, "layRuns", "()V"⟩
abbrev cX7_goes : ByteArray := prog_9_method_52_code
def yX7_goes : MethodName := ⟨RX7, "goes", "(II)I"⟩
abbrev cX7_ringOf : ByteArray := prog_9_method_53_code
def yX7_ringOf : MethodName := ⟨RX7, "ringOf", "(I)I"⟩
abbrev cX7_far : ByteArray := prog_9_method_54_code
def yX7_far : MethodName := ⟨RX7, "far", "(II)I"⟩
abbrev cX7_ring : ByteArray := prog_9_method_55_code
def yX7_ring : MethodName := ⟨RX7, "ring", "(I)I"⟩
abbrev cX7_isLeast : ByteArray := prog_9_method_56_code
def yX7_isLeast : MethodName := ⟨RX7, "isLeast", "(I)Z"⟩
abbrev cX7_ringMany : ByteArray := prog_9_method_57_code
def yX7_ringMany : MethodName := ⟨RX7, "ringMany", "()I"⟩
abbrev cX7_rings : ByteArray := prog_9_method_58_code
def yX7_rings : MethodName := ⟨RX7, "rings", "(I)I"⟩
abbrev cX7_common : ByteArray := prog_9_method_59_code
def yX7_common : MethodName := ⟨RX7, "common", "(II)I"⟩
abbrev cX7_order : ByteArray := prog_9_method_60_code
def yX7_order : MethodName := ⟨RX7, "order", "()I"⟩
abbrev cX7_odd : ByteArray := prog_9_method_61_code
def yX7_odd : MethodName := ⟨RX7, "odd", "()I"⟩
abbrev cX7_isSame : ByteArray := prog_9_method_62_code
def yX7_isSame : MethodName := ⟨RX7, "isSame", "()Z"⟩
abbrev cX7_beginTry : ByteArray := prog_9_method_63_code
def yX7_beginTry : MethodName := ⟨RX7, "beginTry", "()V"⟩
abbrev cX7_alike : ByteArray := prog_9_method_64_code
def yX7_alike : MethodName := ⟨RX7, "alike", "(II)I"⟩
abbrev cX7_killIn : ByteArray := prog_9_method_65_code
def yX7_killIn : MethodName := ⟨RX7, "killIn", "(I)V"⟩
abbrev cX7_pair : ByteArray := prog_9_method_66_code
def yX7_pair : MethodName := ⟨RX7, "pair", "()I"⟩
abbrev cX7_hangs : ByteArray := prog_9_method_67_code
def yX7_hangs : MethodName := ⟨RX7, "hangs", "(II)I"⟩
abbrev cX7_layYet : ByteArray := prog_9_method_68_code
def yX7_layYet : MethodName := ⟨RX7, "layYet", "(I)V"⟩
abbrev cX7_kthOn : ByteArray := prog_9_method_69_code
def yX7_kthOn : MethodName := ⟨RX7, "kthOn", "(II)I"⟩
abbrev cX7_way : ByteArray := prog_9_method_70_code
def yX7_way : MethodName := ⟨RX7, "way", "(III)I"⟩
abbrev cX7_reach : ByteArray := prog_9_method_71_code
def yX7_reach : MethodName := ⟨RX7, "reach", "(I)I"⟩
abbrev cX7_shownBy : ByteArray := prog_9_method_72_code
def yX7_shownBy : MethodName := ⟨RX7, "shownBy", "(I)I"⟩
abbrev cX7_shows : ByteArray := prog_9_method_73_code
def yX7_shows : MethodName := ⟨RX7, "shows", "(I)I"⟩
abbrev cX7_telling : ByteArray := prog_9_method_74_code
def yX7_telling : MethodName := ⟨RX7, "telling", "(I)I"⟩
abbrev cX7_likely : ByteArray := prog_9_method_75_code
def yX7_likely : MethodName := ⟨RX7, "likely", "(III)I"⟩
abbrev cX7_image : ByteArray := prog_9_method_76_code
def yX7_image : MethodName := ⟨RX7, "image", "()I"⟩
abbrev cX7_restore : ByteArray := prog_9_method_77_code
def yX7_restore : MethodName := ⟨RX7, "restore", "()I"⟩
abbrev cX7_isSheet : ByteArray := prog_9_method_78_code
def yX7_isSheet : MethodName := ⟨RX7, "isSheet", "(I)Z"⟩
abbrev cX7_isLane : ByteArray := prog_9_method_79_code
def yX7_isLane : MethodName := ⟨RX7, "isLane", "(I)Z"⟩
abbrev cX7_found : ByteArray := prog_9_method_80_code
def yX7_found : MethodName := ⟨RX7, "found", "(IIII)I"⟩
abbrev cX7_isToldIn : ByteArray := prog_9_method_81_code
def yX7_isToldIn : MethodName := ⟨RX7, "isToldIn", "(IIIII)Z"⟩
abbrev cX7_deaths : ByteArray := prog_9_method_82_code
def yX7_deaths : MethodName := ⟨RX7, "deaths", "(IIII)I"⟩
abbrev cX7_kinds : ByteArray := prog_9_method_83_code
def yX7_kinds : MethodName := ⟨RX7, "kinds", "(IIIII)I"⟩
abbrev cX7_ups : ByteArray := prog_9_method_84_code
def yX7_ups : MethodName := ⟨RX7, "ups", "(IIII)I"⟩
abbrev cX7_came : ByteArray := prog_9_method_85_code
def yX7_came : MethodName := ⟨RX7, "came", "(IIIIII)I"⟩
abbrev cX7_film : ByteArray := prog_9_method_86_code
def yX7_film : MethodName := ⟨RX7, "film", "(IIIII)I"⟩
abbrev cX7_sheet : ByteArray := prog_9_method_87_code
def yX7_sheet : MethodName := ⟨RX7, "sheet", "(III)I"⟩
abbrev cX7_drop : ByteArray := prog_9_method_88_code
def yX7_drop : MethodName := ⟨RX7, "drop", "(I)I"⟩
abbrev cX7_item : ByteArray := prog_9_method_89_code
def yX7_item : MethodName := ⟨RX7, "item", "(IIIJ)I"⟩
abbrev cX7_copy : ByteArray := prog_9_method_90_code
def yX7_copy : MethodName := ⟨RX7, "copy", "(IIIII)I"⟩
def RJ6 : String := "java/lang/Integer"
def TJ6 : u_T := fun k => match k with
  | _ => ("", "", "", false)
def tyJ6 : Nat → FieldType := fun k => match k with
  | _ => .int
abbrev wsJ60 : List Cond := u_ws RJ6 TJ6 0
theorem nmJ6 : ∀ a, a < 0 → ∀ b, b < 0 → a ≠ b → (TJ6 a).2.1 ≠ (TJ6 b).2.1 := by decide +kernel
theorem tyJ6_ok : ∀ k, k < 0 → parseFieldDescriptor (TJ6 k).2.2.1 = some (tyJ6 k) := by decide +kernel
abbrev cJ6_bitCount_0f7a4 : ByteArray := prog_10_method_49_code
def yJ6_bitCount_0f7a4 : MethodName := ⟨RJ6, "bitCount", "(I)I"⟩
def RJ9 : String := "java/lang/Math"
def TJ9 : u_T := fun k => match k with
  | _ => ("", "", "", false)
def tyJ9 : Nat → FieldType := fun k => match k with
  | _ => .int
abbrev wsJ90 : List Cond := u_ws RJ9 TJ9 0
theorem nmJ9 : ∀ a, a < 0 → ∀ b, b < 0 → a ≠ b → (TJ9 a).2.1 ≠ (TJ9 b).2.1 := by decide +kernel
theorem tyJ9_ok : ∀ k, k < 0 → parseFieldDescriptor (TJ9 k).2.2.1 = some (tyJ9 k) := by decide +kernel
abbrev cJ9_max_7cf53 : ByteArray := prog_11_method_65_code
def yJ9_max_7cf53 : MethodName := ⟨RJ9, "max", "(II)I"⟩
abbrev cJ9_min_7cf53 : ByteArray := prog_11_method_69_code
def yJ9_min_7cf53 : MethodName := ⟨RJ9, "min", "(II)I"⟩
def RJ10 : String := "java/lang/System"
def TJ10 : u_T := fun k => match k with
  | _ => ("", "", "", false)
def tyJ10 : Nat → FieldType := fun k => match k with
  | _ => .int
abbrev wsJ100 : List Cond := u_ws RJ10 TJ10 0
theorem nmJ10 : ∀ a, a < 0 → ∀ b, b < 0 → a ≠ b → (TJ10 a).2.1 ≠ (TJ10 b).2.1 := by decide +kernel
theorem tyJ10_ok : ∀ k, k < 0 → parseFieldDescriptor (TJ10 k).2.2.1 = some (tyJ10 k) := by decide +kernel
def RJ7 : String := "java/util/Arrays"
def TJ7 : u_T := fun k => match k with
  | _ => ("", "", "", false)
def tyJ7 : Nat → FieldType := fun k => match k with
  | _ => .int
abbrev wsJ70 : List Cond := u_ws RJ7 TJ7 0
theorem nmJ7 : ∀ a, a < 0 → ∀ b, b < 0 → a ≠ b → (TJ7 a).2.1 ≠ (TJ7 b).2.1 := by decide +kernel
theorem tyJ7_ok : ∀ k, k < 0 → parseFieldDescriptor (TJ7 k).2.2.1 = some (tyJ7 k) := by decide +kernel
abbrev cJ7_fill_d0a16 : ByteArray := prog_13_method_101_code
def yJ7_fill_d0a16 : MethodName := ⟨RJ7, "fill", "([JJ)V"⟩
abbrev cJ7_fill_53178 : ByteArray := prog_13_method_103_code
def yJ7_fill_53178 : MethodName := ⟨RJ7, "fill", "([II)V"⟩
def RL : String := "MirrorWiresLaw"
abbrev cL_law : ByteArray := code
def yL_law : MethodName := ⟨RL, "law", "([I)Z"⟩
abbrev vwCl : List vw_C := [(RX0, TX0, 6), (RX1, TX1, 8), (RX3, TX3, 3), (RX4, TX4, 4), (RX5, TX5, 3), (RX6, TX6, 9), (RX7, TX7, 15)]
theorem mem_r {big : List Cond} (ws : List Cond) (ps : List Nat) (hp : ws = ps.filterMap (fun i => big[i]?)) : ∀ w ∈ ws, w ∈ big := by
  intro w hw
  rw [hp] at hw
  obtain ⟨i, -, hi⟩ := List.mem_filterMap.mp hw
  exact List.mem_of_getElem? hi
def lw_g : List Cond := lw_tbl.filter goodWord
theorem lw_goodIn : GoodIn lw_g lw_g := fun w hw => ⟨hw, good_of_word (List.mem_filter.mp hw).2⟩
theorem lw_gin {w : Cond} (i : Nat) (h : lw_tbl[i]? = some w) (hg : goodWord w = true) : w ∈ lw_g := List.mem_filter.mpr ⟨List.mem_of_getElem? h, hg⟩
theorem lw_gall {ws : List Cond} (h : ∀ w ∈ ws, w ∈ lw_tbl) (hg : ws.all goodWord = true) : ∀ w ∈ ws, w ∈ lw_g := fun w hw => List.mem_filter.mpr ⟨h w hw, List.all_eq_true.mp hg w hw⟩
theorem inX0 : ∀ w ∈ wsX00, w ∈ lw_tbl := mem_r wsX00 [110, 112, 114, 116, 118, 120] (by decide +kernel)
theorem inX1 : ∀ w ∈ wsX10, w ∈ lw_tbl := mem_r wsX10 [137, 139, 141, 143, 145, 147, 149, 151] (by decide +kernel)
theorem inX2 : ∀ w ∈ wsX20, w ∈ lw_tbl := fun w h => absurd h List.not_mem_nil
theorem inX3 : ∀ w ∈ wsX30, w ∈ lw_tbl := mem_r wsX30 [167, 169, 171] (by decide +kernel)
theorem inX4 : ∀ w ∈ wsX40, w ∈ lw_tbl := mem_r wsX40 [211, 213, 215, 217] (by decide +kernel)
theorem inX5 : ∀ w ∈ wsX50, w ∈ lw_tbl := mem_r wsX50 [187, 189, 191] (by decide +kernel)
theorem inX6 : ∀ w ∈ wsX60, w ∈ lw_tbl := mem_r wsX60 [230, 232, 234, 236, 238, 240, 242, 244, 246] (by decide +kernel)
theorem inX7 : ∀ w ∈ wsX70, w ∈ lw_tbl := mem_r wsX70 [767, 769, 771, 773, 775, 777, 779, 781, 783, 785, 787, 789, 791, 793, 795] (by decide +kernel)
theorem igX0 : ∀ w ∈ wsX00, w ∈ lw_g := lw_gall inX0 (by decide +kernel)
theorem igX1 : ∀ w ∈ wsX10, w ∈ lw_g := lw_gall inX1 (by decide +kernel)
theorem igX2 : ∀ w ∈ wsX20, w ∈ lw_g := lw_gall inX2 (by decide +kernel)
theorem igX3 : ∀ w ∈ wsX30, w ∈ lw_g := lw_gall inX3 (by decide +kernel)
theorem igX4 : ∀ w ∈ wsX40, w ∈ lw_g := lw_gall inX4 (by decide +kernel)
theorem igX5 : ∀ w ∈ wsX50, w ∈ lw_g := lw_gall inX5 (by decide +kernel)
theorem igX6 : ∀ w ∈ wsX60, w ∈ lw_g := lw_gall inX6 (by decide +kernel)
theorem igX7 : ∀ w ∈ wsX70, w ∈ lw_g := lw_gall inX7 (by decide +kernel)
