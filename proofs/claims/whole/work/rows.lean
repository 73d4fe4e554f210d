section
-- ===== PART A: goes FIRST, ahead of the names: the tables' words, and 'selects' of the private methods out of them =====
/-- a private method of a class that the tables say can be made, by its rows of tables_1 -/
def lw_okq (q : MethodName × Nat) : Prop := (q.1.cls ≠ "java/lang/invoke/MethodHandle" ∧ q.1.cls ≠ "java/lang/invoke/VarHandle") ∧ Cond.instantiable q.1.cls q.2 ∈ tables_1 ∧ Cond.privateMethod q.1 ∈ tables_1 ∧ Cond.instanceMethod q.1 ∈ tables_1
theorem lw_p0 : lw_okq (⟨"MarkedSweeps", "finding", "(I)I"⟩, 13) := ⟨⟨by decide +kernel, by decide +kernel⟩, List.mem_of_getElem? (i := 20) (by decide +kernel), List.mem_of_getElem? (i := 387) (by decide +kernel), List.mem_of_getElem? (i := 388) (by decide +kernel)⟩
theorem lw_p1 : lw_okq (⟨"MarkedSweeps$Board", "mustCross", "()Z"⟩, 8) := ⟨⟨by decide +kernel, by decide +kernel⟩, List.mem_of_getElem? (i := 28) (by decide +kernel), List.mem_of_getElem? (i := 448) (by decide +kernel), List.mem_of_getElem? (i := 449) (by decide +kernel)⟩
theorem lw_p2 : lw_okq (⟨"MarkedSweeps$Plane", "isOf", "(LMarkedSweeps$Board;)Z"⟩, 11) := ⟨⟨by decide +kernel, by decide +kernel⟩, List.mem_of_getElem? (i := 99) (by decide +kernel), List.mem_of_getElem? (i := 475) (by decide +kernel), List.mem_of_getElem? (i := 476) (by decide +kernel)⟩
theorem lw_p3 : lw_okq (⟨"MarkedSweeps$Plane", "findOrder", "()V"⟩, 11) := ⟨⟨by decide +kernel, by decide +kernel⟩, List.mem_of_getElem? (i := 99) (by decide +kernel), List.mem_of_getElem? (i := 480) (by decide +kernel), List.mem_of_getElem? (i := 481) (by decide +kernel)⟩
theorem lw_p4 : lw_okq (⟨"MarkedSweeps$Plane", "findSides", "(LMarkedSweeps$Board;)V"⟩, 11) := ⟨⟨by decide +kernel, by decide +kernel⟩, List.mem_of_getElem? (i := 99) (by decide +kernel), List.mem_of_getElem? (i := 484) (by decide +kernel), List.mem_of_getElem? (i := 485) (by decide +kernel)⟩
theorem lw_p5 : lw_okq (⟨"MarkedSweeps$Plane", "setLeftTurn", "(III)V"⟩, 11) := ⟨⟨by decide +kernel, by decide +kernel⟩, List.mem_of_getElem? (i := 99) (by decide +kernel), List.mem_of_getElem? (i := 492) (by decide +kernel), List.mem_of_getElem? (i := 493) (by decide +kernel)⟩
theorem lw_p6 : lw_okq (⟨"MarkedSweeps$Plane", "findCrossings", "(LMarkedSweeps$Board;)V"⟩, 11) := ⟨⟨by decide +kernel, by decide +kernel⟩, List.mem_of_getElem? (i := 99) (by decide +kernel), List.mem_of_getElem? (i := 496) (by decide +kernel), List.mem_of_getElem? (i := 497) (by decide +kernel)⟩
theorem lw_p7 : lw_okq (⟨"MarkedSweeps$Plane", "findHull", "()V"⟩, 11) := ⟨⟨by decide +kernel, by decide +kernel⟩, List.mem_of_getElem? (i := 99) (by decide +kernel), List.mem_of_getElem? (i := 505) (by decide +kernel), List.mem_of_getElem? (i := 506) (by decide +kernel)⟩
theorem lw_p8 : lw_okq (⟨"MarkedSweeps$Plane", "behindOnHull", "(I)I"⟩, 11) := ⟨⟨by decide +kernel, by decide +kernel⟩, List.mem_of_getElem? (i := 99) (by decide +kernel), List.mem_of_getElem? (i := 509) (by decide +kernel), List.mem_of_getElem? (i := 510) (by decide +kernel)⟩
theorem lw_p9 : lw_okq (⟨"MarkedSweeps", "followNets", "()V"⟩, 13) := ⟨⟨by decide +kernel, by decide +kernel⟩, List.mem_of_getElem? (i := 20) (by decide +kernel), List.mem_of_getElem? (i := 555) (by decide +kernel), List.mem_of_getElem? (i := 556) (by decide +kernel)⟩
theorem lw_p10 : lw_okq (⟨"MarkedSweeps$Nets", "findWhole", "(LMarkedSweeps$Plane;)V"⟩, 8) := ⟨⟨by decide +kernel, by decide +kernel⟩, List.mem_of_getElem? (i := 158) (by decide +kernel), List.mem_of_getElem? (i := 563) (by decide +kernel), List.mem_of_getElem? (i := 564) (by decide +kernel)⟩
theorem lw_p11 : lw_okq (⟨"MarkedSweeps$Nets", "meet", "(J)V"⟩, 8) := ⟨⟨by decide +kernel, by decide +kernel⟩, List.mem_of_getElem? (i := 158) (by decide +kernel), List.mem_of_getElem? (i := 571) (by decide +kernel), List.mem_of_getElem? (i := 572) (by decide +kernel)⟩
theorem lw_p12 : lw_okq (⟨"MarkedSweeps", "isNet", "(I)Z"⟩, 13) := ⟨⟨by decide +kernel, by decide +kernel⟩, List.mem_of_getElem? (i := 20) (by decide +kernel), List.mem_of_getElem? (i := 589) (by decide +kernel), List.mem_of_getElem? (i := 590) (by decide +kernel)⟩
theorem lw_p13 : lw_okq (⟨"MarkedSweeps", "longFinding", "(I)J"⟩, 13) := ⟨⟨by decide +kernel, by decide +kernel⟩, List.mem_of_getElem? (i := 20) (by decide +kernel), List.mem_of_getElem? (i := 593) (by decide +kernel), List.mem_of_getElem? (i := 594) (by decide +kernel)⟩
theorem lw_p14 : lw_okq (⟨"MarkedSweeps$FlipSearch", "meet", "(II)V"⟩, 3) := ⟨⟨by decide +kernel, by decide +kernel⟩, List.mem_of_getElem? (i := 194) (by decide +kernel), List.mem_of_getElem? (i := 669) (by decide +kernel), List.mem_of_getElem? (i := 670) (by decide +kernel)⟩
theorem lw_p15 : lw_okq (⟨"MarkedSweeps$FlipSearch", "meetAround", "(ILMarkedSweeps$Nets;LMarkedSweeps$Plane;)V"⟩, 3) := ⟨⟨by decide +kernel, by decide +kernel⟩, List.mem_of_getElem? (i := 194) (by decide +kernel), List.mem_of_getElem? (i := 673) (by decide +kernel), List.mem_of_getElem? (i := 674) (by decide +kernel)⟩
def lw_privs_1 : List (MethodName × Nat) := [(⟨"MarkedSweeps", "finding", "(I)I"⟩, 13), (⟨"MarkedSweeps$Board", "mustCross", "()Z"⟩, 8), (⟨"MarkedSweeps$Plane", "isOf", "(LMarkedSweeps$Board;)Z"⟩, 11), (⟨"MarkedSweeps$Plane", "findOrder", "()V"⟩, 11), (⟨"MarkedSweeps$Plane", "findSides", "(LMarkedSweeps$Board;)V"⟩, 11), (⟨"MarkedSweeps$Plane", "setLeftTurn", "(III)V"⟩, 11), (⟨"MarkedSweeps$Plane", "findCrossings", "(LMarkedSweeps$Board;)V"⟩, 11), (⟨"MarkedSweeps$Plane", "findHull", "()V"⟩, 11), (⟨"MarkedSweeps$Plane", "behindOnHull", "(I)I"⟩, 11), (⟨"MarkedSweeps", "followNets", "()V"⟩, 13), (⟨"MarkedSweeps$Nets", "findWhole", "(LMarkedSweeps$Plane;)V"⟩, 8), (⟨"MarkedSweeps$Nets", "meet", "(J)V"⟩, 8), (⟨"MarkedSweeps", "isNet", "(I)Z"⟩, 13), (⟨"MarkedSweeps", "longFinding", "(I)J"⟩, 13), (⟨"MarkedSweeps$FlipSearch", "meet", "(II)V"⟩, 3), (⟨"MarkedSweeps$FlipSearch", "meetAround", "(ILMarkedSweeps$Nets;LMarkedSweeps$Plane;)V"⟩, 3)]
theorem lw_r1 : ∀ q ∈ lw_privs_1, lw_okq q := List.forall_mem_cons.mpr ⟨lw_p0, List.forall_mem_cons.mpr ⟨lw_p1, List.forall_mem_cons.mpr ⟨lw_p2, List.forall_mem_cons.mpr ⟨lw_p3, List.forall_mem_cons.mpr ⟨lw_p4, List.forall_mem_cons.mpr ⟨lw_p5, List.forall_mem_cons.mpr ⟨lw_p6, List.forall_mem_cons.mpr ⟨lw_p7, List.forall_mem_cons.mpr ⟨lw_p8, List.forall_mem_cons.mpr ⟨lw_p9, List.forall_mem_cons.mpr ⟨lw_p10, List.forall_mem_cons.mpr ⟨lw_p11, List.forall_mem_cons.mpr ⟨lw_p12, List.forall_mem_cons.mpr ⟨lw_p13, List.forall_mem_cons.mpr ⟨lw_p14, List.forall_mem_cons.mpr ⟨lw_p15, fun _ h => absurd h List.not_mem_nil⟩⟩⟩⟩⟩⟩⟩⟩⟩⟩⟩⟩⟩⟩⟩⟩
theorem lw_p16 : lw_okq (⟨"MarkedSweeps$Sweep", "goOn", "(LMarkedSweeps$Plane;)Z"⟩, 6) := ⟨⟨by decide +kernel, by decide +kernel⟩, List.mem_of_getElem? (i := 210) (by decide +kernel), List.mem_of_getElem? (i := 691) (by decide +kernel), List.mem_of_getElem? (i := 692) (by decide +kernel)⟩
theorem lw_p17 : lw_okq (⟨"MarkedSweeps$Sweep", "isOn", "(ILMarkedSweeps$Plane;)Z"⟩, 6) := ⟨⟨by decide +kernel, by decide +kernel⟩, List.mem_of_getElem? (i := 210) (by decide +kernel), List.mem_of_getElem? (i := 695) (by decide +kernel), List.mem_of_getElem? (i := 696) (by decide +kernel)⟩
theorem lw_p18 : lw_okq (⟨"MarkedSweeps$Sweep", "comesBehind", "(ILMarkedSweeps$Plane;)Z"⟩, 6) := ⟨⟨by decide +kernel, by decide +kernel⟩, List.mem_of_getElem? (i := 210) (by decide +kernel), List.mem_of_getElem? (i := 699) (by decide +kernel), List.mem_of_getElem? (i := 700) (by decide +kernel)⟩
theorem lw_p19 : lw_okq (⟨"MarkedSweeps$Sweep", "nextOn", "(ILMarkedSweeps$Plane;)I"⟩, 6) := ⟨⟨by decide +kernel, by decide +kernel⟩, List.mem_of_getElem? (i := 210) (by decide +kernel), List.mem_of_getElem? (i := 703) (by decide +kernel), List.mem_of_getElem? (i := 704) (by decide +kernel)⟩
theorem lw_p20 : lw_okq (⟨"MarkedSweeps$Sweep", "isTriangle", "(IIILMarkedSweeps$Plane;)Z"⟩, 6) := ⟨⟨by decide +kernel, by decide +kernel⟩, List.mem_of_getElem? (i := 210) (by decide +kernel), List.mem_of_getElem? (i := 708) (by decide +kernel), List.mem_of_getElem? (i := 709) (by decide +kernel)⟩
theorem lw_p21 : lw_okq (⟨"MarkedSweeps$Sweep", "add", "(IIII)V"⟩, 6) := ⟨⟨by decide +kernel, by decide +kernel⟩, List.mem_of_getElem? (i := 210) (by decide +kernel), List.mem_of_getElem? (i := 718) (by decide +kernel), List.mem_of_getElem? (i := 719) (by decide +kernel)⟩
theorem lw_p22 : lw_okq (⟨"MarkedSweeps$Sweep", "goesBehind", "(ILMarkedSweeps$Plane;)Z"⟩, 6) := ⟨⟨by decide +kernel, by decide +kernel⟩, List.mem_of_getElem? (i := 210) (by decide +kernel), List.mem_of_getElem? (i := 722) (by decide +kernel), List.mem_of_getElem? (i := 723) (by decide +kernel)⟩
theorem lw_p23 : lw_okq (⟨"MarkedSweeps$Meter", "takeStep", "(II)V"⟩, 4) := ⟨⟨by decide +kernel, by decide +kernel⟩, List.mem_of_getElem? (i := 252) (by decide +kernel), List.mem_of_getElem? (i := 768) (by decide +kernel), List.mem_of_getElem? (i := 769) (by decide +kernel)⟩
theorem lw_p24 : lw_okq (⟨"MarkedSweeps$Meter", "plus", "(J)V"⟩, 4) := ⟨⟨by decide +kernel, by decide +kernel⟩, List.mem_of_getElem? (i := 252) (by decide +kernel), List.mem_of_getElem? (i := 772) (by decide +kernel), List.mem_of_getElem? (i := 773) (by decide +kernel)⟩
theorem lw_p25 : lw_okq (⟨"MarkedSweeps$Meter", "times", "(J)V"⟩, 4) := ⟨⟨by decide +kernel, by decide +kernel⟩, List.mem_of_getElem? (i := 252) (by decide +kernel), List.mem_of_getElem? (i := 776) (by decide +kernel), List.mem_of_getElem? (i := 777) (by decide +kernel)⟩
theorem lw_p26 : lw_okq (⟨"MarkedSweeps$Meter", "takenFrom", "(J)V"⟩, 4) := ⟨⟨by decide +kernel, by decide +kernel⟩, List.mem_of_getElem? (i := 252) (by decide +kernel), List.mem_of_getElem? (i := 788) (by decide +kernel), List.mem_of_getElem? (i := 789) (by decide +kernel)⟩
theorem lw_p27 : lw_okq (⟨"MarkedSweeps$Meter", "square", "()V"⟩, 4) := ⟨⟨by decide +kernel, by decide +kernel⟩, List.mem_of_getElem? (i := 252) (by decide +kernel), List.mem_of_getElem? (i := 792) (by decide +kernel), List.mem_of_getElem? (i := 793) (by decide +kernel)⟩
theorem lw_p28 : lw_okq (⟨"MarkedSweeps$Meter", "foldIn", "(JI)V"⟩, 4) := ⟨⟨by decide +kernel, by decide +kernel⟩, List.mem_of_getElem? (i := 252) (by decide +kernel), List.mem_of_getElem? (i := 836) (by decide +kernel), List.mem_of_getElem? (i := 837) (by decide +kernel)⟩
theorem lw_p29 : lw_okq (⟨"MarkedSweeps", "refusedPolygon", "(I)I"⟩, 13) := ⟨⟨by decide +kernel, by decide +kernel⟩, List.mem_of_getElem? (i := 20) (by decide +kernel), List.mem_of_getElem? (i := 853) (by decide +kernel), List.mem_of_getElem? (i := 854) (by decide +kernel)⟩
theorem lw_p30 : lw_okq (⟨"MarkedSweeps$Polygon", "readCorners", "(LMarkedSweeps$Sheet;LMarkedSweeps$Plane;)Z"⟩, 6) := ⟨⟨by decide +kernel, by decide +kernel⟩, List.mem_of_getElem? (i := 273) (by decide +kernel), List.mem_of_getElem? (i := 868) (by decide +kernel), List.mem_of_getElem? (i := 869) (by decide +kernel)⟩
theorem lw_p31 : lw_okq (⟨"MarkedSweeps$Polygon", "readSides", "(LMarkedSweeps$Plane;)Z"⟩, 6) := ⟨⟨by decide +kernel, by decide +kernel⟩, List.mem_of_getElem? (i := 273) (by decide +kernel), List.mem_of_getElem? (i := 872) (by decide +kernel), List.mem_of_getElem? (i := 873) (by decide +kernel)⟩
def lw_privs_2 : List (MethodName × Nat) := [(⟨"MarkedSweeps$Sweep", "goOn", "(LMarkedSweeps$Plane;)Z"⟩, 6), (⟨"MarkedSweeps$Sweep", "isOn", "(ILMarkedSweeps$Plane;)Z"⟩, 6), (⟨"MarkedSweeps$Sweep", "comesBehind", "(ILMarkedSweeps$Plane;)Z"⟩, 6), (⟨"MarkedSweeps$Sweep", "nextOn", "(ILMarkedSweeps$Plane;)I"⟩, 6), (⟨"MarkedSweeps$Sweep", "isTriangle", "(IIILMarkedSweeps$Plane;)Z"⟩, 6), (⟨"MarkedSweeps$Sweep", "add", "(IIII)V"⟩, 6), (⟨"MarkedSweeps$Sweep", "goesBehind", "(ILMarkedSweeps$Plane;)Z"⟩, 6), (⟨"MarkedSweeps$Meter", "takeStep", "(II)V"⟩, 4), (⟨"MarkedSweeps$Meter", "plus", "(J)V"⟩, 4), (⟨"MarkedSweeps$Meter", "times", "(J)V"⟩, 4), (⟨"MarkedSweeps$Meter", "takenFrom", "(J)V"⟩, 4), (⟨"MarkedSweeps$Meter", "square", "()V"⟩, 4), (⟨"MarkedSweeps$Meter", "foldIn", "(JI)V"⟩, 4), (⟨"MarkedSweeps", "refusedPolygon", "(I)I"⟩, 13), (⟨"MarkedSweeps$Polygon", "readCorners", "(LMarkedSweeps$Sheet;LMarkedSweeps$Plane;)Z"⟩, 6), (⟨"MarkedSweeps$Polygon", "readSides", "(LMarkedSweeps$Plane;)Z"⟩, 6)]
theorem lw_r2 : ∀ q ∈ lw_privs_2, lw_okq q := List.forall_mem_cons.mpr ⟨lw_p16, List.forall_mem_cons.mpr ⟨lw_p17, List.forall_mem_cons.mpr ⟨lw_p18, List.forall_mem_cons.mpr ⟨lw_p19, List.forall_mem_cons.mpr ⟨lw_p20, List.forall_mem_cons.mpr ⟨lw_p21, List.forall_mem_cons.mpr ⟨lw_p22, List.forall_mem_cons.mpr ⟨lw_p23, List.forall_mem_cons.mpr ⟨lw_p24, List.forall_mem_cons.mpr ⟨lw_p25, List.forall_mem_cons.mpr ⟨lw_p26, List.forall_mem_cons.mpr ⟨lw_p27, List.forall_mem_cons.mpr ⟨lw_p28, List.forall_mem_cons.mpr ⟨lw_p29, List.forall_mem_cons.mpr ⟨lw_p30, List.forall_mem_cons.mpr ⟨lw_p31, fun _ h => absurd h List.not_mem_nil⟩⟩⟩⟩⟩⟩⟩⟩⟩⟩⟩⟩⟩⟩⟩⟩
theorem lw_p32 : lw_okq (⟨"MarkedSweeps$Polygon", "behind", "(I)I"⟩, 6) := ⟨⟨by decide +kernel, by decide +kernel⟩, List.mem_of_getElem? (i := 273) (by decide +kernel), List.mem_of_getElem? (i := 876) (by decide +kernel), List.mem_of_getElem? (i := 877) (by decide +kernel)⟩
theorem lw_p33 : lw_okq (⟨"MarkedSweeps$Polygon", "signedArea", "(LMarkedSweeps$Plane;)I"⟩, 6) := ⟨⟨by decide +kernel, by decide +kernel⟩, List.mem_of_getElem? (i := 273) (by decide +kernel), List.mem_of_getElem? (i := 881) (by decide +kernel), List.mem_of_getElem? (i := 882) (by decide +kernel)⟩
theorem lw_p34 : lw_okq (⟨"MarkedSweeps$Polygon", "turnRound", "()V"⟩, 6) := ⟨⟨by decide +kernel, by decide +kernel⟩, List.mem_of_getElem? (i := 273) (by decide +kernel), List.mem_of_getElem? (i := 885) (by decide +kernel), List.mem_of_getElem? (i := 886) (by decide +kernel)⟩
theorem lw_p35 : lw_okq (⟨"MarkedSweeps$Polygon", "splitsBetween", "(IILMarkedSweeps$Plane;)I"⟩, 6) := ⟨⟨by decide +kernel, by decide +kernel⟩, List.mem_of_getElem? (i := 273) (by decide +kernel), List.mem_of_getElem? (i := 893) (by decide +kernel), List.mem_of_getElem? (i := 894) (by decide +kernel)⟩
theorem lw_p36 : lw_okq (⟨"MarkedSweeps$Polygon", "isJoined", "(IILMarkedSweeps$Plane;)Z"⟩, 6) := ⟨⟨by decide +kernel, by decide +kernel⟩, List.mem_of_getElem? (i := 273) (by decide +kernel), List.mem_of_getElem? (i := 897) (by decide +kernel), List.mem_of_getElem? (i := 898) (by decide +kernel)⟩
theorem lw_p37 : lw_okq (⟨"MarkedSweeps$Polygon", "leavesInward", "(IILMarkedSweeps$Plane;)Z"⟩, 6) := ⟨⟨by decide +kernel, by decide +kernel⟩, List.mem_of_getElem? (i := 273) (by decide +kernel), List.mem_of_getElem? (i := 902) (by decide +kernel), List.mem_of_getElem? (i := 903) (by decide +kernel)⟩
theorem lw_p38 : lw_okq (⟨"MarkedSweeps$Polygon", "ahead", "(I)I"⟩, 6) := ⟨⟨by decide +kernel, by decide +kernel⟩, List.mem_of_getElem? (i := 273) (by decide +kernel), List.mem_of_getElem? (i := 906) (by decide +kernel), List.mem_of_getElem? (i := 907) (by decide +kernel)⟩
theorem lw_p39 : lw_okq (⟨"MarkedSweeps$Polygon", "isInside", "(ILMarkedSweeps$Plane;)Z"⟩, 6) := ⟨⟨by decide +kernel, by decide +kernel⟩, List.mem_of_getElem? (i := 273) (by decide +kernel), List.mem_of_getElem? (i := 923) (by decide +kernel), List.mem_of_getElem? (i := 924) (by decide +kernel)⟩
theorem lw_p40 : lw_okq (⟨"MarkedSweeps", "refusedNumber", "(II)I"⟩, 13) := ⟨⟨by decide +kernel, by decide +kernel⟩, List.mem_of_getElem? (i := 20) (by decide +kernel), List.mem_of_getElem? (i := 985) (by decide +kernel), List.mem_of_getElem? (i := 986) (by decide +kernel)⟩
theorem lw_p41 : lw_okq (⟨"MarkedSweepsModel", "finds", "(I)I"⟩, 30) := ⟨⟨by decide +kernel, by decide +kernel⟩, List.mem_of_getElem? (i := 1026) (by decide +kernel), List.mem_of_getElem? (i := 1139) (by decide +kernel), List.mem_of_getElem? (i := 1140) (by decide +kernel)⟩
theorem lw_p42 : lw_okq (⟨"MarkedSweepsModel", "points", "()I"⟩, 30) := ⟨⟨by decide +kernel, by decide +kernel⟩, List.mem_of_getElem? (i := 1026) (by decide +kernel), List.mem_of_getElem? (i := 1144) (by decide +kernel), List.mem_of_getElem? (i := 1145) (by decide +kernel)⟩
theorem lw_p43 : lw_okq (⟨"MarkedSweepsModel", "laysAside", "()V"⟩, 30) := ⟨⟨by decide +kernel, by decide +kernel⟩, List.mem_of_getElem? (i := 1026) (by decide +kernel), List.mem_of_getElem? (i := 1148) (by decide +kernel), List.mem_of_getElem? (i := 1149) (by decide +kernel)⟩
theorem lw_p44 : lw_okq (⟨"MarkedSweepsModel", "isFree", "(I)Z"⟩, 30) := ⟨⟨by decide +kernel, by decide +kernel⟩, List.mem_of_getElem? (i := 1026) (by decide +kernel), List.mem_of_getElem? (i := 1152) (by decide +kernel), List.mem_of_getElem? (i := 1153) (by decide +kernel)⟩
theorem lw_p45 : lw_okq (⟨"MarkedSweepsModel", "x", "(I)I"⟩, 30) := ⟨⟨by decide +kernel, by decide +kernel⟩, List.mem_of_getElem? (i := 1026) (by decide +kernel), List.mem_of_getElem? (i := 1156) (by decide +kernel), List.mem_of_getElem? (i := 1157) (by decide +kernel)⟩
theorem lw_p46 : lw_okq (⟨"MarkedSweepsModel", "y", "(I)I"⟩, 30) := ⟨⟨by decide +kernel, by decide +kernel⟩, List.mem_of_getElem? (i := 1026) (by decide +kernel), List.mem_of_getElem? (i := 1160) (by decide +kernel), List.mem_of_getElem? (i := 1161) (by decide +kernel)⟩
theorem lw_p47 : lw_okq (⟨"MarkedSweepsModel", "laysBack", "()V"⟩, 30) := ⟨⟨by decide +kernel, by decide +kernel⟩, List.mem_of_getElem? (i := 1026) (by decide +kernel), List.mem_of_getElem? (i := 1167) (by decide +kernel), List.mem_of_getElem? (i := 1168) (by decide +kernel)⟩
def lw_privs_3 : List (MethodName × Nat) := [(⟨"MarkedSweeps$Polygon", "behind", "(I)I"⟩, 6), (⟨"MarkedSweeps$Polygon", "signedArea", "(LMarkedSweeps$Plane;)I"⟩, 6), (⟨"MarkedSweeps$Polygon", "turnRound", "()V"⟩, 6), (⟨"MarkedSweeps$Polygon", "splitsBetween", "(IILMarkedSweeps$Plane;)I"⟩, 6), (⟨"MarkedSweeps$Polygon", "isJoined", "(IILMarkedSweeps$Plane;)Z"⟩, 6), (⟨"MarkedSweeps$Polygon", "leavesInward", "(IILMarkedSweeps$Plane;)Z"⟩, 6), (⟨"MarkedSweeps$Polygon", "ahead", "(I)I"⟩, 6), (⟨"MarkedSweeps$Polygon", "isInside", "(ILMarkedSweeps$Plane;)Z"⟩, 6), (⟨"MarkedSweeps", "refusedNumber", "(II)I"⟩, 13), (⟨"MarkedSweepsModel", "finds", "(I)I"⟩, 30), (⟨"MarkedSweepsModel", "points", "()I"⟩, 30), (⟨"MarkedSweepsModel", "laysAside", "()V"⟩, 30), (⟨"MarkedSweepsModel", "isFree", "(I)Z"⟩, 30), (⟨"MarkedSweepsModel", "x", "(I)I"⟩, 30), (⟨"MarkedSweepsModel", "y", "(I)I"⟩, 30), (⟨"MarkedSweepsModel", "laysBack", "()V"⟩, 30)]
theorem lw_r3 : ∀ q ∈ lw_privs_3, lw_okq q := List.forall_mem_cons.mpr ⟨lw_p32, List.forall_mem_cons.mpr ⟨lw_p33, List.forall_mem_cons.mpr ⟨lw_p34, List.forall_mem_cons.mpr ⟨lw_p35, List.forall_mem_cons.mpr ⟨lw_p36, List.forall_mem_cons.mpr ⟨lw_p37, List.forall_mem_cons.mpr ⟨lw_p38, List.forall_mem_cons.mpr ⟨lw_p39, List.forall_mem_cons.mpr ⟨lw_p40, List.forall_mem_cons.mpr ⟨lw_p41, List.forall_mem_cons.mpr ⟨lw_p42, List.forall_mem_cons.mpr ⟨lw_p43, List.forall_mem_cons.mpr ⟨lw_p44, List.forall_mem_cons.mpr ⟨lw_p45, List.forall_mem_cons.mpr ⟨lw_p46, List.forall_mem_cons.mpr ⟨lw_p47, fun _ h => absurd h List.not_mem_nil⟩⟩⟩⟩⟩⟩⟩⟩⟩⟩⟩⟩⟩⟩⟩⟩
theorem lw_p48 : lw_okq (⟨"MarkedSweepsModel", "changes", "()V"⟩, 30) := ⟨⟨by decide +kernel, by decide +kernel⟩, List.mem_of_getElem? (i := 1026) (by decide +kernel), List.mem_of_getElem? (i := 1171) (by decide +kernel), List.mem_of_getElem? (i := 1172) (by decide +kernel)⟩
theorem lw_p49 : lw_okq (⟨"MarkedSweepsModel", "isPoint", "(J)Z"⟩, 30) := ⟨⟨by decide +kernel, by decide +kernel⟩, List.mem_of_getElem? (i := 1026) (by decide +kernel), List.mem_of_getElem? (i := 1188) (by decide +kernel), List.mem_of_getElem? (i := 1189) (by decide +kernel)⟩
theorem lw_p50 : lw_okq (⟨"MarkedSweepsModel", "doMustsCross", "()Z"⟩, 30) := ⟨⟨by decide +kernel, by decide +kernel⟩, List.mem_of_getElem? (i := 1026) (by decide +kernel), List.mem_of_getElem? (i := 1192) (by decide +kernel), List.mem_of_getElem? (i := 1193) (by decide +kernel)⟩
theorem lw_p51 : lw_okq (⟨"MarkedSweepsModel", "doCross", "(IIII)Z"⟩, 30) := ⟨⟨by decide +kernel, by decide +kernel⟩, List.mem_of_getElem? (i := 1026) (by decide +kernel), List.mem_of_getElem? (i := 1196) (by decide +kernel), List.mem_of_getElem? (i := 1197) (by decide +kernel)⟩
theorem lw_p52 : lw_okq (⟨"MarkedSweepsModel", "turnOf", "(III)I"⟩, 30) := ⟨⟨by decide +kernel, by decide +kernel⟩, List.mem_of_getElem? (i := 1026) (by decide +kernel), List.mem_of_getElem? (i := 1200) (by decide +kernel), List.mem_of_getElem? (i := 1201) (by decide +kernel)⟩
theorem lw_p53 : lw_okq (⟨"MarkedSweepsModel", "isAhead", "(II)Z"⟩, 30) := ⟨⟨by decide +kernel, by decide +kernel⟩, List.mem_of_getElem? (i := 1026) (by decide +kernel), List.mem_of_getElem? (i := 1209) (by decide +kernel), List.mem_of_getElem? (i := 1210) (by decide +kernel)⟩
theorem lw_p54 : lw_okq (⟨"MarkedSweepsModel", "isOfHull", "(I)Z"⟩, 30) := ⟨⟨by decide +kernel, by decide +kernel⟩, List.mem_of_getElem? (i := 1026) (by decide +kernel), List.mem_of_getElem? (i := 1213) (by decide +kernel), List.mem_of_getElem? (i := 1214) (by decide +kernel)⟩
theorem lw_p55 : lw_okq (⟨"MarkedSweepsModel", "isWithin", "(IIII)Z"⟩, 30) := ⟨⟨by decide +kernel, by decide +kernel⟩, List.mem_of_getElem? (i := 1026) (by decide +kernel), List.mem_of_getElem? (i := 1217) (by decide +kernel), List.mem_of_getElem? (i := 1218) (by decide +kernel)⟩
theorem lw_p56 : lw_okq (⟨"MarkedSweepsModel", "areTwo", "(II)Z"⟩, 30) := ⟨⟨by decide +kernel, by decide +kernel⟩, List.mem_of_getElem? (i := 1026) (by decide +kernel), List.mem_of_getElem? (i := 1225) (by decide +kernel), List.mem_of_getElem? (i := 1226) (by decide +kernel)⟩
theorem lw_p57 : lw_okq (⟨"MarkedSweepsModel", "findsHull", "()V"⟩, 30) := ⟨⟨by decide +kernel, by decide +kernel⟩, List.mem_of_getElem? (i := 1026) (by decide +kernel), List.mem_of_getElem? (i := 1246) (by decide +kernel), List.mem_of_getElem? (i := 1247) (by decide +kernel)⟩
theorem lw_p58 : lw_okq (⟨"MarkedSweepsModel", "first", "()I"⟩, 30) := ⟨⟨by decide +kernel, by decide +kernel⟩, List.mem_of_getElem? (i := 1026) (by decide +kernel), List.mem_of_getElem? (i := 1250) (by decide +kernel), List.mem_of_getElem? (i := 1251) (by decide +kernel)⟩
theorem lw_p59 : lw_okq (⟨"MarkedSweepsModel", "behind", "(I)I"⟩, 30) := ⟨⟨by decide +kernel, by decide +kernel⟩, List.mem_of_getElem? (i := 1026) (by decide +kernel), List.mem_of_getElem? (i := 1254) (by decide +kernel), List.mem_of_getElem? (i := 1255) (by decide +kernel)⟩
theorem lw_p60 : lw_okq (⟨"MarkedSweepsModel", "listsNets", "()V"⟩, 30) := ⟨⟨by decide +kernel, by decide +kernel⟩, List.mem_of_getElem? (i := 1026) (by decide +kernel), List.mem_of_getElem? (i := 1262) (by decide +kernel), List.mem_of_getElem? (i := 1263) (by decide +kernel)⟩
theorem lw_p61 : lw_okq (⟨"MarkedSweepsModel", "readsCrossings", "()V"⟩, 30) := ⟨⟨by decide +kernel, by decide +kernel⟩, List.mem_of_getElem? (i := 1026) (by decide +kernel), List.mem_of_getElem? (i := 1266) (by decide +kernel), List.mem_of_getElem? (i := 1267) (by decide +kernel)⟩
theorem lw_p62 : lw_okq (⟨"MarkedSweepsModel", "lists", "(JI)V"⟩, 30) := ⟨⟨by decide +kernel, by decide +kernel⟩, List.mem_of_getElem? (i := 1026) (by decide +kernel), List.mem_of_getElem? (i := 1270) (by decide +kernel), List.mem_of_getElem? (i := 1271) (by decide +kernel)⟩
theorem lw_p63 : lw_okq (⟨"MarkedSweepsModel", "mayEnd", "(JI)Z"⟩, 30) := ⟨⟨by decide +kernel, by decide +kernel⟩, List.mem_of_getElem? (i := 1026) (by decide +kernel), List.mem_of_getElem? (i := 1274) (by decide +kernel), List.mem_of_getElem? (i := 1275) (by decide +kernel)⟩
def lw_privs_4 : List (MethodName × Nat) := [(⟨"MarkedSweepsModel", "changes", "()V"⟩, 30), (⟨"MarkedSweepsModel", "isPoint", "(J)Z"⟩, 30), (⟨"MarkedSweepsModel", "doMustsCross", "()Z"⟩, 30), (⟨"MarkedSweepsModel", "doCross", "(IIII)Z"⟩, 30), (⟨"MarkedSweepsModel", "turnOf", "(III)I"⟩, 30), (⟨"MarkedSweepsModel", "isAhead", "(II)Z"⟩, 30), (⟨"MarkedSweepsModel", "isOfHull", "(I)Z"⟩, 30), (⟨"MarkedSweepsModel", "isWithin", "(IIII)Z"⟩, 30), (⟨"MarkedSweepsModel", "areTwo", "(II)Z"⟩, 30), (⟨"MarkedSweepsModel", "findsHull", "()V"⟩, 30), (⟨"MarkedSweepsModel", "first", "()I"⟩, 30), (⟨"MarkedSweepsModel", "behind", "(I)I"⟩, 30), (⟨"MarkedSweepsModel", "listsNets", "()V"⟩, 30), (⟨"MarkedSweepsModel", "readsCrossings", "()V"⟩, 30), (⟨"MarkedSweepsModel", "lists", "(JI)V"⟩, 30), (⟨"MarkedSweepsModel", "mayEnd", "(JI)Z"⟩, 30)]
theorem lw_r4 : ∀ q ∈ lw_privs_4, lw_okq q := List.forall_mem_cons.mpr ⟨lw_p48, List.forall_mem_cons.mpr ⟨lw_p49, List.forall_mem_cons.mpr ⟨lw_p50, List.forall_mem_cons.mpr ⟨lw_p51, List.forall_mem_cons.mpr ⟨lw_p52, List.forall_mem_cons.mpr ⟨lw_p53, List.forall_mem_cons.mpr ⟨lw_p54, List.forall_mem_cons.mpr ⟨lw_p55, List.forall_mem_cons.mpr ⟨lw_p56, List.forall_mem_cons.mpr ⟨lw_p57, List.forall_mem_cons.mpr ⟨lw_p58, List.forall_mem_cons.mpr ⟨lw_p59, List.forall_mem_cons.mpr ⟨lw_p60, List.forall_mem_cons.mpr ⟨lw_p61, List.forall_mem_cons.mpr ⟨lw_p62, List.forall_mem_cons.mpr ⟨lw_p63, fun _ h => absurd h List.not_mem_nil⟩⟩⟩⟩⟩⟩⟩⟩⟩⟩⟩⟩⟩⟩⟩⟩
theorem lw_p64 : lw_okq (⟨"MarkedSweepsModel", "isNet", "(I)Z"⟩, 30) := ⟨⟨by decide +kernel, by decide +kernel⟩, List.mem_of_getElem? (i := 1026) (by decide +kernel), List.mem_of_getElem? (i := 1286) (by decide +kernel), List.mem_of_getElem? (i := 1287) (by decide +kernel)⟩
theorem lw_p65 : lw_okq (⟨"MarkedSweepsModel", "findsLong", "(I)J"⟩, 30) := ⟨⟨by decide +kernel, by decide +kernel⟩, List.mem_of_getElem? (i := 1026) (by decide +kernel), List.mem_of_getElem? (i := 1290) (by decide +kernel), List.mem_of_getElem? (i := 1291) (by decide +kernel)⟩
theorem lw_p66 : lw_okq (⟨"MarkedSweepsModel", "numberOf", "(J)I"⟩, 30) := ⟨⟨by decide +kernel, by decide +kernel⟩, List.mem_of_getElem? (i := 1026) (by decide +kernel), List.mem_of_getElem? (i := 1299) (by decide +kernel), List.mem_of_getElem? (i := 1300) (by decide +kernel)⟩
theorem lw_p67 : lw_okq (⟨"MarkedSweepsModel", "drawn", "()I"⟩, 30) := ⟨⟨by decide +kernel, by decide +kernel⟩, List.mem_of_getElem? (i := 1026) (by decide +kernel), List.mem_of_getElem? (i := 1315) (by decide +kernel), List.mem_of_getElem? (i := 1316) (by decide +kernel)⟩
theorem lw_p68 : lw_okq (⟨"MarkedSweepsModel", "isTriangle", "(JIII)Z"⟩, 30) := ⟨⟨by decide +kernel, by decide +kernel⟩, List.mem_of_getElem? (i := 1026) (by decide +kernel), List.mem_of_getElem? (i := 1324) (by decide +kernel), List.mem_of_getElem? (i := 1325) (by decide +kernel)⟩
theorem lw_p69 : lw_okq (⟨"MarkedSweepsModel", "flipped", "(III)I"⟩, 30) := ⟨⟨by decide +kernel, by decide +kernel⟩, List.mem_of_getElem? (i := 1026) (by decide +kernel), List.mem_of_getElem? (i := 1332) (by decide +kernel), List.mem_of_getElem? (i := 1333) (by decide +kernel)⟩
theorem lw_p70 : lw_okq (⟨"MarkedSweepsModel", "sweeps", "(II)Z"⟩, 30) := ⟨⟨by decide +kernel, by decide +kernel⟩, List.mem_of_getElem? (i := 1026) (by decide +kernel), List.mem_of_getElem? (i := 1348) (by decide +kernel), List.mem_of_getElem? (i := 1349) (by decide +kernel)⟩
theorem lw_p71 : lw_okq (⟨"MarkedSweepsModel", "firstPath", "()I"⟩, 30) := ⟨⟨by decide +kernel, by decide +kernel⟩, List.mem_of_getElem? (i := 1026) (by decide +kernel), List.mem_of_getElem? (i := 1352) (by decide +kernel), List.mem_of_getElem? (i := 1353) (by decide +kernel)⟩
theorem lw_p72 : lw_okq (⟨"MarkedSweepsModel", "last", "()I"⟩, 30) := ⟨⟨by decide +kernel, by decide +kernel⟩, List.mem_of_getElem? (i := 1026) (by decide +kernel), List.mem_of_getElem? (i := 1356) (by decide +kernel), List.mem_of_getElem? (i := 1357) (by decide +kernel)⟩
theorem lw_p73 : lw_okq (⟨"MarkedSweepsModel", "advances", "(J)Z"⟩, 30) := ⟨⟨by decide +kernel, by decide +kernel⟩, List.mem_of_getElem? (i := 1026) (by decide +kernel), List.mem_of_getElem? (i := 1360) (by decide +kernel), List.mem_of_getElem? (i := 1361) (by decide +kernel)⟩
theorem lw_p74 : lw_okq (⟨"MarkedSweepsModel", "advances", "(JI)Z"⟩, 30) := ⟨⟨by decide +kernel, by decide +kernel⟩, List.mem_of_getElem? (i := 1026) (by decide +kernel), List.mem_of_getElem? (i := 1364) (by decide +kernel), List.mem_of_getElem? (i := 1365) (by decide +kernel)⟩
theorem lw_p75 : lw_okq (⟨"MarkedSweepsModel", "nextOn", "(I)I"⟩, 30) := ⟨⟨by decide +kernel, by decide +kernel⟩, List.mem_of_getElem? (i := 1026) (by decide +kernel), List.mem_of_getElem? (i := 1368) (by decide +kernel), List.mem_of_getElem? (i := 1369) (by decide +kernel)⟩
theorem lw_p76 : lw_okq (⟨"MarkedSweepsModel", "chained", "(J)J"⟩, 30) := ⟨⟨by decide +kernel, by decide +kernel⟩, List.mem_of_getElem? (i := 1026) (by decide +kernel), List.mem_of_getElem? (i := 1398) (by decide +kernel), List.mem_of_getElem? (i := 1399) (by decide +kernel)⟩
theorem lw_p77 : lw_okq (⟨"MarkedSweepsModel", "byStep", "(JI)J"⟩, 30) := ⟨⟨by decide +kernel, by decide +kernel⟩, List.mem_of_getElem? (i := 1026) (by decide +kernel), List.mem_of_getElem? (i := 1402) (by decide +kernel), List.mem_of_getElem? (i := 1403) (by decide +kernel)⟩
theorem lw_p78 : lw_okq (⟨"MarkedSweepsModel", "plus", "(JJ)J"⟩, 30) := ⟨⟨by decide +kernel, by decide +kernel⟩, List.mem_of_getElem? (i := 1026) (by decide +kernel), List.mem_of_getElem? (i := 1406) (by decide +kernel), List.mem_of_getElem? (i := 1407) (by decide +kernel)⟩
theorem lw_p79 : lw_okq (⟨"MarkedSweepsModel", "times", "(JJ)J"⟩, 30) := ⟨⟨by decide +kernel, by decide +kernel⟩, List.mem_of_getElem? (i := 1026) (by decide +kernel), List.mem_of_getElem? (i := 1410) (by decide +kernel), List.mem_of_getElem? (i := 1411) (by decide +kernel)⟩
def lw_privs_5 : List (MethodName × Nat) := [(⟨"MarkedSweepsModel", "isNet", "(I)Z"⟩, 30), (⟨"MarkedSweepsModel", "findsLong", "(I)J"⟩, 30), (⟨"MarkedSweepsModel", "numberOf", "(J)I"⟩, 30), (⟨"MarkedSweepsModel", "drawn", "()I"⟩, 30), (⟨"MarkedSweepsModel", "isTriangle", "(JIII)Z"⟩, 30), (⟨"MarkedSweepsModel", "flipped", "(III)I"⟩, 30), (⟨"MarkedSweepsModel", "sweeps", "(II)Z"⟩, 30), (⟨"MarkedSweepsModel", "firstPath", "()I"⟩, 30), (⟨"MarkedSweepsModel", "last", "()I"⟩, 30), (⟨"MarkedSweepsModel", "advances", "(J)Z"⟩, 30), (⟨"MarkedSweepsModel", "advances", "(JI)Z"⟩, 30), (⟨"MarkedSweepsModel", "nextOn", "(I)I"⟩, 30), (⟨"MarkedSweepsModel", "chained", "(J)J"⟩, 30), (⟨"MarkedSweepsModel", "byStep", "(JI)J"⟩, 30), (⟨"MarkedSweepsModel", "plus", "(JJ)J"⟩, 30), (⟨"MarkedSweepsModel", "times", "(JJ)J"⟩, 30)]
theorem lw_r5 : ∀ q ∈ lw_privs_5, lw_okq q := List.forall_mem_cons.mpr ⟨lw_p64, List.forall_mem_cons.mpr ⟨lw_p65, List.forall_mem_cons.mpr ⟨lw_p66, List.forall_mem_cons.mpr ⟨lw_p67, List.forall_mem_cons.mpr ⟨lw_p68, List.forall_mem_cons.mpr ⟨lw_p69, List.forall_mem_cons.mpr ⟨lw_p70, List.forall_mem_cons.mpr ⟨lw_p71, List.forall_mem_cons.mpr ⟨lw_p72, List.forall_mem_cons.mpr ⟨lw_p73, List.forall_mem_cons.mpr ⟨lw_p74, List.forall_mem_cons.mpr ⟨lw_p75, List.forall_mem_cons.mpr ⟨lw_p76, List.forall_mem_cons.mpr ⟨lw_p77, List.forall_mem_cons.mpr ⟨lw_p78, List.forall_mem_cons.mpr ⟨lw_p79, fun _ h => absurd h List.not_mem_nil⟩⟩⟩⟩⟩⟩⟩⟩⟩⟩⟩⟩⟩⟩⟩⟩
theorem lw_p80 : lw_okq (⟨"MarkedSweepsModel", "minus", "(JJ)J"⟩, 30) := ⟨⟨by decide +kernel, by decide +kernel⟩, List.mem_of_getElem? (i := 1026) (by decide +kernel), List.mem_of_getElem? (i := 1417) (by decide +kernel), List.mem_of_getElem? (i := 1418) (by decide +kernel)⟩
theorem lw_p81 : lw_okq (⟨"MarkedSweepsModel", "byRule", "(III)J"⟩, 30) := ⟨⟨by decide +kernel, by decide +kernel⟩, List.mem_of_getElem? (i := 1026) (by decide +kernel), List.mem_of_getElem? (i := 1425) (by decide +kernel), List.mem_of_getElem? (i := 1426) (by decide +kernel)⟩
theorem lw_p82 : lw_okq (⟨"MarkedSweepsModel", "folded", "(JII)J"⟩, 30) := ⟨⟨by decide +kernel, by decide +kernel⟩, List.mem_of_getElem? (i := 1026) (by decide +kernel), List.mem_of_getElem? (i := 1434) (by decide +kernel), List.mem_of_getElem? (i := 1435) (by decide +kernel)⟩
theorem lw_p83 : lw_okq (⟨"MarkedSweepsModel", "whyNot", "(I)I"⟩, 30) := ⟨⟨by decide +kernel, by decide +kernel⟩, List.mem_of_getElem? (i := 1026) (by decide +kernel), List.mem_of_getElem? (i := 1446) (by decide +kernel), List.mem_of_getElem? (i := 1447) (by decide +kernel)⟩
theorem lw_p84 : lw_okq (⟨"MarkedSweepsModel", "isPolygon", "(I)Z"⟩, 30) := ⟨⟨by decide +kernel, by decide +kernel⟩, List.mem_of_getElem? (i := 1026) (by decide +kernel), List.mem_of_getElem? (i := 1453) (by decide +kernel), List.mem_of_getElem? (i := 1454) (by decide +kernel)⟩
theorem lw_p85 : lw_okq (⟨"MarkedSweepsModel", "isCorner", "(I)Z"⟩, 30) := ⟨⟨by decide +kernel, by decide +kernel⟩, List.mem_of_getElem? (i := 1026) (by decide +kernel), List.mem_of_getElem? (i := 1458) (by decide +kernel), List.mem_of_getElem? (i := 1459) (by decide +kernel)⟩
theorem lw_p86 : lw_okq (⟨"MarkedSweepsModel", "cornerAt", "(I)I"⟩, 30) := ⟨⟨by decide +kernel, by decide +kernel⟩, List.mem_of_getElem? (i := 1026) (by decide +kernel), List.mem_of_getElem? (i := 1462) (by decide +kernel), List.mem_of_getElem? (i := 1463) (by decide +kernel)⟩
theorem lw_p87 : lw_okq (⟨"MarkedSweepsModel", "runsInside", "(II)Z"⟩, 30) := ⟨⟨by decide +kernel, by decide +kernel⟩, List.mem_of_getElem? (i := 1026) (by decide +kernel), List.mem_of_getElem? (i := 1466) (by decide +kernel), List.mem_of_getElem? (i := 1467) (by decide +kernel)⟩
theorem lw_p88 : lw_okq (⟨"MarkedSweepsModel", "isSide", "(II)Z"⟩, 30) := ⟨⟨by decide +kernel, by decide +kernel⟩, List.mem_of_getElem? (i := 1026) (by decide +kernel), List.mem_of_getElem? (i := 1470) (by decide +kernel), List.mem_of_getElem? (i := 1471) (by decide +kernel)⟩
theorem lw_p89 : lw_okq (⟨"MarkedSweepsModel", "isInside", "(II)Z"⟩, 30) := ⟨⟨by decide +kernel, by decide +kernel⟩, List.mem_of_getElem? (i := 1026) (by decide +kernel), List.mem_of_getElem? (i := 1474) (by decide +kernel), List.mem_of_getElem? (i := 1475) (by decide +kernel)⟩
theorem lw_p90 : lw_okq (⟨"MarkedSweepsModel", "isEmpty", "(I)Z"⟩, 30) := ⟨⟨by decide +kernel, by decide +kernel⟩, List.mem_of_getElem? (i := 1026) (by decide +kernel), List.mem_of_getElem? (i := 1491) (by decide +kernel), List.mem_of_getElem? (i := 1492) (by decide +kernel)⟩
theorem lw_p91 : lw_okq (⟨"MarkedSweepsModel", "isRow", "(II)Z"⟩, 30) := ⟨⟨by decide +kernel, by decide +kernel⟩, List.mem_of_getElem? (i := 1026) (by decide +kernel), List.mem_of_getElem? (i := 1503) (by decide +kernel), List.mem_of_getElem? (i := 1504) (by decide +kernel)⟩
theorem lw_p92 : lw_okq (⟨"MarkedSweepsModel", "whyNot", "(II)I"⟩, 30) := ⟨⟨by decide +kernel, by decide +kernel⟩, List.mem_of_getElem? (i := 1026) (by decide +kernel), List.mem_of_getElem? (i := 1523) (by decide +kernel), List.mem_of_getElem? (i := 1524) (by decide +kernel)⟩
theorem lw_p93 : lw_okq (⟨"MarkedSweepsModel", "marked", "(I)I"⟩, 30) := ⟨⟨by decide +kernel, by decide +kernel⟩, List.mem_of_getElem? (i := 1026) (by decide +kernel), List.mem_of_getElem? (i := 1547) (by decide +kernel), List.mem_of_getElem? (i := 1548) (by decide +kernel)⟩
def lw_privs_6 : List (MethodName × Nat) := [(⟨"MarkedSweepsModel", "minus", "(JJ)J"⟩, 30), (⟨"MarkedSweepsModel", "byRule", "(III)J"⟩, 30), (⟨"MarkedSweepsModel", "folded", "(JII)J"⟩, 30), (⟨"MarkedSweepsModel", "whyNot", "(I)I"⟩, 30), (⟨"MarkedSweepsModel", "isPolygon", "(I)Z"⟩, 30), (⟨"MarkedSweepsModel", "isCorner", "(I)Z"⟩, 30), (⟨"MarkedSweepsModel", "cornerAt", "(I)I"⟩, 30), (⟨"MarkedSweepsModel", "runsInside", "(II)Z"⟩, 30), (⟨"MarkedSweepsModel", "isSide", "(II)Z"⟩, 30), (⟨"MarkedSweepsModel", "isInside", "(II)Z"⟩, 30), (⟨"MarkedSweepsModel", "isEmpty", "(I)Z"⟩, 30), (⟨"MarkedSweepsModel", "isRow", "(II)Z"⟩, 30), (⟨"MarkedSweepsModel", "whyNot", "(II)I"⟩, 30), (⟨"MarkedSweepsModel", "marked", "(I)I"⟩, 30)]
theorem lw_r6 : ∀ q ∈ lw_privs_6, lw_okq q := List.forall_mem_cons.mpr ⟨lw_p80, List.forall_mem_cons.mpr ⟨lw_p81, List.forall_mem_cons.mpr ⟨lw_p82, List.forall_mem_cons.mpr ⟨lw_p83, List.forall_mem_cons.mpr ⟨lw_p84, List.forall_mem_cons.mpr ⟨lw_p85, List.forall_mem_cons.mpr ⟨lw_p86, List.forall_mem_cons.mpr ⟨lw_p87, List.forall_mem_cons.mpr ⟨lw_p88, List.forall_mem_cons.mpr ⟨lw_p89, List.forall_mem_cons.mpr ⟨lw_p90, List.forall_mem_cons.mpr ⟨lw_p91, List.forall_mem_cons.mpr ⟨lw_p92, List.forall_mem_cons.mpr ⟨lw_p93, fun _ h => absurd h List.not_mem_nil⟩⟩⟩⟩⟩⟩⟩⟩⟩⟩⟩⟩⟩⟩
def lw_privs : List (MethodName × Nat) := lw_privs_1 ++ (lw_privs_2 ++ (lw_privs_3 ++ (lw_privs_4 ++ (lw_privs_5 ++ (lw_privs_6)))))
def lw_tbl : List Cond := k2_sels lw_privs ++ tables_1
theorem lw_privs_ok : ∀ q ∈ lw_privs, lw_okq q := by
  show ∀ q ∈ lw_privs_1 ++ (lw_privs_2 ++ (lw_privs_3 ++ (lw_privs_4 ++ (lw_privs_5 ++ (lw_privs_6))))), lw_okq q
  exact List.forall_mem_append.mpr ⟨lw_r1, List.forall_mem_append.mpr ⟨lw_r2, List.forall_mem_append.mpr ⟨lw_r3, List.forall_mem_append.mpr ⟨lw_r4, List.forall_mem_append.mpr ⟨lw_r5, lw_r6⟩⟩⟩⟩⟩

def RX0 : String := "MarkedSweeps$Board"
def TX0 : u_T := fun k => match k with
  | 0 => ("MarkedSweeps$Board", "x", "[I", true)
  | 1 => ("MarkedSweeps$Board", "y", "[I", true)
  | 2 => ("MarkedSweeps$Board", "stepSorts", "[I", true)
  | 3 => ("MarkedSweeps$Board", "stepNumbers", "[I", true)
  | 4 => ("MarkedSweeps$Board", "points", "I", false)
  | 5 => ("MarkedSweeps$Board", "steps", "I", false)
  | 6 => ("MarkedSweeps$Board", "must", "J", false)
  | _ => ("MarkedSweeps$Board", "barred", "J", false)
def tyX0 : Nat → FieldType := fun k => match k with
  | 0 => .array .int
  | 1 => .array .int
  | 2 => .array .int
  | 3 => .array .int
  | 4 => .int
  | 5 => .int
  | 6 => .long
  | _ => .long
theorem nmX0 : ∀ a, a < 8 → ∀ b, b < 8 → a ≠ b → (TX0 a).2.1 ≠ (TX0 b).2.1 := by decide +kernel
theorem tyX0_ok : ∀ k, k < 8 → parseFieldDescriptor (TX0 k).2.2.1 = some (tyX0 k) := by decide +kernel
abbrev cX0_init : ByteArray := prog_2_method_1_code
def yX0_init : MethodName := ⟨RX0, "<init>", "()V"⟩
abbrev cX0_become : ByteArray := prog_2_method_2_code
def yX0_become : MethodName := ⟨RX0, "become", "(LMarkedSweeps$Board;)V"⟩
abbrev cX0_isPoint : ByteArray := prog_2_method_3_code
def yX0_isPoint : MethodName := ⟨RX0, "isPoint", "(I)Z"⟩
abbrev cX0_isPair : ByteArray := prog_2_method_4_code
def yX0_isPair : MethodName := ⟨RX0, "isPair", "(II)Z"⟩
abbrev cX0_addPoint : ByteArray := prog_2_method_5_code
def yX0_addPoint : MethodName := ⟨RX0, "addPoint", "(II)V"⟩
abbrev cX0_removeLastPoint : ByteArray := prog_2_method_6_code
def yX0_removeLastPoint : MethodName := ⟨RX0, "removeLastPoint", "()V"⟩
abbrev cX0_addStep : ByteArray := prog_2_method_7_code
def yX0_addStep : MethodName := ⟨RX0, "addStep", "(II)V"⟩
abbrev cX0_markAt : ByteArray := prog_2_method_8_code
def yX0_markAt : MethodName := ⟨RX0, "markAt", "(I)I"⟩
abbrev cX0_setMark : ByteArray := prog_2_method_9_code
def yX0_setMark : MethodName := ⟨RX0, "setMark", "(II)V"⟩
abbrev cX0_isFree : ByteArray := prog_2_method_10_code
def yX0_isFree : MethodName := ⟨RX0, "isFree", "(III)Z"⟩
abbrev cX0_wouldCross : ByteArray := prog_2_method_11_code
def yX0_wouldCross : MethodName := ⟨RX0, "wouldCross", "(III)Z"⟩
abbrev cX0_mustCross : ByteArray := prog_2_method_12_code
def yX0_mustCross : MethodName := ⟨RX0, "mustCross", "()Z"⟩
abbrev cX0_doCross : ByteArray := prog_2_method_13_code
def yX0_doCross : MethodName := ⟨RX0, "doCross", "(II)Z"⟩
abbrev cX0_turnsLeft : ByteArray := prog_2_method_14_code
def yX0_turnsLeft : MethodName := ⟨RX0, "turnsLeft", "(III)Z"⟩
def RX1 : String := "MarkedSweeps$FlipSearch"
def TX1 : u_T := fun k => match k with
  | 0 => ("MarkedSweeps$FlipSearch", "distance", "[I", true)
  | 1 => ("MarkedSweeps$FlipSearch", "waiting", "[I", true)
  | _ => ("MarkedSweeps$FlipSearch", "met", "I", false)
def tyX1 : Nat → FieldType := fun k => match k with
  | 0 => .array .int
  | 1 => .array .int
  | _ => .int
theorem nmX1 : ∀ a, a < 3 → ∀ b, b < 3 → a ≠ b → (TX1 a).2.1 ≠ (TX1 b).2.1 := by decide +kernel
theorem tyX1_ok : ∀ k, k < 3 → parseFieldDescriptor (TX1 k).2.2.1 = some (tyX1 k) := by decide +kernel
abbrev cX1_init : ByteArray := prog_3_method_1_code
def yX1_init : MethodName := ⟨RX1, "<init>", "()V"⟩
abbrev cX1_fewest : ByteArray := prog_3_method_2_code
def yX1_fewest : MethodName := ⟨RX1, "fewest", "(IILMarkedSweeps$Nets;LMarkedSweeps$Plane;)I"⟩
abbrev cX1_meetAround : ByteArray := prog_3_method_3_code
def yX1_meetAround : MethodName := ⟨RX1, "meetAround", "(ILMarkedSweeps$Nets;LMarkedSweeps$Plane;)V"⟩
abbrev cX1_meet : ByteArray := prog_3_method_4_code
def yX1_meet : MethodName := ⟨RX1, "meet", "(II)V"⟩
def RX2 : String := "MarkedSweeps$Meter"
def TX2 : u_T := fun k => match k with
  | 0 => ("MarkedSweeps$Meter", "ofEdges", "[J", true)
  | 1 => ("MarkedSweeps$Meter", "overEdges", "J", false)
  | 2 => ("MarkedSweeps$Meter", "value", "J", false)
  | _ => ("MarkedSweeps$Meter", "over", "Z", false)
def tyX2 : Nat → FieldType := fun k => match k with
  | 0 => .array .long
  | 1 => .long
  | 2 => .long
  | _ => .boolean
theorem nmX2 : ∀ a, a < 4 → ∀ b, b < 4 → a ≠ b → (TX2 a).2.1 ≠ (TX2 b).2.1 := by decide +kernel
theorem tyX2_ok : ∀ k, k < 4 → parseFieldDescriptor (TX2 k).2.2.1 = some (tyX2 k) := by decide +kernel
abbrev cX2_init : ByteArray := prog_4_method_1_code
def yX2_init : MethodName := ⟨RX2, "<init>", "()V"⟩
abbrev cX2_start : ByteArray := prog_4_method_2_code
def yX2_start : MethodName := ⟨RX2, "start", "(J)V"⟩
abbrev cX2_takeSteps : ByteArray := prog_4_method_3_code
def yX2_takeSteps : MethodName := ⟨RX2, "takeSteps", "(LMarkedSweeps$Board;)V"⟩
abbrev cX2_takeStep : ByteArray := prog_4_method_4_code
def yX2_takeStep : MethodName := ⟨RX2, "takeStep", "(II)V"⟩
abbrev cX2_plus : ByteArray := prog_4_method_5_code
def yX2_plus : MethodName := ⟨RX2, "plus", "(J)V"⟩
abbrev cX2_takenFrom : ByteArray := prog_4_method_6_code
def yX2_takenFrom : MethodName := ⟨RX2, "takenFrom", "(J)V"⟩
abbrev cX2_times : ByteArray := prog_4_method_7_code
def yX2_times : MethodName := ⟨RX2, "times", "(J)V"⟩
abbrev cX2_square : ByteArray := prog_4_method_8_code
def yX2_square : MethodName := ⟨RX2, "square", "()V"⟩
abbrev cX2_measureEdge : ByteArray := prog_4_method_9_code
def yX2_measureEdge : MethodName := ⟨RX2, "measureEdge", "(LMarkedSweeps$Board;II)V"⟩
abbrev cX2_byRule : ByteArray := prog_4_method_10_code
def yX2_byRule : MethodName := ⟨RX2, "byRule", "(LMarkedSweeps$Board;II)J"⟩
abbrev cX2_measureEdges : ByteArray := prog_4_method_11_code
def yX2_measureEdges : MethodName := ⟨RX2, "measureEdges", "(LMarkedSweeps$Board;I)V"⟩
abbrev cX2_measureNet : ByteArray := prog_4_method_12_code
def yX2_measureNet : MethodName := ⟨RX2, "measureNet", "(JI)V"⟩
abbrev cX2_foldIn : ByteArray := prog_4_method_13_code
def yX2_foldIn : MethodName := ⟨RX2, "foldIn", "(JI)V"⟩
abbrev cX2_leastOf : ByteArray := prog_4_method_14_code
def yX2_leastOf : MethodName := ⟨RX2, "leastOf", "(LMarkedSweeps$Nets;I)I"⟩
def RX3 : String := "MarkedSweeps$Nets"
def TX3 : u_T := fun k => match k with
  | 0 => ("MarkedSweeps$Nets", "whole", "[J", true)
  | 1 => ("MarkedSweeps$Nets", "waiting", "[J", true)
  | 2 => ("MarkedSweeps$Nets", "wholeSize", "I", false)
  | 3 => ("MarkedSweeps$Nets", "age", "I", false)
  | 4 => ("MarkedSweeps$Nets", "must", "J", false)
  | 5 => ("MarkedSweeps$Nets", "barred", "J", false)
  | 6 => ("MarkedSweeps$Nets", "list", "[J", true)
  | _ => ("MarkedSweeps$Nets", "size", "I", false)
def tyX3 : Nat → FieldType := fun k => match k with
  | 0 => .array .long
  | 1 => .array .long
  | 2 => .int
  | 3 => .int
  | 4 => .long
  | 5 => .long
  | 6 => .array .long
  | _ => .int
theorem nmX3 : ∀ a, a < 8 → ∀ b, b < 8 → a ≠ b → (TX3 a).2.1 ≠ (TX3 b).2.1 := by decide +kernel
theorem tyX3_ok : ∀ k, k < 8 → parseFieldDescriptor (TX3 k).2.2.1 = some (tyX3 k) := by decide +kernel
abbrev cX3_init : ByteArray := prog_5_method_1_code
def yX3_init : MethodName := ⟨RX3, "<init>", "()V"⟩
abbrev cX3_follow : ByteArray := prog_5_method_2_code
def yX3_follow : MethodName := ⟨RX3, "follow", "(LMarkedSweeps$Plane;LMarkedSweeps$Board;)V"⟩
abbrev cX3_findWhole : ByteArray := prog_5_method_3_code
def yX3_findWhole : MethodName := ⟨RX3, "findWhole", "(LMarkedSweeps$Plane;)V"⟩
abbrev cX3_greedyNet : ByteArray := prog_5_method_4_code
def yX3_greedyNet : MethodName := ⟨RX3, "greedyNet", "(LMarkedSweeps$Plane;)J"⟩
abbrev cX3_meet : ByteArray := prog_5_method_5_code
def yX3_meet : MethodName := ⟨RX3, "meet", "(J)V"⟩
abbrev cX3_spotIn : ByteArray := prog_5_method_6_code
def yX3_spotIn : MethodName := ⟨RX3, "spotIn", "([JIJ)I"⟩
abbrev cX3_find : ByteArray := prog_5_method_7_code
def yX3_find : MethodName := ⟨RX3, "find", "(J)I"⟩
abbrev cX3_holding : ByteArray := prog_5_method_8_code
def yX3_holding : MethodName := ⟨RX3, "holding", "(I)I"⟩
abbrev cX3_inAll : ByteArray := prog_5_method_9_code
def yX3_inAll : MethodName := ⟨RX3, "inAll", "()J"⟩
abbrev cX3_inAny : ByteArray := prog_5_method_10_code
def yX3_inAny : MethodName := ⟨RX3, "inAny", "()J"⟩
abbrev cX3_givenUpFor : ByteArray := prog_5_method_11_code
def yX3_givenUpFor : MethodName := ⟨RX3, "givenUpFor", "(IJLMarkedSweeps$Plane;)J"⟩
abbrev cX3_flippable : ByteArray := prog_5_method_12_code
def yX3_flippable : MethodName := ⟨RX3, "flippable", "(ILMarkedSweeps$Plane;)J"⟩
abbrev cX3_flipped : ByteArray := prog_5_method_13_code
def yX3_flipped : MethodName := ⟨RX3, "flipped", "(IILMarkedSweeps$Plane;)I"⟩
def RX4 : String := "MarkedSweeps$Past"
def TX4 : u_T := fun k => match k with
  | 0 => ("MarkedSweeps$Past", "boards", "[LMarkedSweeps$Board;", true)
  | 1 => ("MarkedSweeps$Past", "next", "I", false)
  | _ => ("MarkedSweeps$Past", "size", "I", false)
def tyX4 : Nat → FieldType := fun k => match k with
  | 0 => .array (.object "MarkedSweeps$Board")
  | 1 => .int
  | _ => .int
theorem nmX4 : ∀ a, a < 3 → ∀ b, b < 3 → a ≠ b → (TX4 a).2.1 ≠ (TX4 b).2.1 := by decide +kernel
theorem tyX4_ok : ∀ k, k < 3 → parseFieldDescriptor (TX4 k).2.2.1 = some (tyX4 k) := by decide +kernel
abbrev cX4_init : ByteArray := prog_6_method_1_code
def yX4_init : MethodName := ⟨RX4, "<init>", "()V"⟩
abbrev cX4_keep : ByteArray := prog_6_method_2_code
def yX4_keep : MethodName := ⟨RX4, "keep", "(LMarkedSweeps$Board;)V"⟩
abbrev cX4_bringBack : ByteArray := prog_6_method_3_code
def yX4_bringBack : MethodName := ⟨RX4, "bringBack", "(LMarkedSweeps$Board;)V"⟩
def RX5 : String := "MarkedSweeps$Plane"
def TX5 : u_T := fun k => match k with
  | 0 => ("MarkedSweeps$Plane", "x", "[I", true)
  | 1 => ("MarkedSweeps$Plane", "y", "[I", true)
  | 2 => ("MarkedSweeps$Plane", "order", "[I", true)
  | 3 => ("MarkedSweeps$Plane", "places", "[I", true)
  | 4 => ("MarkedSweeps$Plane", "hull", "[I", true)
  | 5 => ("MarkedSweeps$Plane", "crossing", "[J", true)
  | 6 => ("MarkedSweeps$Plane", "leftOf", "[I", true)
  | 7 => ("MarkedSweeps$Plane", "points", "I", false)
  | 8 => ("MarkedSweeps$Plane", "hullSize", "I", false)
  | 9 => ("MarkedSweeps$Plane", "hullSet", "I", false)
  | _ => ("MarkedSweeps$Plane", "age", "I", false)
def tyX5 : Nat → FieldType := fun k => match k with
  | 0 => .array .int
  | 1 => .array .int
  | 2 => .array .int
  | 3 => .array .int
  | 4 => .array .int
  | 5 => .array .long
  | 6 => .array .int
  | 7 => .int
  | 8 => .int
  | 9 => .int
  | _ => .int
theorem nmX5 : ∀ a, a < 11 → ∀ b, b < 11 → a ≠ b → (TX5 a).2.1 ≠ (TX5 b).2.1 := by decide +kernel
theorem tyX5_ok : ∀ k, k < 11 → parseFieldDescriptor (TX5 k).2.2.1 = some (tyX5 k) := by decide +kernel
abbrev cX5_init : ByteArray := prog_7_method_1_code
def yX5_init : MethodName := ⟨RX5, "<init>", "()V"⟩
abbrev cX5_follow : ByteArray := prog_7_method_2_code
def yX5_follow : MethodName := ⟨RX5, "follow", "(LMarkedSweeps$Board;)V"⟩
abbrev cX5_isOf : ByteArray := prog_7_method_3_code
def yX5_isOf : MethodName := ⟨RX5, "isOf", "(LMarkedSweeps$Board;)Z"⟩
abbrev cX5_findOrder : ByteArray := prog_7_method_4_code
def yX5_findOrder : MethodName := ⟨RX5, "findOrder", "()V"⟩
abbrev cX5_findSides : ByteArray := prog_7_method_5_code
def yX5_findSides : MethodName := ⟨RX5, "findSides", "(LMarkedSweeps$Board;)V"⟩
abbrev cX5_setLeftTurn : ByteArray := prog_7_method_6_code
def yX5_setLeftTurn : MethodName := ⟨RX5, "setLeftTurn", "(III)V"⟩
abbrev cX5_findCrossings : ByteArray := prog_7_method_7_code
def yX5_findCrossings : MethodName := ⟨RX5, "findCrossings", "(LMarkedSweeps$Board;)V"⟩
abbrev cX5_findHull : ByteArray := prog_7_method_8_code
def yX5_findHull : MethodName := ⟨RX5, "findHull", "()V"⟩
abbrev cX5_behindOnHull : ByteArray := prog_7_method_9_code
def yX5_behindOnHull : MethodName := ⟨RX5, "behindOnHull", "(I)I"⟩
abbrev cX5_isLeft : ByteArray := prog_7_method_10_code
def yX5_isLeft : MethodName := ⟨RX5, "isLeft", "(III)Z"⟩
abbrev cX5_isBare : ByteArray := prog_7_method_11_code
def yX5_isBare : MethodName := ⟨RX5, "isBare", "(III)Z"⟩
abbrev cX5_isHollow : ByteArray := prog_7_method_12_code
def yX5_isHollow : MethodName := ⟨RX5, "isHollow", "(I)Z"⟩
abbrev cX5_lowerPath : ByteArray := prog_7_method_13_code
def yX5_lowerPath : MethodName := ⟨RX5, "lowerPath", "()I"⟩
def RX6 : String := "MarkedSweeps$Polygon"
def TX6 : u_T := fun k => match k with
  | 0 => ("MarkedSweeps$Polygon", "corners", "[I", true)
  | 1 => ("MarkedSweeps$Polygon", "splits", "[I", true)
  | 2 => ("MarkedSweeps$Polygon", "size", "I", false)
  | 3 => ("MarkedSweeps$Polygon", "cornerSet", "I", false)
  | 4 => ("MarkedSweeps$Polygon", "sides", "J", false)
  | _ => ("MarkedSweeps$Polygon", "twiceArea", "I", false)
def tyX6 : Nat → FieldType := fun k => match k with
  | 0 => .array .int
  | 1 => .array .int
  | 2 => .int
  | 3 => .int
  | 4 => .long
  | _ => .int
theorem nmX6 : ∀ a, a < 6 → ∀ b, b < 6 → a ≠ b → (TX6 a).2.1 ≠ (TX6 b).2.1 := by decide +kernel
theorem tyX6_ok : ∀ k, k < 6 → parseFieldDescriptor (TX6 k).2.2.1 = some (tyX6 k) := by decide +kernel
abbrev cX6_init : ByteArray := prog_8_method_1_code
def yX6_init : MethodName := ⟨RX6, "<init>", "()V"⟩
abbrev cX6_read : ByteArray := prog_8_method_2_code
def yX6_read : MethodName := ⟨RX6, "read", "(LMarkedSweeps$Sheet;LMarkedSweeps$Plane;)Z"⟩
abbrev cX6_readCorners : ByteArray := prog_8_method_3_code
def yX6_readCorners : MethodName := ⟨RX6, "readCorners", "(LMarkedSweeps$Sheet;LMarkedSweeps$Plane;)Z"⟩
abbrev cX6_readSides : ByteArray := prog_8_method_4_code
def yX6_readSides : MethodName := ⟨RX6, "readSides", "(LMarkedSweeps$Plane;)Z"⟩
abbrev cX6_behind : ByteArray := prog_8_method_5_code
def yX6_behind : MethodName := ⟨RX6, "behind", "(I)I"⟩
abbrev cX6_ahead : ByteArray := prog_8_method_6_code
def yX6_ahead : MethodName := ⟨RX6, "ahead", "(I)I"⟩
abbrev cX6_signedArea : ByteArray := prog_8_method_7_code
def yX6_signedArea : MethodName := ⟨RX6, "signedArea", "(LMarkedSweeps$Plane;)I"⟩
abbrev cX6_turnRound : ByteArray := prog_8_method_8_code
def yX6_turnRound : MethodName := ⟨RX6, "turnRound", "()V"⟩
abbrev cX6_splitCount : ByteArray := prog_8_method_9_code
def yX6_splitCount : MethodName := ⟨RX6, "splitCount", "(LMarkedSweeps$Plane;)I"⟩
abbrev cX6_splitsBetween : ByteArray := prog_8_method_10_code
def yX6_splitsBetween : MethodName := ⟨RX6, "splitsBetween", "(IILMarkedSweeps$Plane;)I"⟩
abbrev cX6_isJoined : ByteArray := prog_8_method_11_code
def yX6_isJoined : MethodName := ⟨RX6, "isJoined", "(IILMarkedSweeps$Plane;)Z"⟩
abbrev cX6_leavesInward : ByteArray := prog_8_method_12_code
def yX6_leavesInward : MethodName := ⟨RX6, "leavesInward", "(IILMarkedSweeps$Plane;)Z"⟩
abbrev cX6_pointsInside : ByteArray := prog_8_method_13_code
def yX6_pointsInside : MethodName := ⟨RX6, "pointsInside", "(LMarkedSweeps$Plane;)I"⟩
abbrev cX6_isInside : ByteArray := prog_8_method_14_code
def yX6_isInside : MethodName := ⟨RX6, "isInside", "(ILMarkedSweeps$Plane;)Z"⟩
def RX7 : String := "MarkedSweeps$Rows"
def TX7 : u_T := fun k => match k with
  | 0 => ("MarkedSweeps$Rows", "sets", "[I", true)
  | 1 => ("MarkedSweeps$Rows", "sorts", "[I", true)
  | _ => ("MarkedSweeps$Rows", "size", "I", false)
def tyX7 : Nat → FieldType := fun k => match k with
  | 0 => .array .int
  | 1 => .array .int
  | _ => .int
theorem nmX7 : ∀ a, a < 3 → ∀ b, b < 3 → a ≠ b → (TX7 a).2.1 ≠ (TX7 b).2.1 := by decide +kernel
theorem tyX7_ok : ∀ k, k < 3 → parseFieldDescriptor (TX7 k).2.2.1 = some (tyX7 k) := by decide +kernel
abbrev cX7_init : ByteArray := prog_9_method_1_code
def yX7_init : MethodName := ⟨RX7, "<init>", "()V"⟩
abbrev cX7_take : ByteArray := prog_9_method_2_code
def yX7_take : MethodName := ⟨RX7, "take", "(LMarkedSweeps$Sweep;)V"⟩
abbrev cX7_has : ByteArray := prog_9_method_3_code
def yX7_has : MethodName := ⟨RX7, "has", "(II)Z"⟩
abbrev cX7_firstUnlike : ByteArray := prog_9_method_4_code
def yX7_firstUnlike : MethodName := ⟨RX7, "firstUnlike", "(LMarkedSweeps$Sweep;)I"⟩
def RX8 : String := "MarkedSweeps$Sheet"
def TX8 : u_T := fun k => match k with
  | 0 => ("MarkedSweeps$Sheet", "numbers", "[J", true)
  | 1 => ("MarkedSweeps$Sheet", "sort", "I", false)
  | _ => ("MarkedSweeps$Sheet", "size", "I", false)
def tyX8 : Nat → FieldType := fun k => match k with
  | 0 => .array .long
  | 1 => .int
  | _ => .int
theorem nmX8 : ∀ a, a < 3 → ∀ b, b < 3 → a ≠ b → (TX8 a).2.1 ≠ (TX8 b).2.1 := by decide +kernel
theorem tyX8_ok : ∀ k, k < 3 → parseFieldDescriptor (TX8 k).2.2.1 = some (tyX8 k) := by decide +kernel
abbrev cX8_init : ByteArray := prog_10_method_1_code
def yX8_init : MethodName := ⟨RX8, "<init>", "()V"⟩
abbrev cX8_lay : ByteArray := prog_10_method_2_code
def yX8_lay : MethodName := ⟨RX8, "lay", "(II)V"⟩
abbrev cX8_isMissing : ByteArray := prog_10_method_3_code
def yX8_isMissing : MethodName := ⟨RX8, "isMissing", "()Z"⟩
abbrev cX8_put : ByteArray := prog_10_method_4_code
def yX8_put : MethodName := ⟨RX8, "put", "(IJ)V"⟩
abbrev cX8_hasRun : ByteArray := prog_10_method_5_code
def yX8_hasRun : MethodName := ⟨RX8, "hasRun", "(II)Z"⟩
def RX9 : String := "MarkedSweeps$Sweep"
def TX9 : u_T := fun k => match k with
  | 0 => ("MarkedSweeps$Sweep", "paths", "[I", true)
  | 1 => ("MarkedSweeps$Sweep", "sets", "[I", true)
  | 2 => ("MarkedSweeps$Sweep", "sorts", "[I", true)
  | 3 => ("MarkedSweeps$Sweep", "size", "I", false)
  | 4 => ("MarkedSweeps$Sweep", "net", "J", false)
  | _ => ("MarkedSweeps$Sweep", "age", "I", false)
def tyX9 : Nat → FieldType := fun k => match k with
  | 0 => .array .int
  | 1 => .array .int
  | 2 => .array .int
  | 3 => .int
  | 4 => .long
  | _ => .int
theorem nmX9 : ∀ a, a < 6 → ∀ b, b < 6 → a ≠ b → (TX9 a).2.1 ≠ (TX9 b).2.1 := by decide +kernel
theorem tyX9_ok : ∀ k, k < 6 → parseFieldDescriptor (TX9 k).2.2.1 = some (tyX9 k) := by decide +kernel
abbrev cX9_init : ByteArray := prog_11_method_1_code
def yX9_init : MethodName := ⟨RX9, "<init>", "()V"⟩
abbrev cX9_follow : ByteArray := prog_11_method_2_code
def yX9_follow : MethodName := ⟨RX9, "follow", "(JLMarkedSweeps$Plane;)V"⟩
abbrev cX9_goOn : ByteArray := prog_11_method_3_code
def yX9_goOn : MethodName := ⟨RX9, "goOn", "(LMarkedSweeps$Plane;)Z"⟩
abbrev cX9_isOn : ByteArray := prog_11_method_4_code
def yX9_isOn : MethodName := ⟨RX9, "isOn", "(ILMarkedSweeps$Plane;)Z"⟩
abbrev cX9_nextOn : ByteArray := prog_11_method_5_code
def yX9_nextOn : MethodName := ⟨RX9, "nextOn", "(ILMarkedSweeps$Plane;)I"⟩
abbrev cX9_comesBehind : ByteArray := prog_11_method_6_code
def yX9_comesBehind : MethodName := ⟨RX9, "comesBehind", "(ILMarkedSweeps$Plane;)Z"⟩
abbrev cX9_goesBehind : ByteArray := prog_11_method_7_code
def yX9_goesBehind : MethodName := ⟨RX9, "goesBehind", "(ILMarkedSweeps$Plane;)Z"⟩
abbrev cX9_isTriangle : ByteArray := prog_11_method_8_code
def yX9_isTriangle : MethodName := ⟨RX9, "isTriangle", "(IIILMarkedSweeps$Plane;)Z"⟩
abbrev cX9_add : ByteArray := prog_11_method_9_code
def yX9_add : MethodName := ⟨RX9, "add", "(IIII)V"⟩
def RX10 : String := "MarkedSweeps$Ways"
def TX10 : u_T := fun k => match k with
  | _ => ("MarkedSweeps$Ways", "upTo", "[I", true)
def tyX10 : Nat → FieldType := fun k => match k with
  | _ => .array .int
theorem nmX10 : ∀ a, a < 1 → ∀ b, b < 1 → a ≠ b → (TX10 a).2.1 ≠ (TX10 b).2.1 := by decide +kernel
theorem tyX10_ok : ∀ k, k < 1 → parseFieldDescriptor (TX10 k).2.2.1 = some (tyX10 k) := by decide +kernel
abbrev cX10_init : ByteArray := prog_12_method_1_code
def yX10_init : MethodName := ⟨RX10, "<init>", "()V"⟩
abbrev cX10_total : ByteArray := prog_12_method_2_code
def yX10_total : MethodName := ⟨RX10, "total", "(LMarkedSweeps$Plane;J)I"⟩
def RX11 : String := "MarkedSweeps"
def TX11 : u_T := fun k => match k with
  | 0 => ("MarkedSweeps", "board", "LMarkedSweeps$Board;", true)
  | 1 => ("MarkedSweeps", "past", "LMarkedSweeps$Past;", true)
  | 2 => ("MarkedSweeps", "plane", "LMarkedSweeps$Plane;", true)
  | 3 => ("MarkedSweeps", "nets", "LMarkedSweeps$Nets;", true)
  | 4 => ("MarkedSweeps", "search", "LMarkedSweeps$FlipSearch;", true)
  | 5 => ("MarkedSweeps", "sweep", "LMarkedSweeps$Sweep;", true)
  | 6 => ("MarkedSweeps", "ways", "LMarkedSweeps$Ways;", true)
  | 7 => ("MarkedSweeps", "meter", "LMarkedSweeps$Meter;", true)
  | 8 => ("MarkedSweeps", "polygon", "LMarkedSweeps$Polygon;", true)
  | 9 => ("MarkedSweeps", "rows", "LMarkedSweeps$Rows;", true)
  | 10 => ("MarkedSweeps", "sheets", "[LMarkedSweeps$Sheet;", true)
  | 11 => ("MarkedSweeps", "told", "[I", true)
  | _ => ("MarkedSweeps", "z", "I", false)
def tyX11 : Nat → FieldType := fun k => match k with
  | 0 => .object "MarkedSweeps$Board"
  | 1 => .object "MarkedSweeps$Past"
  | 2 => .object "MarkedSweeps$Plane"
  | 3 => .object "MarkedSweeps$Nets"
  | 4 => .object "MarkedSweeps$FlipSearch"
  | 5 => .object "MarkedSweeps$Sweep"
  | 6 => .object "MarkedSweeps$Ways"
  | 7 => .object "MarkedSweeps$Meter"
  | 8 => .object "MarkedSweeps$Polygon"
  | 9 => .object "MarkedSweeps$Rows"
  | 10 => .array (.object "MarkedSweeps$Sheet")
  | 11 => .array .int
  | _ => .int
theorem nmX11 : ∀ a, a < 13 → ∀ b, b < 13 → a ≠ b → (TX11 a).2.1 ≠ (TX11 b).2.1 := by decide +kernel
theorem tyX11_ok : ∀ k, k < 13 → parseFieldDescriptor (TX11 k).2.2.1 = some (tyX11 k) := by decide +kernel
abbrev cX11_init : ByteArray := prog_1_method_1_code
def yX11_init : MethodName := ⟨RX11, "<init>", "()V"⟩
abbrev cX11_place : ByteArray := prog_1_method_2_code
def yX11_place : MethodName := ⟨RX11, "place", "(II)I"⟩
abbrev cX11_drop : ByteArray := prog_1_method_3_code
def yX11_drop : MethodName := ⟨RX11, "drop", "()I"⟩
abbrev cX11_move : ByteArray := prog_1_method_4_code
def yX11_move : MethodName := ⟨RX11, "move", "(III)I"⟩
abbrev cX11_at : ByteArray := prog_1_method_5_code
def yX11_at : MethodName := ⟨RX11, "at", "(II)I"⟩
abbrev cX11_mark : ByteArray := prog_1_method_6_code
def yX11_mark : MethodName := ⟨RX11, "mark", "(III)I"⟩
abbrev cX11_markOf : ByteArray := prog_1_method_7_code
def yX11_markOf : MethodName := ⟨RX11, "markOf", "(II)I"⟩
abbrev cX11_turn : ByteArray := prog_1_method_8_code
def yX11_turn : MethodName := ⟨RX11, "turn", "(III)I"⟩
abbrev cX11_crosses : ByteArray := prog_1_method_9_code
def yX11_crosses : MethodName := ⟨RX11, "crosses", "(IIII)I"⟩
abbrev cX11_hull : ByteArray := prog_1_method_10_code
def yX11_hull : MethodName := ⟨RX11, "hull", "(I)I"⟩
abbrev cX11_nets : ByteArray := prog_1_method_11_code
def yX11_nets : MethodName := ⟨RX11, "nets", "()I"⟩
abbrev cX11_net : ByteArray := prog_1_method_12_code
def yX11_net : MethodName := ⟨RX11, "net", "(I)J"⟩
abbrev cX11_rank : ByteArray := prog_1_method_13_code
def yX11_rank : MethodName := ⟨RX11, "rank", "(J)I"⟩
abbrev cX11_with : ByteArray := prog_1_method_14_code
def yX11_with : MethodName := ⟨RX11, "with", "(II)I"⟩
abbrev cX11_always : ByteArray := prog_1_method_15_code
def yX11_always : MethodName := ⟨RX11, "always", "(I)J"⟩
abbrev cX11_draw : ByteArray := prog_1_method_16_code
def yX11_draw : MethodName := ⟨RX11, "draw", "()I"⟩
abbrev cX11_fan : ByteArray := prog_1_method_17_code
def yX11_fan : MethodName := ⟨RX11, "fan", "(II)I"⟩
abbrev cX11_flips : ByteArray := prog_1_method_18_code
def yX11_flips : MethodName := ⟨RX11, "flips", "(I)J"⟩
abbrev cX11_flip : ByteArray := prog_1_method_19_code
def yX11_flip : MethodName := ⟨RX11, "flip", "(III)I"⟩
abbrev cX11_apart : ByteArray := prog_1_method_20_code
def yX11_apart : MethodName := ⟨RX11, "apart", "(II)I"⟩
abbrev cX11_path : ByteArray := prog_1_method_21_code
def yX11_path : MethodName := ⟨RX11, "path", "(II)I"⟩
abbrev cX11_advance : ByteArray := prog_1_method_22_code
def yX11_advance : MethodName := ⟨RX11, "advance", "(III)I"⟩
abbrev cX11_ways : ByteArray := prog_1_method_23_code
def yX11_ways : MethodName := ⟨RX11, "ways", "()I"⟩
abbrev cX11_step : ByteArray := prog_1_method_24_code
def yX11_step : MethodName := ⟨RX11, "step", "(II)I"⟩
abbrev cX11_stepOf : ByteArray := prog_1_method_25_code
def yX11_stepOf : MethodName := ⟨RX11, "stepOf", "(II)I"⟩
abbrev cX11_clear : ByteArray := prog_1_method_26_code
def yX11_clear : MethodName := ⟨RX11, "clear", "()I"⟩
abbrev cX11_chain : ByteArray := prog_1_method_27_code
def yX11_chain : MethodName := ⟨RX11, "chain", "(J)J"⟩
abbrev cX11_ofEdge : ByteArray := prog_1_method_28_code
def yX11_ofEdge : MethodName := ⟨RX11, "ofEdge", "(III)J"⟩
abbrev cX11_ofNet : ByteArray := prog_1_method_29_code
def yX11_ofNet : MethodName := ⟨RX11, "ofNet", "(III)J"⟩
abbrev cX11_best : ByteArray := prog_1_method_30_code
def yX11_best : MethodName := ⟨RX11, "best", "(II)I"⟩
abbrev cX11_splits : ByteArray := prog_1_method_31_code
def yX11_splits : MethodName := ⟨RX11, "splits", "(I)I"⟩
abbrev cX11_area : ByteArray := prog_1_method_32_code
def yX11_area : MethodName := ⟨RX11, "area", "(I)I"⟩
abbrev cX11_within : ByteArray := prog_1_method_33_code
def yX11_within : MethodName := ⟨RX11, "within", "(I)I"⟩
abbrev cX11_empty : ByteArray := prog_1_method_34_code
def yX11_empty : MethodName := ⟨RX11, "empty", "(I)I"⟩
abbrev cX11_prove : ByteArray := prog_1_method_35_code
def yX11_prove : MethodName := ⟨RX11, "prove", "(I)I"⟩
abbrev cX11_row : ByteArray := prog_1_method_36_code
def yX11_row : MethodName := ⟨RX11, "row", "(II)I"⟩
abbrev cX11_alter : ByteArray := prog_1_method_37_code
def yX11_alter : MethodName := ⟨RX11, "alter", "(III)I"⟩
abbrev cX11_judge : ByteArray := prog_1_method_38_code
def yX11_judge : MethodName := ⟨RX11, "judge", "(I)I"⟩
abbrev cX11_sheet : ByteArray := prog_1_method_39_code
def yX11_sheet : MethodName := ⟨RX11, "sheet", "(III)I"⟩
abbrev cX11_write : ByteArray := prog_1_method_40_code
def yX11_write : MethodName := ⟨RX11, "write", "(IIJ)I"⟩
abbrev cX11_item : ByteArray := prog_1_method_41_code
def yX11_item : MethodName := ⟨RX11, "item", "(II)J"⟩
abbrev cX11_copy : ByteArray := prog_1_method_42_code
def yX11_copy : MethodName := ⟨RX11, "copy", "(IIIII)I"⟩
abbrev cX11_undo : ByteArray := prog_1_method_43_code
def yX11_undo : MethodName := ⟨RX11, "undo", "()I"⟩
abbrev cX11_seed : ByteArray := prog_1_method_44_code
def yX11_seed : MethodName := ⟨RX11, "seed", "(I)I"⟩
abbrev cX11_count : ByteArray := prog_1_method_45_code
def yX11_count : MethodName := ⟨RX11, "count", "(I)I"⟩
abbrev cX11_status : ByteArray := prog_1_method_46_code
def yX11_status : MethodName := ⟨RX11, "status", "(I)I"⟩
abbrev cX11_finding : ByteArray := prog_1_method_47_code
def yX11_finding : MethodName := ⟨RX11, "finding", "(I)I"⟩
abbrev cX11_longFinding : ByteArray := prog_1_method_48_code
def yX11_longFinding : MethodName := ⟨RX11, "longFinding", "(I)J"⟩
abbrev cX11_followNets : ByteArray := prog_1_method_49_code
def yX11_followNets : MethodName := ⟨RX11, "followNets", "()V"⟩
abbrev cX11_isNet : ByteArray := prog_1_method_50_code
def yX11_isNet : MethodName := ⟨RX11, "isNet", "(I)Z"⟩
abbrev cX11_refusedNumber : ByteArray := prog_1_method_51_code
def yX11_refusedNumber : MethodName := ⟨RX11, "refusedNumber", "(II)I"⟩
abbrev cX11_refusedPolygon : ByteArray := prog_1_method_52_code
def yX11_refusedPolygon : MethodName := ⟨RX11, "refusedPolygon", "(I)I"⟩
abbrev cX11_isNear : ByteArray := prog_1_method_53_code
def yX11_isNear : MethodName := ⟨RX11, "isNear", "(I)Z"⟩
abbrev cX11_isRule : ByteArray := prog_1_method_54_code
def yX11_isRule : MethodName := ⟨RX11, "isRule", "(I)Z"⟩
abbrev cX11_isFold : ByteArray := prog_1_method_55_code
def yX11_isFold : MethodName := ⟨RX11, "isFold", "(I)Z"⟩
abbrev cX11_isSheet : ByteArray := prog_1_method_56_code
def yX11_isSheet : MethodName := ⟨RX11, "isSheet", "(I)Z"⟩
abbrev cX11_holds : ByteArray := prog_1_method_57_code
def yX11_holds : MethodName := ⟨RX11, "holds", "(JI)Z"⟩
abbrev cX11_edgeOf : ByteArray := prog_1_method_58_code
def yX11_edgeOf : MethodName := ⟨RX11, "edgeOf", "(II)I"⟩
abbrev cX11_edgesAt : ByteArray := prog_1_method_59_code
def yX11_edgesAt : MethodName := ⟨RX11, "edgesAt", "(I)J"⟩
abbrev cX11_side : ByteArray := prog_1_method_60_code
def yX11_side : MethodName := ⟨RX11, "side", "(IIIIII)I"⟩
def RX12 : String := "MarkedSweepsModel"
def TX12 : u_T := fun k => match k with
  | 0 => ("MarkedSweepsModel", "s", "[I", true)
  | 1 => ("MarkedSweepsModel", "kept", "[[I", true)
  | 2 => ("MarkedSweepsModel", "first", "I", false)
  | 3 => ("MarkedSweepsModel", "undoable", "I", false)
  | 4 => ("MarkedSweepsModel", "z", "I", false)
  | 5 => ("MarkedSweepsModel", "found", "[I", true)
  | 6 => ("MarkedSweepsModel", "hullMany", "I", false)
  | 7 => ("MarkedSweepsModel", "hull", "[I", true)
  | 8 => ("MarkedSweepsModel", "was", "[I", true)
  | 9 => ("MarkedSweepsModel", "crossing", "[J", true)
  | 10 => ("MarkedSweepsModel", "can", "J", false)
  | 11 => ("MarkedSweepsModel", "must", "J", false)
  | 12 => ("MarkedSweepsModel", "barred", "J", false)
  | 13 => ("MarkedSweepsModel", "net", "[J", true)
  | 14 => ("MarkedSweepsModel", "netMany", "I", false)
  | 15 => ("MarkedSweepsModel", "isListed", "Z", false)
  | 16 => ("MarkedSweepsModel", "far", "[I", true)
  | 17 => ("MarkedSweepsModel", "waits", "[I", true)
  | 18 => ("MarkedSweepsModel", "path", "I", false)
  | 19 => ("MarkedSweepsModel", "three", "I", false)
  | 20 => ("MarkedSweepsModel", "sort", "I", false)
  | 21 => ("MarkedSweepsModel", "isOver", "Z", false)
  | 22 => ("MarkedSweepsModel", "corners", "I", false)
  | 23 => ("MarkedSweepsModel", "corner", "[I", true)
  | 24 => ("MarkedSweepsModel", "rowMany", "I", false)
  | 25 => ("MarkedSweepsModel", "row", "[[I", true)
  | 26 => ("MarkedSweepsModel", "sheetSort", "[I", true)
  | 27 => ("MarkedSweepsModel", "sheetSize", "[I", true)
  | 28 => ("MarkedSweepsModel", "cells", "[[J", true)
  | _ => ("MarkedSweepsModel", "passing", "[J", true)
def tyX12 : Nat → FieldType := fun k => match k with
  | 0 => .array .int
  | 1 => .array (.array .int)
  | 2 => .int
  | 3 => .int
  | 4 => .int
  | 5 => .array .int
  | 6 => .int
  | 7 => .array .int
  | 8 => .array .int
  | 9 => .array .long
  | 10 => .long
  | 11 => .long
  | 12 => .long
  | 13 => .array .long
  | 14 => .int
  | 15 => .boolean
  | 16 => .array .int
  | 17 => .array .int
  | 18 => .int
  | 19 => .int
  | 20 => .int
  | 21 => .boolean
  | 22 => .int
  | 23 => .array .int
  | 24 => .int
  | 25 => .array (.array .int)
  | 26 => .array .int
  | 27 => .array .int
  | 28 => .array (.array .long)
  | _ => .array .long
theorem nmX12 : ∀ a, a < 30 → ∀ b, b < 30 → a ≠ b → (TX12 a).2.1 ≠ (TX12 b).2.1 := by decide +kernel
theorem tyX12_ok : ∀ k, k < 30 → parseFieldDescriptor (TX12 k).2.2.1 = some (tyX12 k) := by decide +kernel
abbrev cX12_init : ByteArray := prog_14_method_1_code
def yX12_init : MethodName := ⟨RX12, "<init>", "()V"⟩
abbrev cX12_finds : ByteArray := prog_14_method_2_code
def yX12_finds : MethodName := ⟨RX12, "finds", "(I)I"⟩
abbrev cX12_findsLong : ByteArray := prog_14_method_3_code
def yX12_findsLong : MethodName := ⟨RX12, "findsLong", "(I)J"⟩
abbrev cX12_in : ByteArray := prog_14_method_4_code
def yX12_in : MethodName := ⟨RX12, "in", "(JJJ)Z"⟩
abbrev cX12_points : ByteArray := prog_14_method_5_code
def yX12_points : MethodName := ⟨RX12, "points", "()I"⟩
abbrev cX12_x : ByteArray := prog_14_method_6_code
def yX12_x : MethodName := ⟨RX12, "x", "(I)I"⟩
abbrev cX12_y : ByteArray := prog_14_method_7_code
def yX12_y : MethodName := ⟨RX12, "y", "(I)I"⟩
abbrev cX12_isPoint : ByteArray := prog_14_method_8_code
def yX12_isPoint : MethodName := ⟨RX12, "isPoint", "(J)Z"⟩
abbrev cX12_areTwo : ByteArray := prog_14_method_9_code
def yX12_areTwo : MethodName := ⟨RX12, "areTwo", "(II)Z"⟩
abbrev cX12_side : ByteArray := prog_14_method_10_code
def yX12_side : MethodName := ⟨RX12, "side", "(IIIIII)I"⟩
abbrev cX12_turnOf : ByteArray := prog_14_method_11_code
def yX12_turnOf : MethodName := ⟨RX12, "turnOf", "(III)I"⟩
abbrev cX12_isAhead : ByteArray := prog_14_method_12_code
def yX12_isAhead : MethodName := ⟨RX12, "isAhead", "(II)Z"⟩
abbrev cX12_isWithin : ByteArray := prog_14_method_13_code
def yX12_isWithin : MethodName := ⟨RX12, "isWithin", "(IIII)Z"⟩
abbrev cX12_edge : ByteArray := prog_14_method_14_code
def yX12_edge : MethodName := ⟨RX12, "edge", "(II)I"⟩
abbrev cX12_doCross : ByteArray := prog_14_method_15_code
def yX12_doCross : MethodName := ⟨RX12, "doCross", "(IIII)Z"⟩
abbrev cX12_first : ByteArray := prog_14_method_16_code
def yX12_first : MethodName := ⟨RX12, "first", "()I"⟩
abbrev cX12_last : ByteArray := prog_14_method_17_code
def yX12_last : MethodName := ⟨RX12, "last", "()I"⟩
abbrev cX12_isOfHull : ByteArray := prog_14_method_18_code
def yX12_isOfHull : MethodName := ⟨RX12, "isOfHull", "(I)Z"⟩
abbrev cX12_behind : ByteArray := prog_14_method_19_code
def yX12_behind : MethodName := ⟨RX12, "behind", "(I)I"⟩
abbrev cX12_findsHull : ByteArray := prog_14_method_20_code
def yX12_findsHull : MethodName := ⟨RX12, "findsHull", "()V"⟩
abbrev cX12_laysAside : ByteArray := prog_14_method_21_code
def yX12_laysAside : MethodName := ⟨RX12, "laysAside", "()V"⟩
abbrev cX12_laysBack : ByteArray := prog_14_method_22_code
def yX12_laysBack : MethodName := ⟨RX12, "laysBack", "()V"⟩
abbrev cX12_changes : ByteArray := prog_14_method_23_code
def yX12_changes : MethodName := ⟨RX12, "changes", "()V"⟩
abbrev cX12_isFree : ByteArray := prog_14_method_24_code
def yX12_isFree : MethodName := ⟨RX12, "isFree", "(I)Z"⟩
abbrev cX12_doMustsCross : ByteArray := prog_14_method_25_code
def yX12_doMustsCross : MethodName := ⟨RX12, "doMustsCross", "()Z"⟩
abbrev cX12_isPlace : ByteArray := prog_14_method_26_code
def yX12_isPlace : MethodName := ⟨RX12, "isPlace", "(II)Z"⟩
abbrev cX12_place : ByteArray := prog_14_method_27_code
def yX12_place : MethodName := ⟨RX12, "place", "(II)I"⟩
abbrev cX12_drop : ByteArray := prog_14_method_28_code
def yX12_drop : MethodName := ⟨RX12, "drop", "()I"⟩
abbrev cX12_move : ByteArray := prog_14_method_29_code
def yX12_move : MethodName := ⟨RX12, "move", "(III)I"⟩
abbrev cX12_at : ByteArray := prog_14_method_30_code
def yX12_at : MethodName := ⟨RX12, "at", "(II)I"⟩
abbrev cX12_mark : ByteArray := prog_14_method_31_code
def yX12_mark : MethodName := ⟨RX12, "mark", "(III)I"⟩
abbrev cX12_markOf : ByteArray := prog_14_method_32_code
def yX12_markOf : MethodName := ⟨RX12, "markOf", "(II)I"⟩
abbrev cX12_turn : ByteArray := prog_14_method_33_code
def yX12_turn : MethodName := ⟨RX12, "turn", "(III)I"⟩
abbrev cX12_crosses : ByteArray := prog_14_method_34_code
def yX12_crosses : MethodName := ⟨RX12, "crosses", "(IIII)I"⟩
abbrev cX12_hull : ByteArray := prog_14_method_35_code
def yX12_hull : MethodName := ⟨RX12, "hull", "(I)I"⟩
abbrev cX12_has : ByteArray := prog_14_method_36_code
def yX12_has : MethodName := ⟨RX12, "has", "(JI)Z"⟩
abbrev cX12_readsCrossings : ByteArray := prog_14_method_37_code
def yX12_readsCrossings : MethodName := ⟨RX12, "readsCrossings", "()V"⟩
abbrev cX12_mayEnd : ByteArray := prog_14_method_38_code
def yX12_mayEnd : MethodName := ⟨RX12, "mayEnd", "(JI)Z"⟩
abbrev cX12_lists : ByteArray := prog_14_method_39_code
def yX12_lists : MethodName := ⟨RX12, "lists", "(JI)V"⟩
abbrev cX12_listsNets : ByteArray := prog_14_method_40_code
def yX12_listsNets : MethodName := ⟨RX12, "listsNets", "()V"⟩
abbrev cX12_numberOf : ByteArray := prog_14_method_41_code
def yX12_numberOf : MethodName := ⟨RX12, "numberOf", "(J)I"⟩
abbrev cX12_isNet : ByteArray := prog_14_method_42_code
def yX12_isNet : MethodName := ⟨RX12, "isNet", "(I)Z"⟩
abbrev cX12_nets : ByteArray := prog_14_method_43_code
def yX12_nets : MethodName := ⟨RX12, "nets", "()I"⟩
abbrev cX12_net : ByteArray := prog_14_method_44_code
def yX12_net : MethodName := ⟨RX12, "net", "(I)J"⟩
abbrev cX12_rank : ByteArray := prog_14_method_45_code
def yX12_rank : MethodName := ⟨RX12, "rank", "(J)I"⟩
abbrev cX12_with : ByteArray := prog_14_method_46_code
def yX12_with : MethodName := ⟨RX12, "with", "(II)I"⟩
abbrev cX12_always : ByteArray := prog_14_method_47_code
def yX12_always : MethodName := ⟨RX12, "always", "(I)J"⟩
abbrev cX12_drawn : ByteArray := prog_14_method_48_code
def yX12_drawn : MethodName := ⟨RX12, "drawn", "()I"⟩
abbrev cX12_draw : ByteArray := prog_14_method_49_code
def yX12_draw : MethodName := ⟨RX12, "draw", "()I"⟩
abbrev cX12_isTriangle : ByteArray := prog_14_method_50_code
def yX12_isTriangle : MethodName := ⟨RX12, "isTriangle", "(JIII)Z"⟩
abbrev cX12_fan : ByteArray := prog_14_method_51_code
def yX12_fan : MethodName := ⟨RX12, "fan", "(II)I"⟩
abbrev cX12_flipped : ByteArray := prog_14_method_52_code
def yX12_flipped : MethodName := ⟨RX12, "flipped", "(III)I"⟩
abbrev cX12_flips : ByteArray := prog_14_method_53_code
def yX12_flips : MethodName := ⟨RX12, "flips", "(I)J"⟩
abbrev cX12_flip : ByteArray := prog_14_method_54_code
def yX12_flip : MethodName := ⟨RX12, "flip", "(III)I"⟩
abbrev cX12_apart : ByteArray := prog_14_method_55_code
def yX12_apart : MethodName := ⟨RX12, "apart", "(II)I"⟩
abbrev cX12_firstPath : ByteArray := prog_14_method_56_code
def yX12_firstPath : MethodName := ⟨RX12, "firstPath", "()I"⟩
abbrev cX12_nextOn : ByteArray := prog_14_method_57_code
def yX12_nextOn : MethodName := ⟨RX12, "nextOn", "(I)I"⟩
abbrev cX12_advances : ByteArray := prog_14_method_58_code
def yX12_advances : MethodName := ⟨RX12, "advances", "(JI)Z"⟩
abbrev cX12_advances_ : ByteArray := prog_14_method_59_code
def yX12_advances_ : MethodName := ⟨RX12, "advances", "(J)Z"⟩
abbrev cX12_sweeps : ByteArray := prog_14_method_60_code
def yX12_sweeps : MethodName := ⟨RX12, "sweeps", "(II)Z"⟩
abbrev cX12_path : ByteArray := prog_14_method_61_code
def yX12_path : MethodName := ⟨RX12, "path", "(II)I"⟩
abbrev cX12_advance : ByteArray := prog_14_method_62_code
def yX12_advance : MethodName := ⟨RX12, "advance", "(III)I"⟩
abbrev cX12_ways : ByteArray := prog_14_method_63_code
def yX12_ways : MethodName := ⟨RX12, "ways", "()I"⟩
abbrev cX12_plus : ByteArray := prog_14_method_64_code
def yX12_plus : MethodName := ⟨RX12, "plus", "(JJ)J"⟩
abbrev cX12_minus : ByteArray := prog_14_method_65_code
def yX12_minus : MethodName := ⟨RX12, "minus", "(JJ)J"⟩
abbrev cX12_times : ByteArray := prog_14_method_66_code
def yX12_times : MethodName := ⟨RX12, "times", "(JJ)J"⟩
abbrev cX12_byStep : ByteArray := prog_14_method_67_code
def yX12_byStep : MethodName := ⟨RX12, "byStep", "(JI)J"⟩
abbrev cX12_chained : ByteArray := prog_14_method_68_code
def yX12_chained : MethodName := ⟨RX12, "chained", "(J)J"⟩
abbrev cX12_byRule : ByteArray := prog_14_method_69_code
def yX12_byRule : MethodName := ⟨RX12, "byRule", "(III)J"⟩
abbrev cX12_folded : ByteArray := prog_14_method_70_code
def yX12_folded : MethodName := ⟨RX12, "folded", "(JII)J"⟩
abbrev cX12_step : ByteArray := prog_14_method_71_code
def yX12_step : MethodName := ⟨RX12, "step", "(II)I"⟩
abbrev cX12_stepOf : ByteArray := prog_14_method_72_code
def yX12_stepOf : MethodName := ⟨RX12, "stepOf", "(II)I"⟩
abbrev cX12_clear : ByteArray := prog_14_method_73_code
def yX12_clear : MethodName := ⟨RX12, "clear", "()I"⟩
abbrev cX12_chain : ByteArray := prog_14_method_74_code
def yX12_chain : MethodName := ⟨RX12, "chain", "(J)J"⟩
abbrev cX12_ofEdge : ByteArray := prog_14_method_75_code
def yX12_ofEdge : MethodName := ⟨RX12, "ofEdge", "(III)J"⟩
abbrev cX12_ofNet : ByteArray := prog_14_method_76_code
def yX12_ofNet : MethodName := ⟨RX12, "ofNet", "(III)J"⟩
abbrev cX12_best : ByteArray := prog_14_method_77_code
def yX12_best : MethodName := ⟨RX12, "best", "(II)I"⟩
abbrev cX12_isCorner : ByteArray := prog_14_method_78_code
def yX12_isCorner : MethodName := ⟨RX12, "isCorner", "(I)Z"⟩
abbrev cX12_cornerAt : ByteArray := prog_14_method_79_code
def yX12_cornerAt : MethodName := ⟨RX12, "cornerAt", "(I)I"⟩
abbrev cX12_isPolygon : ByteArray := prog_14_method_80_code
def yX12_isPolygon : MethodName := ⟨RX12, "isPolygon", "(I)Z"⟩
abbrev cX12_whyNot : ByteArray := prog_14_method_81_code
def yX12_whyNot : MethodName := ⟨RX12, "whyNot", "(I)I"⟩
abbrev cX12_isInside : ByteArray := prog_14_method_82_code
def yX12_isInside : MethodName := ⟨RX12, "isInside", "(II)Z"⟩
abbrev cX12_isSide : ByteArray := prog_14_method_83_code
def yX12_isSide : MethodName := ⟨RX12, "isSide", "(II)Z"⟩
abbrev cX12_runsInside : ByteArray := prog_14_method_84_code
def yX12_runsInside : MethodName := ⟨RX12, "runsInside", "(II)Z"⟩
abbrev cX12_splits : ByteArray := prog_14_method_85_code
def yX12_splits : MethodName := ⟨RX12, "splits", "(I)I"⟩
abbrev cX12_area : ByteArray := prog_14_method_86_code
def yX12_area : MethodName := ⟨RX12, "area", "(I)I"⟩
abbrev cX12_within : ByteArray := prog_14_method_87_code
def yX12_within : MethodName := ⟨RX12, "within", "(I)I"⟩
abbrev cX12_isEmpty : ByteArray := prog_14_method_88_code
def yX12_isEmpty : MethodName := ⟨RX12, "isEmpty", "(I)Z"⟩
abbrev cX12_empty : ByteArray := prog_14_method_89_code
def yX12_empty : MethodName := ⟨RX12, "empty", "(I)I"⟩
abbrev cX12_prove : ByteArray := prog_14_method_90_code
def yX12_prove : MethodName := ⟨RX12, "prove", "(I)I"⟩
abbrev cX12_isRow : ByteArray := prog_14_method_91_code
def yX12_isRow : MethodName := ⟨RX12, "isRow", "(II)Z"⟩
abbrev cX12_row : ByteArray := prog_14_method_92_code
def yX12_row : MethodName := ⟨RX12, "row", "(II)I"⟩
abbrev cX12_alter : ByteArray := prog_14_method_93_code
def yX12_alter : MethodName := ⟨RX12, "alter", "(III)I"⟩
abbrev cX12_judge : ByteArray := prog_14_method_94_code
def yX12_judge : MethodName := ⟨RX12, "judge", "(I)I"⟩
abbrev cX12_isSheet : ByteArray := prog_14_method_95_code
def yX12_isSheet : MethodName := ⟨RX12, "isSheet", "(I)Z"⟩
abbrev cX12_sheet : ByteArray := prog_14_method_96_code
def yX12_sheet : MethodName := ⟨RX12, "sheet", "(III)I"⟩
abbrev cX12_whyNot_ : ByteArray := prog_14_method_97_code
def yX12_whyNot_ : MethodName := ⟨RX12, "whyNot", "(II)I"⟩
abbrev cX12_write : ByteArray := prog_14_method_98_code
def yX12_write : MethodName := ⟨RX12, "write", "(IIJ)I"⟩
abbrev cX12_item : ByteArray := prog_14_method_99_code
def yX12_item : MethodName := ⟨RX12, "item", "(II)J"⟩
abbrev cX12_copy : ByteArray := prog_14_method_100_code
def yX12_copy : MethodName := ⟨RX12, "copy", "(IIIII)I"⟩
abbrev cX12_undo : ByteArray := prog_14_method_101_code
def yX12_undo : MethodName := ⟨RX12, "undo", "()I"⟩
abbrev cX12_seed : ByteArray := prog_14_method_102_code
def yX12_seed : MethodName := ⟨RX12, "seed", "(I)I"⟩
abbrev cX12_marked : ByteArray := prog_14_method_103_code
def yX12_marked : MethodName := ⟨RX12, "marked", "(I)I"⟩
abbrev cX12_count : ByteArray := prog_14_method_104_code
def yX12_count : MethodName := ⟨RX12, "count", "(I)I"⟩
abbrev cX12_status : ByteArray := prog_14_method_105_code
def yX12_status : MethodName := ⟨RX12, "status", "(I)I"⟩
def RJ6 : String := "java/lang/Integer"
abbrev cJ6_bitCount_0f7a4 : ByteArray := prog_15_method_49_code
def yJ6_bitCount_0f7a4 : MethodName := ⟨RJ6, "bitCount", "(I)I"⟩
def RJ13 : String := "java/lang/Long"
abbrev cJ13_bitCount_95d88 : ByteArray := prog_16_method_50_code
def yJ13_bitCount_95d88 : MethodName := ⟨RJ13, "bitCount", "(J)I"⟩
def RJ9 : String := "java/lang/Math"
abbrev cJ9_abs_0f7a4 : ByteArray := prog_17_method_59_code
def yJ9_abs_0f7a4 : MethodName := ⟨RJ9, "abs", "(I)I"⟩
abbrev cJ9_max_7cf53 : ByteArray := prog_17_method_65_code
def yJ9_max_7cf53 : MethodName := ⟨RJ9, "max", "(II)I"⟩
abbrev cJ9_max_f86c9 : ByteArray := prog_17_method_66_code
def yJ9_max_f86c9 : MethodName := ⟨RJ9, "max", "(JJ)J"⟩
abbrev cJ9_min_7cf53 : ByteArray := prog_17_method_69_code
def yJ9_min_7cf53 : MethodName := ⟨RJ9, "min", "(II)I"⟩
abbrev cJ9_min_f86c9 : ByteArray := prog_17_method_70_code
def yJ9_min_f86c9 : MethodName := ⟨RJ9, "min", "(JJ)J"⟩
def RJ10 : String := "java/lang/System"
def RJ7 : String := "java/util/Arrays"
abbrev cJ7_fill_d0a16 : ByteArray := prog_19_method_101_code
def yJ7_fill_d0a16 : MethodName := ⟨RJ7, "fill", "([JJ)V"⟩
abbrev cJ7_fill_53178 : ByteArray := prog_19_method_103_code
def yJ7_fill_53178 : MethodName := ⟨RJ7, "fill", "([II)V"⟩
def RL : String := "MarkedSweepsLaw"
abbrev cL_law : ByteArray := code
def yL_law : MethodName := ⟨RL, "law", "([I)Z"⟩
abbrev vwCl : List vw_C := [(RX0, TX0, 8), (RX1, TX1, 3), (RX2, TX2, 4), (RX3, TX3, 8), (RX4, TX4, 3), (RX5, TX5, 11), (RX6, TX6, 6), (RX7, TX7, 3), (RX8, TX8, 3), (RX9, TX9, 6), (RX10, TX10, 1), (RX11, TX11, 13), (RX12, TX12, 30)]
end
section
/-! THE ABSTRACT MACHINE ("z"): heap, frames, blocks of straight code, and the judgement zY over the kit's W. -/
/-- words that a method may hand on to the methods that it calls -/
def zTG : List Cond := lw_tbl.filter goodWord
theorem zTG_in {w : Cond} (h : w ∈ lw_tbl) (hg : goodWord w = true) : w ∈ zTG := List.mem_filter.mpr ⟨h, hg⟩
theorem zTG_sub {w : Cond} (h : w ∈ zTG) : w ∈ lw_tbl := (List.mem_filter.mp h).1
theorem zTG_good : GoodIn zTG zTG := fun _ h => ⟨h, good_of_word (List.mem_filter.mp h).2⟩
/-- an entry of a method's code: pc, instruction, length, three numbers of help, a constant -/
abbrev zEn : Type := Nat × Instr × Nat × (Nat × Nat × Nat) × Value
/-- a method: name, bytes, locals, what it returns, its code -/
abbrev zM : Type := MethodName × ByteArray × Nat × Option FieldType × List zEn
/-- the heap: cells (kind, length), ints, longs, references by cell and place -/
abbrev zH : Type := List (Nat × Nat) × (Nat → Nat → Int32) × (Nat → Nat → Int64) × (Nat → Nat → Option Nat)
/-- the addresses of script and tables, classes and slots, array classes, the heap at the law's start -/
abbrev zE : Type := (Nat × Nat × Nat) × va_G × (Nat → ClassId) × Heap
abbrev zLs : Type := List (Nat × Value)
def zad (E : zE) (k : Nat) : Nat := if k = 0 then E.1.1 else if k = 1 then E.1.2.1 else if k = 2 then E.1.2.2 else E.2.2.2.size + (k - 3)
def zv (E : zE) (v : Value) : Value := match v with
  | .ref k => .ref (zad E k)
  | w => w
def zl (E : zE) (L : zLs) : zLs := L.map (fun q => (q.1, zv E q.2))
/-- place k of a list -/
def zget {α : Type} : List α → Nat → Option α
  | [], _ => none
  | a :: _, 0 => some a
  | _ :: r, n + 1 => zget r n
theorem zget_eq {α : Type} : ∀ (l : List α) (k : Nat), zget l k = l[k]?
  | [], k => by simp [zget]
  | a :: r, 0 => by simp [zget]
  | a :: r, k + 1 => by simp [zget, zget_eq r k]
def zlk (pc : Nat) : List zEn → Option (Instr × Nat × (Nat × Nat × Nat) × Value)
  | [] => none
  | e :: r => cond (Nat.beq e.1 pc) (some e.2) (zlk pc r)
theorem zlk_mem {pc : Nat} {q : Instr × Nat × (Nat × Nat × Nat) × Value} : ∀ {co : List zEn}, zlk pc co = some q → (pc, q) ∈ co
  | [], h => by cases h
  | e :: r, h => by
    unfold zlk at h
    cases hb : Nat.beq e.1 pc with
    | true =>
      rw [hb] at h
      have h1 : e.2 = q := Option.some.inj h
      have h2 : e.1 = pc := Nat.eq_of_beq_eq_true hb
      rw [← h1, ← h2]
      exact List.mem_cons_self
    | false =>
      rw [hb] at h
      exact List.mem_cons_of_mem _ (zlk_mem h)
def zlv (i : Nat) : zLs → Option Value
  | [] => none
  | e :: r => cond (Nat.beq e.1 i) (some e.2) (zlv i r)
theorem zlv_mem {i : Nat} {v : Value} : ∀ {L : zLs}, zlv i L = some v → (i, v) ∈ L
  | [], h => by cases h
  | e :: r, h => by
    unfold zlv at h
    cases hb : Nat.beq e.1 i with
    | true =>
      rw [hb] at h
      have h1 : e.2 = v := Option.some.inj h
      have h2 : e.1 = i := Nat.eq_of_beq_eq_true hb
      rw [← h1, ← h2]
      exact List.mem_cons_self
    | false =>
      rw [hb] at h
      exact List.mem_cons_of_mem _ (zlv_mem h)
/-- stores of one word, of two words -/
def zst (L : zLs) (i : Nat) (v : Value) : zLs := (i, v) :: L.filter (fun q => !(q.1 == i) && !(q.1 + 1 == i && q.2.category == 2))
def zst2 (L : zLs) (i : Nat) (v : Value) : zLs := (i, v) :: L.filter (fun q => !(q.1 == i) && (!(q.1 == i + 1) && !(q.1 + 1 == i && q.2.category == 2)))
/-- the field types of the classes by their numbers -/
def zty (ci k : Nat) : FieldType := match ci with
  | 0 => tyX0 k
  | 1 => tyX1 k
  | 2 => tyX2 k
  | 3 => tyX3 k
  | 4 => tyX4 k
  | 5 => tyX5 k
  | 6 => tyX6 k
  | 7 => tyX7 k
  | 8 => tyX8 k
  | 9 => tyX9 k
  | 10 => tyX10 k
  | 11 => tyX11 k
  | _ => tyX12 k
def zrf (r : Option Nat) : Value := match r with
  | some a => .ref a
  | none => .null
/-- the value of field j of cell k, of that type -/
def zfv (h : zH) (k j : Nat) (ty : FieldType) : Value := match ty with
  | .int => .int (h.2.1 k j)
  | .boolean => .int (h.2.1 k j)
  | .long => .long (h.2.2.1 k j)
  | _ => zrf (h.2.2.2 k j)
def zup {α : Type} (f : Nat → Nat → α) (k j : Nat) (x : α) : Nat → Nat → α := fun a b => if a = k then (if b = j then x else f a b) else f a b
def zsI (h : zH) (k j : Nat) (x : Int32) : zH := (h.1, zup h.2.1 k j x, h.2.2)
def zsL (h : zH) (k j : Nat) (x : Int64) : zH := (h.1, h.2.1, zup h.2.2.1 k j x, h.2.2.2)
def zsR (h : zH) (k j : Nat) (x : Option Nat) : zH := (h.1, h.2.1, h.2.2.1, zup h.2.2.2 k j x)
def zlt (h : zH) (a ci : Nat) : Bool := match zget h.1 a with
  | some q => Nat.beq q.1 ci
  | none => false
abbrev zKn : Type := Nat → zLs → List Value → zH → Prop
abbrev zKr : Type := Option Value → zH → Prop
def zbI (f : Int32 → Int32 → Int32) (S : List Value) (k : List Value → Prop) : Prop := match S with
  | .int y :: .int x :: r => k (.int (f x y) :: r)
  | _ => False
def zbL (f : Int64 → Int64 → Int64) (S : List Value) (k : List Value → Prop) : Prop := match S with
  | .long y :: .long x :: r => k (.long (f x y) :: r)
  | _ => False
def zsh (f : Int64 → Int32 → Int64) (S : List Value) (k : List Value → Prop) : Prop := match S with
  | .int y :: .long x :: r => k (.long (f x y) :: r)
  | _ => False
def zif (P : Int32 → Prop) (S : List Value) (kt kf : List Value → Prop) : Prop := match S with
  | .int x :: r => (P x → kt r) ∧ (¬ P x → kf r)
  | _ => False
def zic (P : Int32 → Int32 → Prop) (S : List Value) (kt kf : List Value → Prop) : Prop := match S with
  | .int y :: .int x :: r => (P x y → kt r) ∧ (¬ P x y → kf r)
  | _ => False
def zldI (L : zLs) (i : Nat) (k : Value → Prop) : Prop := match zlv i L with
  | some (.int x) => k (.int x)
  | _ => False
def zldL (L : zLs) (i : Nat) (k : Value → Prop) : Prop := match zlv i L with
  | some (.long x) => k (.long x)
  | _ => False
def zldA (L : zLs) (i : Nat) (k : Value → Prop) : Prop := match zlv i L with
  | some (.ref x) => k (.ref x)
  | some .null => k .null
  | _ => False
def zstI (n : Nat) (L : zLs) (i : Nat) (S : List Value) (k : zLs → List Value → Prop) : Prop := match S with
  | .int x :: r => i < n ∧ k (zst L i (.int x)) r
  | _ => False
def zstL (n : Nat) (L : zLs) (i : Nat) (S : List Value) (k : zLs → List Value → Prop) : Prop := match S with
  | .long x :: r => i + 1 < n ∧ k (zst2 L i (.long x)) r
  | _ => False
def zstA (n : Nat) (L : zLs) (i : Nat) (S : List Value) (k : zLs → List Value → Prop) : Prop := match S with
  | .ref x :: r => i < n ∧ k (zst L i (.ref x)) r
  | .null :: r => i < n ∧ k (zst L i .null) r
  | _ => False
def zgf (h : zH) (ci j : Nat) (S : List Value) (k : List Value → Prop) : Prop := match S with
  | .ref a :: r => cond (zlt h a ci) (k (zfv h a j (zty ci j) :: r)) False
  | _ => False
def zpfT (ty : FieldType) (h : zH) (a j : Nat) (v : Value) (k : zH → Prop) : Prop := match ty, v with
  | .int, .int x => k (zsI h a j x)
  | .boolean, .int x => (x = 0 ∨ x = 1) ∧ k (zsI h a j x)
  | .long, .long x => k (zsL h a j x)
  | _, _ => False
def zpf (h : zH) (ci j : Nat) (S : List Value) (k : List Value → zH → Prop) : Prop := match S with
  | v :: .ref a :: r => cond (zlt h a ci) (zpfT (zty ci j) h a j v (k r)) False
  | _ => False
def zai (h : zH) (S : List Value) (k : List Value → Prop) : Prop := match S with
  | .int i :: .ref a :: r => (match zget h.1 a with
    | some q => cond (Nat.beq q.1 100 || Nat.beq q.1 110) (vp_in i q.2 ∧ k (.int (h.2.1 a i.toNatClampNeg) :: r)) False
    | none => False)
  | _ => False
def zal (h : zH) (S : List Value) (k : List Value → Prop) : Prop := match S with
  | .int i :: .ref a :: r => (match zget h.1 a with
    | some q => cond (Nat.beq q.1 101) (vp_in i q.2 ∧ k (.long (h.2.2.1 a i.toNatClampNeg) :: r)) False
    | none => False)
  | _ => False
def zaa (h : zH) (S : List Value) (k : List Value → Prop) : Prop := match S with
  | .int i :: .ref a :: r => (match zget h.1 a with
    | some q => cond (Nat.ble 102 q.1 && Nat.ble q.1 105) (vp_in i q.2 ∧ k (zrf (h.2.2.2 a i.toNatClampNeg) :: r)) False
    | none => False)
  | _ => False
def zsi (h : zH) (S : List Value) (k : List Value → zH → Prop) : Prop := match S with
  | .int x :: .int i :: .ref a :: r => (match zget h.1 a with
    | some q => cond (Nat.beq q.1 100) (vp_in i q.2 ∧ k r (zsI h a i.toNatClampNeg x)) False
    | none => False)
  | _ => False
def zsl (h : zH) (S : List Value) (k : List Value → zH → Prop) : Prop := match S with
  | .long x :: .int i :: .ref a :: r => (match zget h.1 a with
    | some q => cond (Nat.beq q.1 101) (vp_in i q.2 ∧ k r (zsL h a i.toNatClampNeg x)) False
    | none => False)
  | _ => False
def zan (h : zH) (S : List Value) (k : List Value → Prop) : Prop := match S with
  | .ref a :: r => (match zget h.1 a with
    | some q => cond (Nat.ble 100 q.1) (k (.int (Int32.ofNat q.2) :: r)) False
    | none => False)
  | _ => False
def zdup (S : List Value) (k : List Value → Prop) : Prop := match S with
  | v :: r => cond (Nat.beq v.category 1) (k (v :: v :: r)) False
  | _ => False
def zdup2 (S : List Value) (k : List Value → Prop) : Prop := match S with
  | v :: r => cond (Nat.beq v.category 2) (k (v :: v :: r)) (match r with
    | w :: r2 => cond (Nat.beq w.category 1) (k (v :: w :: v :: w :: r2)) False
    | _ => False)
  | _ => False
/-- a switch: keys from lo on, the targets, the other target -/
def zsw (x : Int32) (k : Nat → Prop) (dflt : Nat) : Int → List Nat → Prop
  | lo, [] => k dflt
  | lo, t :: ts => (x.toInt = lo → k t) ∧ (¬ x.toInt = lo → zsw x k dflt (lo + 1) ts)
def zswS (S : List Value) (k : Nat → List Value → Prop) (dflt : Nat) (lo : Int) (ts : List Nat) : Prop := match S with
  | .int x :: r => zsw x (fun t => k t r) dflt lo ts
  | _ => False
def zuI (f : Int32 → Int32) (S : List Value) (k : List Value → Prop) : Prop := match S with
  | .int x :: r => k (.int (f x) :: r)
  | _ => False
def zdvI (f : Int32 → Int32 → Int32) (S : List Value) (k : List Value → Prop) : Prop := match S with
  | .int y :: .int x :: r => ¬ y = 0 ∧ k (.int (f x y) :: r)
  | _ => False
def zdvL (f : Int64 → Int64 → Int64) (S : List Value) (k : List Value → Prop) : Prop := match S with
  | .long y :: .long x :: r => ¬ y = 0 ∧ k (.long (f x y) :: r)
  | _ => False
def zcmpS (S : List Value) (k : List Value → Prop) : Prop := match S with
  | .long y :: .long x :: r => k (.int (lg_cmp x y) :: r)
  | _ => False
def zi2l (S : List Value) (k : List Value → Prop) : Prop := match S with
  | .int x :: r => k (.long x.toInt64 :: r)
  | _ => False
def zl2i (S : List Value) (k : List Value → Prop) : Prop := match S with
  | .long x :: r => k (.int x.toInt32 :: r)
  | _ => False
def zinc (n : Nat) (L : zLs) (i : Nat) (d : Int32) (k : zLs → Prop) : Prop := match zlv i L with
  | some (.int x) => i < n ∧ k (zst L i (.int (x + d)))
  | _ => False
def zrI (rt : Option FieldType) (S : List Value) (k : Option Value → Prop) : Prop := match S, rt with
  | [.int x], some .int => k (some (.int x))
  | [.int x], some .boolean => x &&& 1 = x ∧ k (some (.int x))
  | _, _ => False
def zrL (rt : Option FieldType) (S : List Value) (k : Option Value → Prop) : Prop := match S, rt with
  | [.long x], some .long => k (some (.long x))
  | _, _ => False
def zrV (rt : Option FieldType) (S : List Value) (k : Option Value → Prop) : Prop := match S, rt with
  | [], none => k none
  | _, _ => False
def zcst (v : Value) (k : Prop) : Prop := match v with
  | .int _ => k
  | .long _ => k
  | _ => False
/-- one instruction; n: the method's locals, rt: what it returns -/
def zstep (n : Nat) (rt : Option FieldType) (q : Instr × Nat × (Nat × Nat × Nat) × Value) (pc : Nat) (L : zLs) (S : List Value) (h : zH) (kr : Option Value → Prop) (k : zKn) : Prop :=
  match q.1 with
  | .iconst _ => k (pc + 1) L (q.2.2.2 :: S) h
  | .bipush _ => k (pc + 2) L (q.2.2.2 :: S) h
  | .sipush _ => k (pc + 3) L (q.2.2.2 :: S) h
  | .lconst _ => k (pc + 1) L (q.2.2.2 :: S) h
  | .ldc _ => k (pc + 2) L (q.2.2.2 :: S) h
  | .ldc_w _ => k (pc + 3) L (q.2.2.2 :: S) h
  | .ldc2_w _ => k (pc + 3) L (q.2.2.2 :: S) h
  | .iload_n i => zldI L i (fun v => k (pc + 1) L (v :: S) h)
  | .iload i => zldI L i (fun v => k (pc + 2) L (v :: S) h)
  | .lload_n i => zldL L i (fun v => k (pc + 1) L (v :: S) h)
  | .lload i => zldL L i (fun v => k (pc + 2) L (v :: S) h)
  | .aload_n i => zldA L i (fun v => k (pc + 1) L (v :: S) h)
  | .aload i => zldA L i (fun v => k (pc + 2) L (v :: S) h)
  | .istore_n i => zstI n L i S (fun L' r => k (pc + 1) L' r h)
  | .istore i => zstI n L i S (fun L' r => k (pc + 2) L' r h)
  | .lstore_n i => zstL n L i S (fun L' r => k (pc + 1) L' r h)
  | .lstore i => zstL n L i S (fun L' r => k (pc + 2) L' r h)
  | .astore_n i => zstA n L i S (fun L' r => k (pc + 1) L' r h)
  | .astore i => zstA n L i S (fun L' r => k (pc + 2) L' r h)
  | .iinc i _ => zinc n L i (match q.2.2.2 with | .int d => d | _ => 0) (fun L' => k (pc + 3) L' S h)
  | .iadd => zbI (fun x y => x + y) S (fun r => k (pc + 1) L r h)
  | .isub => zbI (fun x y => x - y) S (fun r => k (pc + 1) L r h)
  | .imul => zbI (fun x y => x * y) S (fun r => k (pc + 1) L r h)
  | .iand => zbI (fun x y => x &&& y) S (fun r => k (pc + 1) L r h)
  | .ior => zbI (fun x y => x ||| y) S (fun r => k (pc + 1) L r h)
  | .ixor => zbI (fun x y => x ^^^ y) S (fun r => k (pc + 1) L r h)
  | .ishl => zbI (fun x y => x <<< (y &&& 31)) S (fun r => k (pc + 1) L r h)
  | .ishr => zbI (fun x y => x >>> (y &&& 31)) S (fun r => k (pc + 1) L r h)
  | .iushr => zbI (fun x y => (x.toUInt32 >>> (y.toUInt32 &&& Int32.toUInt32 31)).toInt32) S (fun r => k (pc + 1) L r h)
  | .idiv => zdvI (fun x y => x / y) S (fun r => k (pc + 1) L r h)
  | .irem => zdvI (fun x y => x - x / y * y) S (fun r => k (pc + 1) L r h)
  | .ineg => zuI (fun x => -x) S (fun r => k (pc + 1) L r h)
  | .ladd => zbL (fun x y => x + y) S (fun r => k (pc + 1) L r h)
  | .lsub => zbL (fun x y => x - y) S (fun r => k (pc + 1) L r h)
  | .lmul => zbL (fun x y => x * y) S (fun r => k (pc + 1) L r h)
  | .land => zbL (fun x y => x &&& y) S (fun r => k (pc + 1) L r h)
  | .lor => zbL (fun x y => x ||| y) S (fun r => k (pc + 1) L r h)
  | .lxor => zbL (fun x y => x ^^^ y) S (fun r => k (pc + 1) L r h)
  | .ldiv => zdvL (fun x y => x / y) S (fun r => k (pc + 1) L r h)
  | .lrem => zdvL (fun x y => x - x / y * y) S (fun r => k (pc + 1) L r h)
  | .lshl => zsh (fun x y => x <<< (y.toInt64 &&& 63)) S (fun r => k (pc + 1) L r h)
  | .lshr => zsh (fun x y => x >>> (y.toInt64 &&& 63)) S (fun r => k (pc + 1) L r h)
  | .lushr => zsh (fun x y => (x.toUInt64 >>> (y.toInt64.toUInt64 &&& Int64.toUInt64 63)).toInt64) S (fun r => k (pc + 1) L r h)
  | .lcmp => zcmpS S (fun r => k (pc + 1) L r h)
  | .i2l => zi2l S (fun r => k (pc + 1) L r h)
  | .l2i => zl2i S (fun r => k (pc + 1) L r h)
  | .i2b => zuI (fun x => x.toInt8.toInt32) S (fun r => k (pc + 1) L r h)
  | .dup => zdup S (fun r => k (pc + 1) L r h)
  | .dup2 => zdup2 S (fun r => k (pc + 1) L r h)
  | .goto _ => k q.2.2.1.1 L S h
  | .ifCond c _ => (match c with
    | .eq => zif (fun x => x = 0) S (fun r => k q.2.2.1.1 L r h) (fun r => k (pc + 3) L r h)
    | .ne => zif (fun x => x ≠ 0) S (fun r => k q.2.2.1.1 L r h) (fun r => k (pc + 3) L r h)
    | .lt => zif (fun x => x < 0) S (fun r => k q.2.2.1.1 L r h) (fun r => k (pc + 3) L r h)
    | .ge => zif (fun x => 0 ≤ x) S (fun r => k q.2.2.1.1 L r h) (fun r => k (pc + 3) L r h)
    | .gt => zif (fun x => 0 < x) S (fun r => k q.2.2.1.1 L r h) (fun r => k (pc + 3) L r h)
    | .le => zif (fun x => x ≤ 0) S (fun r => k q.2.2.1.1 L r h) (fun r => k (pc + 3) L r h))
  | .if_icmp c _ => (match c with
    | .eq => zic (fun x y => x = y) S (fun r => k q.2.2.1.1 L r h) (fun r => k (pc + 3) L r h)
    | .ne => zic (fun x y => x ≠ y) S (fun r => k q.2.2.1.1 L r h) (fun r => k (pc + 3) L r h)
    | .lt => zic (fun x y => x < y) S (fun r => k q.2.2.1.1 L r h) (fun r => k (pc + 3) L r h)
    | .ge => zic (fun x y => y ≤ x) S (fun r => k q.2.2.1.1 L r h) (fun r => k (pc + 3) L r h)
    | .gt => zic (fun x y => y < x) S (fun r => k q.2.2.1.1 L r h) (fun r => k (pc + 3) L r h)
    | .le => zic (fun x y => x ≤ y) S (fun r => k q.2.2.1.1 L r h) (fun r => k (pc + 3) L r h))
  | .getfield _ => zgf h q.2.2.1.1 q.2.2.1.2.1 S (fun r => k (pc + 3) L r h)
  | .putfield _ => zpf h q.2.2.1.1 q.2.2.1.2.1 S (fun r h' => k (pc + 3) L r h')
  | .getstatic _ => k (pc + 3) L (.ref q.2.2.1.1 :: S) h
  | .iaload => zai h S (fun r => k (pc + 1) L r h)
  | .laload => zal h S (fun r => k (pc + 1) L r h)
  | .aaload => zaa h S (fun r => k (pc + 1) L r h)
  | .iastore => zsi h S (fun r h' => k (pc + 1) L r h')
  | .lastore => zsl h S (fun r h' => k (pc + 1) L r h')
  | .arraylength => zan h S (fun r => k (pc + 1) L r h)
  | .ireturn => zrI rt S kr
  | .lreturn => zrL rt S kr
  | .return_ => zrV rt S kr
  | _ => False
/-- instructions that end a block -/
def zstop (i : Instr) : Bool := match i with
  | .invokevirtual _ => true
  | .invokestatic _ => true
  | .invokespecial _ => true
  | .new _ => true
  | .newarray _ => true
  | .anewarray _ => true
  | .multianewarray _ _ => true
  | .aastore => true
  | .tableswitch _ _ _ _ => true
  | _ => false
def zmem (pc : Nat) : List Nat → Bool
  | [] => false
  | a :: r => cond (Nat.beq a pc) true (zmem pc r)
/-- a block: at most that many instructions, up to a call, a stop, a return -/
def zB (n : Nat) (rt : Option FieldType) (co : List zEn) (st : List Nat) (kr : zKr) (k : zKn) : Nat → zKn
  | 0, pc, L, S, h => k pc L S h
  | f + 1, pc, L, S, h => match zlk pc co with
    | none => False
    | some q => cond (zstop q.1) (k pc L S h) (zstep n rt q pc L S h (fun v => kr v h) (fun pc' L' S' h' => cond (zmem pc' st) (k pc' L' S' h') (zB n rt co st kr k f pc' L' S' h')))
end
section
/-! The heap of the abstract machine beside the machine's own; the context of a method. -/
def zNw (w : Cond) : Bool := match w with
  | .fieldLinkNest _ _ _ _ _ _ => true
  | .methodLinkNest _ _ _ _ => true
  | _ => false
def zNest : List Cond := lw_tbl.filter zNw
def zTys (E : zE) : List (ClassId × FieldType) := [(E.2.2.1 0, .int), (E.2.2.1 1, .long), (E.2.2.1 2, .object RX0), (E.2.2.1 3, .object RX8), (E.2.2.1 4, .array .int), (E.2.2.1 5, .array .long)]
/-- cell k of kind t and length n stands in H -/
def zcell (E : zE) (s : State) (h : zH) (k t n : Nat) (H : Heap) : Prop :=
  if t < 100 then ∃ r : vw_C, vwCl[t]? = some r ∧ r.2.2 = n ∧ t_OB (zad E k) (E.2.1.1 t) n (E.2.1.2 t) H (fun j => zv E (zfv h k j (zty t j)))
  else if t = 100 then H[zad E k]? = some (arrV (E.2.2.1 0) n (fun j => .int (h.2.1 k j)))
  else if t = 101 then H[zad E k]? = some (arrV (E.2.2.1 1) n (fun j => .long (h.2.2.1 k j)))
  else if t < 106 then H[zad E k]? = some (arrV (E.2.2.1 (t - 100)) n (fun j => zv E (zrf (h.2.2.2 k j))))
  else t = 110 ∧ ∃ cell : Cell, H[zad E k]? = some cell ∧ s.isArrayOf cell .int ∧ cell.vm ≠ .unknown ∧ n ≤ cell.slots.size ∧ cell.slots.size.toInt32 = Int32.ofNat n ∧ ∀ j, j < n → cell.slots[j]? = some (.int (h.2.1 k j))
def zR (E : zE) (s : State) (h : zH) (H : Heap) : Prop :=
  H.size + 3 = E.2.2.2.size + h.1.length ∧ 3 ≤ h.1.length ∧ (E.1.1 < E.2.2.2.size ∧ E.1.2.1 < E.2.2.2.size ∧ E.1.2.2 < E.2.2.2.size) ∧ (∀ q : Nat, q < E.2.2.2.size → H[q]? = E.2.2.2[q]?) ∧
  ∀ k t n : Nat, h.1[k]? = some (t, n) → (t = 110 ∨ 3 ≤ k) ∧ zcell E s h k t n H
def zAOA (ty : FieldType) (U : State) : Prop := (Cond.arrayOver (.array ty)).before #[] U = true
theorem zAOA.moved {ty : FieldType} {u U : State} (hvm : u.vm.Alike U.vm) (h : zAOA ty u) : zAOA ty U := by
  obtain ⟨comp, c, k, h1, h2, h3, h4, h5⟩ := arrayOverA_spec h
  obtain ⟨k', hk', he⟩ := hvm.2.2 _ _ h3
  have hi : (U.vm.classes.findIdx? fun (x : Class) => match x.kind with | .array component _ => component == comp | _ => false) = some c := by
    rw [← va_idx_bare]
    first | rw [hvm.bare_eq] | rw [← hvm.bare_eq]
    rw [va_idx_bare]
    exact h2
  have hkind : k'.kind = .array comp (.array ty) := by rw [he]; exact h4
  have f1 : U.vm.findClass (FieldType.array ty).toString = some comp := by rw [hvm.findClass]; exact h1
  have f2 : U.vm.findClass ("[" ++ (FieldType.array ty).toString) = some c := by rw [hvm.findClass]; exact h5
  unfold zAOA Cond.before Cond.holds
  simp only [Cond.value]
  rw [f1, Option.bind_some]
  refine (congrArg (fun o : Option Nat => (o.bind (fun c => (U.vm.classes[c]?).map fun (k : Class) => match k.kind with | .array _ ty' => decide (ty' = FieldType.array ty) && decide (U.vm.findClass ("[" ++ (FieldType.array ty).toString) = some c) | _ => false) == some true)) hi).trans ?_
  simp [hk', hkind, f2]
/-- what a method takes from its caller of the tables: classes, nest links, the two static arrays -/
def zF (E : zE) (s : State) : Prop :=
  va_K E.2.1 vwCl (zTys E) s ∧ (∀ w ∈ zNest, va_Nw w s) ∧ (va_AO RX0 s ∧ va_AO RX8 s ∧ zAOA .int s ∧ zAOA .long s) ∧
  va_Z "MarkedSweeps" "LESSER_END" "[I" (.ref E.1.2.1) (fun q => E.2.2.2.size ≤ q) s E.2.2.2 ∧ va_Z "MarkedSweeps" "GREATER_END" "[I" (.ref E.1.2.2) (fun q => E.2.2.2.size ≤ q) s E.2.2.2
theorem zcell_s {E : zE} {s U : State} {h : zH} {k t n : Nat} {H : Heap} (hvm : s.vm.Alike U.vm) (hc : zcell E s h k t n H) : zcell E U h k t n H := by
  unfold zcell at hc ⊢
  split
  · rename_i h1; rw [if_pos h1] at hc; exact hc
  · rename_i h1; rw [if_neg h1] at hc
    split
    · rename_i h2; rw [if_pos h2] at hc; exact hc
    · rename_i h2; rw [if_neg h2] at hc
      split
      · rename_i h3; rw [if_pos h3] at hc; exact hc
      · rename_i h3; rw [if_neg h3] at hc
        split
        · rename_i h4; rw [if_pos h4] at hc; exact hc
        · rename_i h4; rw [if_neg h4] at hc
          obtain ⟨ht, cell, c1, c2, c3⟩ := hc
          exact ⟨ht, cell, c1, State.isArrayOf_alike hvm c2, c3⟩
theorem zR_s {E : zE} {s U : State} {h : zH} {H : Heap} (hvm : s.vm.Alike U.vm) (hR : zR E s h H) : zR E U h H :=
  ⟨hR.1, hR.2.1, hR.2.2.1, hR.2.2.2.1, fun k t n hk => ⟨(hR.2.2.2.2 k t n hk).1, zcell_s hvm (hR.2.2.2.2 k t n hk).2⟩⟩
theorem zF_s {E : zE} {s U : State} (hW : s.WarmedH U.vm) (h : zF E s) : zF E U := by
  obtain ⟨h1, h2, ⟨a1, a2, a3, a4⟩, h3, h4⟩ := h
  refine ⟨va_K.moved hW.alike h1, fun w hw => ?_, ⟨a1.moved hW.alike, a2.moved hW.alike, a3.moved hW.alike, a4.moved hW.alike⟩, h3.moved hW.alike, h4.moved hW.alike⟩
  have hn := (List.mem_filter.mp hw).2
  have h9 := h2 w hw
  cases w <;> first | exact h9.warmF hW | exact h9.warmM hW | (exact absurd hn (by simp [zNw]))
theorem zF_v {E : zE} {s U : State} (hv : s.vm = U.vm) (h : zF E s) : zF E U := by
  obtain ⟨h1, h2, ⟨a1, a2, a3, a4⟩, h3, h4⟩ := h
  have hal : s.vm.Alike U.vm := by rw [hv]; exact Vm.Alike.refl _
  refine ⟨va_K.moved hal h1, fun w hw => ?_, ⟨a1.moved hal, a2.moved hal, a3.moved hal, a4.moved hal⟩, h3.moved hal, h4.moved hal⟩
  have hn := (List.mem_filter.mp hw).2
  refine va_Nw.same ?_ hv (h2 w hw)
  cases w <;> first | rfl | (exact absurd hn (by simp [zNw]))
end
