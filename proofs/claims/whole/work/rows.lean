section
-- ===== PART A: goes FIRST, ahead of the names: the tables' words, and 'selects' of the private methods out of them =====
/-- a private method of a class that the tables say can be made, by its rows of tables_1 -/
def lw_okq (q : MethodName × Nat) : Prop := (q.1.cls ≠ "java/lang/invoke/MethodHandle" ∧ q.1.cls ≠ "java/lang/invoke/VarHandle") ∧ Cond.instantiable q.1.cls q.2 ∈ tables_1 ∧ Cond.privateMethod q.1 ∈ tables_1 ∧ Cond.instanceMethod q.1 ∈ tables_1
theorem lw_p0 : lw_okq (⟨"MarkedSweeps", "finding", "(I)I"⟩, 13) := ⟨⟨by decide +kernel, by decide +kernel⟩, List.mem_of_getElem? (i := 20) (by decide +kernel), List.mem_of_getElem? (i := 387) (by decide +kernel), List.mem_of_getElem? (i := 388) (by decide +kernel)⟩
theorem lw_p1 : lw_okq (⟨"MarkedSweeps$Board", "mustCross", "()Z"⟩, 8) := ⟨⟨by decide +kernel, by decide +kernel⟩, List.mem_of_getElem? (i := 28) (by decide +kernel), List.mem_of_getElem? (i := 448) (by decide +kernel), List.mem_of_getElem? (i := 449) (by decide +kernel)⟩
theorem lw_p2 : lw_okq (⟨"MarkedSweeps$Plane", "isOf", "(LMarkedSweeps$Board;)Z"⟩, 11) := ⟨⟨by decide +kernel, by decide +kernel⟩, List.mem_of_getElem? (i := 99) (by decide +kernel), List.mem_of_getElem? (i := 475) (by decide +kernel), List.mem_of_getElem? (i := 476) (by decide +kernel)⟩
theorem lw_p3 : lw_okq (⟨"MarkedSweeps$Plane", "findOrder", "()V"⟩, 11) := ⟨⟨by decide +kernel, by decide +kernel⟩, List.mem_of_getElem? (i := 99) (by decide +kernel), List.mem_of_getElem? (i := 480) (by decide +kernel), List.mem_of_getElem? (i := 481) (by decide +kernel)⟩
theorem lw_p4 : lw_okq (⟨"MarkedSweeps$Plane", "findSides", "(LMarkedSweeps$Board;)V"⟩, 11) := ⟨⟨by decide +kernel, by decide +kernel⟩, List.mem_of_getElem? (i := 99) (by decide +kernel), List.mem_of_getElem? (i := 484) (by decide +kernel), List.mem_of_getElem? (i := 485) (by decide +kernel)⟩
theorem lw_p5 : lw_okq (⟨"MarkedSweeps$Plane", "setLeftTurn", "(III)V"⟩, 11) := ⟨⟨by decide +kernel, by decide +kernel⟩, List.mem_of_getElem? (i := 99) (by decide +kernel), List.mem_of_getElem? (i := 492) (by decide +kernel), List.mem_of_getElem? (i := 493) (by decide +kernel)⟩
theorem lw_p6 : lw_okq (⟨"MarkedSweeps$Plane", "findCrossings", "(LMarkedSweeps$Board;)V"⟩, 11) := ⟨⟨by decide +kernel, by decide +kernel⟩, List.mem_of_getElem? (i := 99) (by decide +kernel), List.mem_of_getElem? (i := 496) (by decide +kernel), List.mem_of_getElem? (i := 497) (by decide +kernel)⟩
theorem lw_p7 : lw_okq (⟨"MarkedSweeps$Plane", "findHull", "()V"⟩, 11) := ⟨⟨by decide +kernel, by decide +kernel⟩, List.mem_of_getElem? (i := 99) (by decide +kernel), List.mem_of_getElem? (i := 505) (by decide +kernel), List.mem_of_getElem? (i := 506) (by decide +kernel)⟩
theorem lw_p8 : lw_okq (⟨"MarkedSweeps$Plane", "behindOnHull", "(I)I"⟩, 11) := ⟨⟨by decide +kernel, by decide +kernel⟩, List.mem_of_getElem? (i := 99) (by decide +kernel), List.mem_of_getElem? (i := 509) (by decide +kernel), List.mem_of_getElem? (i := 510) (by decide +kernel)⟩
theorem lw_p9 : lw_okq (⟨"MarkedSweeps", "followNets", "()V"⟩, 13) := ⟨⟨by decide +kernel, by decide +kernel⟩, List.mem_of_getElem? (i := 20) (by decide +kernel), List.mem_of_getElem? (i := 555) (by decide +kernel), List.mem_of_getElem? (i := 556) (by decide +kernel)⟩
theorem lw_p10 : lw_okq (⟨"MarkedSweeps$Nets", "findWhole", "(LMarkedSweeps$Plane;)V"⟩, 8) := ⟨⟨by decide +kernel, by decide +kernel⟩, List.mem_of_getElem? (i := 158) (by decide +kernel), List.mem_of_getElem? (i := 563) (by decide +kernel), List.mem_of_getElem? (i := 564) (by decide +kernel)⟩
theorem lw_p11 : lw_okq (⟨"MarkedSweeps$Nets", "meet", "(J)V"⟩, 8) := ⟨⟨by decide +kernel, by decide +kernel⟩, List.mem_of_getElem? (i := 158) (by decide +kernel), List.mem_of_getElem? (i := 571) (by decide +kernel), List.mem_of_getElem? (i := 572) (by decide +kernel)⟩
theorem lw_p12 : lw_okq (⟨"MarkedSweeps", "isNet", "(I)Z"⟩, 13) := ⟨⟨by decide +kernel, by decide +kernel⟩, List.mem_of_getElem? (i := 20) (by decide +kernel), List.mem_of_getElem? (i := 589) (by decide +kernel), List.mem_of_getElem? (i := 590) (by decide +kernel)⟩
theorem lw_p13 : lw_okq (⟨"MarkedSweeps", "longFinding", "(I)J"⟩, 13) := ⟨⟨by decide +kernel, by decide +kernel⟩, List.mem_of_getElem? (i := 20) (by decide +kernel), List.mem_of_getElem? (i := 593) (by decide +kernel), List.mem_of_getElem? (i := 594) (by decide +kernel)⟩
theorem lw_p14 : lw_okq (⟨"MarkedSweeps$FlipSearch", "meet", "(II)V"⟩, 3) := ⟨⟨by decide +kernel, by decide +kernel⟩, List.mem_of_getElem? (i := 194) (by decide +kernel), List.mem_of_getElem? (i := 669) (by decide +kernel), List.mem_of_getElem? (i := 670) (by decide +kernel)⟩
theorem lw_p15 : lw_okq (⟨"MarkedSweeps$FlipSearch", "meetAround", "(ILMarkedSweeps$Nets;LMarkedSweeps$Plane;)V"⟩, 3) := ⟨⟨by decide +kernel, by decide +kernel⟩, List.mem_of_getElem? (i := 194) (by decide +kernel), List.mem_of_getElem? (i := 673) (by decide +kernel), List.mem_of_getElem? (i := 674) (by decide +kernel)⟩
def lw_privs_1 : List (MethodName × Nat) := [(⟨"MarkedSweeps", "finding", "(I)I"⟩, 13), (⟨"MarkedSweeps$Board", "mustCross", "()Z"⟩, 8), (⟨"MarkedSweeps$Plane", "isOf", "(LMarkedSweeps$Board;)Z"⟩, 11), (⟨"MarkedSweeps$Plane", "findOrder", "()V"⟩, 11), (⟨"MarkedSweeps$Plane", "findSides", "(LMarkedSweeps$Board;)V"⟩, 11), (⟨"MarkedSweeps$Plane", "setLeftTurn", "(III)V"⟩, 11), (⟨"MarkedSweeps$Plane", "findCrossings", "(LMarkedSweeps$Board;)V"⟩, 11), (⟨"MarkedSweeps$Plane", "findHull", "()V"⟩, 11), (⟨"MarkedSweeps$Plane", "behindOnHull", "(I)I"⟩, 11), (⟨"MarkedSweeps", "followNets", "()V"⟩, 13), (⟨"MarkedSweeps$Nets", "findWhole", "(LMarkedSweeps$Plane;)V"⟩, 8), (⟨"MarkedSweeps$Nets", "meet", "(J)V"⟩, 8), (⟨"MarkedSweeps", "isNet", "(I)Z"⟩, 13), (⟨"MarkedSweeps", "longFinding", "(I)J"⟩, 13), (⟨"MarkedSweeps$FlipSearch", "meet", "(II)V"⟩, 3), (⟨"MarkedSweeps$FlipSearch", "meetAround", "(ILMarkedSweeps$Nets;LMarkedSweeps$Plane;)V"⟩, 3)]
theorem lw_r1 : ∀ q ∈ lw_privs_1, lw_okq q := List.forall_mem_cons.mpr ⟨lw_p0, List.forall_mem_cons.mpr ⟨lw_p1, List.forall_mem_cons.mpr ⟨lw_p2, List.forall_mem_cons.mpr ⟨lw_p3, List.forall_mem_cons.mpr ⟨lw_p4, List.forall_mem_cons.mpr ⟨lw_p5, List.forall_mem_cons.mpr ⟨lw_p6, List.forall_mem_cons.mpr ⟨lw_p7, List.forall_mem_cons.mpr ⟨lw_p8, List.forall_mem_cons.mpr ⟨lw_p9, List.forall_mem_cons.mpr ⟨lw_p10, List.forall_mem_cons.mpr ⟨lw_p11, List.forall_mem_cons.mpr ⟨lw_p12, List.forall_mem_cons.mpr ⟨lw_p13, List.forall_mem_cons.mpr ⟨lw_p14, List.forall_mem_cons.mpr ⟨lw_p15, fun _ h => absurd h List.not_mem_nil⟩⟩⟩⟩⟩⟩⟩⟩⟩⟩⟩⟩⟩⟩⟩⟩
theorem lw_p16 : lw_okq (⟨"MarkedSweeps$Sweep", "goOn", "(LMarkedSweeps$Plane;)Z"⟩, 6) := ⟨⟨by decide +kernel, by decide +kernel⟩, List.mem_of_getElem? (i := 210) (by decide +kernel), List.mem_of_getElem? (i := 691) (by decide +kernel), List.mem_of_getElem? (i := 692) (by decide +kernel)⟩
theorem lw_p17 : lw_okq (⟨"MarkedSweeps$Sweep", "isOn", "(ILMarkedSweeps$Plane;)Z"⟩, 6) := ⟨⟨by decide +kernel, by decide +kernel⟩, List.mem_of_getElem? (i := 210) (by decide +kernel), List.mem_of_getElem? (i := 695) (by decide +kernel), List.mem_of_getElem? (i := 696) (by decide +kernel)⟩
theorem lw_p18 : lw_okq (⟨"MarkedSweeps$Sweep", "comesBehind", "(ILMarkedSweeps$Plane;)Z"⟩, 6) := ⟨⟨by decide +kernel, by decide +kernel⟩, List.mem_of_getElem? (i := 210) (by decide +kernel), List.mem_of_getElem? (i := 699) (by decide +kernel), List.mem_of_getElem? (i := 700) (by decide +kernel)⟩
theorem lw_p19 : lw_okq (⟨"MarkedSweeps$Sweep", "nextOn", "(ILMarkedSweeps$Plane;)I"⟩, 6) := ⟨⟨by decide +kernel, by decide +kernel⟩, List.mem_of_getElem? (i := 210) (by decide +kernel), List.mem_of_getElem? (i := 703) (by decide +kernel), List.mem_of_getElem? (i := 704) (by decide +kernel)⟩
theorem lw_p20 : lw_okq (⟨"MarkedSweeps$Sweep", "isTriangle", "(IIILMarkedSweeps$Plane;)Z"⟩, 6) := ⟨⟨by decide +kernel, by decide +kernel⟩, List.mem_of_getElem? (i := 210) (by decide +kernel), List.mem_of_getElem? (i := 708) (by decide +kernel), List.mem_of_getElem? (i := 709) (by decide +kernel)⟩
theorem lw_p21 : lw_okq (⟨"MarkedSweeps$Sweep", "add", "(IIII)V"⟩, 6) := ⟨⟨by decide +kernel, by decide +kernel⟩, List.mem_of_getElem? (i := 210) (by decide +kernel), List.mem_of_getElem? (i := 718) (by decide +kernel), List.mem_of_getElem? (i := 719) (by decide +kernel)⟩
theorem lw_p22 : lw_okq (⟨"MarkedSweeps$Sweep", "goesBehind", "(ILMarkedSweeps$Plane;)Z"⟩, 6) := ⟨⟨by decide +kernel, by decide +kernel⟩, List.mem_of_getElem? (i := 210) (by decide +kernel), List.mem_of_getElem? (i := 722) (by decide +kernel), List.mem_of_getElem? (i := 723) (by decide +kernel)⟩
theorem lw_p23 : lw_okq (⟨"MarkedSweeps$Meter", "takeStep", "(II)V"⟩, 4) := ⟨⟨by decide +kernel, by decide +kernel⟩, List.mem_of_getElem? (i := 252) (by decide +kernel), List.mem_of_getElem? (i := 768) (by decide +kernel), List.mem_of_getElem? (i := 769) (by decide +kernel)⟩
theorem lw_p24 : lw_okq (⟨"MarkedSweeps$Meter", "plus", "(J)V"⟩, 4) := ⟨⟨by decide +kernel, by decide +kernel⟩, List.mem_of_getElem? (i := 252) (by decide +kernel), List.mem_of_getElem? (i := 772) (by decide +kernel), List.mem_of_getElem? (i := 773) (by decide +kernel)⟩
theorem lw_p25 : lw_okq (⟨"MarkedSweeps$Meter", "times", "(J)V"⟩, 4) := ⟨⟨by decide +kernel, by decide +kernel⟩, List.mem_of_getElem? (i := 252) (by decide +kernel), List.mem_of_getElem? (i := 776) (by decide +kernel), List.mem_of_getElem? (i := 777) (by decide +kernel)⟩
theorem lw_p26 : lw_okq (⟨"MarkedSweeps$Meter", "takenFrom", "(J)V"⟩, 4) := ⟨⟨by decide +kernel, by decide +kernel⟩, List.mem_of_getElem? (i := 252) (by decide +kernel), List.mem_of_getElem? (i := 788) (by decide +kernel), List.mem_of_getElem? (i := 789) (by decide +kernel)⟩
theorem lw_p27 : lw_okq (⟨"MarkedSweeps$Meter", "square", "()V"⟩, 4) := ⟨⟨by decide +kernel, by decide +kernel⟩, List.mem_of_getElem? (i := 252) (by decide +kernel), List.mem_of_getElem? (i := 792) (by decide +kernel), List.mem_of_getElem? (i := 793) (by decide +kernel)⟩
theorem lw_p28 : lw_okq (⟨"MarkedSweeps$Meter", "foldIn", "(JI)V"⟩, 4) := ⟨⟨by decide +kernel, by decide +kernel⟩, List.mem_of_getElem? (i := 252) (by decide +kernel), List.mem_of_getElem? (i := 836) (by decide +kernel), List.mem_of_getElem? (i := 837) (by decide +kernel)⟩
theorem lw_p29 : lw_okq (⟨"MarkedSweeps", "refusedPolygon", "(I)I"⟩, 13) := ⟨⟨by decide +kernel, by decide +kernel⟩, List.mem_of_getElem? (i := 20) (by decide +kernel), List.mem_of_getElem? (i := 853) (by decide +kernel), List.mem_of_getElem? (i := 854) (by decide +kernel)⟩
theorem lw_p30 : lw_okq (⟨"MarkedSweeps$Polygon", "readCorners", "(LMarkedSweeps$Sheet;LMarkedSweeps$Plane;)Z"⟩, 6) := ⟨⟨by decide +kernel, by decide +kernel⟩, List.mem_of_getElem? (i := 273) (by decide +kernel), List.mem_of_getElem? (i := 868) (by decide +kernel), List.mem_of_getElem? (i := 869) (by decide +kernel)⟩
theorem lw_p31 : lw_okq (⟨"MarkedSweeps$Polygon", "readSides", "(LMarkedSweeps$Plane;)Z"⟩, 6) := ⟨⟨by decide +kernel, by decide +kernel⟩, List.mem_of_getElem? (i := 273) (by decide +kernel), List.mem_of_getElem? (i := 872) (by decide +kernel), List.mem_of_getElem? (i := 873) (by decide +kernel)⟩
def lw_privs_2 : List (MethodName × Nat) := [(⟨"MarkedSweeps$Sweep", "goOn", "(LMarkedSweeps$Plane;)Z"⟩, 6), (⟨"MarkedSweeps$Sweep", "isOn", "(ILMarkedSweeps$Plane;)Z"⟩, 6), (⟨"MarkedSweeps$Sweep", "comesBehind", "(ILMarkedSweeps$Plane;)Z"⟩, 6), (⟨"MarkedSweeps$Sweep", "nextOn", "(ILMarkedSweeps$Plane;)I"⟩, 6), (⟨"MarkedSweeps$Sweep", "isTriangle", "(IIILMarkedSweeps$Plane;)Z"⟩, 6), (⟨"MarkedSweeps$Sweep", "add", "(IIII)V"⟩, 6), (⟨"MarkedSweeps$Sweep", "goesBehind", "(ILMarkedSweeps$Plane;)Z"⟩, 6), (⟨"MarkedSweeps$Meter", "takeStep", "(II)V"⟩, 4), (⟨"MarkedSweeps$Meter", "plus", "(J)V"⟩, 4), (⟨"MarkedSweeps$Meter", "times", "(J)V"⟩, 4), (⟨"MarkedSweeps$Meter", "takenFrom", "(J)V"⟩, 4), (⟨"MarkedSweeps$Meter", "square", "()V"⟩, 4), (⟨"MarkedSweeps$Meter", "foldIn", "(JI)V"⟩, 4), (⟨"MarkedSweeps", "refusedPolygon", "(I)I"⟩, 13), (⟨"MarkedSweeps$Polygon", "readCorners", "(LMarkedSweeps$Sheet;LMarkedSweeps$Plane;)Z"⟩, 6), (⟨"MarkedSweeps$Polygon", "readSides", "(LMarkedSweeps$Plane;)Z"⟩, 6)]
theorem lw_r2 : ∀ q ∈ lw_privs_2, lw_okq q := List.forall_mem_cons.mpr ⟨lw_p16, List.forall_mem_cons.mpr ⟨lw_p17, List.forall_mem_cons.mpr ⟨lw_p18, List.forall_mem_cons.mpr ⟨lw_p19, List.forall_mem_cons.mpr ⟨lw_p20, List.forall_mem_cons.mpr ⟨lw_p21, List.forall_mem_cons.mpr ⟨lw_p22, List.forall_mem_cons.mpr ⟨lw_p23, List.forall_mem_cons.mpr ⟨lw_p24, List.forall_mem_cons.mpr ⟨lw_p25, List.forall_mem_cons.mpr ⟨lw_p26, List.forall_mem_cons.mpr ⟨lw_p27, List.forall_mem_cons.mpr ⟨lw_p28, List.forall_mem_cons.mpr ⟨lw_p29, List.forall_mem_cons.mpr ⟨lw_p30, List.forall_mem_cons.mpr ⟨lw_p31, fun _ h => absurd h List.not_mem_nil⟩⟩⟩⟩⟩⟩⟩⟩⟩⟩⟩⟩⟩⟩⟩⟩
theorem lw_p32 : lw_okq (⟨"MarkedSweeps$Polygon", "behind", "(I)I"⟩, 6) := ⟨⟨by decide +kernel, by decide +kernel⟩, List.mem_of_getElem? (i := 273) (by decide +kernel), List.mem_of_getElem? (i := 876) (by decide +kernel), List.mem_of_getElem? (i := 877) (by decide +kernel)⟩
theorem lw_p33 : lw_okq (⟨"MarkedSweeps$Polygon", "signedArea", "(LMarkedSweeps$Plane;)I"⟩, 6) := ⟨⟨by decide +kernel, by decide +kernel⟩, List.mem_of_getElem? (i := 273) (by decide +kernel), List.mem_of_getElem? (i := 881) (by decide +kernel), List.mem_of_getElem? (i := 882) (by decide +kernel)⟩
theorem lw_p34 : lw_okq (⟨"MarkedSweeps$Polygon", "turnRound", "()V"⟩, 6) := ⟨⟨by decide +kernel, by decide +kernel⟩, List.mem_of_getElem? (i := 273) (by decide +kernel), List.mem_of_getElem? (i := 885) (by decide +kernel), List.mem_of_getElem? (i := 886) (by decide +kernel)⟩
theorem lw_p35 : lw_okq (⟨"MarkedSweeps$Polygon", "splitsBetween", "(IILMarkedSweeps$Plane;)I"⟩, 6) := ⟨⟨by decide +kernel, by decide +kernel⟩, List.mem_of_getElem? (i := 273) (by decide +kernel), List.mem_of_getElem? (i := 893) (by decide +kernel), List.mem_of_getElem? (i := 894) (by decide +kernel)⟩
theorem lw_p36 : lw_okq (⟨"MarkedSweeps$Polygon", "isJoined", "(IILMarkedSweeps$Plane;)Z"⟩, 6) := ⟨⟨by decide +kernel, by decide +kernel⟩, List.mem_of_getElem? (i := 273) (by decide +kernel), List.mem_of_getElem? (i := 897) (by decide +kernel), List.mem_of_getElem? (i := 898) (by decide +kernel)⟩
theorem lw_p37 : lw_okq (⟨"MarkedSweeps$Polygon", "leavesInward", "(IILMarkedSweeps$Plane;)Z"⟩, 6) := ⟨⟨by decide +kernel, by decide +kernel⟩, List.mem_of_getElem? (i := 273) (by decide +kernel), List.mem_of_getElem? (i := 902) (by decide +kernel), List.mem_of_getElem? (i := 903) (by decide +kernel)⟩
theorem lw_p38 : lw_okq (⟨"MarkedSweeps$Polygon", "ahead", "(I)I"⟩, 6) := ⟨⟨by decide +kernel, by decide +kernel⟩, List.mem_of_getElem? (i := 273) (by decide +kernel), List.mem_of_getElem? (i := 906) (by decide +kernel), List.mem_of_getElem? (i := 907) (by decide +kernel)⟩
theorem lw_p39 : lw_okq (⟨"MarkedSweeps$Polygon", "isInside", "(ILMarkedSweeps$Plane;)Z"⟩, 6) := ⟨⟨by decide +kernel, by decide +kernel⟩, List.mem_of_getElem? (i := 273) (by decide +kernel), List.mem_of_getElem? (i := 923) (by decide +kernel), List.mem_of_getElem? (i := 924) (by decide +kernel)⟩
theorem lw_p40 : lw_okq (⟨"MarkedSweeps", "refusedNumber", "(II)I"⟩, 13) := ⟨⟨by decide +kernel, by decide +kernel⟩, List.mem_of_getElem? (i := 20) (by decide +kernel), List.mem_of_getElem? (i := 985) (by decide +kernel), List.mem_of_getElem? (i := 986) (by decide +kernel)⟩
theorem lw_p41 : lw_okq (⟨"MarkedSweepsModel", "finds", "(I)I"⟩, 30) := ⟨⟨by decide +kernel, by decide +kernel⟩, List.mem_of_getElem? (i := 1026) (by decide +kernel), List.mem_of_getElem? (i := 1139) (by decide +kernel), List.mem_of_getElem? (i := 1140) (by decide +kernel)⟩
theorem lw_p42 : lw_okq (⟨"MarkedSweepsModel", "points", "()I"⟩, 30) := ⟨⟨by decide +kernel, by decide +kernel⟩, List.mem_of_getElem? (i := 1026) (by decide +kernel), List.mem_of_getElem? (i := 1144) (by decide +kernel), List.mem_of_getElem? (i := 1145) (by decide +kernel)⟩
theorem lw_p43 : lw_okq (⟨"MarkedSweepsModel", "laysAside", "()V"⟩, 30) := ⟨⟨by decide +kernel, by decide +kernel⟩, List.mem_of_getElem? (i := 1026) (by decide +kernel), List.mem_of_getElem? (i := 1148) (by decide +kernel), List.mem_of_getElem? (i := 1149) (by decide +kernel)⟩
theorem lw_p44 : lw_okq (⟨"MarkedSweepsModel", "isFree", "(I)Z"⟩, 30) := ⟨⟨by decide +kernel, by decide +kernel⟩, List.mem_of_getElem? (i := 1026) (by decide +kernel), List.mem_of_getElem? (i := 1152) (by decide +kernel), List.mem_of_getElem? (i := 1153) (by decide +kernel)⟩
theorem lw_p45 : lw_okq (⟨"MarkedSweepsModel", "x", "(I)I"⟩, 30) := ⟨⟨by decide +kernel, by decide +kernel⟩, List.mem_of_getElem? (i := 1026) (by decide +kernel), List.mem_of_getElem? (i := 1156) (by decide +kernel), List.mem_of_getElem? (i := 1157) (by decide +kernel)⟩
theorem lw_p46 : lw_okq (⟨"MarkedSweepsModel", "y", "(I)I"⟩, 30) := ⟨⟨by decide +kernel, by decide +kernel⟩, List.mem_of_getElem? (i := 1026) (by decide +kernel), List.mem_of_getElem? (i := 1160) (by decide +kernel), List.mem_of_getElem? (i := 1161) (by decide +kernel)⟩
theorem lw_p47 : lw_okq (⟨"MarkedSweepsModel", "laysBack", "()V"⟩, 30) := ⟨⟨by decide +kernel, by decide +kernel⟩, List.mem_of_getElem? (i := 1026) (by decide +kernel), List.mem_of_getElem? (i := 1167) (by decide +kernel), List.mem_of_getElem? (i := 1168) (by decide +kernel)⟩
def lw_privs_3 : List (MethodName × Nat) := [(⟨"MarkedSweeps$Polygon", "behind", "(I)I"⟩, 6), (⟨"MarkedSweeps$Polygon", "signedArea", "(LMarkedSweeps$Plane;)I"⟩, 6), (⟨"MarkedSweeps$Polygon", "turnRound", "()V"⟩, 6), (⟨"MarkedSweeps$Polygon", "splitsBetween", "(IILMarkedSweeps$Plane;)I"⟩, 6), (⟨"MarkedSweeps$Polygon", "isJoined", "(IILMarkedSweeps$Plane;)Z"⟩, 6), (⟨"MarkedSweeps$Polygon", "leavesInward", "(IILMarkedSweeps$Plane;)Z"⟩, 6), (⟨"MarkedSweeps$Polygon", "ahead", "(I)I"⟩, 6), (⟨"MarkedSweeps$Polygon", "isInside", "(ILMarkedSweeps$Plane;)Z"⟩, 6), (⟨"MarkedSweeps", "refusedNumber", "(II)I"⟩, 13), (⟨"MarkedSweepsModel", "finds", "(I)I"⟩, 30), (⟨"MarkedSweepsModel", "points", "()I"⟩, 30), (⟨"MarkedSweepsModel", "laysAside", "()V"⟩, 30), (⟨"MarkedSweepsModel", "isFree", "(I)Z"⟩, 30), (⟨"MarkedSweepsModel", "x", "(I)I"⟩, 30), (⟨"MarkedSweepsModel", "y", "(I)I"⟩, 30), (⟨"MarkedSweepsModel", "laysBack", "()V"⟩, 30)]
theorem lw_r3 : ∀ q ∈ lw_privs_3, lw_okq q := List.forall_mem_cons.mpr ⟨lw_p32, List.forall_mem_cons.mpr ⟨lw_p33, List.forall_mem_cons.mpr ⟨lw_p34, List.forall_mem_cons.mpr ⟨lw_p35, List.forall_mem_cons.mpr ⟨lw_p36, List.forall_mem_cons.mpr ⟨lw_p37, List.forall_mem_cons.mpr ⟨lw_p38, List.forall_mem_cons.mpr ⟨lw_p39, List.forall_mem_cons.mpr ⟨lw_p40, List.forall_mem_cons.mpr ⟨lw_p41, List.forall_mem_cons.mpr ⟨lw_p42, List.forall_mem_cons.mpr ⟨lw_p43, List.forall_mem_cons.mpr ⟨lw_p44, List.forall_mem_cons.mpr ⟨lw_p45, List.forall_mem_cons.mpr ⟨lw_p46, List.forall_mem_cons.mpr ⟨lw_p47, fun _ h => absurd h List.not_mem_nil⟩⟩⟩⟩⟩⟩⟩⟩⟩⟩⟩⟩⟩⟩⟩⟩
theorem lw_p48 : lw_okq (⟨"MarkedSweepsModel", "changes", "()V"⟩, 30) := ⟨⟨by decide +kernel, by decide +kernel⟩, List.mem_of_getElem? (i := 1026) (by decide +kernel), List.mem_of_getElem? (i := 1171) (by decide +kernel), List.mem_of_getElem? (i := 1172) (by decide +kernel)⟩
theorem lw_p49 : lw_okq (⟨"MarkedSweepsModel", "isPoint", "(J)Z"⟩, 30) := ⟨⟨by decide +kernel, by decide +kernel⟩, List.mem_of_getElem? (i := 1026) (by decide +kernel), List.mem_of_getElem? (i := 1188) (by decide +kernel), List.mem_of_getElem? (i := 1189) (by decide +kernel)⟩
theorem lw_p50 : lw_okq (⟨"MarkedSweepsModel", "doMustsCross", "()Z"⟩, 30) := ⟨⟨by decide +kernel, by decide +kernel⟩, List.mem_of_getElem? (i := 1026) (by decide +kernel), List.mem_of_getElem? (i := 1192) (by decide +kernel), List.mem_of_getElem? (i := 1193) (by decide +kernel)⟩
theorem lw_p51 : lw_okq (⟨"MarkedSweepsModel", "doCross", "(IIII)Z"⟩, 30) := ⟨⟨by decide +kernel, by decide +kernel⟩, List.mem_of_getElem? (i := 1026) (by decide +kernel), List.mem_of_getElem? (i := 1196) (by decide +kernel), List.mem_of_getElem? (i := 1197) (by decide +kernel)⟩
theorem lw_p52 : lw_okq (⟨"MarkedSweepsModel", "turnOf", "(III)I"⟩, 30) := ⟨⟨by decide +kernel, by decide +kernel⟩, List.mem_of_getElem? (i := 1026) (by decide +kernel), List.mem_of_getElem? (i := 1200) (by decide +kernel), List.mem_of_getElem? (i := 1201) (by decide +kernel)⟩
theorem lw_p53 : lw_okq (⟨"MarkedSweepsModel", "isAhead", "(II)Z"⟩, 30) := ⟨⟨by decide +kernel, by decide +kernel⟩, List.mem_of_getElem? (i := 1026) (by decide +kernel), List.mem_of_getElem? (i := 1209) (by decide +kernel), List.mem_of_getElem? (i := 1210) (by decide +kernel)⟩
theorem lw_p54 : lw_okq (⟨"MarkedSweepsModel", "isOfHull", "(I)Z"⟩, 30) := ⟨⟨by decide +kernel, by decide +kernel⟩, List.mem_of_getElem? (i := 1026) (by decide +kernel), List.mem_of_getElem? (i := 1213) (by decide +kernel), List.mem_of_getElem? (i := 1214) (by decide +kernel)⟩
theorem lw_p55 : lw_okq (⟨"MarkedSweepsModel", "isWithin", "(IIII)Z"⟩, 30) := ⟨⟨by decide +kernel, by decide +kernel⟩, List.mem_of_getElem? (i := 1026) (by decide +kernel), List.mem_of_getElem? (i := 1217) (by decide +kernel), List.mem_of_getElem? (i := 1218) (by decide +kernel)⟩
theorem lw_p56 : lw_okq (⟨"MarkedSweepsModel", "areTwo", "(II)Z"⟩, 30) := ⟨⟨by decide +kernel, by decide +kernel⟩, List.mem_of_getElem? (i := 1026) (by decide +kernel), List.mem_of_getElem? (i := 1225) (by decide +kernel), List.mem_of_getElem? (i := 1226) (by decide +kernel)⟩
theorem lw_p57 : lw_okq (⟨"MarkedSweepsModel", "findsHull", "()V"⟩, 30) := ⟨⟨by decide +kernel, by decide +kernel⟩, List.mem_of_getElem? (i := 1026) (by decide +kernel), List.mem_of_getElem? (i := 1246) (by decide +kernel), List.mem_of_getElem? (i := 1247) (by decide +kernel)⟩
theorem lw_p58 : lw_okq (⟨"MarkedSweepsModel", "first", "()I"⟩, 30) := ⟨⟨by decide +kernel, by decide +kernel⟩, List.mem_of_getElem? (i := 1026) (by decide +kernel), List.mem_of_getElem? (i := 1250) (by decide +kernel), List.mem_of_getElem? (i := 1251) (by decide +kernel)⟩
theorem lw_p59 : lw_okq (⟨"MarkedSweepsModel", "behind", "(I)I"⟩, 30) := ⟨⟨by decide +kernel, by decide +kernel⟩, List.mem_of_getElem? (i := 1026) (by decide +kernel), List.mem_of_getElem? (i := 1254) (by decide +kernel), List.mem_of_getElem? (i := 1255) (by decide +kernel)⟩
theorem lw_p60 : lw_okq (⟨"MarkedSweepsModel", "listsNets", "()V"⟩, 30) := ⟨⟨by decide +kernel, by decide +kernel⟩, List.mem_of_getElem? (i := 1026) (by decide +kernel), List.mem_of_getElem? (i := 1262) (by decide +kernel), List.mem_of_getElem? (i := 1263) (by decide +kernel)⟩
theorem lw_p61 : lw_okq (⟨"MarkedSweepsModel", "readsCrossings", "()V"⟩, 30) := ⟨⟨by decide +kernel, by decide +kernel⟩, List.mem_of_getElem? (i := 1026) (by decide +kernel), List.mem_of_getElem? (i := 1266) (by decide +kernel), List.mem_of_getElem? (i := 1267) (by decide +kernel)⟩
theorem lw_p62 : lw_okq (⟨"MarkedSweepsModel", "lists", "(JI)V"⟩, 30) := ⟨⟨by decide +kernel, by decide +kernel⟩, List.mem_of_getElem? (i := 1026) (by decide +kernel), List.mem_of_getElem? (i := 1270) (by decide +kernel), List.mem_of_getElem? (i := 1271) (by decide +kernel)⟩
theorem lw_p63 : lw_okq (⟨"MarkedSweepsModel", "mayEnd", "(JI)Z"⟩, 30) := ⟨⟨by decide +kernel, by decide +kernel⟩, List.mem_of_getElem? (i := 1026) (by decide +kernel), List.mem_of_getElem? (i := 1274) (by decide +kernel), List.mem_of_getElem? (i := 1275) (by decide +kernel)⟩
def lw_privs_4 : List (MethodName × Nat) := [(⟨"MarkedSweepsModel", "changes", "()V"⟩, 30), (⟨"MarkedSweepsModel", "isPoint", "(J)Z"⟩, 30), (⟨"MarkedSweepsModel", "doMustsCross", "()Z"⟩, 30), (⟨"MarkedSweepsModel", "doCross", "(IIII)Z"⟩, 30), (⟨"MarkedSweepsModel", "turnOf", "(III)I"⟩, 30), (⟨"MarkedSweepsModel", "isAhead", "(II)Z"⟩, 30), (⟨"MarkedSweepsModel", "isOfHull", "(I)Z"⟩, 30), (⟨"MarkedSweepsModel", "isWithin", "(IIII)Z"⟩, 30), (⟨"MarkedSweepsModel", "areTwo", "(II)Z"⟩, 30), (⟨"MarkedSweepsModel", "findsHull", "()V"⟩, 30), (⟨"MarkedSweepsModel", "first", "()I"⟩, 30), (⟨"MarkedSweepsModel", "behind", "(I)I"⟩, 30), (⟨"MarkedSweepsModel", "listsNets", "()V"⟩, 30), (⟨"MarkedSweepsModel", "readsCrossings", "()V"⟩, 30), (⟨"MarkedSweepsModel", "lists", "(JI)V"⟩, 30), (⟨"MarkedSweepsModel", "mayEnd", "(JI)Z"⟩, 30)]
theorem lw_r4 : ∀ q ∈ lw_privs_4, lw_okq q := List.forall_mem_cons.mpr ⟨lw_p48, List.forall_mem_cons.mpr ⟨lw_p49, List.forall_mem_cons.mpr ⟨lw_p50, List.forall_mem_cons.mpr ⟨lw_p51, List.forall_mem_cons.mpr ⟨lw_p52, List.forall_mem_cons.mpr ⟨lw_p53, List.forall_mem_cons.mpr ⟨lw_p54, List.forall_mem_cons.mpr ⟨lw_p55, List.forall_mem_cons.mpr ⟨lw_p56, List.forall_mem_cons.mpr ⟨lw_p57, List.forall_mem_cons.mpr ⟨lw_p58, List.forall_mem_cons.mpr ⟨lw_p59, List.forall_mem_cons.mpr ⟨lw_p60, List.forall_mem_cons.mpr ⟨lw_p61, List.forall_mem_cons.mpr ⟨lw_p62, List.forall_mem_cons.mpr ⟨lw_p63, fun _ h => absurd h List.not_mem_nil⟩⟩⟩⟩⟩⟩⟩⟩⟩⟩⟩⟩⟩⟩⟩⟩
theorem lw_p64 : lw_okq (⟨"MarkedSweepsModel", "isNet", "(I)Z"⟩, 30) := ⟨⟨by decide +kernel, by decide +kernel⟩, List.mem_of_getElem? (i := 1026) (by decide +kernel), List.mem_of_getElem? (i := 1286) (by decide +kernel), List.mem_of_getElem? (i := 1287) (by decide +kernel)⟩
theorem lw_p65 : lw_okq (⟨"MarkedSweepsModel", "findsLong", "(I)J"⟩, 30) := ⟨⟨by decide +kernel, by decide +kernel⟩, List.mem_of_getElem? (i := 1026) (by decide +kernel), List.mem_of_getElem? (i := 1290) (by decide +kernel), List.mem_of_getElem? (i := 1291) (by decide +kernel)⟩
theorem lw_p66 : lw_okq (⟨"MarkedSweepsModel", "numberOf", "(J)I"⟩, 30) := ⟨⟨by decide +kernel, by decide +kernel⟩, List.mem_of_getElem? (i := 1026) (by decide +kernel), List.mem_of_getElem? (i := 1299) (by decide +kernel), List.mem_of_getElem? (i := 1300) (by decide +kernel)⟩
theorem lw_p67 : lw_okq (⟨"MarkedSweepsModel", "drawn", "()I"⟩, 30) := ⟨⟨by decide +kernel, by decide +kernel⟩, List.mem_of_getElem? (i := 1026) (by decide +kernel), List.mem_of_getElem? (i := 1315) (by decide +kernel), List.mem_of_getElem? (i := 1316) (by decide +kernel)⟩
theorem lw_p68 : lw_okq (⟨"MarkedSweepsModel", "isTriangle", "(JIII)Z"⟩, 30) := ⟨⟨by decide +kernel, by decide +kernel⟩, List.mem_of_getElem? (i := 1026) (by decide +kernel), List.mem_of_getElem? (i := 1324) (by decide +kernel), List.mem_of_getElem? (i := 1325) (by decide +kernel)⟩
theorem lw_p69 : lw_okq (⟨"MarkedSweepsModel", "flipped", "(III)I"⟩, 30) := ⟨⟨by decide +kernel, by decide +kernel⟩, List.mem_of_getElem? (i := 1026) (by decide +kernel), List.mem_of_getElem? (i := 1332) (by decide +kernel), List.mem_of_getElem? (i := 1333) (by decide +kernel)⟩
theorem lw_p70 : lw_okq (⟨"MarkedSweepsModel", "sweeps", "(II)Z"⟩, 30) := ⟨⟨by decide +kernel, by decide +kernel⟩, List.mem_of_getElem? (i := 1026) (by decide +kernel), List.mem_of_getElem? (i := 1348) (by decide +kernel), List.mem_of_getElem? (i := 1349) (by decide +kernel)⟩
theorem lw_p71 : lw_okq (⟨"MarkedSweepsModel", "firstPath", "()I"⟩, 30) := ⟨⟨by decide +kernel, by decide +kernel⟩, List.mem_of_getElem? (i := 1026) (by decide +kernel), List.mem_of_getElem? (i := 1352) (by decide +kernel), List.mem_of_getElem? (i := 1353) (by decide +kernel)⟩
theorem lw_p72 : lw_okq (⟨"MarkedSweepsModel", "last", "()I"⟩, 30) := ⟨⟨by decide +kernel, by decide +kernel⟩, List.mem_of_getElem? (i := 1026) (by decide +kernel), List.mem_of_getElem? (i := 1356) (by decide +kernel), List.mem_of_getElem? (i := 1357) (by decide +kernel)⟩
theorem lw_p73 : lw_okq (⟨"MarkedSweepsModel", "advances", "(J)Z"⟩, 30) := ⟨⟨by decide +kernel, by decide +kernel⟩, List.mem_of_getElem? (i := 1026) (by decide +kernel), List.mem_of_getElem? (i := 1360) (by decide +kernel), List.mem_of_getElem? (i := 1361) (by decide +kernel)⟩
theorem lw_p74 : lw_okq (⟨"MarkedSweepsModel", "advances", "(JI)Z"⟩, 30) := ⟨⟨by decide +kernel, by decide +kernel⟩, List.mem_of_getElem? (i := 1026) (by decide +kernel), List.mem_of_getElem? (i := 1364) (by decide +kernel), List.mem_of_getElem? (i := 1365) (by decide +kernel)⟩
theorem lw_p75 : lw_okq (⟨"MarkedSweepsModel", "nextOn", "(I)I"⟩, 30) := ⟨⟨by decide +kernel, by decide +kernel⟩, List.mem_of_getElem? (i := 1026) (by decide +kernel), List.mem_of_getElem? (i := 1368) (by decide +kernel), List.mem_of_getElem? (i := 1369) (by decide +kernel)⟩
theorem lw_p76 : lw_okq (⟨"MarkedSweepsModel", "chained", "(J)J"⟩, 30) := ⟨⟨by decide +kernel, by decide +kernel⟩, List.mem_of_getElem? (i := 1026) (by decide +kernel), List.mem_of_getElem? (i := 1398) (by decide +kernel), List.mem_of_getElem? (i := 1399) (by decide +kernel)⟩
theorem lw_p77 : lw_okq (⟨"MarkedSweepsModel", "byStep", "(JI)J"⟩, 30) := ⟨⟨by decide +kernel, by decide +kernel⟩, List.mem_of_getElem? (i := 1026) (by decide +kernel), List.mem_of_getElem? (i := 1402) (by decide +kernel), List.mem_of_getElem? (i := 1403) (by decide +kernel)⟩
theorem lw_p78 : lw_okq (⟨"MarkedSweepsModel", "plus", "(JJ)J"⟩, 30) := ⟨⟨by decide +kernel, by decide +kernel⟩, List.mem_of_getElem? (i := 1026) (by decide +kernel), List.mem_of_getElem? (i := 1406) (by decide +kernel), List.mem_of_getElem? (i := 1407) (by decide +kernel)⟩
theorem lw_p79 : lw_okq (⟨"MarkedSweepsModel", "times", "(JJ)J"⟩, 30) := ⟨⟨by decide +kernel, by decide +kernel⟩, List.mem_of_getElem? (i := 1026) (by decide +kernel), List.mem_of_getElem? (i := 1410) (by decide +kernel), List.mem_of_getElem? (i := 1411) (by decide +kernel)⟩
def lw_privs_5 : List (MethodName × Nat) := [(⟨"MarkedSweepsModel", "isNet", "(I)Z"⟩, 30), (⟨"MarkedSweepsModel", "findsLong", "(I)J"⟩, 30), (⟨"MarkedSweepsModel", "numberOf", "(J)I"⟩, 30), (⟨"MarkedSweepsModel", "drawn", "()I"⟩, 30), (⟨"MarkedSweepsModel", "isTriangle", "(JIII)Z"⟩, 30), (⟨"MarkedSweepsModel", "flipped", "(III)I"⟩, 30), (⟨"MarkedSweepsModel", "sweeps", "(II)Z"⟩, 30), (⟨"MarkedSweepsModel", "firstPath", "()I"⟩, 30), (⟨"MarkedSweepsModel", "last", "()I"⟩, 30), (⟨"MarkedSweepsModel", "advances", "(J)Z"⟩, 30), (⟨"MarkedSweepsModel", "advances", "(JI)Z"⟩, 30), (⟨"MarkedSweepsModel", "nextOn", "(I)I"⟩, 30), (⟨"MarkedSweepsModel", "chained", "(J)J"⟩, 30), (⟨"MarkedSweepsModel", "byStep", "(JI)J"⟩, 30), (⟨"MarkedSweepsModel", "plus", "(JJ)J"⟩, 30), (⟨"MarkedSweepsModel", "times", "(JJ)J"⟩, 30)]
theorem lw_r5 : ∀ q ∈ lw_privs_5, lw_okq q := List.forall_mem_cons.mpr ⟨lw_p64, List.forall_mem_cons.mpr ⟨lw_p65, List.forall_mem_cons.mpr ⟨lw_p66, List.forall_mem_cons.mpr ⟨lw_p67, List.forall_mem_cons.mpr ⟨lw_p68, List.forall_mem_cons.mpr ⟨lw_p69, List.forall_mem_cons.mpr ⟨lw_p70, List.forall_mem_cons.mpr ⟨lw_p71, List.forall_mem_cons.mpr ⟨lw_p72, List.forall_mem_cons.mpr ⟨lw_p73, List.forall_mem_cons.mpr ⟨lw_p74, List.forall_mem_cons.mpr ⟨lw_p75, List.forall_mem_cons.mpr ⟨lw_p76, List.forall_mem_cons.mpr ⟨lw_p77, List.forall_mem_cons.mpr ⟨lw_p78, List.forall_mem_cons.mpr ⟨lw_p79, fun _ h => absurd h List.not_mem_nil⟩⟩⟩⟩⟩⟩⟩⟩⟩⟩⟩⟩⟩⟩⟩⟩
theorem lw_p80 : lw_okq (⟨"MarkedSweepsModel", "minus", "(JJ)J"⟩, 30) := ⟨⟨by decide +kernel, by decide +kernel⟩, List.mem_of_getElem? (i := 1026) (by decide +kernel), List.mem_of_getElem? (i := 1417) (by decide +kernel), List.mem_of_getElem? (i := 1418) (by decide +kernel)⟩
theorem lw_p81 : lw_okq (⟨"MarkedSweepsModel", "byRule", "(III)J"⟩, 30) := ⟨⟨by decide +kernel, by decide +kernel⟩, List.mem_of_getElem? (i := 1026) (by decide +kernel), List.mem_of_getElem? (i := 1425) (by decide +kernel), List.mem_of_getElem? (i := 1426) (by decide +kernel)⟩
theorem lw_p82 : lw_okq (⟨"MarkedSweepsModel", "folded", "(JII)J"⟩, 30) := ⟨⟨by decide +kernel, by decide +kernel⟩, List.mem_of_getElem? (i := 1026) (by decide +kernel), List.mem_of_getElem? (i := 1434) (by decide +kernel), List.mem_of_getElem? (i := 1435) (by decide +kernel)⟩
theorem lw_p83 : lw_okq (⟨"MarkedSweepsModel", "whyNot", "(I)I"⟩, 30) := ⟨⟨by decide +kernel, by decide +kernel⟩, List.mem_of_getElem? (i := 1026) (by decide +kernel), List.mem_of_getElem? (i := 1446) (by decide +kernel), List.mem_of_getElem? (i := 1447) (by decide +kernel)⟩
theorem lw_p84 : lw_okq (⟨"MarkedSweepsModel", "isPolygon", "(I)Z"⟩, 30) := ⟨⟨by decide +kernel, by decide +kernel⟩, List.mem_of_getElem? (i := 1026) (by decide +kernel), List.mem_of_getElem? (i := 1453) (by decide +kernel), List.mem_of_getElem? (i := 1454) (by decide +kernel)⟩
theorem lw_p85 : lw_okq (⟨"MarkedSweepsModel", "isCorner", "(I)Z"⟩, 30) := ⟨⟨by decide +kernel, by decide +kernel⟩, List.mem_of_getElem? (i := 1026) (by decide +kernel), List.mem_of_getElem? (i := 1458) (by decide +kernel), List.mem_of_getElem? (i := 1459) (by decide +kernel)⟩
theorem lw_p86 : lw_okq (⟨"MarkedSweepsModel", "cornerAt", "(I)I"⟩, 30) := ⟨⟨by decide +kernel, by decide +kernel⟩, List.mem_of_getElem? (i := 1026) (by decide +kernel), List.mem_of_getElem? (i := 1462) (by decide +kernel), List.mem_of_getElem? (i := 1463) (by decide +kernel)⟩
theorem lw_p87 : lw_okq (⟨"MarkedSweepsModel", "runsInside", "(II)Z"⟩, 30) := ⟨⟨by decide +kernel, by decide +kernel⟩, List.mem_of_getElem? (i := 1026) (by decide +kernel), List.mem_of_getElem? (i := 1466) (by decide +kernel), List.mem_of_getElem? (i := 1467) (by decide +kernel)⟩
theorem lw_p88 : lw_okq (⟨"MarkedSweepsModel", "isSide", "(II)Z"⟩, 30) := ⟨⟨by decide +kernel, by decide +kernel⟩, List.mem_of_getElem? (i := 1026) (by decide +kernel), List.mem_of_getElem? (i := 1470) (by decide +kernel), List.mem_of_getElem? (i := 1471) (by decide +kernel)⟩
theorem lw_p89 : lw_okq (⟨"MarkedSweepsModel", "isInside", "(II)Z"⟩, 30) := ⟨⟨by decide +kernel, by decide +kernel⟩, List.mem_of_getElem? (i := 1026) (by decide +kernel), List.mem_of_getElem? (i := 1474) (by decide +kernel), List.mem_of_getElem? (i := 1475) (by decide +kernel)⟩
theorem lw_p90 : lw_okq (⟨"MarkedSweepsModel", "isEmpty", "(I)Z"⟩, 30) := ⟨⟨by decide +kernel, by decide +kernel⟩, List.mem_of_getElem? (i := 1026) (by decide +kernel), List.mem_of_getElem? (i := 1491) (by decide +kernel), List.mem_of_getElem? (i := 1492) (by decide +kernel)⟩
theorem lw_p91 : lw_okq (⟨"MarkedSweepsModel", "isRow", "(II)Z"⟩, 30) := ⟨⟨by decide +kernel, by decide +kernel⟩, List.mem_of_getElem? (i := 1026) (by decide +kernel), List.mem_of_getElem? (i := 1503) (by decide +kernel), List.mem_of_getElem? (i := 1504) (by decide +kernel)⟩
theorem lw_p92 : lw_okq (⟨"MarkedSweepsModel", "whyNot", "(II)I"⟩, 30) := ⟨⟨by decide +kernel, by decide +kernel⟩, List.mem_of_getElem? (i := 1026) (by decide +kernel), List.mem_of_getElem? (i := 1523) (by decide +kernel), List.mem_of_getElem? (i := 1524) (by decide +kernel)⟩
theorem lw_p93 : lw_okq (⟨"MarkedSweepsModel", "marked", "(I)I"⟩, 30) := ⟨⟨by decide +kernel, by decide +kernel⟩, List.mem_of_getElem? (i := 1026) (by decide +kernel), List.mem_of_getElem? (i := 1547) (by decide +kernel), List.mem_of_getElem? (i := 1548) (by decide +kernel)⟩
def lw_privs_6 : List (MethodName × Nat) := [(⟨"MarkedSweepsModel", "minus", "(JJ)J"⟩, 30), (⟨"MarkedSweepsModel", "byRule", "(III)J"⟩, 30), (⟨"MarkedSweepsModel", "folded", "(JII)J"⟩, 30), (⟨"MarkedSweepsModel", "whyNot", "(I)I"⟩, 30), (⟨"MarkedSweepsModel", "isPolygon", "(I)Z"⟩, 30), (⟨"MarkedSweepsModel", "isCorner", "(I)Z"⟩, 30), (⟨"MarkedSweepsModel", "cornerAt", "(I)I"⟩, 30), (⟨"MarkedSweepsModel", "runsInside", "(II)Z"⟩, 30), (⟨"MarkedSweepsModel", "isSide", "(II)Z"⟩, 30), (⟨"MarkedSweepsModel", "isInside", "(II)Z"⟩, 30), (⟨"MarkedSweepsModel", "isEmpty", "(I)Z"⟩, 30), (⟨"MarkedSweepsModel", "isRow", "(II)Z"⟩, 30), (⟨"MarkedSweepsModel", "whyNot", "(II)I"⟩, 30), (⟨"MarkedSweepsModel", "marked", "(I)I"⟩, 30)]
theorem lw_r6 : ∀ q ∈ lw_privs_6, lw_okq q := List.forall_mem_cons.mpr ⟨lw_p80, List.forall_mem_cons.mpr ⟨lw_p81, List.forall_mem_cons.mpr ⟨lw_p82, List.forall_mem_cons.mpr ⟨lw_p83, List.forall_mem_cons.mpr ⟨lw_p84, List.forall_mem_cons.mpr ⟨lw_p85, List.forall_mem_cons.mpr ⟨lw_p86, List.forall_mem_cons.mpr ⟨lw_p87, List.forall_mem_cons.mpr ⟨lw_p88, List.forall_mem_cons.mpr ⟨lw_p89, List.forall_mem_cons.mpr ⟨lw_p90, List.forall_mem_cons.mpr ⟨lw_p91, List.forall_mem_cons.mpr ⟨lw_p92, List.forall_mem_cons.mpr ⟨lw_p93, fun _ h => absurd h List.not_mem_nil⟩⟩⟩⟩⟩⟩⟩⟩⟩⟩⟩⟩⟩⟩
def lw_privs : List (MethodName × Nat) := lw_privs_1 ++ (lw_privs_2 ++ (lw_privs_3 ++ (lw_privs_4 ++ (lw_privs_5 ++ (lw_privs_6)))))
def lw_tbl : List Cond := k2_sels lw_privs ++ tables_1
theorem lw_privs_ok : ∀ q ∈ lw_privs, lw_okq q := by
  show ∀ q ∈ lw_privs_1 ++ (lw_privs_2 ++ (lw_privs_3 ++ (lw_privs_4 ++ (lw_privs_5 ++ (lw_privs_6))))), lw_okq q
  exact List.forall_mem_append.mpr ⟨lw_r1, List.forall_mem_append.mpr ⟨lw_r2, List.forall_mem_append.mpr ⟨lw_r3, List.forall_mem_append.mpr ⟨lw_r4, List.forall_mem_append.mpr ⟨lw_r5, lw_r6⟩⟩⟩⟩⟩

def RX0 : String := "MarkedSweeps$Board"
def TX0 : u_T := fun k => match k with
  | 0 => ("MarkedSweeps$Board", "x", "[I", true)
  | 1 => ("MarkedSweeps$Board", "y", "[I", true)
  | 2 => ("MarkedSweeps$Board", "stepSorts", "[I", true)
  | 3 => ("MarkedSweeps$Board", "stepNumbers", "[I", true)
  | 4 => ("MarkedSweeps$Board", "points", "I", false)
  | 5 => ("MarkedSweeps$Board", "steps", "I", false)
  | 6 => ("MarkedSweeps$Board", "must", "J", false)
  | _ => ("MarkedSweeps$Board", "barred", "J", false)
def tyX0 : Nat → FieldType := fun k => match k with
  | 0 => .array .int
  | 1 => .array .int
  | 2 => .array .int
  | 3 => .array .int
  | 4 => .int
  | 5 => .int
  | 6 => .long
  | _ => .long
theorem nmX0 : ∀ a, a < 8 → ∀ b, b < 8 → a ≠ b → (TX0 a).2.1 ≠ (TX0 b).2.1 := by decide +kernel
theorem tyX0_ok : ∀ k, k < 8 → parseFieldDescriptor (TX0 k).2.2.1 = some (tyX0 k) := by decide +kernel
abbrev cX0_init : ByteArray := prog_2_method_1_code
def yX0_init : MethodName := ⟨RX0, "<init>", "()V"⟩
abbrev cX0_become : ByteArray := prog_2_method_2_code
def yX0_become : MethodName := ⟨RX0, "become", "(LMarkedSweeps$Board;)V"⟩
abbrev cX0_isPoint : ByteArray := prog_2_method_3_code
def yX0_isPoint : MethodName := ⟨RX0, "isPoint", "(I)Z"⟩
abbrev cX0_isPair : ByteArray := prog_2_method_4_code
def yX0_isPair : MethodName := ⟨RX0, "isPair", "(II)Z"⟩
abbrev cX0_addPoint : ByteArray := prog_2_method_5_code
def yX0_addPoint : MethodName := ⟨RX0, "addPoint", "(II)V"⟩
abbrev cX0_removeLastPoint : ByteArray := prog_2_method_6_code
def yX0_removeLastPoint : MethodName := ⟨RX0, "removeLastPoint", "()V"⟩
abbrev cX0_addStep : ByteArray := prog_2_method_7_code
def yX0_addStep : MethodName := ⟨RX0, "addStep", "(II)V"⟩
abbrev cX0_markAt : ByteArray := prog_2_method_8_code
def yX0_markAt : MethodName := ⟨RX0, "markAt", "(I)I"⟩
abbrev cX0_setMark : ByteArray := prog_2_method_9_code
def yX0_setMark : MethodName := ⟨RX0, "setMark", "(II)V"⟩
abbrev cX0_isFree : ByteArray := prog_2_method_10_code
def yX0_isFree : MethodName := ⟨RX0, "isFree", "(III)Z"⟩
abbrev cX0_wouldCross : ByteArray := prog_2_method_11_code
def yX0_wouldCross : MethodName := ⟨RX0, "wouldCross", "(III)Z"⟩
abbrev cX0_mustCross : ByteArray := prog_2_method_12_code
def yX0_mustCross : MethodName := ⟨RX0, "mustCross", "()Z"⟩
abbrev cX0_doCross : ByteArray := prog_2_method_13_code
def yX0_doCross : MethodName := ⟨RX0, "doCross", "(II)Z"⟩
abbrev cX0_turnsLeft : ByteArray := prog_2_method_14_code
def yX0_turnsLeft : MethodName := ⟨RX0, "turnsLeft", "(III)Z"⟩
def RX1 : String := "MarkedSweeps$FlipSearch"
def TX1 : u_T := fun k => match k with
  | 0 => ("MarkedSweeps$FlipSearch", "distance", "[I", true)
  | 1 => ("MarkedSweeps$FlipSearch", "waiting", "[I", true)
  | _ => ("MarkedSweeps$FlipSearch", "met", "I", false)
def tyX1 : Nat → FieldType := fun k => match k with
  | 0 => .array .int
  | 1 => .array .int
  | _ => .int
theorem nmX1 : ∀ a, a < 3 → ∀ b, b < 3 → a ≠ b → (TX1 a).2.1 ≠ (TX1 b).2.1 := by decide +kernel
theorem tyX1_ok : ∀ k, k < 3 → parseFieldDescriptor (TX1 k).2.2.1 = some (tyX1 k) := by decide +kernel
abbrev cX1_init : ByteArray := prog_3_method_1_code
def yX1_init : MethodName := ⟨RX1, "<init>", "()V"⟩
abbrev cX1_fewest : ByteArray := prog_3_method_2_code
def yX1_fewest : MethodName := ⟨RX1, "fewest", "(IILMarkedSweeps$Nets;LMarkedSweeps$Plane;)I"⟩
abbrev cX1_meetAround : ByteArray := prog_3_method_3_code
def yX1_meetAround : MethodName := ⟨RX1, "meetAround", "(ILMarkedSweeps$Nets;LMarkedSweeps$Plane;)V"⟩
abbrev cX1_meet : ByteArray := prog_3_method_4_code
def yX1_meet : MethodName := ⟨RX1, "meet", "(II)V"⟩
def RX2 : String := "MarkedSweeps$Meter"
def TX2 : u_T := fun k => match k with
  | 0 => ("MarkedSweeps$Meter", "ofEdges", "[J", true)
  | 1 => ("MarkedSweeps$Meter", "overEdges", "J", false)
  | 2 => ("MarkedSweeps$Meter", "value", "J", false)
  | _ => ("MarkedSweeps$Meter", "over", "Z", false)
def tyX2 : Nat → FieldType := fun k => match k with
  | 0 => .array .long
  | 1 => .long
  | 2 => .long
  | _ => .boolean
theorem nmX2 : ∀ a, a < 4 → ∀ b, b < 4 → a ≠ b → (TX2 a).2.1 ≠ (TX2 b).2.1 := by decide +kernel
theorem tyX2_ok : ∀ k, k < 4 → parseFieldDescriptor (TX2 k).2.2.1 = some (tyX2 k) := by decide +kernel
abbrev cX2_init : ByteArray := prog_4_method_1_code
def yX2_init : MethodName := ⟨RX2, "<init>", "()V"⟩
abbrev cX2_start : ByteArray := prog_4_method_2_code
def yX2_start : MethodName := ⟨RX2, "start", "(J)V"⟩
abbrev cX2_takeSteps : ByteArray := prog_4_method_3_code
def yX2_takeSteps : MethodName := ⟨RX2, "takeSteps", "(LMarkedSweeps$Board;)V"⟩
abbrev cX2_takeStep : ByteArray := prog_4_method_4_code
def yX2_takeStep : MethodName := ⟨RX2, "takeStep", "(II)V"⟩
abbrev cX2_plus : ByteArray := prog_4_method_5_code
def yX2_plus : MethodName := ⟨RX2, "plus", "(J)V"⟩
abbrev cX2_takenFrom : ByteArray := prog_4_method_6_code
def yX2_takenFrom : MethodName := ⟨RX2, "takenFrom", "(J)V"⟩
abbrev cX2_times : ByteArray := prog_4_method_7_code
def yX2_times : MethodName := ⟨RX2, "times", "(J)V"⟩
abbrev cX2_square : ByteArray := prog_4_method_8_code
def yX2_square : MethodName := ⟨RX2, "square", "()V"⟩
abbrev cX2_measureEdge : ByteArray := prog_4_method_9_code
def yX2_measureEdge : MethodName := ⟨RX2, "measureEdge", "(LMarkedSweeps$Board;II)V"⟩
abbrev cX2_byRule : ByteArray := prog_4_method_10_code
def yX2_byRule : MethodName := ⟨RX2, "byRule", "(LMarkedSweeps$Board;II)J"⟩
abbrev cX2_measureEdges : ByteArray := prog_4_method_11_code
def yX2_measureEdges : MethodName := ⟨RX2, "measureEdges", "(LMarkedSweeps$Board;I)V"⟩
abbrev cX2_measureNet : ByteArray := prog_4_method_12_code
def yX2_measureNet : MethodName := ⟨RX2, "measureNet", "(JI)V"⟩
abbrev cX2_foldIn : ByteArray := prog_4_method_13_code
def yX2_foldIn : MethodName := ⟨RX2, "foldIn", "(JI)V"⟩
abbrev cX2_leastOf : ByteArray := prog_4_method_14_code
def yX2_leastOf : MethodName := ⟨RX2, "leastOf", "(LMarkedSweeps$Nets;I)I"⟩
def RX3 : String := "MarkedSweeps$Nets"
def TX3 : u_T := fun k => match k with
  | 0 => ("MarkedSweeps$Nets", "whole", "[J", true)
  | 1 => ("MarkedSweeps$Nets", "waiting", "[J", true)
  | 2 => ("MarkedSweeps$Nets", "wholeSize", "I", false)
  | 3 => ("MarkedSweeps$Nets", "age", "I", false)
  | 4 => ("MarkedSweeps$Nets", "must", "J", false)
  | 5 => ("MarkedSweeps$Nets", "barred", "J", false)
  | 6 => ("MarkedSweeps$Nets", "list", "[J", true)
  | _ => ("MarkedSweeps$Nets", "size", "I", false)
def tyX3 : Nat → FieldType := fun k => match k with
  | 0 => .array .long
  | 1 => .array .long
  | 2 => .int
  | 3 => .int
  | 4 => .long
  | 5 => .long
  | 6 => .array .long
  | _ => .int
theorem nmX3 : ∀ a, a < 8 → ∀ b, b < 8 → a ≠ b → (TX3 a).2.1 ≠ (TX3 b).2.1 := by decide +kernel
theorem tyX3_ok : ∀ k, k < 8 → parseFieldDescriptor (TX3 k).2.2.1 = some (tyX3 k) := by decide +kernel
abbrev cX3_init : ByteArray := prog_5_method_1_code
def yX3_init : MethodName := ⟨RX3, "<init>", "()V"⟩
abbrev cX3_follow : ByteArray := prog_5_method_2_code
def yX3_follow : MethodName := ⟨RX3, "follow", "(LMarkedSweeps$Plane;LMarkedSweeps$Board;)V"⟩
abbrev cX3_findWhole : ByteArray := prog_5_method_3_code
def yX3_findWhole : MethodName := ⟨RX3, "findWhole", "(LMarkedSweeps$Plane;)V"⟩
abbrev cX3_greedyNet : ByteArray := prog_5_method_4_code
def yX3_greedyNet : MethodName := ⟨RX3, "greedyNet", "(LMarkedSweeps$Plane;)J"⟩
abbrev cX3_meet : ByteArray := prog_5_method_5_code
def yX3_meet : MethodName := ⟨RX3, "meet", "(J)V"⟩
abbrev cX3_spotIn : ByteArray := prog_5_method_6_code
def yX3_spotIn : MethodName := ⟨RX3, "spotIn", "([JIJ)I"⟩
abbrev cX3_find : ByteArray := prog_5_method_7_code
def yX3_find : MethodName := ⟨RX3, "find", "(J)I"⟩
abbrev cX3_holding : ByteArray := prog_5_method_8_code
def yX3_holding : MethodName := ⟨RX3, "holding", "(I)I"⟩
abbrev cX3_inAll : ByteArray := prog_5_method_9_code
def yX3_inAll : MethodName := ⟨RX3, "inAll", "()J"⟩
abbrev cX3_inAny : ByteArray := prog_5_method_10_code
def yX3_inAny : MethodName := ⟨RX3, "inAny", "()J"⟩
abbrev cX3_givenUpFor : ByteArray := prog_5_method_11_code
def yX3_givenUpFor : MethodName := ⟨RX3, "givenUpFor", "(IJLMarkedSweeps$Plane;)J"⟩
abbrev cX3_flippable : ByteArray := prog_5_method_12_code
def yX3_flippable : MethodName := ⟨RX3, "flippable", "(ILMarkedSweeps$Plane;)J"⟩
abbrev cX3_flipped : ByteArray := prog_5_method_13_code
def yX3_flipped : MethodName := ⟨RX3, "flipped", "(IILMarkedSweeps$Plane;)I"⟩
def RX4 : String := "MarkedSweeps$Past"
def TX4 : u_T := fun k => match k with
  | 0 => ("MarkedSweeps$Past", "boards", "[LMarkedSweeps$Board;", true)
  | 1 => ("MarkedSweeps$Past", "next", "I", false)
  | _ => ("MarkedSweeps$Past", "size", "I", false)
def tyX4 : Nat → FieldType := fun k => match k with
  | 0 => .array (.object "MarkedSweeps$Board")
  | 1 => .int
  | _ => .int
theorem nmX4 : ∀ a, a < 3 → ∀ b, b < 3 → a ≠ b → (TX4 a).2.1 ≠ (TX4 b).2.1 := by decide +kernel
theorem tyX4_ok : ∀ k, k < 3 → parseFieldDescriptor (TX4 k).2.2.1 = some (tyX4 k) := by decide +kernel
abbrev cX4_init : ByteArray := prog_6_method_1_code
def yX4_init : MethodName := ⟨RX4, "<init>", "()V"⟩
abbrev cX4_keep : ByteArray := prog_6_method_2_code
def yX4_keep : MethodName := ⟨RX4, "keep", "(LMarkedSweeps$Board;)V"⟩
abbrev cX4_bringBack : ByteArray := prog_6_method_3_code
def yX4_bringBack : MethodName := ⟨RX4, "bringBack", "(LMarkedSweeps$Board;)V"⟩
def RX5 : String := "MarkedSweeps$Plane"
def TX5 : u_T := fun k => match k with
  | 0 => ("MarkedSweeps$Plane", "x", "[I", true)
  | 1 => ("MarkedSweeps$Plane", "y", "[I", true)
  | 2 => ("MarkedSweeps$Plane", "order", "[I", true)
  | 3 => ("MarkedSweeps$Plane", "places", "[I", true)
  | 4 => ("MarkedSweeps$Plane", "hull", "[I", true)
  | 5 => ("MarkedSweeps$Plane", "crossing", "[J", true)
  | 6 => ("MarkedSweeps$Plane", "leftOf", "[I", true)
  | 7 => ("MarkedSweeps$Plane", "points", "I", false)
  | 8 => ("MarkedSweeps$Plane", "hullSize", "I", false)
  | 9 => ("MarkedSweeps$Plane", "hullSet", "I", false)
  | _ => ("MarkedSweeps$Plane", "age", "I", false)
def tyX5 : Nat → FieldType := fun k => match k with
  | 0 => .array .int
  | 1 => .array .int
  | 2 => .array .int
  | 3 => .array .int
  | 4 => .array .int
  | 5 => .array .long
  | 6 => .array .int
  | 7 => .int
  | 8 => .int
  | 9 => .int
  | _ => .int
theorem nmX5 : ∀ a, a < 11 → ∀ b, b < 11 → a ≠ b → (TX5 a).2.1 ≠ (TX5 b).2.1 := by decide +kernel
theorem tyX5_ok : ∀ k, k < 11 → parseFieldDescriptor (TX5 k).2.2.1 = some (tyX5 k) := by decide +kernel
abbrev cX5_init : ByteArray := prog_7_method_1_code
def yX5_init : MethodName := ⟨RX5, "<init>", "()V"⟩
abbrev cX5_follow : ByteArray := prog_7_method_2_code
def yX5_follow : MethodName := ⟨RX5, "follow", "(LMarkedSweeps$Board;)V"⟩
abbrev cX5_isOf : ByteArray := prog_7_method_3_code
def yX5_isOf : MethodName := ⟨RX5, "isOf", "(LMarkedSweeps$Board;)Z"⟩
abbrev cX5_findOrder : ByteArray := prog_7_method_4_code
def yX5_findOrder : MethodName := ⟨RX5, "findOrder", "()V"⟩
abbrev cX5_findSides : ByteArray := prog_7_method_5_code
def yX5_findSides : MethodName := ⟨RX5, "findSides", "(LMarkedSweeps$Board;)V"⟩
abbrev cX5_setLeftTurn : ByteArray := prog_7_method_6_code
def yX5_setLeftTurn : MethodName := ⟨RX5, "setLeftTurn", "(III)V"⟩
abbrev cX5_findCrossings : ByteArray := prog_7_method_7_code
def yX5_findCrossings : MethodName := ⟨RX5, "findCrossings", "(LMarkedSweeps$Board;)V"⟩
abbrev cX5_findHull : ByteArray := prog_7_method_8_code
def yX5_findHull : MethodName := ⟨RX5, "findHull", "()V"⟩
abbrev cX5_behindOnHull : ByteArray := prog_7_method_9_code
def yX5_behindOnHull : MethodName := ⟨RX5, "behindOnHull", "(I)I"⟩
abbrev cX5_isLeft : ByteArray := prog_7_method_10_code
def yX5_isLeft : MethodName := ⟨RX5, "isLeft", "(III)Z"⟩
abbrev cX5_isBare : ByteArray := prog_7_method_11_code
def yX5_isBare : MethodName := ⟨RX5, "isBare", "(III)Z"⟩
abbrev cX5_isHollow : ByteArray := prog_7_method_12_code
def yX5_isHollow : MethodName := ⟨RX5, "isHollow", "(I)Z"⟩
abbrev cX5_lowerPath : ByteArray := prog_7_method_13_code
def yX5_lowerPath : MethodName := ⟨RX5, "lowerPath", "()I"⟩
def RX6 : String := "MarkedSweeps$Polygon"
def TX6 : u_T := fun k => match k with
  | 0 => ("MarkedSweeps$Polygon", "corners", "[I", true)
  | 1 => ("MarkedSweeps$Polygon", "splits", "[I", true)
  | 2 => ("MarkedSweeps$Polygon", "size", "I", false)
  | 3 => ("MarkedSweeps$Polygon", "cornerSet", "I", false)
  | 4 => ("MarkedSweeps$Polygon", "sides", "J", false)
  | _ => ("MarkedSweeps$Polygon", "twiceArea", "I", false)
def tyX6 : Nat → FieldType := fun k => match k with
  | 0 => .array .int
  | 1 => .array .int
  | 2 => .int
  | 3 => .int
  | 4 => .long
  | _ => .int
theorem nmX6 : ∀ a, a < 6 → ∀ b, b < 6 → a ≠ b → (TX6 a).2.1 ≠ (TX6 b).2.1 := by decide +kernel
theorem tyX6_ok : ∀ k, k < 6 → parseFieldDescriptor (TX6 k).2.2.1 = some (tyX6 k) := by decide +kernel
abbrev cX6_init : ByteArray := prog_8_method_1_code
def yX6_init : MethodName := ⟨RX6, "<init>", "()V"⟩
abbrev cX6_read : ByteArray := prog_8_method_2_code
def yX6_read : MethodName := ⟨RX6, "read", "(LMarkedSweeps$Sheet;LMarkedSweeps$Plane;)Z"⟩
abbrev cX6_readCorners : ByteArray := prog_8_method_3_code
def yX6_readCorners : MethodName := ⟨RX6, "readCorners", "(LMarkedSweeps$Sheet;LMarkedSweeps$Plane;)Z"⟩
abbrev cX6_readSides : ByteArray := prog_8_method_4_code
def yX6_readSides : MethodName := ⟨RX6, "readSides", "(LMarkedSweeps$Plane;)Z"⟩
abbrev cX6_behind : ByteArray := prog_8_method_5_code
def yX6_behind : MethodName := ⟨RX6, "behind", "(I)I"⟩
abbrev cX6_ahead : ByteArray := prog_8_method_6_code
def yX6_ahead : MethodName := ⟨RX6, "ahead", "(I)I"⟩
abbrev cX6_signedArea : ByteArray := prog_8_method_7_code
def yX6_signedArea : MethodName := ⟨RX6, "signedArea", "(LMarkedSweeps$Plane;)I"⟩
abbrev cX6_turnRound : ByteArray := prog_8_method_8_code
def yX6_turnRound : MethodName := ⟨RX6, "turnRound", "()V"⟩
abbrev cX6_splitCount : ByteArray := prog_8_method_9_code
def yX6_splitCount : MethodName := ⟨RX6, "splitCount", "(LMarkedSweeps$Plane;)I"⟩
abbrev cX6_splitsBetween : ByteArray := prog_8_method_10_code
def yX6_splitsBetween : MethodName := ⟨RX6, "splitsBetween", "(IILMarkedSweeps$Plane;)I"⟩
abbrev cX6_isJoined : ByteArray := prog_8_method_11_code
def yX6_isJoined : MethodName := ⟨RX6, "isJoined", "(IILMarkedSweeps$Plane;)Z"⟩
abbrev cX6_leavesInward : ByteArray := prog_8_method_12_code
def yX6_leavesInward : MethodName := ⟨RX6, "leavesInward", "(IILMarkedSweeps$Plane;)Z"⟩
abbrev cX6_pointsInside : ByteArray := prog_8_method_13_code
def yX6_pointsInside : MethodName := ⟨RX6, "pointsInside", "(LMarkedSweeps$Plane;)I"⟩
abbrev cX6_isInside : ByteArray := prog_8_method_14_code
def yX6_isInside : MethodName := ⟨RX6, "isInside", "(ILMarkedSweeps$Plane;)Z"⟩
def RX7 : String := "MarkedSweeps$Rows"
def TX7 : u_T := fun k => match k with
  | 0 => ("MarkedSweeps$Rows", "sets", "[I", true)
  | 1 => ("MarkedSweeps$Rows", "sorts", "[I", true)
  | _ => ("MarkedSweeps$Rows", "size", "I", false)
def tyX7 : Nat → FieldType := fun k => match k with
  | 0 => .array .int
  | 1 => .array .int
  | _ => .int
theorem nmX7 : ∀ a, a < 3 → ∀ b, b < 3 → a ≠ b → (TX7 a).2.1 ≠ (TX7 b).2.1 := by decide +kernel
theorem tyX7_ok : ∀ k, k < 3 → parseFieldDescriptor (TX7 k).2.2.1 = some (tyX7 k) := by decide +kernel
abbrev cX7_init : ByteArray := prog_9_method_1_code
def yX7_init : MethodName := ⟨RX7, "<init>", "()V"⟩
abbrev cX7_take : ByteArray := prog_9_method_2_code
def yX7_take : MethodName := ⟨RX7, "take", "(LMarkedSweeps$Sweep;)V"⟩
abbrev cX7_has : ByteArray := prog_9_method_3_code
def yX7_has : MethodName := ⟨RX7, "has", "(II)Z"⟩
abbrev cX7_firstUnlike : ByteArray := prog_9_method_4_code
def yX7_firstUnlike : MethodName := ⟨RX7, "firstUnlike", "(LMarkedSweeps$Sweep;)I"⟩
def RX8 : String := "MarkedSweeps$Sheet"
def TX8 : u_T := fun k => match k with
  | 0 => ("MarkedSweeps$Sheet", "numbers", "[J", true)
  | 1 => ("MarkedSweeps$Sheet", "sort", "I", false)
  | _ => ("MarkedSweeps$Sheet", "size", "I", false)
def tyX8 : Nat → FieldType := fun k => match k with
  | 0 => .array .long
  | 1 => .int
  | _ => .int
theorem nmX8 : ∀ a, a < 3 → ∀ b, b < 3 → a ≠ b → (TX8 a).2.1 ≠ (TX8 b).2.1 := by decide +kernel
theorem tyX8_ok : ∀ k, k < 3 → parseFieldDescriptor (TX8 k).2.2.1 = some (tyX8 k) := by decide +kernel
abbrev cX8_init : ByteArray := prog_10_method_1_code
def yX8_init : MethodName := ⟨RX8, "<init>", "()V"⟩
abbrev cX8_lay : ByteArray := prog_10_method_2_code
def yX8_lay : MethodName := ⟨RX8, "lay", "(II)V"⟩
abbrev cX8_isMissing : ByteArray := prog_10_method_3_code
def yX8_isMissing : MethodName := ⟨RX8, "isMissing", "()Z"⟩
abbrev cX8_put : ByteArray := prog_10_method_4_code
def yX8_put : MethodName := ⟨RX8, "put", "(IJ)V"⟩
abbrev cX8_hasRun : ByteArray := prog_10_method_5_code
def yX8_hasRun : MethodName := ⟨RX8, "hasRun", "(II)Z"⟩
def RX9 : String := "MarkedSweeps$Sweep"
def TX9 : u_T := fun k => match k with
  | 0 => ("MarkedSweeps$Sweep", "paths", "[I", true)
  | 1 => ("MarkedSweeps$Sweep", "sets", "[I", true)
  | 2 => ("MarkedSweeps$Sweep", "sorts", "[I", true)
  | 3 => ("MarkedSweeps$Sweep", "size", "I", false)
  | 4 => ("MarkedSweeps$Sweep", "net", "J", false)
  | _ => ("MarkedSweeps$Sweep", "age", "I", false)
def tyX9 : Nat → FieldType := fun k => match k with
  | 0 => .array .int
  | 1 => .array .int
  | 2 => .array .int
  | 3 => .int
  | 4 => .long
  | _ => .int
theorem nmX9 : ∀ a, a < 6 → ∀ b, b < 6 → a ≠ b → (TX9 a).2.1 ≠ (TX9 b).2.1 := by decide +kernel
theorem tyX9_ok : ∀ k, k < 6 → parseFieldDescriptor (TX9 k).2.2.1 = some (tyX9 k) := by decide +kernel
abbrev cX9_init : ByteArray := prog_11_method_1_code
def yX9_init : MethodName := ⟨RX9, "<init>", "()V"⟩
abbrev cX9_follow : ByteArray := prog_11_method_2_code
def yX9_follow : MethodName := ⟨RX9, "follow", "(JLMarkedSweeps$Plane;)V"⟩
abbrev cX9_goOn : ByteArray := prog_11_method_3_code
def yX9_goOn : MethodName := ⟨RX9, "goOn", "(LMarkedSweeps$Plane;)Z"⟩
abbrev cX9_isOn : ByteArray := prog_11_method_4_code
def yX9_isOn : MethodName := ⟨RX9, "isOn", "(ILMarkedSweeps$Plane;)Z"⟩
abbrev cX9_nextOn : ByteArray := prog_11_method_5_code
def yX9_nextOn : MethodName := ⟨RX9, "nextOn", "(ILMarkedSweeps$Plane;)I"⟩
abbrev cX9_comesBehind : ByteArray := prog_11_method_6_code
def yX9_comesBehind : MethodName := ⟨RX9, "comesBehind", "(ILMarkedSweeps$Plane;)Z"⟩
abbrev cX9_goesBehind : ByteArray := prog_11_method_7_code
def yX9_goesBehind : MethodName := ⟨RX9, "goesBehind", "(ILMarkedSweeps$Plane;)Z"⟩
abbrev cX9_isTriangle : ByteArray := prog_11_method_8_code
def yX9_isTriangle : MethodName := ⟨RX9, "isTriangle", "(IIILMarkedSweeps$Plane;)Z"⟩
abbrev cX9_add : ByteArray := prog_11_method_9_code
def yX9_add : MethodName := ⟨RX9, "add", "(IIII)V"⟩
def RX10 : String := "MarkedSweeps$Ways"
def TX10 : u_T := fun k => match k with
  | _ => ("MarkedSweeps$Ways", "upTo", "[I", true)
def tyX10 : Nat → FieldType := fun k => match k with
  | _ => .array .int
theorem nmX10 : ∀ a, a < 1 → ∀ b, b < 1 → a ≠ b → (TX10 a).2.1 ≠ (TX10 b).2.1 := by decide +kernel
theorem tyX10_ok : ∀ k, k < 1 → parseFieldDescriptor (TX10 k).2.2.1 = some (tyX10 k) := by decide +kernel
abbrev cX10_init : ByteArray := prog_12_method_1_code
def yX10_init : MethodName := ⟨RX10, "<init>", "()V"⟩
abbrev cX10_total : ByteArray := prog_12_method_2_code
def yX10_total : MethodName := ⟨RX10, "total", "(LMarkedSweeps$Plane;J)I"⟩
def RX11 : String := "MarkedSweeps"
def TX11 : u_T := fun k => match k with
  | 0 => ("MarkedSweeps", "board", "LMarkedSweeps$Board;", true)
  | 1 => ("MarkedSweeps", "past", "LMarkedSweeps$Past;", true)
  | 2 => ("MarkedSweeps", "plane", "LMarkedSweeps$Plane;", true)
  | 3 => ("MarkedSweeps", "nets", "LMarkedSweeps$Nets;", true)
  | 4 => ("MarkedSweeps", "search", "LMarkedSweeps$FlipSearch;", true)
  | 5 => ("MarkedSweeps", "sweep", "LMarkedSweeps$Sweep;", true)
  | 6 => ("MarkedSweeps", "ways", "LMarkedSweeps$Ways;", true)
  | 7 => ("MarkedSweeps", "meter", "LMarkedSweeps$Meter;", true)
  | 8 => ("MarkedSweeps", "polygon", "LMarkedSweeps$Polygon;", true)
  | 9 => ("MarkedSweeps", "rows", "LMarkedSweeps$Rows;", true)
  | 10 => ("MarkedSweeps", "sheets", "[LMarkedSweeps$Sheet;", true)
  | 11 => ("MarkedSweeps", "told", "[I", true)
  | _ => ("MarkedSweeps", "z", "I", false)
def tyX11 : Nat → FieldType := fun k => match k with
  | 0 => .object "MarkedSweeps$Board"
  | 1 => .object "MarkedSweeps$Past"
  | 2 => .object "MarkedSweeps$Plane"
  | 3 => .object "MarkedSweeps$Nets"
  | 4 => .object "MarkedSweeps$FlipSearch"
  | 5 => .object "MarkedSweeps$Sweep"
  | 6 => .object "MarkedSweeps$Ways"
  | 7 => .object "MarkedSweeps$Meter"
  | 8 => .object "MarkedSweeps$Polygon"
  | 9 => .object "MarkedSweeps$Rows"
  | 10 => .array (.object "MarkedSweeps$Sheet")
  | 11 => .array .int
  | _ => .int
theorem nmX11 : ∀ a, a < 13 → ∀ b, b < 13 → a ≠ b → (TX11 a).2.1 ≠ (TX11 b).2.1 := by decide +kernel
theorem tyX11_ok : ∀ k, k < 13 → parseFieldDescriptor (TX11 k).2.2.1 = some (tyX11 k) := by decide +kernel
abbrev cX11_init : ByteArray := prog_1_method_1_code
def yX11_init : MethodName := ⟨RX11, "<init>", "()V"⟩
abbrev cX11_place : ByteArray := prog_1_method_2_code
def yX11_place : MethodName := ⟨RX11, "place", "(II)I"⟩
abbrev cX11_drop : ByteArray := prog_1_method_3_code
def yX11_drop : MethodName := ⟨RX11, "drop", "()I"⟩
abbrev cX11_move : ByteArray := prog_1_method_4_code
def yX11_move : MethodName := ⟨RX11, "move", "(III)I"⟩
abbrev cX11_at : ByteArray := prog_1_method_5_code
def yX11_at : MethodName := ⟨RX11, "at", "(II)I"⟩
abbrev cX11_mark : ByteArray := prog_1_method_6_code
def yX11_mark : MethodName := ⟨RX11, "mark", "(III)I"⟩
abbrev cX11_markOf : ByteArray := prog_1_method_7_code
def yX11_markOf : MethodName := ⟨RX11, "markOf", "(II)I"⟩
abbrev cX11_turn : ByteArray := prog_1_method_8_code
def yX11_turn : MethodName := ⟨RX11, "turn", "(III)I"⟩
abbrev cX11_crosses : ByteArray := prog_1_method_9_code
def yX11_crosses : MethodName := ⟨RX11, "crosses", "(IIII)I"⟩
abbrev cX11_hull : ByteArray := prog_1_method_10_code
def yX11_hull : MethodName := ⟨RX11, "hull", "(I)I"⟩
abbrev cX11_nets : ByteArray := prog_1_method_11_code
def yX11_nets : MethodName := ⟨RX11, "nets", "()I"⟩
abbrev cX11_net : ByteArray := prog_1_method_12_code
def yX11_net : MethodName := ⟨RX11, "net", "(I)J"⟩
abbrev cX11_rank : ByteArray := prog_1_method_13_code
def yX11_rank : MethodName := ⟨RX11, "rank", "(J)I"⟩
abbrev cX11_with : ByteArray := prog_1_method_14_code
def yX11_with : MethodName := ⟨RX11, "with", "(II)I"⟩
abbrev cX11_always : ByteArray := prog_1_method_15_code
def yX11_always : MethodName := ⟨RX11, "always", "(I)J"⟩
abbrev cX11_draw : ByteArray := prog_1_method_16_code
def yX11_draw : MethodName := ⟨RX11, "draw", "()I"⟩
abbrev cX11_fan : ByteArray := prog_1_method_17_code
def yX11_fan : MethodName := ⟨RX11, "fan", "(II)I"⟩
abbrev cX11_flips : ByteArray := prog_1_method_18_code
def yX11_flips : MethodName := ⟨RX11, "flips", "(I)J"⟩
abbrev cX11_flip : ByteArray := prog_1_method_19_code
def yX11_flip : MethodName := ⟨RX11, "flip", "(III)I"⟩
abbrev cX11_apart : ByteArray := prog_1_method_20_code
def yX11_apart : MethodName := ⟨RX11, "apart", "(II)I"⟩
abbrev cX11_path : ByteArray := prog_1_method_21_code
def yX11_path : MethodName := ⟨RX11, "path", "(II)I"⟩
abbrev cX11_advance : ByteArray := prog_1_method_22_code
def yX11_advance : MethodName := ⟨RX11, "advance", "(III)I"⟩
abbrev cX11_ways : ByteArray := prog_1_method_23_code
def yX11_ways : MethodName := ⟨RX11, "ways", "()I"⟩
abbrev cX11_step : ByteArray := prog_1_method_24_code
def yX11_step : MethodName := ⟨RX11, "step", "(II)I"⟩
abbrev cX11_stepOf : ByteArray := prog_1_method_25_code
def yX11_stepOf : MethodName := ⟨RX11, "stepOf", "(II)I"⟩
abbrev cX11_clear : ByteArray := prog_1_method_26_code
def yX11_clear : MethodName := ⟨RX11, "clear", "()I"⟩
abbrev cX11_chain : ByteArray := prog_1_method_27_code
def yX11_chain : MethodName := ⟨RX11, "chain", "(J)J"⟩
abbrev cX11_ofEdge : ByteArray := prog_1_method_28_code
def yX11_ofEdge : MethodName := ⟨RX11, "ofEdge", "(III)J"⟩
abbrev cX11_ofNet : ByteArray := prog_1_method_29_code
def yX11_ofNet : MethodName := ⟨RX11, "ofNet", "(III)J"⟩
abbrev cX11_best : ByteArray := prog_1_method_30_code
def yX11_best : MethodName := ⟨RX11, "best", "(II)I"⟩
abbrev cX11_splits : ByteArray := prog_1_method_31_code
def yX11_splits : MethodName := ⟨RX11, "splits", "(I)I"⟩
abbrev cX11_area : ByteArray := prog_1_method_32_code
def yX11_area : MethodName := ⟨RX11, "area", "(I)I"⟩
abbrev cX11_within : ByteArray := prog_1_method_33_code
def yX11_within : MethodName := ⟨RX11, "within", "(I)I"⟩
abbrev cX11_empty : ByteArray := prog_1_method_34_code
def yX11_empty : MethodName := ⟨RX11, "empty", "(I)I"⟩
abbrev cX11_prove : ByteArray := prog_1_method_35_code
def yX11_prove : MethodName := ⟨RX11, "prove", "(I)I"⟩
abbrev cX11_row : ByteArray := prog_1_method_36_code
def yX11_row : MethodName := ⟨RX11, "row", "(II)I"⟩
abbrev cX11_alter : ByteArray := prog_1_method_37_code
def yX11_alter : MethodName := ⟨RX11, "alter", "(III)I"⟩
abbrev cX11_judge : ByteArray := prog_1_method_38_code
def yX11_judge : MethodName := ⟨RX11, "judge", "(I)I"⟩
abbrev cX11_sheet : ByteArray := prog_1_method_39_code
def yX11_sheet : MethodName := ⟨RX11, "sheet", "(III)I"⟩
abbrev cX11_write : ByteArray := prog_1_method_40_code
def yX11_write : MethodName := ⟨RX11, "write", "(IIJ)I"⟩
abbrev cX11_item : ByteArray := prog_1_method_41_code
def yX11_item : MethodName := ⟨RX11, "item", "(II)J"⟩
abbrev cX11_copy : ByteArray := prog_1_method_42_code
def yX11_copy : MethodName := ⟨RX11, "copy", "(IIIII)I"⟩
abbrev cX11_undo : ByteArray := prog_1_method_43_code
def yX11_undo : MethodName := ⟨RX11, "undo", "()I"⟩
abbrev cX11_seed : ByteArray := prog_1_method_44_code
def yX11_seed : MethodName := ⟨RX11, "seed", "(I)I"⟩
abbrev cX11_count : ByteArray := prog_1_method_45_code
def yX11_count : MethodName := ⟨RX11, "count", "(I)I"⟩
abbrev cX11_status : ByteArray := prog_1_method_46_code
def yX11_status : MethodName := ⟨RX11, "status", "(I)I"⟩
abbrev cX11_finding : ByteArray := prog_1_method_47_code
def yX11_finding : MethodName := ⟨RX11, "finding", "(I)I"⟩
abbrev cX11_longFinding : ByteArray := prog_1_method_48_code
def yX11_longFinding : MethodName := ⟨RX11, "longFinding", "(I)J"⟩
abbrev cX11_followNets : ByteArray := prog_1_method_49_code
def yX11_followNets : MethodName := ⟨RX11, "followNets", "()V"⟩
abbrev cX11_isNet : ByteArray := prog_1_method_50_code
def yX11_isNet : MethodName := ⟨RX11, "isNet", "(I)Z"⟩
abbrev cX11_refusedNumber : ByteArray := prog_1_method_51_code
def yX11_refusedNumber : MethodName := ⟨RX11, "refusedNumber", "(II)I"⟩
abbrev cX11_refusedPolygon : ByteArray := prog_1_method_52_code
def yX11_refusedPolygon : MethodName := ⟨RX11, "refusedPolygon", "(I)I"⟩
abbrev cX11_isNear : ByteArray := prog_1_method_53_code
def yX11_isNear : MethodName := ⟨RX11, "isNear", "(I)Z"⟩
abbrev cX11_isRule : ByteArray := prog_1_method_54_code
def yX11_isRule : MethodName := ⟨RX11, "isRule", "(I)Z"⟩
abbrev cX11_isFold : ByteArray := prog_1_method_55_code
def yX11_isFold : MethodName := ⟨RX11, "isFold", "(I)Z"⟩
abbrev cX11_isSheet : ByteArray := prog_1_method_56_code
def yX11_isSheet : MethodName := ⟨RX11, "isSheet", "(I)Z"⟩
abbrev cX11_holds : ByteArray := prog_1_method_57_code
def yX11_holds : MethodName := ⟨RX11, "holds", "(JI)Z"⟩
abbrev cX11_edgeOf : ByteArray := prog_1_method_58_code
def yX11_edgeOf : MethodName := ⟨RX11, "edgeOf", "(II)I"⟩
abbrev cX11_edgesAt : ByteArray := prog_1_method_59_code
def yX11_edgesAt : MethodName := ⟨RX11, "edgesAt", "(I)J"⟩
abbrev cX11_side : ByteArray := prog_1_method_60_code
def yX11_side : MethodName := ⟨RX11, "side", "(IIIIII)I"⟩
def RX12 : String := "MarkedSweepsModel"
def TX12 : u_T := fun k => match k with
  | 0 => ("MarkedSweepsModel", "s", "[I", true)
  | 1 => ("MarkedSweepsModel", "kept", "[[I", true)
  | 2 => ("MarkedSweepsModel", "first", "I", false)
  | 3 => ("MarkedSweepsModel", "undoable", "I", false)
  | 4 => ("MarkedSweepsModel", "z", "I", false)
  | 5 => ("MarkedSweepsModel", "found", "[I", true)
  | 6 => ("MarkedSweepsModel", "hullMany", "I", false)
  | 7 => ("MarkedSweepsModel", "hull", "[I", true)
  | 8 => ("MarkedSweepsModel", "was", "[I", true)
  | 9 => ("MarkedSweepsModel", "crossing", "[J", true)
  | 10 => ("MarkedSweepsModel", "can", "J", false)
  | 11 => ("MarkedSweepsModel", "must", "J", false)
  | 12 => ("MarkedSweepsModel", "barred", "J", false)
  | 13 => ("MarkedSweepsModel", "net", "[J", true)
  | 14 => ("MarkedSweepsModel", "netMany", "I", false)
  | 15 => ("MarkedSweepsModel", "isListed", "Z", false)
  | 16 => ("MarkedSweepsModel", "far", "[I", true)
  | 17 => ("MarkedSweepsModel", "waits", "[I", true)
  | 18 => ("MarkedSweepsModel", "path", "I", false)
  | 19 => ("MarkedSweepsModel", "three", "I", false)
  | 20 => ("MarkedSweepsModel", "sort", "I", false)
  | 21 => ("MarkedSweepsModel", "isOver", "Z", false)
  | 22 => ("MarkedSweepsModel", "corners", "I", false)
  | 23 => ("MarkedSweepsModel", "corner", "[I", true)
  | 24 => ("MarkedSweepsModel", "rowMany", "I", false)
  | 25 => ("MarkedSweepsModel", "row", "[[I", true)
  | 26 => ("MarkedSweepsModel", "sheetSort", "[I", true)
  | 27 => ("MarkedSweepsModel", "sheetSize", "[I", true)
  | 28 => ("MarkedSweepsModel", "cells", "[[J", true)
  | _ => ("MarkedSweepsModel", "passing", "[J", true)
def tyX12 : Nat → FieldType := fun k => match k with
  | 0 => .array .int
  | 1 => .array (.array .int)
  | 2 => .int
  | 3 => .int
  | 4 => .int
  | 5 => .array .int
  | 6 => .int
  | 7 => .array .int
  | 8 => .array .int
  | 9 => .array .long
  | 10 => .long
  | 11 => .long
  | 12 => .long
  | 13 => .array .long
  | 14 => .int
  | 15 => .boolean
  | 16 => .array .int
  | 17 => .array .int
  | 18 => .int
  | 19 => .int
  | 20 => .int
  | 21 => .boolean
  | 22 => .int
  | 23 => .array .int
  | 24 => .int
  | 25 => .array (.array .int)
  | 26 => .array .int
  | 27 => .array .int
  | 28 => .array (.array .long)
  | _ => .array .long
theorem nmX12 : ∀ a, a < 30 → ∀ b, b < 30 → a ≠ b → (TX12 a).2.1 ≠ (TX12 b).2.1 := by decide +kernel
theorem tyX12_ok : ∀ k, k < 30 → parseFieldDescriptor (TX12 k).2.2.1 = some (tyX12 k) := by decide +kernel
abbrev cX12_init : ByteArray := prog_14_method_1_code
def yX12_init : MethodName := ⟨RX12, "<init>", "()V"⟩
abbrev cX12_finds : ByteArray := prog_14_method_2_code
def yX12_finds : MethodName := ⟨RX12, "finds", "(I)I"⟩
abbrev cX12_findsLong : ByteArray := prog_14_method_3_code
def yX12_findsLong : MethodName := ⟨RX12, "findsLong", "(I)J"⟩
abbrev cX12_in : ByteArray := prog_14_method_4_code
def yX12_in : MethodName := ⟨RX12, "in", "(JJJ)Z"⟩
abbrev cX12_points : ByteArray := prog_14_method_5_code
def yX12_points : MethodName := ⟨RX12, "points", "()I"⟩
abbrev cX12_x : ByteArray := prog_14_method_6_code
def yX12_x : MethodName := ⟨RX12, "x", "(I)I"⟩
abbrev cX12_y : ByteArray := prog_14_method_7_code
def yX12_y : MethodName := ⟨RX12, "y", "(I)I"⟩
abbrev cX12_isPoint : ByteArray := prog_14_method_8_code
def yX12_isPoint : MethodName := ⟨RX12, "isPoint", "(J)Z"⟩
abbrev cX12_areTwo : ByteArray := prog_14_method_9_code
def yX12_areTwo : MethodName := ⟨RX12, "areTwo", "(II)Z"⟩
abbrev cX12_side : ByteArray := prog_14_method_10_code
def yX12_side : MethodName := ⟨RX12, "side", "(IIIIII)I"⟩
abbrev cX12_turnOf : ByteArray := prog_14_method_11_code
def yX12_turnOf : MethodName := ⟨RX12, "turnOf", "(III)I"⟩
abbrev cX12_isAhead : ByteArray := prog_14_method_12_code
def yX12_isAhead : MethodName := ⟨RX12, "isAhead", "(II)Z"⟩
abbrev cX12_isWithin : ByteArray := prog_14_method_13_code
def yX12_isWithin : MethodName := ⟨RX12, "isWithin", "(IIII)Z"⟩
abbrev cX12_edge : ByteArray := prog_14_method_14_code
def yX12_edge : MethodName := ⟨RX12, "edge", "(II)I"⟩
abbrev cX12_doCross : ByteArray := prog_14_method_15_code
def yX12_doCross : MethodName := ⟨RX12, "doCross", "(IIII)Z"⟩
abbrev cX12_first : ByteArray := prog_14_method_16_code
def yX12_first : MethodName := ⟨RX12, "first", "()I"⟩
abbrev cX12_last : ByteArray := prog_14_method_17_code
def yX12_last : MethodName := ⟨RX12, "last", "()I"⟩
abbrev cX12_isOfHull : ByteArray := prog_14_method_18_code
def yX12_isOfHull : MethodName := ⟨RX12, "isOfHull", "(I)Z"⟩
abbrev cX12_behind : ByteArray := prog_14_method_19_code
def yX12_behind : MethodName := ⟨RX12, "behind", "(I)I"⟩
abbrev cX12_findsHull : ByteArray := prog_14_method_20_code
def yX12_findsHull : MethodName := ⟨RX12, "findsHull", "()V"⟩
abbrev cX12_laysAside : ByteArray := prog_14_method_21_code
def yX12_laysAside : MethodName := ⟨RX12, "laysAside", "()V"⟩
abbrev cX12_laysBack : ByteArray := prog_14_method_22_code
def yX12_laysBack : MethodName := ⟨RX12, "laysBack", "()V"⟩
abbrev cX12_changes : ByteArray := prog_14_method_23_code
def yX12_changes : MethodName := ⟨RX12, "changes", "()V"⟩
abbrev cX12_isFree : ByteArray := prog_14_method_24_code
def yX12_isFree : MethodName := ⟨RX12, "isFree", "(I)Z"⟩
abbrev cX12_doMustsCross : ByteArray := prog_14_method_25_code
def yX12_doMustsCross : MethodName := ⟨RX12, "doMustsCross", "()Z"⟩
abbrev cX12_isPlace : ByteArray := prog_14_method_26_code
def yX12_isPlace : MethodName := ⟨RX12, "isPlace", "(II)Z"⟩
abbrev cX12_place : ByteArray := prog_14_method_27_code
def yX12_place : MethodName := ⟨RX12, "place", "(II)I"⟩
abbrev cX12_drop : ByteArray := prog_14_method_28_code
def yX12_drop : MethodName := ⟨RX12, "drop", "()I"⟩
abbrev cX12_move : ByteArray := prog_14_method_29_code
def yX12_move : MethodName := ⟨RX12, "move", "(III)I"⟩
abbrev cX12_at : ByteArray := prog_14_method_30_code
def yX12_at : MethodName := ⟨RX12, "at", "(II)I"⟩
abbrev cX12_mark : ByteArray := prog_14_method_31_code
def yX12_mark : MethodName := ⟨RX12, "mark", "(III)I"⟩
abbrev cX12_markOf : ByteArray := prog_14_method_32_code
def yX12_markOf : MethodName := ⟨RX12, "markOf", "(II)I"⟩
abbrev cX12_turn : ByteArray := prog_14_method_33_code
def yX12_turn : MethodName := ⟨RX12, "turn", "(III)I"⟩
abbrev cX12_crosses : ByteArray := prog_14_method_34_code
def yX12_crosses : MethodName := ⟨RX12, "crosses", "(IIII)I"⟩
abbrev cX12_hull : ByteArray := prog_14_method_35_code
def yX12_hull : MethodName := ⟨RX12, "hull", "(I)I"⟩
abbrev cX12_has : ByteArray := prog_14_method_36_code
def yX12_has : MethodName := ⟨RX12, "has", "(JI)Z"⟩
abbrev cX12_readsCrossings : ByteArray := prog_14_method_37_code
def yX12_readsCrossings : MethodName := ⟨RX12, "readsCrossings", "()V"⟩
abbrev cX12_mayEnd : ByteArray := prog_14_method_38_code
def yX12_mayEnd : MethodName := ⟨RX12, "mayEnd", "(JI)Z"⟩
abbrev cX12_lists : ByteArray := prog_14_method_39_code
def yX12_lists : MethodName := ⟨RX12, "lists", "(JI)V"⟩
abbrev cX12_listsNets : ByteArray := prog_14_method_40_code
def yX12_listsNets : MethodName := ⟨RX12, "listsNets", "()V"⟩
abbrev cX12_numberOf : ByteArray := prog_14_method_41_code
def yX12_numberOf : MethodName := ⟨RX12, "numberOf", "(J)I"⟩
abbrev cX12_isNet : ByteArray := prog_14_method_42_code
def yX12_isNet : MethodName := ⟨RX12, "isNet", "(I)Z"⟩
abbrev cX12_nets : ByteArray := prog_14_method_43_code
def yX12_nets : MethodName := ⟨RX12, "nets", "()I"⟩
abbrev cX12_net : ByteArray := prog_14_method_44_code
def yX12_net : MethodName := ⟨RX12, "net", "(I)J"⟩
abbrev cX12_rank : ByteArray := prog_14_method_45_code
def yX12_rank : MethodName := ⟨RX12, "rank", "(J)I"⟩
abbrev cX12_with : ByteArray := prog_14_method_46_code
def yX12_with : MethodName := ⟨RX12, "with", "(II)I"⟩
abbrev cX12_always : ByteArray := prog_14_method_47_code
def yX12_always : MethodName := ⟨RX12, "always", "(I)J"⟩
abbrev cX12_drawn : ByteArray := prog_14_method_48_code
def yX12_drawn : MethodName := ⟨RX12, "drawn", "()I"⟩
abbrev cX12_draw : ByteArray := prog_14_method_49_code
def yX12_draw : MethodName := ⟨RX12, "draw", "()I"⟩
abbrev cX12_isTriangle : ByteArray := prog_14_method_50_code
def yX12_isTriangle : MethodName := ⟨RX12, "isTriangle", "(JIII)Z"⟩
abbrev cX12_fan : ByteArray := prog_14_method_51_code
def yX12_fan : MethodName := ⟨RX12, "fan", "(II)I"⟩
abbrev cX12_flipped : ByteArray := prog_14_method_52_code
def yX12_flipped : MethodName := ⟨RX12, "flipped", "(III)I"⟩
abbrev cX12_flips : ByteArray := prog_14_method_53_code
def yX12_flips : MethodName := ⟨RX12, "flips", "(I)J"⟩
abbrev cX12_flip : ByteArray := prog_14_method_54_code
def yX12_flip : MethodName := ⟨RX12, "flip", "(III)I"⟩
abbrev cX12_apart : ByteArray := prog_14_method_55_code
def yX12_apart : MethodName := ⟨RX12, "apart", "(II)I"⟩
abbrev cX12_firstPath : ByteArray := prog_14_method_56_code
def yX12_firstPath : MethodName := ⟨RX12, "firstPath", "()I"⟩
abbrev cX12_nextOn : ByteArray := prog_14_method_57_code
def yX12_nextOn : MethodName := ⟨RX12, "nextOn", "(I)I"⟩
abbrev cX12_advances : ByteArray := prog_14_method_58_code
def yX12_advances : MethodName := ⟨RX12, "advances", "(JI)Z"⟩
abbrev cX12_advances_ : ByteArray := prog_14_method_59_code
def yX12_advances_ : MethodName := ⟨RX12, "advances", "(J)Z"⟩
abbrev cX12_sweeps : ByteArray := prog_14_method_60_code
def yX12_sweeps : MethodName := ⟨RX12, "sweeps", "(II)Z"⟩
abbrev cX12_path : ByteArray := prog_14_method_61_code
def yX12_path : MethodName := ⟨RX12, "path", "(II)I"⟩
abbrev cX12_advance : ByteArray := prog_14_method_62_code
def yX12_advance : MethodName := ⟨RX12, "advance", "(III)I"⟩
abbrev cX12_ways : ByteArray := prog_14_method_63_code
def yX12_ways : MethodName := ⟨RX12, "ways", "()I"⟩
abbrev cX12_plus : ByteArray := prog_14_method_64_code
def yX12_plus : MethodName := ⟨RX12, "plus", "(JJ)J"⟩
abbrev cX12_minus : ByteArray := prog_14_method_65_code
def yX12_minus : MethodName := ⟨RX12, "minus", "(JJ)J"⟩
abbrev cX12_times : ByteArray := prog_14_method_66_code
def yX12_times : MethodName := ⟨RX12, "times", "(JJ)J"⟩
abbrev cX12_byStep : ByteArray := prog_14_method_67_code
def yX12_byStep : MethodName := ⟨RX12, "byStep", "(JI)J"⟩
abbrev cX12_chained : ByteArray := prog_14_method_68_code
def yX12_chained : MethodName := ⟨RX12, "chained", "(J)J"⟩
abbrev cX12_byRule : ByteArray := prog_14_method_69_code
def yX12_byRule : MethodName := ⟨RX12, "byRule", "(III)J"⟩
abbrev cX12_folded : ByteArray := prog_14_method_70_code
def yX12_folded : MethodName := ⟨RX12, "folded", "(JII)J"⟩
abbrev cX12_step : ByteArray := prog_14_method_71_code
def yX12_step : MethodName := ⟨RX12, "step", "(II)I"⟩
abbrev cX12_stepOf : ByteArray := prog_14_method_72_code
def yX12_stepOf : MethodName := ⟨RX12, "stepOf", "(II)I"⟩
abbrev cX12_clear : ByteArray := prog_14_method_73_code
def yX12_clear : MethodName := ⟨RX12, "clear", "()I"⟩
abbrev cX12_chain : ByteArray := prog_14_method_74_code
def yX12_chain : MethodName := ⟨RX12, "chain", "(J)J"⟩
abbrev cX12_ofEdge : ByteArray := prog_14_method_75_code
def yX12_ofEdge : MethodName := ⟨RX12, "ofEdge", "(III)J"⟩
abbrev cX12_ofNet : ByteArray := prog_14_method_76_code
def yX12_ofNet : MethodName := ⟨RX12, "ofNet", "(III)J"⟩
abbrev cX12_best : ByteArray := prog_14_method_77_code
def yX12_best : MethodName := ⟨RX12, "best", "(II)I"⟩
abbrev cX12_isCorner : ByteArray := prog_14_method_78_code
def yX12_isCorner : MethodName := ⟨RX12, "isCorner", "(I)Z"⟩
abbrev cX12_cornerAt : ByteArray := prog_14_method_79_code
def yX12_cornerAt : MethodName := ⟨RX12, "cornerAt", "(I)I"⟩
abbrev cX12_isPolygon : ByteArray := prog_14_method_80_code
def yX12_isPolygon : MethodName := ⟨RX12, "isPolygon", "(I)Z"⟩
abbrev cX12_whyNot : ByteArray := prog_14_method_81_code
def yX12_whyNot : MethodName := ⟨RX12, "whyNot", "(I)I"⟩
abbrev cX12_isInside : ByteArray := prog_14_method_82_code
def yX12_isInside : MethodName := ⟨RX12, "isInside", "(II)Z"⟩
abbrev cX12_isSide : ByteArray := prog_14_method_83_code
def yX12_isSide : MethodName := ⟨RX12, "isSide", "(II)Z"⟩
abbrev cX12_runsInside : ByteArray := prog_14_method_84_code
def yX12_runsInside : MethodName := ⟨RX12, "runsInside", "(II)Z"⟩
abbrev cX12_splits : ByteArray := prog_14_method_85_code
def yX12_splits : MethodName := ⟨RX12, "splits", "(I)I"⟩
abbrev cX12_area : ByteArray := prog_14_method_86_code
def yX12_area : MethodName := ⟨RX12, "area", "(I)I"⟩
abbrev cX12_within : ByteArray := prog_14_method_87_code
def yX12_within : MethodName := ⟨RX12, "within", "(I)I"⟩
abbrev cX12_isEmpty : ByteArray := prog_14_method_88_code
def yX12_isEmpty : MethodName := ⟨RX12, "isEmpty", "(I)Z"⟩
abbrev cX12_empty : ByteArray := prog_14_method_89_code
def yX12_empty : MethodName := ⟨RX12, "empty", "(I)I"⟩
abbrev cX12_prove : ByteArray := prog_14_method_90_code
def yX12_prove : MethodName := ⟨RX12, "prove", "(I)I"⟩
abbrev cX12_isRow : ByteArray := prog_14_method_91_code
def yX12_isRow : MethodName := ⟨RX12, "isRow", "(II)Z"⟩
abbrev cX12_row : ByteArray := prog_14_method_92_code
def yX12_row : MethodName := ⟨RX12, "row", "(II)I"⟩
abbrev cX12_alter : ByteArray := prog_14_method_93_code
def yX12_alter : MethodName := ⟨RX12, "alter", "(III)I"⟩
abbrev cX12_judge : ByteArray := prog_14_method_94_code
def yX12_judge : MethodName := ⟨RX12, "judge", "(I)I"⟩
abbrev cX12_isSheet : ByteArray := prog_14_method_95_code
def yX12_isSheet : MethodName := ⟨RX12, "isSheet", "(I)Z"⟩
abbrev cX12_sheet : ByteArray := prog_14_method_96_code
def yX12_sheet : MethodName := ⟨RX12, "sheet", "(III)I"⟩
abbrev cX12_whyNot_ : ByteArray := prog_14_method_97_code
def yX12_whyNot_ : MethodName := ⟨RX12, "whyNot", "(II)I"⟩
abbrev cX12_write : ByteArray := prog_14_method_98_code
def yX12_write : MethodName := ⟨RX12, "write", "(IIJ)I"⟩
abbrev cX12_item : ByteArray := prog_14_method_99_code
def yX12_item : MethodName := ⟨RX12, "item", "(II)J"⟩
abbrev cX12_copy : ByteArray := prog_14_method_100_code
def yX12_copy : MethodName := ⟨RX12, "copy", "(IIIII)I"⟩
abbrev cX12_undo : ByteArray := prog_14_method_101_code
def yX12_undo : MethodName := ⟨RX12, "undo", "()I"⟩
abbrev cX12_seed : ByteArray := prog_14_method_102_code
def yX12_seed : MethodName := ⟨RX12, "seed", "(I)I"⟩
abbrev cX12_marked : ByteArray := prog_14_method_103_code
def yX12_marked : MethodName := ⟨RX12, "marked", "(I)I"⟩
abbrev cX12_count : ByteArray := prog_14_method_104_code
def yX12_count : MethodName := ⟨RX12, "count", "(I)I"⟩
abbrev cX12_status : ByteArray := prog_14_method_105_code
def yX12_status : MethodName := ⟨RX12, "status", "(I)I"⟩
def RJ6 : String := "java/lang/Integer"
abbrev cJ6_bitCount_0f7a4 : ByteArray := prog_15_method_49_code
def yJ6_bitCount_0f7a4 : MethodName := ⟨RJ6, "bitCount", "(I)I"⟩
def RJ13 : String := "java/lang/Long"
abbrev cJ13_bitCount_95d88 : ByteArray := prog_16_method_50_code
def yJ13_bitCount_95d88 : MethodName := ⟨RJ13, "bitCount", "(J)I"⟩
def RJ9 : String := "java/lang/Math"
abbrev cJ9_abs_0f7a4 : ByteArray := prog_17_method_59_code
def yJ9_abs_0f7a4 : MethodName := ⟨RJ9, "abs", "(I)I"⟩
abbrev cJ9_max_7cf53 : ByteArray := prog_17_method_65_code
def yJ9_max_7cf53 : MethodName := ⟨RJ9, "max", "(II)I"⟩
abbrev cJ9_max_f86c9 : ByteArray := prog_17_method_66_code
def yJ9_max_f86c9 : MethodName := ⟨RJ9, "max", "(JJ)J"⟩
abbrev cJ9_min_7cf53 : ByteArray := prog_17_method_69_code
def yJ9_min_7cf53 : MethodName := ⟨RJ9, "min", "(II)I"⟩
abbrev cJ9_min_f86c9 : ByteArray := prog_17_method_70_code
def yJ9_min_f86c9 : MethodName := ⟨RJ9, "min", "(JJ)J"⟩
def RJ10 : String := "java/lang/System"
def RJ7 : String := "java/util/Arrays"
abbrev cJ7_fill_d0a16 : ByteArray := prog_19_method_101_code
def yJ7_fill_d0a16 : MethodName := ⟨RJ7, "fill", "([JJ)V"⟩
abbrev cJ7_fill_53178 : ByteArray := prog_19_method_103_code
def yJ7_fill_53178 : MethodName := ⟨RJ7, "fill", "([II)V"⟩
def RL : String := "MarkedSweepsLaw"
abbrev cL_law : ByteArray := code
def yL_law : MethodName := ⟨RL, "law", "([I)Z"⟩
abbrev vwCl : List vw_C := [(RX0, TX0, 8), (RX1, TX1, 3), (RX2, TX2, 4), (RX3, TX3, 8), (RX4, TX4, 3), (RX5, TX5, 11), (RX6, TX6, 6), (RX7, TX7, 3), (RX8, TX8, 3), (RX9, TX9, 6), (RX10, TX10, 1), (RX11, TX11, 13), (RX12, TX12, 30)]
end
section
/-! The cells behind the two constructors: kinds, lengths, references (by program). -/
def zNc : Nat := 350
def zC (k : Nat) : Nat × Nat := cond (Nat.blt k 350) (cond (Nat.blt k 175) (cond (Nat.blt k 87) (cond (Nat.blt k 43) (cond (Nat.blt k 21) (cond (Nat.blt k 10) (cond (Nat.blt k 5) (cond (Nat.blt k 2) (cond (Nat.blt k 1) ((110, 0)) ((111, 36))) (cond (Nat.blt k 3) ((112, 36)) (cond (Nat.blt k 4) ((11, 13)) ((0, 8))))) (cond (Nat.blt k 7) (cond (Nat.blt k 6) ((100, 9)) ((100, 9))) (cond (Nat.blt k 8) ((100, 8)) (cond (Nat.blt k 9) ((100, 8)) ((4, 3)))))) (cond (Nat.blt k 15) (cond (Nat.blt k 12) (cond (Nat.blt k 11) ((102, 40)) ((0, 8))) (cond (Nat.blt k 13) ((100, 9)) (cond (Nat.blt k 14) ((100, 9)) ((100, 8))))) (cond (Nat.blt k 18) (cond (Nat.blt k 16) ((100, 8)) (cond (Nat.blt k 17) ((0, 8)) ((100, 9)))) (cond (Nat.blt k 19) ((100, 9)) (cond (Nat.blt k 20) ((100, 8)) ((100, 8))))))) (cond (Nat.blt k 32) (cond (Nat.blt k 26) (cond (Nat.blt k 23) (cond (Nat.blt k 22) ((0, 8)) ((100, 9))) (cond (Nat.blt k 24) ((100, 9)) (cond (Nat.blt k 25) ((100, 8)) ((100, 8))))) (cond (Nat.blt k 29) (cond (Nat.blt k 27) ((0, 8)) (cond (Nat.blt k 28) ((100, 9)) ((100, 9)))) (cond (Nat.blt k 30) ((100, 8)) (cond (Nat.blt k 31) ((100, 8)) ((0, 8)))))) (cond (Nat.blt k 37) (cond (Nat.blt k 34) (cond (Nat.blt k 33) ((100, 9)) ((100, 9))) (cond (Nat.blt k 35) ((100, 8)) (cond (Nat.blt k 36) ((100, 8)) ((0, 8))))) (cond (Nat.blt k 40) (cond (Nat.blt k 38) ((100, 9)) (cond (Nat.blt k 39) ((100, 9)) ((100, 8)))) (cond (Nat.blt k 41) ((100, 8)) (cond (Nat.blt k 42) ((0, 8)) ((100, 9)))))))) (cond (Nat.blt k 65) (cond (Nat.blt k 54) (cond (Nat.blt k 48) (cond (Nat.blt k 45) (cond (Nat.blt k 44) ((100, 9)) ((100, 8))) (cond (Nat.blt k 46) ((100, 8)) (cond (Nat.blt k 47) ((0, 8)) ((100, 9))))) (cond (Nat.blt k 51) (cond (Nat.blt k 49) ((100, 9)) (cond (Nat.blt k 50) ((100, 8)) ((100, 8)))) (cond (Nat.blt k 52) ((0, 8)) (cond (Nat.blt k 53) ((100, 9)) ((100, 9)))))) (cond (Nat.blt k 59) (cond (Nat.blt k 56) (cond (Nat.blt k 55) ((100, 8)) ((100, 8))) (cond (Nat.blt k 57) ((0, 8)) (cond (Nat.blt k 58) ((100, 9)) ((100, 9))))) (cond (Nat.blt k 62) (cond (Nat.blt k 60) ((100, 8)) (cond (Nat.blt k 61) ((100, 8)) ((0, 8)))) (cond (Nat.blt k 63) ((100, 9)) (cond (Nat.blt k 64) ((100, 9)) ((100, 8))))))) (cond (Nat.blt k 76) (cond (Nat.blt k 70) (cond (Nat.blt k 67) (cond (Nat.blt k 66) ((100, 8)) ((0, 8))) (cond (Nat.blt k 68) ((100, 9)) (cond (Nat.blt k 69) ((100, 9)) ((100, 8))))) (cond (Nat.blt k 73) (cond (Nat.blt k 71) ((100, 8)) (cond (Nat.blt k 72) ((0, 8)) ((100, 9)))) (cond (Nat.blt k 74) ((100, 9)) (cond (Nat.blt k 75) ((100, 8)) ((100, 8)))))) (cond (Nat.blt k 81) (cond (Nat.blt k 78) (cond (Nat.blt k 77) ((0, 8)) ((100, 9))) (cond (Nat.blt k 79) ((100, 9)) (cond (Nat.blt k 80) ((100, 8)) ((100, 8))))) (cond (Nat.blt k 84) (cond (Nat.blt k 82) ((0, 8)) (cond (Nat.blt k 83) ((100, 9)) ((100, 9)))) (cond (Nat.blt k 85) ((100, 8)) (cond (Nat.blt k 86) ((100, 8)) ((0, 8))))))))) (cond (Nat.blt k 131) (cond (Nat.blt k 109) (cond (Nat.blt k 98) (cond (Nat.blt k 92) (cond (Nat.blt k 89) (cond (Nat.blt k 88) ((100, 9)) ((100, 9))) (cond (Nat.blt k 90) ((100, 8)) (cond (Nat.blt k 91) ((100, 8)) ((0, 8))))) (cond (Nat.blt k 95) (cond (Nat.blt k 93) ((100, 9)) (cond (Nat.blt k 94) ((100, 9)) ((100, 8)))) (cond (Nat.blt k 96) ((100, 8)) (cond (Nat.blt k 97) ((0, 8)) ((100, 9)))))) (cond (Nat.blt k 103) (cond (Nat.blt k 100) (cond (Nat.blt k 99) ((100, 9)) ((100, 8))) (cond (Nat.blt k 101) ((100, 8)) (cond (Nat.blt k 102) ((0, 8)) ((100, 9))))) (cond (Nat.blt k 106) (cond (Nat.blt k 104) ((100, 9)) (cond (Nat.blt k 105) ((100, 8)) ((100, 8)))) (cond (Nat.blt k 107) ((0, 8)) (cond (Nat.blt k 108) ((100, 9)) ((100, 9))))))) (cond (Nat.blt k 120) (cond (Nat.blt k 114) (cond (Nat.blt k 111) (cond (Nat.blt k 110) ((100, 8)) ((100, 8))) (cond (Nat.blt k 112) ((0, 8)) (cond (Nat.blt k 113) ((100, 9)) ((100, 9))))) (cond (Nat.blt k 117) (cond (Nat.blt k 115) ((100, 8)) (cond (Nat.blt k 116) ((100, 8)) ((0, 8)))) (cond (Nat.blt k 118) ((100, 9)) (cond (Nat.blt k 119) ((100, 9)) ((100, 8)))))) (cond (Nat.blt k 125) (cond (Nat.blt k 122) (cond (Nat.blt k 121) ((100, 8)) ((0, 8))) (cond (Nat.blt k 123) ((100, 9)) (cond (Nat.blt k 124) ((100, 9)) ((100, 8))))) (cond (Nat.blt k 128) (cond (Nat.blt k 126) ((100, 8)) (cond (Nat.blt k 127) ((0, 8)) ((100, 9)))) (cond (Nat.blt k 129) ((100, 9)) (cond (Nat.blt k 130) ((100, 8)) ((100, 8)))))))) (cond (Nat.blt k 153) (cond (Nat.blt k 142) (cond (Nat.blt k 136) (cond (Nat.blt k 133) (cond (Nat.blt k 132) ((0, 8)) ((100, 9))) (cond (Nat.blt k 134) ((100, 9)) (cond (Nat.blt k 135) ((100, 8)) ((100, 8))))) (cond (Nat.blt k 139) (cond (Nat.blt k 137) ((0, 8)) (cond (Nat.blt k 138) ((100, 9)) ((100, 9)))) (cond (Nat.blt k 140) ((100, 8)) (cond (Nat.blt k 141) ((100, 8)) ((0, 8)))))) (cond (Nat.blt k 147) (cond (Nat.blt k 144) (cond (Nat.blt k 143) ((100, 9)) ((100, 9))) (cond (Nat.blt k 145) ((100, 8)) (cond (Nat.blt k 146) ((100, 8)) ((0, 8))))) (cond (Nat.blt k 150) (cond (Nat.blt k 148) ((100, 9)) (cond (Nat.blt k 149) ((100, 9)) ((100, 8)))) (cond (Nat.blt k 151) ((100, 8)) (cond (Nat.blt k 152) ((0, 8)) ((100, 9))))))) (cond (Nat.blt k 164) (cond (Nat.blt k 158) (cond (Nat.blt k 155) (cond (Nat.blt k 154) ((100, 9)) ((100, 8))) (cond (Nat.blt k 156) ((100, 8)) (cond (Nat.blt k 157) ((0, 8)) ((100, 9))))) (cond (Nat.blt k 161) (cond (Nat.blt k 159) ((100, 9)) (cond (Nat.blt k 160) ((100, 8)) ((100, 8)))) (cond (Nat.blt k 162) ((0, 8)) (cond (Nat.blt k 163) ((100, 9)) ((100, 9)))))) (cond (Nat.blt k 169) (cond (Nat.blt k 166) (cond (Nat.blt k 165) ((100, 8)) ((100, 8))) (cond (Nat.blt k 167) ((0, 8)) (cond (Nat.blt k 168) ((100, 9)) ((100, 9))))) (cond (Nat.blt k 172) (cond (Nat.blt k 170) ((100, 8)) (cond (Nat.blt k 171) ((100, 8)) ((0, 8)))) (cond (Nat.blt k 173) ((100, 9)) (cond (Nat.blt k 174) ((100, 9)) ((100, 8)))))))))) (cond (Nat.blt k 262) (cond (Nat.blt k 218) (cond (Nat.blt k 196) (cond (Nat.blt k 185) (cond (Nat.blt k 180) (cond (Nat.blt k 177) (cond (Nat.blt k 176) ((100, 8)) ((0, 8))) (cond (Nat.blt k 178) ((100, 9)) (cond (Nat.blt k 179) ((100, 9)) ((100, 8))))) (cond (Nat.blt k 182) (cond (Nat.blt k 181) ((100, 8)) ((0, 8))) (cond (Nat.blt k 183) ((100, 9)) (cond (Nat.blt k 184) ((100, 9)) ((100, 8)))))) (cond (Nat.blt k 190) (cond (Nat.blt k 187) (cond (Nat.blt k 186) ((100, 8)) ((0, 8))) (cond (Nat.blt k 188) ((100, 9)) (cond (Nat.blt k 189) ((100, 9)) ((100, 8))))) (cond (Nat.blt k 193) (cond (Nat.blt k 191) ((100, 8)) (cond (Nat.blt k 192) ((0, 8)) ((100, 9)))) (cond (Nat.blt k 194) ((100, 9)) (cond (Nat.blt k 195) ((100, 8)) ((100, 8))))))) (cond (Nat.blt k 207) (cond (Nat.blt k 201) (cond (Nat.blt k 198) (cond (Nat.blt k 197) ((0, 8)) ((100, 9))) (cond (Nat.blt k 199) ((100, 9)) (cond (Nat.blt k 200) ((100, 8)) ((100, 8))))) (cond (Nat.blt k 204) (cond (Nat.blt k 202) ((0, 8)) (cond (Nat.blt k 203) ((100, 9)) ((100, 9)))) (cond (Nat.blt k 205) ((100, 8)) (cond (Nat.blt k 206) ((100, 8)) ((0, 8)))))) (cond (Nat.blt k 212) (cond (Nat.blt k 209) (cond (Nat.blt k 208) ((100, 9)) ((100, 9))) (cond (Nat.blt k 210) ((100, 8)) (cond (Nat.blt k 211) ((100, 8)) ((5, 11))))) (cond (Nat.blt k 215) (cond (Nat.blt k 213) ((100, 9)) (cond (Nat.blt k 214) ((100, 9)) ((100, 9)))) (cond (Nat.blt k 216) ((100, 9)) (cond (Nat.blt k 217) ((100, 9)) ((101, 36)))))))) (cond (Nat.blt k 240) (cond (Nat.blt k 229) (cond (Nat.blt k 223) (cond (Nat.blt k 220) (cond (Nat.blt k 219) ((100, 81)) ((3, 8))) (cond (Nat.blt k 221) ((101, 800)) (cond (Nat.blt k 222) ((101, 800)) ((101, 800))))) (cond (Nat.blt k 226) (cond (Nat.blt k 224) ((1, 3)) (cond (Nat.blt k 225) ((100, 800)) ((100, 800)))) (cond (Nat.blt k 227) ((9, 6)) (cond (Nat.blt k 228) ((100, 14)) ((100, 13)))))) (cond (Nat.blt k 234) (cond (Nat.blt k 231) (cond (Nat.blt k 230) ((100, 13)) ((10, 1))) (cond (Nat.blt k 232) ((100, 9)) (cond (Nat.blt k 233) ((2, 4)) ((101, 36))))) (cond (Nat.blt k 237) (cond (Nat.blt k 235) ((6, 6)) (cond (Nat.blt k 236) ((100, 9)) ((100, 81)))) (cond (Nat.blt k 238) ((7, 3)) (cond (Nat.blt k 239) ((100, 13)) ((100, 13))))))) (cond (Nat.blt k 251) (cond (Nat.blt k 245) (cond (Nat.blt k 242) (cond (Nat.blt k 241) ((103, 4)) ((100, 8))) (cond (Nat.blt k 243) ((8, 3)) (cond (Nat.blt k 244) ((101, 40)) ((8, 3))))) (cond (Nat.blt k 248) (cond (Nat.blt k 246) ((101, 40)) (cond (Nat.blt k 247) ((8, 3)) ((101, 40)))) (cond (Nat.blt k 249) ((8, 3)) (cond (Nat.blt k 250) ((101, 40)) ((12, 30)))))) (cond (Nat.blt k 256) (cond (Nat.blt k 253) (cond (Nat.blt k 252) ((100, 72)) ((104, 40))) (cond (Nat.blt k 254) ((100, 72)) (cond (Nat.blt k 255) ((100, 72)) ((100, 72))))) (cond (Nat.blt k 259) (cond (Nat.blt k 257) ((100, 72)) (cond (Nat.blt k 258) ((100, 72)) ((100, 72)))) (cond (Nat.blt k 260) ((100, 72)) (cond (Nat.blt k 261) ((100, 72)) ((100, 72))))))))) (cond (Nat.blt k 306) (cond (Nat.blt k 284) (cond (Nat.blt k 273) (cond (Nat.blt k 267) (cond (Nat.blt k 264) (cond (Nat.blt k 263) ((100, 72)) ((100, 72))) (cond (Nat.blt k 265) ((100, 72)) (cond (Nat.blt k 266) ((100, 72)) ((100, 72))))) (cond (Nat.blt k 270) (cond (Nat.blt k 268) ((100, 72)) (cond (Nat.blt k 269) ((100, 72)) ((100, 72)))) (cond (Nat.blt k 271) ((100, 72)) (cond (Nat.blt k 272) ((100, 72)) ((100, 72)))))) (cond (Nat.blt k 278) (cond (Nat.blt k 275) (cond (Nat.blt k 274) ((100, 72)) ((100, 72))) (cond (Nat.blt k 276) ((100, 72)) (cond (Nat.blt k 277) ((100, 72)) ((100, 72))))) (cond (Nat.blt k 281) (cond (Nat.blt k 279) ((100, 72)) (cond (Nat.blt k 280) ((100, 72)) ((100, 72)))) (cond (Nat.blt k 282) ((100, 72)) (cond (Nat.blt k 283) ((100, 72)) ((100, 72))))))) (cond (Nat.blt k 295) (cond (Nat.blt k 289) (cond (Nat.blt k 286) (cond (Nat.blt k 285) ((100, 72)) ((100, 72))) (cond (Nat.blt k 287) ((100, 72)) (cond (Nat.blt k 288) ((100, 72)) ((100, 72))))) (cond (Nat.blt k 292) (cond (Nat.blt k 290) ((100, 72)) (cond (Nat.blt k 291) ((100, 72)) ((100, 72)))) (cond (Nat.blt k 293) ((100, 72)) (cond (Nat.blt k 294) ((100, 8)) ((100, 9)))))) (cond (Nat.blt k 300) (cond (Nat.blt k 297) (cond (Nat.blt k 296) ((100, 72)) ((101, 36))) (cond (Nat.blt k 298) ((101, 5000)) (cond (Nat.blt k 299) ((100, 5000)) ((100, 5000))))) (cond (Nat.blt k 303) (cond (Nat.blt k 301) ((100, 9)) (cond (Nat.blt k 302) ((104, 40)) ((100, 2)))) (cond (Nat.blt k 304) ((100, 2)) (cond (Nat.blt k 305) ((100, 2)) ((100, 2)))))))) (cond (Nat.blt k 328) (cond (Nat.blt k 317) (cond (Nat.blt k 311) (cond (Nat.blt k 308) (cond (Nat.blt k 307) ((100, 2)) ((100, 2))) (cond (Nat.blt k 309) ((100, 2)) (cond (Nat.blt k 310) ((100, 2)) ((100, 2))))) (cond (Nat.blt k 314) (cond (Nat.blt k 312) ((100, 2)) (cond (Nat.blt k 313) ((100, 2)) ((100, 2)))) (cond (Nat.blt k 315) ((100, 2)) (cond (Nat.blt k 316) ((100, 2)) ((100, 2)))))) (cond (Nat.blt k 322) (cond (Nat.blt k 319) (cond (Nat.blt k 318) ((100, 2)) ((100, 2))) (cond (Nat.blt k 320) ((100, 2)) (cond (Nat.blt k 321) ((100, 2)) ((100, 2))))) (cond (Nat.blt k 325) (cond (Nat.blt k 323) ((100, 2)) (cond (Nat.blt k 324) ((100, 2)) ((100, 2)))) (cond (Nat.blt k 326) ((100, 2)) (cond (Nat.blt k 327) ((100, 2)) ((100, 2))))))) (cond (Nat.blt k 339) (cond (Nat.blt k 333) (cond (Nat.blt k 330) (cond (Nat.blt k 329) ((100, 2)) ((100, 2))) (cond (Nat.blt k 331) ((100, 2)) (cond (Nat.blt k 332) ((100, 2)) ((100, 2))))) (cond (Nat.blt k 336) (cond (Nat.blt k 334) ((100, 2)) (cond (Nat.blt k 335) ((100, 2)) ((100, 2)))) (cond (Nat.blt k 337) ((100, 2)) (cond (Nat.blt k 338) ((100, 2)) ((100, 2)))))) (cond (Nat.blt k 344) (cond (Nat.blt k 341) (cond (Nat.blt k 340) ((100, 2)) ((100, 2))) (cond (Nat.blt k 342) ((100, 2)) (cond (Nat.blt k 343) ((100, 4)) ((100, 4))))) (cond (Nat.blt k 347) (cond (Nat.blt k 345) ((105, 4)) (cond (Nat.blt k 346) ((101, 40)) ((101, 40)))) (cond (Nat.blt k 348) ((101, 40)) (cond (Nat.blt k 349) ((101, 40)) ((101, 40))))))))))) (999, 0)
def zRf (k j : Nat) : Nat := cond (Nat.blt k 175) (cond (Nat.blt k 87) (cond (Nat.blt k 43) (cond (Nat.blt k 21) (cond (Nat.blt k 10) (cond (Nat.blt k 5) (cond (Nat.blt k 2) (cond (Nat.blt k 1) (0) (0)) (cond (Nat.blt k 3) (0) (cond (Nat.blt k 4) (cond (Nat.beq j 0) 4 (cond (Nat.beq j 1) 9 (cond (Nat.beq j 2) 211 (cond (Nat.beq j 3) 219 (cond (Nat.beq j 4) 223 (cond (Nat.beq j 5) 226 (cond (Nat.beq j 6) 230 (cond (Nat.beq j 7) 232 (cond (Nat.beq j 8) 234 (cond (Nat.beq j 9) 237 (cond (Nat.beq j 10) 240 (cond (Nat.beq j 11) 241 (0))))))))))))) (cond (Nat.beq j 0) 5 (cond (Nat.beq j 1) 6 (cond (Nat.beq j 2) 7 (cond (Nat.beq j 3) 8 (0)))))))) (cond (Nat.blt k 7) (cond (Nat.blt k 6) (0) (0)) (cond (Nat.blt k 8) (0) (cond (Nat.blt k 9) (0) (cond (Nat.beq j 0) 10 (0)))))) (cond (Nat.blt k 15) (cond (Nat.blt k 12) (cond (Nat.blt k 11) (11 + 5 * j) (cond (Nat.beq j 0) 12 (cond (Nat.beq j 1) 13 (cond (Nat.beq j 2) 14 (cond (Nat.beq j 3) 15 (0)))))) (cond (Nat.blt k 13) (0) (cond (Nat.blt k 14) (0) (0)))) (cond (Nat.blt k 18) (cond (Nat.blt k 16) (0) (cond (Nat.blt k 17) (cond (Nat.beq j 0) 17 (cond (Nat.beq j 1) 18 (cond (Nat.beq j 2) 19 (cond (Nat.beq j 3) 20 (0))))) (0))) (cond (Nat.blt k 19) (0) (cond (Nat.blt k 20) (0) (0)))))) (cond (Nat.blt k 32) (cond (Nat.blt k 26) (cond (Nat.blt k 23) (cond (Nat.blt k 22) (cond (Nat.beq j 0) 22 (cond (Nat.beq j 1) 23 (cond (Nat.beq j 2) 24 (cond (Nat.beq j 3) 25 (0))))) (0)) (cond (Nat.blt k 24) (0) (cond (Nat.blt k 25) (0) (0)))) (cond (Nat.blt k 29) (cond (Nat.blt k 27) (cond (Nat.beq j 0) 27 (cond (Nat.beq j 1) 28 (cond (Nat.beq j 2) 29 (cond (Nat.beq j 3) 30 (0))))) (cond (Nat.blt k 28) (0) (0))) (cond (Nat.blt k 30) (0) (cond (Nat.blt k 31) (0) (cond (Nat.beq j 0) 32 (cond (Nat.beq j 1) 33 (cond (Nat.beq j 2) 34 (cond (Nat.beq j 3) 35 (0))))))))) (cond (Nat.blt k 37) (cond (Nat.blt k 34) (cond (Nat.blt k 33) (0) (0)) (cond (Nat.blt k 35) (0) (cond (Nat.blt k 36) (0) (cond (Nat.beq j 0) 37 (cond (Nat.beq j 1) 38 (cond (Nat.beq j 2) 39 (cond (Nat.beq j 3) 40 (0)))))))) (cond (Nat.blt k 40) (cond (Nat.blt k 38) (0) (cond (Nat.blt k 39) (0) (0))) (cond (Nat.blt k 41) (0) (cond (Nat.blt k 42) (cond (Nat.beq j 0) 42 (cond (Nat.beq j 1) 43 (cond (Nat.beq j 2) 44 (cond (Nat.beq j 3) 45 (0))))) (0))))))) (cond (Nat.blt k 65) (cond (Nat.blt k 54) (cond (Nat.blt k 48) (cond (Nat.blt k 45) (cond (Nat.blt k 44) (0) (0)) (cond (Nat.blt k 46) (0) (cond (Nat.blt k 47) (cond (Nat.beq j 0) 47 (cond (Nat.beq j 1) 48 (cond (Nat.beq j 2) 49 (cond (Nat.beq j 3) 50 (0))))) (0)))) (cond (Nat.blt k 51) (cond (Nat.blt k 49) (0) (cond (Nat.blt k 50) (0) (0))) (cond (Nat.blt k 52) (cond (Nat.beq j 0) 52 (cond (Nat.beq j 1) 53 (cond (Nat.beq j 2) 54 (cond (Nat.beq j 3) 55 (0))))) (cond (Nat.blt k 53) (0) (0))))) (cond (Nat.blt k 59) (cond (Nat.blt k 56) (cond (Nat.blt k 55) (0) (0)) (cond (Nat.blt k 57) (cond (Nat.beq j 0) 57 (cond (Nat.beq j 1) 58 (cond (Nat.beq j 2) 59 (cond (Nat.beq j 3) 60 (0))))) (cond (Nat.blt k 58) (0) (0)))) (cond (Nat.blt k 62) (cond (Nat.blt k 60) (0) (cond (Nat.blt k 61) (0) (cond (Nat.beq j 0) 62 (cond (Nat.beq j 1) 63 (cond (Nat.beq j 2) 64 (cond (Nat.beq j 3) 65 (0))))))) (cond (Nat.blt k 63) (0) (cond (Nat.blt k 64) (0) (0)))))) (cond (Nat.blt k 76) (cond (Nat.blt k 70) (cond (Nat.blt k 67) (cond (Nat.blt k 66) (0) (cond (Nat.beq j 0) 67 (cond (Nat.beq j 1) 68 (cond (Nat.beq j 2) 69 (cond (Nat.beq j 3) 70 (0)))))) (cond (Nat.blt k 68) (0) (cond (Nat.blt k 69) (0) (0)))) (cond (Nat.blt k 73) (cond (Nat.blt k 71) (0) (cond (Nat.blt k 72) (cond (Nat.beq j 0) 72 (cond (Nat.beq j 1) 73 (cond (Nat.beq j 2) 74 (cond (Nat.beq j 3) 75 (0))))) (0))) (cond (Nat.blt k 74) (0) (cond (Nat.blt k 75) (0) (0))))) (cond (Nat.blt k 81) (cond (Nat.blt k 78) (cond (Nat.blt k 77) (cond (Nat.beq j 0) 77 (cond (Nat.beq j 1) 78 (cond (Nat.beq j 2) 79 (cond (Nat.beq j 3) 80 (0))))) (0)) (cond (Nat.blt k 79) (0) (cond (Nat.blt k 80) (0) (0)))) (cond (Nat.blt k 84) (cond (Nat.blt k 82) (cond (Nat.beq j 0) 82 (cond (Nat.beq j 1) 83 (cond (Nat.beq j 2) 84 (cond (Nat.beq j 3) 85 (0))))) (cond (Nat.blt k 83) (0) (0))) (cond (Nat.blt k 85) (0) (cond (Nat.blt k 86) (0) (cond (Nat.beq j 0) 87 (cond (Nat.beq j 1) 88 (cond (Nat.beq j 2) 89 (cond (Nat.beq j 3) 90 (0)))))))))))) (cond (Nat.blt k 131) (cond (Nat.blt k 109) (cond (Nat.blt k 98) (cond (Nat.blt k 92) (cond (Nat.blt k 89) (cond (Nat.blt k 88) (0) (0)) (cond (Nat.blt k 90) (0) (cond (Nat.blt k 91) (0) (cond (Nat.beq j 0) 92 (cond (Nat.beq j 1) 93 (cond (Nat.beq j 2) 94 (cond (Nat.beq j 3) 95 (0)))))))) (cond (Nat.blt k 95) (cond (Nat.blt k 93) (0) (cond (Nat.blt k 94) (0) (0))) (cond (Nat.blt k 96) (0) (cond (Nat.blt k 97) (cond (Nat.beq j 0) 97 (cond (Nat.beq j 1) 98 (cond (Nat.beq j 2) 99 (cond (Nat.beq j 3) 100 (0))))) (0))))) (cond (Nat.blt k 103) (cond (Nat.blt k 100) (cond (Nat.blt k 99) (0) (0)) (cond (Nat.blt k 101) (0) (cond (Nat.blt k 102) (cond (Nat.beq j 0) 102 (cond (Nat.beq j 1) 103 (cond (Nat.beq j 2) 104 (cond (Nat.beq j 3) 105 (0))))) (0)))) (cond (Nat.blt k 106) (cond (Nat.blt k 104) (0) (cond (Nat.blt k 105) (0) (0))) (cond (Nat.blt k 107) (cond (Nat.beq j 0) 107 (cond (Nat.beq j 1) 108 (cond (Nat.beq j 2) 109 (cond (Nat.beq j 3) 110 (0))))) (cond (Nat.blt k 108) (0) (0)))))) (cond (Nat.blt k 120) (cond (Nat.blt k 114) (cond (Nat.blt k 111) (cond (Nat.blt k 110) (0) (0)) (cond (Nat.blt k 112) (cond (Nat.beq j 0) 112 (cond (Nat.beq j 1) 113 (cond (Nat.beq j 2) 114 (cond (Nat.beq j 3) 115 (0))))) (cond (Nat.blt k 113) (0) (0)))) (cond (Nat.blt k 117) (cond (Nat.blt k 115) (0) (cond (Nat.blt k 116) (0) (cond (Nat.beq j 0) 117 (cond (Nat.beq j 1) 118 (cond (Nat.beq j 2) 119 (cond (Nat.beq j 3) 120 (0))))))) (cond (Nat.blt k 118) (0) (cond (Nat.blt k 119) (0) (0))))) (cond (Nat.blt k 125) (cond (Nat.blt k 122) (cond (Nat.blt k 121) (0) (cond (Nat.beq j 0) 122 (cond (Nat.beq j 1) 123 (cond (Nat.beq j 2) 124 (cond (Nat.beq j 3) 125 (0)))))) (cond (Nat.blt k 123) (0) (cond (Nat.blt k 124) (0) (0)))) (cond (Nat.blt k 128) (cond (Nat.blt k 126) (0) (cond (Nat.blt k 127) (cond (Nat.beq j 0) 127 (cond (Nat.beq j 1) 128 (cond (Nat.beq j 2) 129 (cond (Nat.beq j 3) 130 (0))))) (0))) (cond (Nat.blt k 129) (0) (cond (Nat.blt k 130) (0) (0))))))) (cond (Nat.blt k 153) (cond (Nat.blt k 142) (cond (Nat.blt k 136) (cond (Nat.blt k 133) (cond (Nat.blt k 132) (cond (Nat.beq j 0) 132 (cond (Nat.beq j 1) 133 (cond (Nat.beq j 2) 134 (cond (Nat.beq j 3) 135 (0))))) (0)) (cond (Nat.blt k 134) (0) (cond (Nat.blt k 135) (0) (0)))) (cond (Nat.blt k 139) (cond (Nat.blt k 137) (cond (Nat.beq j 0) 137 (cond (Nat.beq j 1) 138 (cond (Nat.beq j 2) 139 (cond (Nat.beq j 3) 140 (0))))) (cond (Nat.blt k 138) (0) (0))) (cond (Nat.blt k 140) (0) (cond (Nat.blt k 141) (0) (cond (Nat.beq j 0) 142 (cond (Nat.beq j 1) 143 (cond (Nat.beq j 2) 144 (cond (Nat.beq j 3) 145 (0))))))))) (cond (Nat.blt k 147) (cond (Nat.blt k 144) (cond (Nat.blt k 143) (0) (0)) (cond (Nat.blt k 145) (0) (cond (Nat.blt k 146) (0) (cond (Nat.beq j 0) 147 (cond (Nat.beq j 1) 148 (cond (Nat.beq j 2) 149 (cond (Nat.beq j 3) 150 (0)))))))) (cond (Nat.blt k 150) (cond (Nat.blt k 148) (0) (cond (Nat.blt k 149) (0) (0))) (cond (Nat.blt k 151) (0) (cond (Nat.blt k 152) (cond (Nat.beq j 0) 152 (cond (Nat.beq j 1) 153 (cond (Nat.beq j 2) 154 (cond (Nat.beq j 3) 155 (0))))) (0)))))) (cond (Nat.blt k 164) (cond (Nat.blt k 158) (cond (Nat.blt k 155) (cond (Nat.blt k 154) (0) (0)) (cond (Nat.blt k 156) (0) (cond (Nat.blt k 157) (cond (Nat.beq j 0) 157 (cond (Nat.beq j 1) 158 (cond (Nat.beq j 2) 159 (cond (Nat.beq j 3) 160 (0))))) (0)))) (cond (Nat.blt k 161) (cond (Nat.blt k 159) (0) (cond (Nat.blt k 160) (0) (0))) (cond (Nat.blt k 162) (cond (Nat.beq j 0) 162 (cond (Nat.beq j 1) 163 (cond (Nat.beq j 2) 164 (cond (Nat.beq j 3) 165 (0))))) (cond (Nat.blt k 163) (0) (0))))) (cond (Nat.blt k 169) (cond (Nat.blt k 166) (cond (Nat.blt k 165) (0) (0)) (cond (Nat.blt k 167) (cond (Nat.beq j 0) 167 (cond (Nat.beq j 1) 168 (cond (Nat.beq j 2) 169 (cond (Nat.beq j 3) 170 (0))))) (cond (Nat.blt k 168) (0) (0)))) (cond (Nat.blt k 172) (cond (Nat.blt k 170) (0) (cond (Nat.blt k 171) (0) (cond (Nat.beq j 0) 172 (cond (Nat.beq j 1) 173 (cond (Nat.beq j 2) 174 (cond (Nat.beq j 3) 175 (0))))))) (cond (Nat.blt k 173) (0) (cond (Nat.blt k 174) (0) (0))))))))) (cond (Nat.blt k 262) (cond (Nat.blt k 218) (cond (Nat.blt k 196) (cond (Nat.blt k 185) (cond (Nat.blt k 180) (cond (Nat.blt k 177) (cond (Nat.blt k 176) (0) (cond (Nat.beq j 0) 177 (cond (Nat.beq j 1) 178 (cond (Nat.beq j 2) 179 (cond (Nat.beq j 3) 180 (0)))))) (cond (Nat.blt k 178) (0) (cond (Nat.blt k 179) (0) (0)))) (cond (Nat.blt k 182) (cond (Nat.blt k 181) (0) (cond (Nat.beq j 0) 182 (cond (Nat.beq j 1) 183 (cond (Nat.beq j 2) 184 (cond (Nat.beq j 3) 185 (0)))))) (cond (Nat.blt k 183) (0) (cond (Nat.blt k 184) (0) (0))))) (cond (Nat.blt k 190) (cond (Nat.blt k 187) (cond (Nat.blt k 186) (0) (cond (Nat.beq j 0) 187 (cond (Nat.beq j 1) 188 (cond (Nat.beq j 2) 189 (cond (Nat.beq j 3) 190 (0)))))) (cond (Nat.blt k 188) (0) (cond (Nat.blt k 189) (0) (0)))) (cond (Nat.blt k 193) (cond (Nat.blt k 191) (0) (cond (Nat.blt k 192) (cond (Nat.beq j 0) 192 (cond (Nat.beq j 1) 193 (cond (Nat.beq j 2) 194 (cond (Nat.beq j 3) 195 (0))))) (0))) (cond (Nat.blt k 194) (0) (cond (Nat.blt k 195) (0) (0)))))) (cond (Nat.blt k 207) (cond (Nat.blt k 201) (cond (Nat.blt k 198) (cond (Nat.blt k 197) (cond (Nat.beq j 0) 197 (cond (Nat.beq j 1) 198 (cond (Nat.beq j 2) 199 (cond (Nat.beq j 3) 200 (0))))) (0)) (cond (Nat.blt k 199) (0) (cond (Nat.blt k 200) (0) (0)))) (cond (Nat.blt k 204) (cond (Nat.blt k 202) (cond (Nat.beq j 0) 202 (cond (Nat.beq j 1) 203 (cond (Nat.beq j 2) 204 (cond (Nat.beq j 3) 205 (0))))) (cond (Nat.blt k 203) (0) (0))) (cond (Nat.blt k 205) (0) (cond (Nat.blt k 206) (0) (cond (Nat.beq j 0) 207 (cond (Nat.beq j 1) 208 (cond (Nat.beq j 2) 209 (cond (Nat.beq j 3) 210 (0))))))))) (cond (Nat.blt k 212) (cond (Nat.blt k 209) (cond (Nat.blt k 208) (0) (0)) (cond (Nat.blt k 210) (0) (cond (Nat.blt k 211) (0) (cond (Nat.beq j 0) 212 (cond (Nat.beq j 1) 213 (cond (Nat.beq j 2) 214 (cond (Nat.beq j 3) 215 (cond (Nat.beq j 4) 216 (cond (Nat.beq j 5) 217 (cond (Nat.beq j 6) 218 (0))))))))))) (cond (Nat.blt k 215) (cond (Nat.blt k 213) (0) (cond (Nat.blt k 214) (0) (0))) (cond (Nat.blt k 216) (0) (cond (Nat.blt k 217) (0) (0))))))) (cond (Nat.blt k 240) (cond (Nat.blt k 229) (cond (Nat.blt k 223) (cond (Nat.blt k 220) (cond (Nat.blt k 219) (0) (cond (Nat.beq j 0) 220 (cond (Nat.beq j 1) 221 (cond (Nat.beq j 6) 222 (0))))) (cond (Nat.blt k 221) (0) (cond (Nat.blt k 222) (0) (0)))) (cond (Nat.blt k 226) (cond (Nat.blt k 224) (cond (Nat.beq j 0) 224 (cond (Nat.beq j 1) 225 (0))) (cond (Nat.blt k 225) (0) (0))) (cond (Nat.blt k 227) (cond (Nat.beq j 0) 227 (cond (Nat.beq j 1) 228 (cond (Nat.beq j 2) 229 (0)))) (cond (Nat.blt k 228) (0) (0))))) (cond (Nat.blt k 234) (cond (Nat.blt k 231) (cond (Nat.blt k 230) (0) (cond (Nat.beq j 0) 231 (0))) (cond (Nat.blt k 232) (0) (cond (Nat.blt k 233) (cond (Nat.beq j 0) 233 (0)) (0)))) (cond (Nat.blt k 237) (cond (Nat.blt k 235) (cond (Nat.beq j 0) 235 (cond (Nat.beq j 1) 236 (0))) (cond (Nat.blt k 236) (0) (0))) (cond (Nat.blt k 238) (cond (Nat.beq j 0) 238 (cond (Nat.beq j 1) 239 (0))) (cond (Nat.blt k 239) (0) (0)))))) (cond (Nat.blt k 251) (cond (Nat.blt k 245) (cond (Nat.blt k 242) (cond (Nat.blt k 241) (242 + 2 * j) (0)) (cond (Nat.blt k 243) (cond (Nat.beq j 0) 243 (0)) (cond (Nat.blt k 244) (0) (cond (Nat.beq j 0) 245 (0))))) (cond (Nat.blt k 248) (cond (Nat.blt k 246) (0) (cond (Nat.blt k 247) (cond (Nat.beq j 0) 247 (0)) (0))) (cond (Nat.blt k 249) (cond (Nat.beq j 0) 249 (0)) (cond (Nat.blt k 250) (0) (cond (Nat.beq j 0) 251 (cond (Nat.beq j 1) 252 (cond (Nat.beq j 5) 293 (cond (Nat.beq j 7) 294 (cond (Nat.beq j 8) 295 (cond (Nat.beq j 9) 296 (cond (Nat.beq j 13) 297 (cond (Nat.beq j 16) 298 (cond (Nat.beq j 17) 299 (cond (Nat.beq j 23) 300 (cond (Nat.beq j 25) 301 (cond (Nat.beq j 26) 342 (cond (Nat.beq j 27) 343 (cond (Nat.beq j 28) 344 (cond (Nat.beq j 29) 349 (0)))))))))))))))))))) (cond (Nat.blt k 256) (cond (Nat.blt k 253) (cond (Nat.blt k 252) (0) (253 + j)) (cond (Nat.blt k 254) (0) (cond (Nat.blt k 255) (0) (0)))) (cond (Nat.blt k 259) (cond (Nat.blt k 257) (0) (cond (Nat.blt k 258) (0) (0))) (cond (Nat.blt k 260) (0) (cond (Nat.blt k 261) (0) (0)))))))) (cond (Nat.blt k 306) (cond (Nat.blt k 284) (cond (Nat.blt k 273) (cond (Nat.blt k 267) (cond (Nat.blt k 264) (cond (Nat.blt k 263) (0) (0)) (cond (Nat.blt k 265) (0) (cond (Nat.blt k 266) (0) (0)))) (cond (Nat.blt k 270) (cond (Nat.blt k 268) (0) (cond (Nat.blt k 269) (0) (0))) (cond (Nat.blt k 271) (0) (cond (Nat.blt k 272) (0) (0))))) (cond (Nat.blt k 278) (cond (Nat.blt k 275) (cond (Nat.blt k 274) (0) (0)) (cond (Nat.blt k 276) (0) (cond (Nat.blt k 277) (0) (0)))) (cond (Nat.blt k 281) (cond (Nat.blt k 279) (0) (cond (Nat.blt k 280) (0) (0))) (cond (Nat.blt k 282) (0) (cond (Nat.blt k 283) (0) (0)))))) (cond (Nat.blt k 295) (cond (Nat.blt k 289) (cond (Nat.blt k 286) (cond (Nat.blt k 285) (0) (0)) (cond (Nat.blt k 287) (0) (cond (Nat.blt k 288) (0) (0)))) (cond (Nat.blt k 292) (cond (Nat.blt k 290) (0) (cond (Nat.blt k 291) (0) (0))) (cond (Nat.blt k 293) (0) (cond (Nat.blt k 294) (0) (0))))) (cond (Nat.blt k 300) (cond (Nat.blt k 297) (cond (Nat.blt k 296) (0) (0)) (cond (Nat.blt k 298) (0) (cond (Nat.blt k 299) (0) (0)))) (cond (Nat.blt k 303) (cond (Nat.blt k 301) (0) (cond (Nat.blt k 302) (302 + j) (0))) (cond (Nat.blt k 304) (0) (cond (Nat.blt k 305) (0) (0))))))) (cond (Nat.blt k 328) (cond (Nat.blt k 317) (cond (Nat.blt k 311) (cond (Nat.blt k 308) (cond (Nat.blt k 307) (0) (0)) (cond (Nat.blt k 309) (0) (cond (Nat.blt k 310) (0) (0)))) (cond (Nat.blt k 314) (cond (Nat.blt k 312) (0) (cond (Nat.blt k 313) (0) (0))) (cond (Nat.blt k 315) (0) (cond (Nat.blt k 316) (0) (0))))) (cond (Nat.blt k 322) (cond (Nat.blt k 319) (cond (Nat.blt k 318) (0) (0)) (cond (Nat.blt k 320) (0) (cond (Nat.blt k 321) (0) (0)))) (cond (Nat.blt k 325) (cond (Nat.blt k 323) (0) (cond (Nat.blt k 324) (0) (0))) (cond (Nat.blt k 326) (0) (cond (Nat.blt k 327) (0) (0)))))) (cond (Nat.blt k 339) (cond (Nat.blt k 333) (cond (Nat.blt k 330) (cond (Nat.blt k 329) (0) (0)) (cond (Nat.blt k 331) (0) (cond (Nat.blt k 332) (0) (0)))) (cond (Nat.blt k 336) (cond (Nat.blt k 334) (0) (cond (Nat.blt k 335) (0) (0))) (cond (Nat.blt k 337) (0) (cond (Nat.blt k 338) (0) (0))))) (cond (Nat.blt k 344) (cond (Nat.blt k 341) (cond (Nat.blt k 340) (0) (0)) (cond (Nat.blt k 342) (0) (cond (Nat.blt k 343) (0) (0)))) (cond (Nat.blt k 347) (cond (Nat.blt k 345) (345 + j) (cond (Nat.blt k 346) (0) (0))) (cond (Nat.blt k 348) (0) (cond (Nat.blt k 349) (0) (0)))))))))
def zLI : Nat := 180
end
section
/-! THE ABSTRACT MACHINE ("z"): a heap of numbered cells, one instruction, blocks of code between cuts, runs. -/
/-- ints and longs by cell and place -/
abbrev zIJ : Type := (Nat → Nat → Int32) × (Nat → Nat → Int64)
abbrev zLs : Type := List (Nat × Value)
abbrev zRes : Type := Option Value × zIJ
/-- pc, instruction, next pc, numbers of help, a constant -/
abbrev zEn : Type := Nat × Instr × Nat × List Nat × Value
/-- what an instruction does: 0 on, 1 jump, 2 branch, 3 call, 4 return, 5 switch; guard or condition; target; arguments; locals, stack, heap -/
abbrev zO : Type := Nat × Bool × Nat × List Value × zLs × List Value × zIJ
def zlv (i : Nat) : zLs → Option Value
  | [] => none
  | e :: r => cond (Nat.beq e.1 i) (some e.2) (zlv i r)
def zst (L : zLs) (i : Nat) (v : Value) : zLs := (i, v) :: L.filter (fun q => !(q.1 == i) && !(q.1 + 1 == i && q.2.category == 2))
def zst2 (L : zLs) (i : Nat) (v : Value) : zLs := (i, v) :: L.filter (fun q => !(q.1 == i) && (!(q.1 == i + 1) && !(q.1 + 1 == i && q.2.category == 2)))
/-- the field types of the classes by their numbers -/
def zty (ci k : Nat) : FieldType := match ci with
  | 0 => tyX0 k
  | 1 => tyX1 k
  | 2 => tyX2 k
  | 3 => tyX3 k
  | 4 => tyX4 k
  | 5 => tyX5 k
  | 6 => tyX6 k
  | 7 => tyX7 k
  | 8 => tyX8 k
  | 9 => tyX9 k
  | 10 => tyX10 k
  | 11 => tyX11 k
  | _ => tyX12 k
/-- the value of field j of cell k, of that type -/
def zfv (h : zIJ) (k j : Nat) (ty : FieldType) : Value := match ty with
  | .int => .int (h.1 k j)
  | .boolean => .int (h.1 k j)
  | .long => .long (h.2 k j)
  | _ => .ref (zRf k j)
def zup {α : Type} (f : Nat → Nat → α) (k j : Nat) (x : α) : Nat → Nat → α := fun a b => cond (Nat.beq a k) (cond (Nat.beq b j) x (f a b)) (f a b)
def zrow {α : Type} (f : Nat → Nat → α) (k : Nat) (g : Nat → α) : Nat → Nat → α := fun a b => cond (Nat.beq a k) (g b) (f a b)
def zsI (h : zIJ) (k j : Nat) (x : Int32) : zIJ := (zup h.1 k j x, h.2)
def zsL (h : zIJ) (k j : Nat) (x : Int64) : zIJ := (h.1, zup h.2 k j x)
/-- an index is in range -/
def zin (i : Int32) (n : Nat) : Bool := decide (0 ≤ i.toInt ∧ i.toInt < n)
def zbit (x : Int32) : Bool := decide (x = 0) || decide (x = 1)
/-- the two tables of the class -/
def zLE (j : Nat) : Int32 := match j with
  | 0 | 1 | 2 | 3 | 4 | 5 | 6 | 7 => 0
  | 8 | 9 | 10 | 11 | 12 | 13 | 14 => 1
  | 15 | 16 | 17 | 18 | 19 | 20 => 2
  | 21 | 22 | 23 | 24 | 25 => 3
  | 26 | 27 | 28 | 29 => 4
  | 30 | 31 | 32 => 5
  | 33 | 34 => 6
  | _ => 7
def zGE (j : Nat) : Int32 := match j with
  | 0 => 1
  | 1 | 8 => 2
  | 2 | 9 | 15 => 3
  | 3 | 10 | 16 | 21 => 4
  | 4 | 11 | 17 | 22 | 26 => 5
  | 5 | 12 | 18 | 23 | 27 | 30 => 6
  | 6 | 13 | 19 | 24 | 28 | 31 | 33 => 7
  | _ => 8
/-- kinds: below 100 objects; 100 ints, 101 longs, 102 to 105 references; 110 the script, 111 and 112 the two tables -/
def zlen (h : zIJ) (a : Nat) : Nat := cond (Nat.beq (zC a).1 110) (h.1 a 5000).toNatClampNeg (zC a).2
def zrd (h : zIJ) (a j : Nat) : Int32 := cond (Nat.beq (zC a).1 111) (zLE j) (cond (Nat.beq (zC a).1 112) (zGE j) (h.1 a j))
def zisI (t : Nat) : Bool := Nat.beq t 100 || (Nat.ble 110 t && Nat.ble t 112)
def zisR (t : Nat) : Bool := Nat.ble 102 t && Nat.ble t 105
def zgo0 (L : zLs) (S : List Value) (h : zIJ) : Option zO := some (0, true, 0, [], L, S, h)
def zgoG (b : Bool) (L : zLs) (S : List Value) (h : zIJ) : Option zO := some (0, b, 0, [], L, S, h)
def zbI (f : Int32 → Int32 → Int32) (L : zLs) (S : List Value) (h : zIJ) : Option zO := match S with
  | .int y :: .int x :: r => zgo0 L (.int (f x y) :: r) h
  | _ => none
def zbL (f : Int64 → Int64 → Int64) (L : zLs) (S : List Value) (h : zIJ) : Option zO := match S with
  | .long y :: .long x :: r => zgo0 L (.long (f x y) :: r) h
  | _ => none
def zsh (f : Int64 → Int32 → Int64) (L : zLs) (S : List Value) (h : zIJ) : Option zO := match S with
  | .int y :: .long x :: r => zgo0 L (.long (f x y) :: r) h
  | _ => none
def zdI (f : Int32 → Int32 → Int32) (L : zLs) (S : List Value) (h : zIJ) : Option zO := match S with
  | .int y :: .int x :: r => zgoG (!decide (y = 0)) L (.int (f x y) :: r) h
  | _ => none
def zdL (f : Int64 → Int64 → Int64) (L : zLs) (S : List Value) (h : zIJ) : Option zO := match S with
  | .long y :: .long x :: r => zgoG (!decide (y = 0)) L (.long (f x y) :: r) h
  | _ => none
def zuI (f : Int32 → Int32) (L : zLs) (S : List Value) (h : zIJ) : Option zO := match S with
  | .int x :: r => zgo0 L (.int (f x) :: r) h
  | _ => none
def zif1 (f : Int32 → Bool) (hs : List Nat) (L : zLs) (S : List Value) (h : zIJ) : Option zO := match S, hs with
  | .int x :: r, [t] => some (2, f x, t, [], L, r, h)
  | _, _ => none
def zif2 (f : Int32 → Int32 → Bool) (hs : List Nat) (L : zLs) (S : List Value) (h : zIJ) : Option zO := match S, hs with
  | .int y :: .int x :: r, [t] => some (2, f x y, t, [], L, r, h)
  | _, _ => none
def zldI (i : Nat) (L : zLs) (S : List Value) (h : zIJ) : Option zO := match zlv i L with
  | some (.int x) => zgo0 L (.int x :: S) h
  | _ => none
def zldL (i : Nat) (L : zLs) (S : List Value) (h : zIJ) : Option zO := match zlv i L with
  | some (.long x) => zgo0 L (.long x :: S) h
  | _ => none
def zldA (i : Nat) (L : zLs) (S : List Value) (h : zIJ) : Option zO := match zlv i L with
  | some (.ref x) => zgo0 L (.ref x :: S) h
  | _ => none
def zstI (n i : Nat) (L : zLs) (S : List Value) (h : zIJ) : Option zO := match S with
  | .int x :: r => cond (Nat.blt i n) (zgo0 (zst L i (.int x)) r h) none
  | _ => none
def zstL (n i : Nat) (L : zLs) (S : List Value) (h : zIJ) : Option zO := match S with
  | .long x :: r => cond (Nat.blt (i + 1) n) (zgo0 (zst2 L i (.long x)) r h) none
  | _ => none
def zstA (n i : Nat) (L : zLs) (S : List Value) (h : zIJ) : Option zO := match S with
  | .ref x :: r => cond (Nat.blt i n) (zgo0 (zst L i (.ref x)) r h) none
  | _ => none
def zinc (n i : Nat) (v : Value) (L : zLs) (S : List Value) (h : zIJ) : Option zO := match zlv i L, v with
  | some (.int x), .int d => cond (Nat.blt i n) (zgo0 (zst L i (.int (x + d))) S h) none
  | _, _ => none
def zgf (hs : List Nat) (L : zLs) (S : List Value) (h : zIJ) : Option zO := match S, hs with
  | .ref a :: r, ci :: j :: _ => zgoG (Nat.beq (zC a).1 ci) L (zfv h a j (zty ci j) :: r) h
  | _, _ => none
def zpfT (ty : FieldType) (g : Bool) (a j : Nat) (v : Value) (L : zLs) (S : List Value) (h : zIJ) : Option zO := match ty, v with
  | .int, .int x => zgoG g L S (zsI h a j x)
  | .boolean, .int x => zgoG (g && zbit x) L S (zsI h a j x)
  | .long, .long x => zgoG g L S (zsL h a j x)
  | _, _ => none
def zpf (hs : List Nat) (L : zLs) (S : List Value) (h : zIJ) : Option zO := match S, hs with
  | v :: .ref a :: r, ci :: j :: _ => zpfT (zty ci j) (Nat.beq (zC a).1 ci) a j v L r h
  | _, _ => none
def zai (L : zLs) (S : List Value) (h : zIJ) : Option zO := match S with
  | .int i :: .ref a :: r => zgoG (zisI (zC a).1 && zin i (zlen h a)) L (.int (zrd h a i.toNatClampNeg) :: r) h
  | _ => none
def zal (L : zLs) (S : List Value) (h : zIJ) : Option zO := match S with
  | .int i :: .ref a :: r => zgoG (Nat.beq (zC a).1 101 && zin i (zC a).2) L (.long (h.2 a i.toNatClampNeg) :: r) h
  | _ => none
def zaa (L : zLs) (S : List Value) (h : zIJ) : Option zO := match S with
  | .int i :: .ref a :: r => zgoG (zisR (zC a).1 && zin i (zC a).2) L (.ref (zRf a i.toNatClampNeg) :: r) h
  | _ => none
def zsi (L : zLs) (S : List Value) (h : zIJ) : Option zO := match S with
  | .int x :: .int i :: .ref a :: r => zgoG (Nat.beq (zC a).1 100 && zin i (zC a).2) L r (zsI h a i.toNatClampNeg x)
  | _ => none
def zsl (L : zLs) (S : List Value) (h : zIJ) : Option zO := match S with
  | .long x :: .int i :: .ref a :: r => zgoG (Nat.beq (zC a).1 101 && zin i (zC a).2) L r (zsL h a i.toNatClampNeg x)
  | _ => none
def zan (L : zLs) (S : List Value) (h : zIJ) : Option zO := match S with
  | .ref a :: r => zgoG (zisI (zC a).1 || Nat.beq (zC a).1 101) L (.int (Int32.ofNat (zlen h a)) :: r) h
  | _ => none
def zdup (L : zLs) (S : List Value) (h : zIJ) : Option zO := match S with
  | v :: r => cond (Nat.beq v.category 1) (zgo0 L (v :: v :: r) h) none
  | _ => none
def zdup2 (L : zLs) (S : List Value) (h : zIJ) : Option zO := match S with
  | v :: r => cond (Nat.beq v.category 2) (zgo0 L (v :: v :: r) h) (match r with
    | w :: r2 => cond (Nat.beq w.category 1) (zgo0 L (v :: w :: v :: w :: r2) h) none
    | _ => none)
  | _ => none
def zcmpS (L : zLs) (S : List Value) (h : zIJ) : Option zO := match S with
  | .long y :: .long x :: r => zgo0 L (.int (lg_cmp x y) :: r) h
  | _ => none
def zi2l (L : zLs) (S : List Value) (h : zIJ) : Option zO := match S with
  | .int x :: r => zgo0 L (.long x.toInt64 :: r) h
  | _ => none
def zl2i (L : zLs) (S : List Value) (h : zIJ) : Option zO := match S with
  | .long x :: r => zgo0 L (.int x.toInt32 :: r) h
  | _ => none
def zrI (rt : Option FieldType) (L : zLs) (S : List Value) (h : zIJ) : Option zO := match S, rt with
  | [.int x], some .int => some (4, true, 0, [.int x], L, [], h)
  | [.int x], some .boolean => some (4, zbit x, 0, [.int x], L, [], h)
  | _, _ => none
def zrL (rt : Option FieldType) (L : zLs) (S : List Value) (h : zIJ) : Option zO := match S, rt with
  | [.long x], some .long => some (4, true, 0, [.long x], L, [], h)
  | _, _ => none
def zrV (rt : Option FieldType) (L : zLs) (S : List Value) (h : zIJ) : Option zO := match S, rt with
  | [], none => some (4, true, 0, [], L, [], h)
  | _, _ => none
def zcst (v : Value) (L : zLs) (S : List Value) (h : zIJ) : Option zO := match v with
  | .int x => zgo0 L (.int x :: S) h
  | .long x => zgo0 L (.long x :: S) h
  | _ => none
/-- the n topmost values, the deepest first, and what is below -/
def zpop : Nat → List Value → List Value → Option (List Value × List Value)
  | 0, acc, S => some (acc, S)
  | _ + 1, _, [] => none
  | n + 1, acc, v :: r => zpop n (v :: acc) r
def zcat (S : List Value) : Nat := match S with
  | [] => 0
  | v :: r => v.category + zcat r
def zjump (hs : List Nat) (L : zLs) (S : List Value) (h : zIJ) : Option zO := match hs with
  | [t] => some (1, true, t, [], L, S, h)
  | _ => none
/-- calls: numbers of help are callee, arguments, kind of answer, its level, class of the receiver, places of words -/
def zinv (virt : Bool) (hs : List Nat) (L : zLs) (S : List Value) (h : zIJ) : Option zO := match hs with
  | m :: na :: _ :: _ :: ci :: _ => (match zpop na [] S with
    | some (as, r) => cond (Nat.ble (zcat r) 8) (cond virt (match as with
      | .ref a :: _ => some (3, Nat.beq (zC a).1 ci, m, as, L, r, h)
      | _ => none) (some (3, true, m, as, L, r, h))) none
    | none => none)
  | _ => none
def zcpI (h : zIJ) (a sp d dp n : Nat) : zIJ := (zrow h.1 d (va_cpy (h.1 a) (h.1 d) sp dp n), h.2)
def zcpL (h : zIJ) (a sp d dp n : Nat) : zIJ := (h.1, zrow h.2 d (va_cpy (h.2 a) (h.2 d) sp dp n))
def zcpG (la ld : Nat) (sp dp n : Int32) : Bool := decide (0 ≤ sp.toInt ∧ 0 ≤ dp.toInt ∧ 0 ≤ n.toInt ∧ sp.toInt + n.toInt ≤ la ∧ dp.toInt + n.toInt ≤ ld)
def zcp (hs : List Nat) (L : zLs) (S : List Value) (h : zIJ) : Option zO := match S, hs with
  | .int n :: .int dp :: .ref d :: .int sp :: .ref a :: r, _ :: k :: _ => cond (Nat.ble (zcat r) 8) (cond (Nat.beq k 100)
      (zgoG (Nat.beq (zC a).1 100 && Nat.beq (zC d).1 100 && zcpG (zC a).2 (zC d).2 sp dp n) L r (zcpI h a sp.toNatClampNeg d dp.toNatClampNeg n.toNatClampNeg))
      (zgoG (Nat.beq (zC a).1 101 && Nat.beq (zC d).1 101 && zcpG (zC a).2 (zC d).2 sp dp n) L r (zcpL h a sp.toNatClampNeg d dp.toNatClampNeg n.toNatClampNeg))) none
  | _, _ => none
def zstat (hs : List Nat) (L : zLs) (S : List Value) (h : zIJ) : Option zO := match hs with
  | k :: _ => zgo0 L (.ref k :: S) h
  | _ => none
def zmxI (x y : Int32) : Int32 := if x < y then y else x
def zmnI (x y : Int32) : Int32 := if y < x then y else x
def zabI (x : Int32) : Int32 := if 0 ≤ x then x else 0 - x
def zmxL (x y : Int64) : Int64 := if y < x then x else y
def zmnL (x y : Int64) : Int64 := if y < x then y else x
def zm2I (f : Int32 → Int32 → Int32) (L : zLs) (S : List Value) (h : zIJ) : Option zO := match S with
  | .int y :: .int x :: r => cond (Nat.ble (zcat r) 8) (zgo0 L (.int (f x y) :: r) h) none
  | _ => none
def zm1I (f : Int32 → Int32) (L : zLs) (S : List Value) (h : zIJ) : Option zO := match S with
  | .int x :: r => cond (Nat.ble (zcat r) 8) (zgo0 L (.int (f x) :: r) h) none
  | _ => none
def zm2L (f : Int64 → Int64 → Int64) (L : zLs) (S : List Value) (h : zIJ) : Option zO := match S with
  | .long y :: .long x :: r => cond (Nat.ble (zcat r) 8) (zgo0 L (.long (f x y) :: r) h) none
  | _ => none
/-- what is no code of ours: 990 to 994 Math's max, min, abs of ints, max, min of longs; 999 System.arraycopy -/
def zbuilt (m : Nat) (hs : List Nat) (L : zLs) (S : List Value) (h : zIJ) : Option zO :=
  cond (Nat.beq m 990) (zm2I zmxI L S h) (cond (Nat.beq m 991) (zm2I zmnI L S h) (cond (Nat.beq m 992) (zm1I zabI L S h) (cond (Nat.beq m 993) (zm2L zmxL L S h) (cond (Nat.beq m 994) (zm2L zmnL L S h) (cond (Nat.beq m 999) (zcp hs L S h) none)))))
def zisv (hs : List Nat) (L : zLs) (S : List Value) (h : zIJ) : Option zO := match hs with
  | m :: _ => cond (Nat.ble 990 m) (zbuilt m hs L S h) (zinv false hs L S h)
  | _ => none
def zswi (L : zLs) (S : List Value) (h : zIJ) : Option zO := match S with
  | .int x :: r => some (5, true, 0, [.int x], L, r, h)
  | _ => none
def zex (n : Nat) (rt : Option FieldType) (e : zEn) (L : zLs) (S : List Value) (h : zIJ) : Option zO :=
  match e.2.1 with
  | .iconst _ => zcst e.2.2.2.2 L S h
  | .bipush _ => zcst e.2.2.2.2 L S h
  | .sipush _ => zcst e.2.2.2.2 L S h
  | .lconst _ => zcst e.2.2.2.2 L S h
  | .ldc _ => zcst e.2.2.2.2 L S h
  | .ldc_w _ => zcst e.2.2.2.2 L S h
  | .ldc2_w _ => zcst e.2.2.2.2 L S h
  | .iload_n i => zldI i L S h
  | .iload i => zldI i L S h
  | .lload_n i => zldL i L S h
  | .lload i => zldL i L S h
  | .aload_n i => zldA i L S h
  | .aload i => zldA i L S h
  | .istore_n i => zstI n i L S h
  | .istore i => zstI n i L S h
  | .lstore_n i => zstL n i L S h
  | .lstore i => zstL n i L S h
  | .astore_n i => zstA n i L S h
  | .astore i => zstA n i L S h
  | .iinc i _ => zinc n i e.2.2.2.2 L S h
  | .iadd => zbI (fun x y => x + y) L S h
  | .isub => zbI (fun x y => x - y) L S h
  | .imul => zbI (fun x y => x * y) L S h
  | .iand => zbI (fun x y => x &&& y) L S h
  | .ior => zbI (fun x y => x ||| y) L S h
  | .ixor => zbI (fun x y => x ^^^ y) L S h
  | .ishl => zbI (fun x y => x <<< (y &&& 31)) L S h
  | .ishr => zbI (fun x y => x >>> (y &&& 31)) L S h
  | .iushr => zbI (fun x y => (x.toUInt32 >>> (y.toUInt32 &&& Int32.toUInt32 31)).toInt32) L S h
  | .idiv => zdI (fun x y => x / y) L S h
  | .irem => zdI (fun x y => x - x / y * y) L S h
  | .ineg => zuI (fun x => -x) L S h
  | .ladd => zbL (fun x y => x + y) L S h
  | .lsub => zbL (fun x y => x - y) L S h
  | .lmul => zbL (fun x y => x * y) L S h
  | .land => zbL (fun x y => x &&& y) L S h
  | .lor => zbL (fun x y => x ||| y) L S h
  | .lxor => zbL (fun x y => x ^^^ y) L S h
  | .ldiv => zdL (fun x y => x / y) L S h
  | .lrem => zdL (fun x y => x - x / y * y) L S h
  | .lshl => zsh (fun x y => x <<< (y.toInt64 &&& 63)) L S h
  | .lshr => zsh (fun x y => x >>> (y.toInt64 &&& 63)) L S h
  | .lushr => zsh (fun x y => (x.toUInt64 >>> (y.toInt64.toUInt64 &&& Int64.toUInt64 63)).toInt64) L S h
  | .lcmp => zcmpS L S h
  | .i2l => zi2l L S h
  | .l2i => zl2i L S h
  | .i2b => zuI (fun x => x.toInt8.toInt32) L S h
  | .dup => zdup L S h
  | .dup2 => zdup2 L S h
  | .goto _ => zjump e.2.2.2.1 L S h
  | .ifCond c _ => (match c with
    | .eq => zif1 (fun x => decide (x = 0)) e.2.2.2.1 L S h
    | .ne => zif1 (fun x => !decide (x = 0)) e.2.2.2.1 L S h
    | .lt => zif1 (fun x => decide (x < 0)) e.2.2.2.1 L S h
    | .ge => zif1 (fun x => decide (0 ≤ x)) e.2.2.2.1 L S h
    | .gt => zif1 (fun x => decide (0 < x)) e.2.2.2.1 L S h
    | .le => zif1 (fun x => decide (x ≤ 0)) e.2.2.2.1 L S h)
  | .if_icmp c _ => (match c with
    | .eq => zif2 (fun x y => decide (x = y)) e.2.2.2.1 L S h
    | .ne => zif2 (fun x y => !decide (x = y)) e.2.2.2.1 L S h
    | .lt => zif2 (fun x y => decide (x < y)) e.2.2.2.1 L S h
    | .ge => zif2 (fun x y => decide (y ≤ x)) e.2.2.2.1 L S h
    | .gt => zif2 (fun x y => decide (y < x)) e.2.2.2.1 L S h
    | .le => zif2 (fun x y => decide (x ≤ y)) e.2.2.2.1 L S h)
  | .getfield _ => zgf e.2.2.2.1 L S h
  | .putfield _ => zpf e.2.2.2.1 L S h
  | .getstatic _ => zstat e.2.2.2.1 L S h
  | .iaload => zai L S h
  | .laload => zal L S h
  | .aaload => zaa L S h
  | .iastore => zsi L S h
  | .lastore => zsl L S h
  | .arraylength => zan L S h
  | .ireturn => zrI rt L S h
  | .lreturn => zrL rt L S h
  | .return_ => zrV rt L S h
  | .invokevirtual _ => zinv true e.2.2.2.1 L S h
  | .invokestatic _ => zisv e.2.2.2.1 L S h
  | .tableswitch _ _ _ _ => zswi L S h
  | _ => none
/-- cuts: a pc, and the locals that are still wanted there -/
abbrev zCu : Type := List (Nat × List Nat)
def zcut (t : Nat) : zCu → Option (List Nat)
  | [] => none
  | e :: r => cond (Nat.beq e.1 t) (some e.2) (zcut t r)
def zpick (L : zLs) : List Nat → Option (List Value)
  | [] => some []
  | i :: r => match zlv i L with
    | none => none
    | some v => match zpick L r with
      | none => none
      | some vs => some (v :: vs)
def zzip : List Nat → List Value → Option zLs
  | [], [] => some []
  | i :: r, v :: vs => match zzip r vs with
    | none => none
    | some L => some ((i, v) :: L)
  | _, _ => none
/-- what a call answers goes on -/
def zaV (r : Option zRes) (k : zIJ → Option zRes) : Option zRes := match r with
  | some (none, h) => k h
  | _ => none
def zaI (r : Option zRes) (k : Int32 → zIJ → Option zRes) : Option zRes := match r with
  | some (some (.int x), h) => k x h
  | _ => none
def zaL (r : Option zRes) (k : Int64 → zIJ → Option zRes) : Option zRes := match r with
  | some (some (.long x), h) => k x h
  | _ => none
def zgo (cu : zCu) (K : Nat → List Value → zIJ → Option zRes) (k : Nat → zLs → List Value → zIJ → Option zRes) (t : Nat) (L : zLs) (S : List Value) (h : zIJ) : Option zRes :=
  match zcut t cu with
  | some lv => (match S with
    | [] => (match zpick L lv with
      | some vs => K t vs h
      | none => none)
    | _ => none)
  | none => k t L S h
def zsw (x : Int32) (k : Nat → Option zRes) (dflt : Nat) : Int → List Nat → Option zRes
  | _, [] => k dflt
  | lo, t :: ts => cond (decide (x.toInt = lo)) (k t) (zsw x k dflt (lo + 1) ts)
def zdsw (as : List Value) (i : Instr) (hs : List Nat) (k : Nat → Option zRes) : Option zRes := match as, i, hs with
  | [.int x], .tableswitch _ lo _ _, d :: ts => zsw x k d lo ts
  | _, _, _ => none
/-- the level of a call: that of the method, and of the one that calls itself its depth too -/
def zlev (m lv : Nat) (as : List Value) : Nat := cond (Nat.beq m zLI) (match as with
  | [_, _, .int e] => e.toNatClampNeg + lv
  | _ => lv) lv
/-- one instruction and on -/
def zdo (n : Nat) (rt : Option FieldType) (lev : Nat) (cu : zCu) (K : Nat → List Value → zIJ → Option zRes) (C : Nat → List Value → zIJ → Option zRes) (e : zEn) (k : Nat → zLs → List Value → zIJ → Option zRes) (L : zLs) (S : List Value) (h : zIJ) : Option zRes :=
  match zex n rt e L S h with
  | none => none
  | some (tag, b, t, as, L', S', h') => match tag with
    | 0 => cond b (zgo cu K k e.2.2.1 L' S' h') none
    | 1 => zgo cu K k t L' S' h'
    | 2 => cond b (zgo cu K k t L' S' h') (zgo cu K k e.2.2.1 L' S' h')
    | 3 => (match e.2.2.2.1 with
      | _ :: _ :: rk :: lv :: _ => cond b (cond (Nat.blt (zlev t lv as) lev) (match rk with
        | 0 => zaV (C t as h') (fun h2 => zgo cu K k e.2.2.1 L' S' h2)
        | 1 => zaI (C t as h') (fun x h2 => zgo cu K k e.2.2.1 L' (.int x :: S') h2)
        | _ => zaL (C t as h') (fun x h2 => zgo cu K k e.2.2.1 L' (.long x :: S') h2)) none) none
      | _ => none)
    | 4 => cond b (match as with
      | [] => some (none, h')
      | v :: _ => some (some v, h')) none
    | _ => zdsw as e.2.1 e.2.2.2.1 (fun t2 => zgo cu K k t2 L' S' h')
/-- a block: from pc t on, forward, up to a cut or a return -/
def zblk (n : Nat) (rt : Option FieldType) (lev : Nat) (cu : zCu) (K : Nat → List Value → zIJ → Option zRes) (C : Nat → List Value → zIJ → Option zRes) : List zEn → Nat → zLs → List Value → zIJ → Option zRes
  | [], _, _, _, _ => none
  | e :: r, t, L, S, h => cond (Nat.beq e.1 t) (zdo n rt lev cu K C e (fun t2 L2 S2 h2 => zblk n rt lev cu K C r t2 L2 S2 h2) L S h) (zblk n rt lev cu K C r t L S h)
/-- a method: locals, what it returns, level, cuts (its entry is the first), code -/
abbrev zM : Type := Nat × Option FieldType × Nat × zCu × List zEn
def zat (M : zM) (lev : Nat) (K : Nat → List Value → zIJ → Option zRes) (C : Nat → List Value → zIJ → Option zRes) (pc : Nat) (vs : List Value) (h : zIJ) : Option zRes :=
  match pc with
  | 0 => cond (Nat.ble (zcat vs) M.1) (zblk M.1 M.2.1 lev M.2.2.2.1 K C M.2.2.2.2 0 (lv_args 0 vs) [] h) none
  | q + 1 => (match zcut (q + 1) M.2.2.2.1 with
    | none => none
    | some lv => (match zzip lv vs with
      | none => none
      | some L => zblk M.1 M.2.1 lev M.2.2.2.1 K C M.2.2.2.2 (q + 1) L [] h))
def zrun (Ms : Nat → zM) : Nat → Nat → Nat → List Value → zIJ → Option zRes
  | 0, _, _, _, _ => none
  | F + 1, m, pc, vs, h => zat (Ms m) (zlev m (Ms m).2.2.1 vs) (fun pc2 vs2 h2 => zrun Ms F m pc2 vs2 h2) (fun m2 as h2 => zrun Ms F m2 0 as h2) pc vs h
/-! the limit of runs, and its one equation -/
theorem zgo_mono {cu : zCu} {K K' : Nat → List Value → zIJ → Option zRes} {k k' : Nat → zLs → List Value → zIJ → Option zRes} (hK : ∀ t vs h x, K t vs h = some x → K' t vs h = some x) {t : Nat} {L : zLs} {S : List Value} {h : zIJ} {x : zRes} (hk : k t L S h = some x → k' t L S h = some x) (hx : zgo cu K k t L S h = some x) : zgo cu K' k' t L S h = some x := by
  unfold zgo at hx ⊢
  cases hc : zcut t cu with
  | none => rw [hc] at hx; exact hk hx
  | some lv =>
    rw [hc] at hx
    cases S with
    | cons a r => cases hx
    | nil =>
      cases hp : zpick L lv with
      | none => simp only [hp] at hx; cases hx
      | some vs => simp only [hp] at hx ⊢; exact hK _ _ _ _ hx
theorem zsw_mono {x : Int32} {k k' : Nat → Option zRes} {d : Nat} {r : zRes} (hk : ∀ t, k t = some r → k' t = some r) : ∀ (ts : List Nat) (lo : Int), zsw x k d lo ts = some r → zsw x k' d lo ts = some r
  | [], lo, h => hk _ h
  | t :: ts, lo, h => by
    unfold zsw at h ⊢
    cases hd : decide (x.toInt = lo) with
    | true => rw [hd] at h; exact hk _ h
    | false => rw [hd] at h; exact zsw_mono hk ts _ h
theorem zdsw_mono {as : List Value} {i : Instr} {hs : List Nat} {k k' : Nat → Option zRes} {r : zRes} (hk : ∀ t, k t = some r → k' t = some r) (hx : zdsw as i hs k = some r) : zdsw as i hs k' = some r := by
  unfold zdsw at hx ⊢
  split at hx
  · exact zsw_mono hk _ _ hx
  · cases hx
theorem zaV_mono {r r' : Option zRes} {k k' : zIJ → Option zRes} {x : zRes} (hr : ∀ y, r = some y → r' = some y) (hk : ∀ h, k h = some x → k' h = some x) (hx : zaV r k = some x) : zaV r' k' = some x := by
  cases r with
  | none => cases hx
  | some y =>
    rw [hr y rfl]
    obtain ⟨v, h⟩ := y
    cases v with
    | none => exact hk _ hx
    | some v => cases hx
theorem zaI_mono {r r' : Option zRes} {k k' : Int32 → zIJ → Option zRes} {x : zRes} (hr : ∀ y, r = some y → r' = some y) (hk : ∀ v h, k v h = some x → k' v h = some x) (hx : zaI r k = some x) : zaI r' k' = some x := by
  cases r with
  | none => cases hx
  | some y =>
    rw [hr y rfl]
    obtain ⟨v, h⟩ := y
    cases v with
    | none => cases hx
    | some v => cases v <;> first | exact hk _ _ hx | cases hx
theorem zaL_mono {r r' : Option zRes} {k k' : Int64 → zIJ → Option zRes} {x : zRes} (hr : ∀ y, r = some y → r' = some y) (hk : ∀ v h, k v h = some x → k' v h = some x) (hx : zaL r k = some x) : zaL r' k' = some x := by
  cases r with
  | none => cases hx
  | some y =>
    rw [hr y rfl]
    obtain ⟨v, h⟩ := y
    cases v with
    | none => cases hx
    | some v => cases v <;> first | exact hk _ _ hx | cases hx
theorem zcond {α : Type} {b : Bool} {x : α} {a : Option α} (h : cond b a none = some x) : b = true ∧ a = some x := by
  cases b with
  | true => exact ⟨rfl, h⟩
  | false => cases h
theorem zdo_mono {n : Nat} {rt : Option FieldType} {lev : Nat} {cu : zCu} {K K' C C' : Nat → List Value → zIJ → Option zRes} {e : zEn} {k k' : Nat → zLs → List Value → zIJ → Option zRes} {L : zLs} {S : List Value} {h : zIJ} {x : zRes}
    (hK : ∀ t vs h x, K t vs h = some x → K' t vs h = some x) (hC : ∀ t vs h x, C t vs h = some x → C' t vs h = some x) (hk : ∀ t L S h, k t L S h = some x → k' t L S h = some x) (hx : zdo n rt lev cu K C e k L S h = some x) : zdo n rt lev cu K' C' e k' L S h = some x := by
  unfold zdo at hx ⊢
  cases ho : zex n rt e L S h with
  | none => rw [ho] at hx; cases hx
  | some o =>
    rw [ho] at hx
    obtain ⟨tag, b, t, as, L', S', h'⟩ := o
    match tag, hx with
    | 0, hx =>
      obtain ⟨hb, hx⟩ := zcond hx
      subst hb
      exact zgo_mono hK (hk _ _ _ _) hx
    | 1, hx => exact zgo_mono hK (hk _ _ _ _) hx
    | 2, hx =>
      cases b with
      | true => exact zgo_mono hK (hk _ _ _ _) hx
      | false => exact zgo_mono hK (hk _ _ _ _) hx
    | 3, hx =>
      dsimp only at hx ⊢
      match hh : e.2.2.2.1, hx with
      | m :: na :: rk :: lv :: w, hx =>
        dsimp only at hx ⊢
        obtain ⟨hb, hx⟩ := zcond hx
        obtain ⟨hb2, hx⟩ := zcond hx
        rw [hb, hb2]
        match rk, hx with
        | 0, hx => exact zaV_mono (hC _ _ _) (fun _ => zgo_mono hK (hk _ _ _ _)) hx
        | 1, hx => exact zaI_mono (hC _ _ _) (fun _ _ => zgo_mono hK (hk _ _ _ _)) hx
        | _ + 2, hx => exact zaL_mono (hC _ _ _) (fun _ _ => zgo_mono hK (hk _ _ _ _)) hx
      | [], hx => cases hx
      | [_], hx => cases hx
      | [_, _], hx => cases hx
      | [_, _, _], hx => cases hx
    | 4, hx => exact hx
    | q + 5, hx =>
      have hx : zdsw as e.2.1 e.2.2.2.1 (fun t2 => zgo cu K k t2 L' S' h') = some x := hx
      show zdsw as e.2.1 e.2.2.2.1 (fun t2 => zgo cu K' k' t2 L' S' h') = some x
      exact zdsw_mono (fun t => zgo_mono hK (hk _ _ _ _)) hx
theorem zblk_mono {n : Nat} {rt : Option FieldType} {lev : Nat} {cu : zCu} {K K' C C' : Nat → List Value → zIJ → Option zRes} {x : zRes}
    (hK : ∀ t vs h x, K t vs h = some x → K' t vs h = some x) (hC : ∀ t vs h x, C t vs h = some x → C' t vs h = some x) : ∀ (co : List zEn) (t : Nat) (L : zLs) (S : List Value) (h : zIJ), zblk n rt lev cu K C co t L S h = some x → zblk n rt lev cu K' C' co t L S h = some x
  | [], _, _, _, _, hx => by cases hx
  | e :: r, t, L, S, h, hx => by
    unfold zblk at hx ⊢
    cases hb : Nat.beq e.1 t with
    | true => rw [hb] at hx; exact zdo_mono hK hC (zblk_mono hK hC r) hx
    | false => rw [hb] at hx; exact zblk_mono hK hC r _ _ _ _ hx
theorem zat_mono {M : zM} {lev : Nat} {K K' C C' : Nat → List Value → zIJ → Option zRes} {x : zRes} {pc : Nat} {vs : List Value} {h : zIJ}
    (hK : ∀ t vs h x, K t vs h = some x → K' t vs h = some x) (hC : ∀ t vs h x, C t vs h = some x → C' t vs h = some x) (hx : zat M lev K C pc vs h = some x) : zat M lev K' C' pc vs h = some x := by
  cases pc with
  | zero =>
    obtain ⟨hb, hx⟩ := zcond (show cond (Nat.ble (zcat vs) M.1) (zblk M.1 M.2.1 lev M.2.2.2.1 K C M.2.2.2.2 0 (lv_args 0 vs) [] h) none = some x from hx)
    show cond (Nat.ble (zcat vs) M.1) (zblk M.1 M.2.1 lev M.2.2.2.1 K' C' M.2.2.2.2 0 (lv_args 0 vs) [] h) none = some x
    rw [hb]
    exact zblk_mono hK hC _ _ _ _ _ hx
  | succ q =>
    unfold zat at hx ⊢
    dsimp only at hx ⊢
    cases h1 : zcut (q + 1) M.2.2.2.1 with
    | none => rw [h1] at hx; cases hx
    | some lv =>
      simp only [h1] at hx ⊢
      cases h2 : zzip lv vs with
      | none => rw [h2] at hx; cases hx
      | some L => rw [h2] at hx; exact zblk_mono hK hC _ _ _ _ _ hx
theorem zrun_s {Ms : Nat → zM} : ∀ (F m pc : Nat) (vs : List Value) (h : zIJ) (x : zRes), zrun Ms F m pc vs h = some x → zrun Ms (F + 1) m pc vs h = some x
  | 0, _, _, _, _, _, hx => by cases hx
  | F + 1, m, pc, vs, h, x, hx => zat_mono (fun t vs h x => zrun_s F m t vs h x) (fun t vs h x => zrun_s F t 0 vs h x) hx
theorem zrun_le {Ms : Nat → zM} {F G : Nat} (hle : F ≤ G) {m pc : Nat} {vs : List Value} {h : zIJ} {x : zRes} (hx : zrun Ms F m pc vs h = some x) : zrun Ms G m pc vs h = some x := by
  induction hle with
  | refl => exact hx
  | step _ ih => exact zrun_s _ _ _ _ _ _ ih
/-- a rising row of functions and its limit -/
def zUp {α β : Type} (f : Nat → α → Option β) : Prop := ∀ F G a x, F ≤ G → f F a = some x → f G a = some x
theorem zgo_lim {cu : zCu} {K : Nat → List Value → zIJ → Option zRes} {KF : Nat → Nat → List Value → zIJ → Option zRes} {k : Nat → zLs → List Value → zIJ → Option zRes} {kF : Nat → Nat → zLs → List Value → zIJ → Option zRes}
    (hK : ∀ t vs h x, K t vs h = some x → ∃ F, KF F t vs h = some x) {t : Nat} {L : zLs} {S : List Value} {h : zIJ} {x : zRes} (hk : k t L S h = some x → ∃ F, kF F t L S h = some x) (hx : zgo cu K k t L S h = some x) : ∃ F, zgo cu (KF F) (kF F) t L S h = some x := by
  unfold zgo at hx ⊢
  cases hc : zcut t cu with
  | none => rw [hc] at hx; exact hk hx
  | some lv =>
    rw [hc] at hx
    cases S with
    | cons a r => cases hx
    | nil =>
      cases hp : zpick L lv with
      | none => simp only [hp] at hx; cases hx
      | some vs => simp only [hp] at hx ⊢; exact hK _ _ _ _ hx
theorem zsw_lim {x : Int32} {k : Nat → Option zRes} {kF : Nat → Nat → Option zRes} {d : Nat} {r : zRes} (hk : ∀ t, k t = some r → ∃ F, kF F t = some r) : ∀ (ts : List Nat) (lo : Int), zsw x k d lo ts = some r → ∃ F, zsw x (kF F) d lo ts = some r
  | [], lo, h => hk _ h
  | t :: ts, lo, h => by
    unfold zsw at h ⊢
    cases hd : decide (x.toInt = lo) with
    | true => rw [hd] at h; exact hk _ h
    | false => rw [hd] at h; exact zsw_lim hk ts _ h
theorem zdsw_lim {as : List Value} {i : Instr} {hs : List Nat} {k : Nat → Option zRes} {kF : Nat → Nat → Option zRes} {r : zRes} (hk : ∀ t, k t = some r → ∃ F, kF F t = some r) (hx : zdsw as i hs k = some r) : ∃ F, zdsw as i hs (kF F) = some r := by
  unfold zdsw at hx ⊢
  split at hx
  · exact zsw_lim hk _ _ hx
  · cases hx
theorem zdo_lim {n : Nat} {rt : Option FieldType} {lev : Nat} {cu : zCu} {K C : Nat → List Value → zIJ → Option zRes} {KF CF : Nat → Nat → List Value → zIJ → Option zRes} {e : zEn} {k : Nat → zLs → List Value → zIJ → Option zRes} {kF : Nat → Nat → zLs → List Value → zIJ → Option zRes} {L : zLs} {S : List Value} {h : zIJ} {x : zRes}
    (mK : ∀ F G t vs h x, F ≤ G → KF F t vs h = some x → KF G t vs h = some x) (mC : ∀ F G t vs h x, F ≤ G → CF F t vs h = some x → CF G t vs h = some x) (mk : ∀ F G t L S h, F ≤ G → kF F t L S h = some x → kF G t L S h = some x)
    (hK : ∀ t vs h x, K t vs h = some x → ∃ F, KF F t vs h = some x) (hC : ∀ t vs h x, C t vs h = some x → ∃ F, CF F t vs h = some x) (hk : ∀ t L S h, k t L S h = some x → ∃ F, kF F t L S h = some x) (hx : zdo n rt lev cu K C e k L S h = some x) : ∃ F, zdo n rt lev cu (KF F) (CF F) e (kF F) L S h = some x := by
  unfold zdo at hx ⊢
  cases ho : zex n rt e L S h with
  | none => rw [ho] at hx; cases hx
  | some o =>
    rw [ho] at hx
    obtain ⟨tag, b, t, as, L', S', h'⟩ := o
    match tag, hx with
    | 0, hx =>
      obtain ⟨hb, hx⟩ := zcond hx
      subst hb
      exact zgo_lim hK (hk _ _ _ _) hx
    | 1, hx => exact zgo_lim hK (hk _ _ _ _) hx
    | 2, hx =>
      cases b with
      | true => exact zgo_lim hK (hk _ _ _ _) hx
      | false => exact zgo_lim hK (hk _ _ _ _) hx
    | 3, hx =>
      dsimp only at hx ⊢
      match hh : e.2.2.2.1, hx with
      | m :: na :: rk :: lv :: w, hx =>
        dsimp only at hx ⊢
        obtain ⟨hb, hx⟩ := zcond hx
        obtain ⟨hb2, hx⟩ := zcond hx
        rw [hb, hb2]
        cases hr : C t as h' with
        | none =>
          rw [hr] at hx
          match rk, hx with
          | 0, hx => cases hx
          | 1, hx => cases hx
          | _ + 2, hx => cases hx
        | some y =>
          obtain ⟨F1, h1⟩ := hC _ _ _ _ hr
          obtain ⟨v, h2⟩ := y
          rw [hr] at hx
          match rk, v, hx with
          | 0, none, hx =>
            obtain ⟨F2, h3⟩ := zgo_lim hK (hk _ _ _ _) hx
            refine ⟨max F1 F2, ?_⟩
            show zaV (CF (max F1 F2) t as h') _ = some x
            rw [mC _ _ _ _ _ _ (Nat.le_max_left _ _) h1]
            exact zgo_mono (fun t vs h x => mK F2 (max F1 F2) t vs h x (Nat.le_max_right _ _)) (mk F2 (max F1 F2) _ _ _ _ (Nat.le_max_right _ _)) h3
          | 0, some v, hx => cases hx
          | 1, none, hx => cases hx
          | 1, some (.int z), hx =>
            have hx : zgo cu K k e.2.2.1 L' (.int z :: S') h2 = some x := hx
            obtain ⟨F2, h3⟩ := zgo_lim hK (hk _ _ _ _) hx
            refine ⟨max F1 F2, ?_⟩
            show zaI (CF (max F1 F2) t as h') _ = some x
            rw [mC _ _ _ _ _ _ (Nat.le_max_left _ _) h1]
            exact zgo_mono (fun t vs h x => mK F2 (max F1 F2) t vs h x (Nat.le_max_right _ _)) (mk F2 (max F1 F2) _ _ _ _ (Nat.le_max_right _ _)) h3
          | 1, some (.long z), hx => cases hx
          | 1, some (.float z), hx => cases hx
          | 1, some (.double z), hx => cases hx
          | 1, some .null, hx => cases hx
          | 1, some (.ref z), hx => cases hx
          | 1, some (.retAddr z), hx => cases hx
          | _ + 2, none, hx => cases hx
          | _ + 2, some (.long z), hx =>
            have hx : zgo cu K k e.2.2.1 L' (.long z :: S') h2 = some x := hx
            obtain ⟨F2, h3⟩ := zgo_lim hK (hk _ _ _ _) hx
            refine ⟨max F1 F2, ?_⟩
            show zaL (CF (max F1 F2) t as h') _ = some x
            rw [mC _ _ _ _ _ _ (Nat.le_max_left _ _) h1]
            exact zgo_mono (fun t vs h x => mK F2 (max F1 F2) t vs h x (Nat.le_max_right _ _)) (mk F2 (max F1 F2) _ _ _ _ (Nat.le_max_right _ _)) h3
          | _ + 2, some (.int z), hx => cases hx
          | _ + 2, some (.float z), hx => cases hx
          | _ + 2, some (.double z), hx => cases hx
          | _ + 2, some .null, hx => cases hx
          | _ + 2, some (.ref z), hx => cases hx
          | _ + 2, some (.retAddr z), hx => cases hx
      | [], hx => cases hx
      | [_], hx => cases hx
      | [_, _], hx => cases hx
      | [_, _, _], hx => cases hx
    | 4, hx => exact ⟨0, hx⟩
    | q + 5, hx =>
      have hx : zdsw as e.2.1 e.2.2.2.1 (fun t2 => zgo cu K k t2 L' S' h') = some x := hx
      show ∃ F, zdsw as e.2.1 e.2.2.2.1 (fun t2 => zgo cu (KF F) (kF F) t2 L' S' h') = some x
      exact zdsw_lim (kF := fun F t2 => zgo cu (KF F) (kF F) t2 L' S' h') (fun t => zgo_lim hK (hk _ _ _ _)) hx
theorem zblk_lim {n : Nat} {rt : Option FieldType} {lev : Nat} {cu : zCu} {K C : Nat → List Value → zIJ → Option zRes} {KF CF : Nat → Nat → List Value → zIJ → Option zRes} {x : zRes}
    (mK : ∀ F G t vs h x, F ≤ G → KF F t vs h = some x → KF G t vs h = some x) (mC : ∀ F G t vs h x, F ≤ G → CF F t vs h = some x → CF G t vs h = some x)
    (hK : ∀ t vs h x, K t vs h = some x → ∃ F, KF F t vs h = some x) (hC : ∀ t vs h x, C t vs h = some x → ∃ F, CF F t vs h = some x) : ∀ (co : List zEn) (t : Nat) (L : zLs) (S : List Value) (h : zIJ), zblk n rt lev cu K C co t L S h = some x → ∃ F, zblk n rt lev cu (KF F) (CF F) co t L S h = some x
  | [], _, _, _, _, hx => by cases hx
  | e :: r, t, L, S, h, hx => by
    unfold zblk at hx ⊢
    cases hb : Nat.beq e.1 t with
    | true =>
      rw [hb] at hx
      exact zdo_lim (kF := fun F t2 L2 S2 h2 => zblk n rt lev cu (KF F) (CF F) r t2 L2 S2 h2) mK mC (fun F G t L S h hle => zblk_mono (fun t vs h x => mK _ _ t vs h x hle) (fun t vs h x => mC _ _ t vs h x hle) r t L S h) hK hC (zblk_lim mK mC hK hC r) hx
    | false => rw [hb] at hx; exact zblk_lim mK mC hK hC r _ _ _ _ hx
/-- what a method's part from pc on answers, if it ends -/
noncomputable def zevM (Ms : Nat → zM) (m pc : Nat) (vs : List Value) (h : zIJ) : Option zRes := by
  classical exact if hx : ∃ x, ∃ F, zrun Ms F m pc vs h = some x then some (Classical.choose hx) else none
theorem zevM_of {Ms : Nat → zM} {F m pc : Nat} {vs : List Value} {h : zIJ} {x : zRes} (hx : zrun Ms F m pc vs h = some x) : zevM Ms m pc vs h = some x := by
  unfold zevM
  have he : ∃ x, ∃ F, zrun Ms F m pc vs h = some x := ⟨x, F, hx⟩
  rw [dif_pos he]
  obtain ⟨G, hG⟩ := Classical.choose_spec he
  have a := zrun_le (Nat.le_max_left F G) hx
  have b := zrun_le (Nat.le_max_right F G) hG
  rw [a] at b
  exact b.symm
theorem zevM_run {Ms : Nat → zM} {m pc : Nat} {vs : List Value} {h : zIJ} {x : zRes} (hx : zevM Ms m pc vs h = some x) : ∃ F, zrun Ms F m pc vs h = some x := by
  unfold zevM at hx
  split at hx
  · rename_i he
    have e := Option.some.inj hx
    rw [← e]
    exact Classical.choose_spec he
  · cases hx
theorem zevM_eq (Ms : Nat → zM) (m pc : Nat) (vs : List Value) (h : zIJ) : zevM Ms m pc vs h = zat (Ms m) (zlev m (Ms m).2.2.1 vs) (fun pc2 vs2 h2 => zevM Ms m pc2 vs2 h2) (fun m2 as h2 => zevM Ms m2 0 as h2) pc vs h := by
  apply Option.ext
  intro x
  constructor
  · intro hx
    obtain ⟨F, hF⟩ := zevM_run hx
    cases F with
    | zero => cases hF
    | succ F => exact zat_mono (fun t vs h x hh => zevM_of hh) (fun t vs h x hh => zevM_of hh) hF
  · intro hx
    have key : ∀ (t : Nat) (L : zLs), zblk (Ms m).1 (Ms m).2.1 (zlev m (Ms m).2.2.1 vs) (Ms m).2.2.2.1 (fun pc2 vs2 h2 => zevM Ms m pc2 vs2 h2) (fun m2 as h2 => zevM Ms m2 0 as h2) (Ms m).2.2.2.2 t L [] h = some x → ∃ F, zblk (Ms m).1 (Ms m).2.1 (zlev m (Ms m).2.2.1 vs) (Ms m).2.2.2.1 (fun pc2 vs2 h2 => zrun Ms F m pc2 vs2 h2) (fun m2 as h2 => zrun Ms F m2 0 as h2) (Ms m).2.2.2.2 t L [] h = some x :=
      fun t L hx => zblk_lim (KF := fun F pc2 vs2 h2 => zrun Ms F m pc2 vs2 h2) (CF := fun F m2 as h2 => zrun Ms F m2 0 as h2) (fun F G t vs h x hle hh => zrun_le hle hh) (fun F G t vs h x hle hh => zrun_le hle hh) (fun t vs h x hh => zevM_run hh) (fun t vs h x hh => zevM_run hh) _ _ _ _ _ hx
    cases pc with
    | zero =>
      obtain ⟨hb, hx⟩ := zcond (show cond (Nat.ble (zcat vs) (Ms m).1) (zblk (Ms m).1 (Ms m).2.1 (zlev m (Ms m).2.2.1 vs) (Ms m).2.2.2.1 _ _ (Ms m).2.2.2.2 0 (lv_args 0 vs) [] h) none = some x from hx)
      obtain ⟨F, hF⟩ := key _ _ hx
      refine zevM_of (F := F + 1) ?_
      show cond (Nat.ble (zcat vs) (Ms m).1) (zblk (Ms m).1 (Ms m).2.1 (zlev m (Ms m).2.2.1 vs) (Ms m).2.2.2.1 _ _ (Ms m).2.2.2.2 0 (lv_args 0 vs) [] h) none = some x
      rw [hb]
      exact hF
    | succ q =>
      unfold zat at hx
      dsimp only at hx
      cases h1 : zcut (q + 1) (Ms m).2.2.2.1 with
      | none => rw [h1] at hx; cases hx
      | some lv =>
        simp only [h1] at hx
        cases h2 : zzip lv vs with
        | none => rw [h2] at hx; cases hx
        | some L =>
          rw [h2] at hx
          obtain ⟨F, hF⟩ := key _ _ hx
          refine zevM_of (F := F + 1) ?_
          show zat (Ms m) _ _ _ (q + 1) vs h = some x
          unfold zat
          simp only [h1, h2]
          exact hF
end
section
/-! The methods: numbers, code between cuts (by program). -/
def mX0_become : Nat := 0
def mX0_isPoint : Nat := 1
def mX0_isPair : Nat := 2
def mX0_addPoint : Nat := 3
def mX0_removeLastPoint : Nat := 4
def mX0_addStep : Nat := 5
def mX0_markAt : Nat := 6
def mX0_setMark : Nat := 7
def mX0_isFree : Nat := 8
def mX0_wouldCross : Nat := 9
def mX0_mustCross : Nat := 10
def mX0_doCross : Nat := 11
def mX0_turnsLeft : Nat := 12
def mX1_fewest : Nat := 13
def mX1_meetAround : Nat := 14
def mX1_meet : Nat := 15
def mX2_start : Nat := 16
def mX2_takeSteps : Nat := 17
def mX2_takeStep : Nat := 18
def mX2_plus : Nat := 19
def mX2_takenFrom : Nat := 20
def mX2_times : Nat := 21
def mX2_square : Nat := 22
def mX2_measureEdge : Nat := 23
def mX2_byRule : Nat := 24
def mX2_measureEdges : Nat := 25
def mX2_measureNet : Nat := 26
def mX2_foldIn : Nat := 27
def mX2_leastOf : Nat := 28
def mX3_follow : Nat := 29
def mX3_findWhole : Nat := 30
def mX3_greedyNet : Nat := 31
def mX3_meet : Nat := 32
def mX3_spotIn : Nat := 33
def mX3_find : Nat := 34
def mX3_holding : Nat := 35
def mX3_inAll : Nat := 36
def mX3_inAny : Nat := 37
def mX3_givenUpFor : Nat := 38
def mX3_flippable : Nat := 39
def mX3_flipped : Nat := 40
def mX4_keep : Nat := 41
def mX4_bringBack : Nat := 42
def mX5_follow : Nat := 43
def mX5_isOf : Nat := 44
def mX5_findOrder : Nat := 45
def mX5_findSides : Nat := 46
def mX5_setLeftTurn : Nat := 47
def mX5_findCrossings : Nat := 48
def mX5_findHull : Nat := 49
def mX5_behindOnHull : Nat := 50
def mX5_isLeft : Nat := 51
def mX5_isBare : Nat := 52
def mX5_isHollow : Nat := 53
def mX5_lowerPath : Nat := 54
def mX6_read : Nat := 55
def mX6_readCorners : Nat := 56
def mX6_readSides : Nat := 57
def mX6_behind : Nat := 58
def mX6_ahead : Nat := 59
def mX6_signedArea : Nat := 60
def mX6_turnRound : Nat := 61
def mX6_splitCount : Nat := 62
def mX6_splitsBetween : Nat := 63
def mX6_isJoined : Nat := 64
def mX6_leavesInward : Nat := 65
def mX6_pointsInside : Nat := 66
def mX6_isInside : Nat := 67
def mX7_take : Nat := 68
def mX7_has : Nat := 69
def mX7_firstUnlike : Nat := 70
def mX8_lay : Nat := 71
def mX8_isMissing : Nat := 72
def mX8_put : Nat := 73
def mX8_hasRun : Nat := 74
def mX9_follow : Nat := 75
def mX9_goOn : Nat := 76
def mX9_isOn : Nat := 77
def mX9_nextOn : Nat := 78
def mX9_comesBehind : Nat := 79
def mX9_goesBehind : Nat := 80
def mX9_isTriangle : Nat := 81
def mX9_add : Nat := 82
def mX10_total : Nat := 83
def mX11_place : Nat := 84
def mX11_drop : Nat := 85
def mX11_move : Nat := 86
def mX11_at : Nat := 87
def mX11_mark : Nat := 88
def mX11_markOf : Nat := 89
def mX11_turn : Nat := 90
def mX11_crosses : Nat := 91
def mX11_hull : Nat := 92
def mX11_nets : Nat := 93
def mX11_net : Nat := 94
def mX11_rank : Nat := 95
def mX11_with : Nat := 96
def mX11_always : Nat := 97
def mX11_draw : Nat := 98
def mX11_fan : Nat := 99
def mX11_flips : Nat := 100
def mX11_flip : Nat := 101
def mX11_apart : Nat := 102
def mX11_path : Nat := 103
def mX11_advance : Nat := 104
def mX11_ways : Nat := 105
def mX11_step : Nat := 106
def mX11_stepOf : Nat := 107
def mX11_clear : Nat := 108
def mX11_chain : Nat := 109
def mX11_ofEdge : Nat := 110
def mX11_ofNet : Nat := 111
def mX11_best : Nat := 112
def mX11_splits : Nat := 113
def mX11_area : Nat := 114
def mX11_within : Nat := 115
def mX11_empty : Nat := 116
def mX11_prove : Nat := 117
def mX11_row : Nat := 118
def mX11_alter : Nat := 119
def mX11_judge : Nat := 120
def mX11_sheet : Nat := 121
def mX11_write : Nat := 122
def mX11_item : Nat := 123
def mX11_copy : Nat := 124
def mX11_undo : Nat := 125
def mX11_seed : Nat := 126
def mX11_count : Nat := 127
def mX11_status : Nat := 128
def mX11_finding : Nat := 129
def mX11_longFinding : Nat := 130
def mX11_followNets : Nat := 131
def mX11_isNet : Nat := 132
def mX11_refusedNumber : Nat := 133
def mX11_refusedPolygon : Nat := 134
def mX11_isNear : Nat := 135
def mX11_isRule : Nat := 136
def mX11_isFold : Nat := 137
def mX11_isSheet : Nat := 138
def mX11_holds : Nat := 139
def mX11_edgeOf : Nat := 140
def mX11_edgesAt : Nat := 141
def mX11_side : Nat := 142
def mX12_finds : Nat := 143
def mX12_findsLong : Nat := 144
def mX12_in : Nat := 145
def mX12_points : Nat := 146
def mX12_x : Nat := 147
def mX12_y : Nat := 148
def mX12_isPoint : Nat := 149
def mX12_areTwo : Nat := 150
def mX12_side : Nat := 151
def mX12_turnOf : Nat := 152
def mX12_isAhead : Nat := 153
def mX12_isWithin : Nat := 154
def mX12_edge : Nat := 155
def mX12_doCross : Nat := 156
def mX12_first : Nat := 157
def mX12_last : Nat := 158
def mX12_isOfHull : Nat := 159
def mX12_behind : Nat := 160
def mX12_findsHull : Nat := 161
def mX12_laysAside : Nat := 162
def mX12_laysBack : Nat := 163
def mX12_changes : Nat := 164
def mX12_isFree : Nat := 165
def mX12_doMustsCross : Nat := 166
def mX12_isPlace : Nat := 167
def mX12_place : Nat := 168
def mX12_drop : Nat := 169
def mX12_move : Nat := 170
def mX12_at : Nat := 171
def mX12_mark : Nat := 172
def mX12_markOf : Nat := 173
def mX12_turn : Nat := 174
def mX12_crosses : Nat := 175
def mX12_hull : Nat := 176
def mX12_has : Nat := 177
def mX12_readsCrossings : Nat := 178
def mX12_mayEnd : Nat := 179
def mX12_lists : Nat := 180
def mX12_listsNets : Nat := 181
def mX12_numberOf : Nat := 182
def mX12_isNet : Nat := 183
def mX12_nets : Nat := 184
def mX12_net : Nat := 185
def mX12_rank : Nat := 186
def mX12_with : Nat := 187
def mX12_always : Nat := 188
def mX12_drawn : Nat := 189
def mX12_draw : Nat := 190
def mX12_isTriangle : Nat := 191
def mX12_fan : Nat := 192
def mX12_flipped : Nat := 193
def mX12_flips : Nat := 194
def mX12_flip : Nat := 195
def mX12_apart : Nat := 196
def mX12_firstPath : Nat := 197
def mX12_nextOn : Nat := 198
def mX12_advances : Nat := 199
def mX12_advances_ : Nat := 200
def mX12_sweeps : Nat := 201
def mX12_path : Nat := 202
def mX12_advance : Nat := 203
def mX12_ways : Nat := 204
def mX12_plus : Nat := 205
def mX12_minus : Nat := 206
def mX12_times : Nat := 207
def mX12_byStep : Nat := 208
def mX12_chained : Nat := 209
def mX12_byRule : Nat := 210
def mX12_folded : Nat := 211
def mX12_step : Nat := 212
def mX12_stepOf : Nat := 213
def mX12_clear : Nat := 214
def mX12_chain : Nat := 215
def mX12_ofEdge : Nat := 216
def mX12_ofNet : Nat := 217
def mX12_best : Nat := 218
def mX12_isCorner : Nat := 219
def mX12_cornerAt : Nat := 220
def mX12_isPolygon : Nat := 221
def mX12_whyNot : Nat := 222
def mX12_isInside : Nat := 223
def mX12_isSide : Nat := 224
def mX12_runsInside : Nat := 225
def mX12_splits : Nat := 226
def mX12_area : Nat := 227
def mX12_within : Nat := 228
def mX12_isEmpty : Nat := 229
def mX12_empty : Nat := 230
def mX12_prove : Nat := 231
def mX12_isRow : Nat := 232
def mX12_row : Nat := 233
def mX12_alter : Nat := 234
def mX12_judge : Nat := 235
def mX12_isSheet : Nat := 236
def mX12_sheet : Nat := 237
def mX12_whyNot_ : Nat := 238
def mX12_write : Nat := 239
def mX12_item : Nat := 240
def mX12_copy : Nat := 241
def mX12_undo : Nat := 242
def mX12_seed : Nat := 243
def mX12_marked : Nat := 244
def mX12_count : Nat := 245
def mX12_status : Nat := 246
def mJ6_bitCount_0f7a4 : Nat := 247
def mJ13_bitCount_95d88 : Nat := 248
def mJ7_fill_d0a16 : Nat := 249
def mJ7_fill_53178 : Nat := 250
def mL_law : Nat := 251
noncomputable def kX0_become : zM := (2, none, 1, [(15, [0, 1]), (30, [0, 1]), (45, [0, 1]), (60, [0, 1]), (68, [0, 1]), (76, [0, 1]), (84, [0, 1]), (92, [])], [(0, .aload_n 1, 1, [], .null), (1, .getfield 9, 4, [0, 0, 127], .null), (4, .iconst 0, 5, [], .int (0)), (5, .aload_n 0, 6, [], .null), (6, .getfield 9, 9, [0, 0, 127], .null), (9, .iconst 0, 10, [], .int (0)), (10, .bipush 9, 12, [], .int (9)), (12, .invokestatic 38, 15, [999, 100, 500], .null), (15, .aload_n 1, 16, [], .null), (16, .getfield 15, 19, [0, 1, 131], .null), (19, .iconst 0, 20, [], .int (0)), (20, .aload_n 0, 21, [], .null), (21, .getfield 15, 24, [0, 1, 131], .null), (24, .iconst 0, 25, [], .int (0)), (25, .bipush 9, 27, [], .int (9)), (27, .invokestatic 38, 30, [999, 100, 500], .null), (30, .aload_n 1, 31, [], .null), (31, .getfield 18, 34, [0, 2, 135], .null), (34, .iconst 0, 35, [], .int (0)), (35, .aload_n 0, 36, [], .null), (36, .getfield 18, 39, [0, 2, 135], .null), (39, .iconst 0, 40, [], .int (0)), (40, .bipush 8, 42, [], .int (8)), (42, .invokestatic 38, 45, [999, 100, 500], .null), (45, .aload_n 1, 46, [], .null), (46, .getfield 21, 49, [0, 3, 138], .null), (49, .iconst 0, 50, [], .int (0)), (50, .aload_n 0, 51, [], .null), (51, .getfield 21, 54, [0, 3, 138], .null), (54, .iconst 0, 55, [], .int (0)), (55, .bipush 8, 57, [], .int (8)), (57, .invokestatic 38, 60, [999, 100, 500], .null), (60, .aload_n 0, 61, [], .null), (61, .aload_n 1, 62, [], .null), (62, .getfield 24, 65, [0, 4, 141], .null), (65, .putfield 24, 68, [0, 4, 141], .null), (68, .aload_n 0, 69, [], .null), (69, .aload_n 1, 70, [], .null), (70, .getfield 28, 73, [0, 5, 145], .null), (73, .putfield 28, 76, [0, 5, 145], .null), (76, .aload_n 0, 77, [], .null), (77, .aload_n 1, 78, [], .null), (78, .getfield 31, 81, [0, 6, 148], .null), (81, .putfield 31, 84, [0, 6, 148], .null), (84, .aload_n 0, 85, [], .null), (85, .aload_n 1, 86, [], .null), (86, .getfield 35, 89, [0, 7, 151], .null), (89, .putfield 35, 92, [0, 7, 151], .null), (92, .return_, 93, [], .null)])
noncomputable def kX0_isPoint : zM := (2, some .boolean, 1, [], [(0, .iload_n 1, 1, [], .null), (1, .ifCond .lt 15, 4, [16], .null), (4, .iload_n 1, 5, [], .null), (5, .aload_n 0, 6, [], .null), (6, .getfield 24, 9, [0, 4, 141], .null), (9, .if_icmp .ge 7, 12, [16], .null), (12, .iconst 1, 13, [], .int (1)), (13, .goto 4, 16, [17], .null), (16, .iconst 0, 17, [], .int (0)), (17, .ireturn, 18, [], .null)])
noncomputable def kX0_isPair : zM := (3, some .boolean, 2, [], [(0, .aload_n 0, 1, [], .null), (1, .iload_n 1, 2, [], .null), (2, .invokevirtual 44, 5, [1, 2, 1, 1, 0, 614, 0], .null), (5, .ifCond .eq 20, 8, [25], .null), (8, .aload_n 0, 9, [], .null), (9, .iload_n 2, 10, [], .null), (10, .invokevirtual 44, 13, [1, 2, 1, 1, 0, 614, 0], .null), (13, .ifCond .eq 12, 16, [25], .null), (16, .iload_n 1, 17, [], .null), (17, .iload_n 2, 18, [], .null), (18, .if_icmp .eq 7, 21, [25], .null), (21, .iconst 1, 22, [], .int (1)), (22, .goto 4, 25, [26], .null), (25, .iconst 0, 26, [], .int (0)), (26, .ireturn, 27, [], .null)])
noncomputable def kX0_addPoint : zM := (3, none, 1, [], [(0, .aload_n 0, 1, [], .null), (1, .getfield 24, 4, [0, 4, 141], .null), (4, .bipush 9, 6, [], .int (9)), (6, .if_icmp .ge 33, 9, [39], .null), (9, .aload_n 0, 10, [], .null), (10, .getfield 9, 13, [0, 0, 127], .null), (13, .aload_n 0, 14, [], .null), (14, .getfield 24, 17, [0, 4, 141], .null), (17, .iload_n 1, 18, [], .null), (18, .iastore, 19, [], .null), (19, .aload_n 0, 20, [], .null), (20, .getfield 15, 23, [0, 1, 131], .null), (23, .aload_n 0, 24, [], .null), (24, .getfield 24, 27, [0, 4, 141], .null), (27, .iload_n 2, 28, [], .null), (28, .iastore, 29, [], .null), (29, .aload_n 0, 30, [], .null), (30, .dup, 31, [], .null), (31, .getfield 24, 34, [0, 4, 141], .null), (34, .iconst 1, 35, [], .int (1)), (35, .iadd, 36, [], .null), (36, .putfield 24, 39, [0, 4, 141], .null), (39, .return_, 40, [], .null)])
noncomputable def kX0_removeLastPoint : zM := (1, none, 3, [], [(0, .aload_n 0, 1, [], .null), (1, .getfield 24, 4, [0, 4, 141], .null), (4, .ifCond .le 53, 7, [57], .null), (7, .aload_n 0, 8, [], .null), (8, .dup, 9, [], .null), (9, .getfield 24, 12, [0, 4, 141], .null), (12, .iconst 1, 13, [], .int (1)), (13, .isub, 14, [], .null), (14, .putfield 24, 17, [0, 4, 141], .null), (17, .aload_n 0, 18, [], .null), (18, .dup, 19, [], .null), (19, .getfield 31, 22, [0, 6, 148], .null), (22, .aload_n 0, 23, [], .null), (23, .getfield 24, 26, [0, 4, 141], .null), (26, .invokestatic 48, 29, [141, 1, 2, 2, 0, 518, 1], .null), (29, .ldc2_w 52, 32, [528], .long (-1)), (32, .lxor, 33, [], .null), (33, .land, 34, [], .null), (34, .putfield 31, 37, [0, 6, 148], .null), (37, .aload_n 0, 38, [], .null), (38, .dup, 39, [], .null), (39, .getfield 35, 42, [0, 7, 151], .null), (42, .aload_n 0, 43, [], .null), (43, .getfield 24, 46, [0, 4, 141], .null), (46, .invokestatic 48, 49, [141, 1, 2, 2, 0, 518, 1], .null), (49, .ldc2_w 52, 52, [528], .long (-1)), (52, .lxor, 53, [], .null), (53, .land, 54, [], .null), (54, .putfield 35, 57, [0, 7, 151], .null), (57, .return_, 58, [], .null)])
noncomputable def kX0_addStep : zM := (3, none, 1, [], [(0, .aload_n 0, 1, [], .null), (1, .getfield 28, 4, [0, 5, 145], .null), (4, .bipush 8, 6, [], .int (8)), (6, .if_icmp .ge 33, 9, [39], .null), (9, .aload_n 0, 10, [], .null), (10, .getfield 18, 13, [0, 2, 135], .null), (13, .aload_n 0, 14, [], .null), (14, .getfield 28, 17, [0, 5, 145], .null), (17, .iload_n 1, 18, [], .null), (18, .iastore, 19, [], .null), (19, .aload_n 0, 20, [], .null), (20, .getfield 21, 23, [0, 3, 138], .null), (23, .aload_n 0, 24, [], .null), (24, .getfield 28, 27, [0, 5, 145], .null), (27, .iload_n 2, 28, [], .null), (28, .iastore, 29, [], .null), (29, .aload_n 0, 30, [], .null), (30, .dup, 31, [], .null), (31, .getfield 28, 34, [0, 5, 145], .null), (34, .iconst 1, 35, [], .int (1)), (35, .iadd, 36, [], .null), (36, .putfield 28, 39, [0, 5, 145], .null), (39, .return_, 40, [], .null)])
noncomputable def kX0_markAt : zM := (2, some .int, 2, [], [(0, .aload_n 0, 1, [], .null), (1, .getfield 31, 4, [0, 6, 148], .null), (4, .iload_n 1, 5, [], .null), (5, .invokestatic 54, 8, [139, 2, 1, 1, 0, 545, 1], .null), (8, .ifCond .eq 5, 11, [13], .null), (11, .iconst 1, 12, [], .int (1)), (12, .ireturn, 13, [], .null), (13, .aload_n 0, 14, [], .null), (14, .getfield 35, 17, [0, 7, 151], .null), (17, .iload_n 1, 18, [], .null), (18, .invokestatic 54, 21, [139, 2, 1, 1, 0, 545, 1], .null), (21, .ifCond .eq 7, 24, [28], .null), (24, .iconst 2, 25, [], .int (2)), (25, .goto 4, 28, [29], .null), (28, .iconst 0, 29, [], .int (0)), (29, .ireturn, 30, [], .null)])
noncomputable def kX0_setMark : zM := (5, none, 1, [], [(0, .lconst 1, 1, [], .long (1)), (1, .iload_n 1, 2, [], .null), (2, .lshl, 3, [], .null), (3, .lstore_n 3, 4, [], .null), (4, .aload_n 0, 5, [], .null), (5, .iload_n 2, 6, [], .null), (6, .iconst 1, 7, [], .int (1)), (7, .if_icmp .ne 12, 10, [19], .null), (10, .aload_n 0, 11, [], .null), (11, .getfield 31, 14, [0, 6, 148], .null), (14, .lload_n 3, 15, [], .null), (15, .lor, 16, [], .null), (16, .goto 13, 19, [29], .null), (19, .aload_n 0, 20, [], .null), (20, .getfield 31, 23, [0, 6, 148], .null), (23, .lload_n 3, 24, [], .null), (24, .ldc2_w 52, 27, [528], .long (-1)), (27, .lxor, 28, [], .null), (28, .land, 29, [], .null), (29, .putfield 31, 32, [0, 6, 148], .null), (32, .aload_n 0, 33, [], .null), (33, .iload_n 2, 34, [], .null), (34, .iconst 2, 35, [], .int (2)), (35, .if_icmp .ne 12, 38, [47], .null), (38, .aload_n 0, 39, [], .null), (39, .getfield 35, 42, [0, 7, 151], .null), (42, .lload_n 3, 43, [], .null), (43, .lor, 44, [], .null), (44, .goto 13, 47, [57], .null), (47, .aload_n 0, 48, [], .null), (48, .getfield 35, 51, [0, 7, 151], .null), (51, .lload_n 3, 52, [], .null), (52, .ldc2_w 52, 55, [528], .long (-1)), (55, .lxor, 56, [], .null), (56, .land, 57, [], .null), (57, .putfield 35, 60, [0, 7, 151], .null), (60, .return_, 61, [], .null)])
noncomputable def kX0_isFree : zM := (6, some .boolean, 2, [(3, [0, 1, 2, 3, 4]), (51, [0, 1, 2, 3, 4, 5])], [(0, .iconst 0, 1, [], .int (0)), (1, .istore 4, 3, [], .null), (3, .iload 4, 5, [], .null), (5, .aload_n 0, 6, [], .null), (6, .getfield 24, 9, [0, 4, 141], .null), (9, .if_icmp .ge 107, 12, [116], .null), (12, .iload 4, 14, [], .null), (14, .iload_n 3, 15, [], .null), (15, .if_icmp .ne 6, 18, [21], .null), (18, .goto 92, 21, [110], .null), (21, .aload_n 0, 22, [], .null), (22, .getfield 9, 25, [0, 0, 127], .null), (25, .iload 4, 27, [], .null), (27, .iaload, 28, [], .null), (28, .iload_n 1, 29, [], .null), (29, .if_icmp .ne 16, 32, [45], .null), (32, .aload_n 0, 33, [], .null), (33, .getfield 15, 36, [0, 1, 131], .null), (36, .iload 4, 38, [], .null), (38, .iaload, 39, [], .null), (39, .iload_n 2, 40, [], .null), (40, .if_icmp .ne 5, 43, [45], .null), (43, .iconst 0, 44, [], .int (0)), (44, .ireturn, 45, [], .null), (45, .iload 4, 47, [], .null), (47, .iconst 1, 48, [], .int (1)), (48, .iadd, 49, [], .null), (49, .istore 5, 51, [], .null), (51, .iload 5, 53, [], .null), (53, .aload_n 0, 54, [], .null), (54, .getfield 24, 57, [0, 4, 141], .null), (57, .if_icmp .ge 53, 60, [110], .null), (60, .iload 5, 62, [], .null), (62, .iload_n 3, 63, [], .null), (63, .if_icmp .eq 41, 66, [104], .null), (66, .aload_n 0, 67, [], .null), (67, .getfield 9, 70, [0, 0, 127], .null), (70, .iload 4, 72, [], .null), (72, .iaload, 73, [], .null), (73, .aload_n 0, 74, [], .null), (74, .getfield 15, 77, [0, 1, 131], .null), (77, .iload 4, 79, [], .null), (79, .iaload, 80, [], .null), (80, .aload_n 0, 81, [], .null), (81, .getfield 9, 84, [0, 0, 127], .null), (84, .iload 5, 86, [], .null), (86, .iaload, 87, [], .null), (87, .aload_n 0, 88, [], .null), (88, .getfield 15, 91, [0, 1, 131], .null), (91, .iload 5, 93, [], .null), (93, .iaload, 94, [], .null), (94, .iload_n 1, 95, [], .null), (95, .iload_n 2, 96, [], .null), (96, .invokestatic 58, 99, [142, 6, 1, 1, 0, 489, 1], .null), (99, .ifCond .ne 5, 102, [104], .null), (102, .iconst 0, 103, [], .int (0)), (103, .ireturn, 104, [], .null), (104, .iinc 5 1, 107, [], .int (1)), (107, .goto (-56), 110, [51], .null), (110, .iinc 4 1, 113, [], .int (1)), (113, .goto (-110), 116, [3], .null), (116, .iconst 1, 117, [], .int (1)), (117, .ireturn, 118, [], .null)])
noncomputable def kX0_wouldCross : zM := (7, some .boolean, 5, [], [(0, .aload_n 0, 1, [], .null), (1, .getfield 9, 4, [0, 0, 127], .null), (4, .iload_n 1, 5, [], .null), (5, .iaload, 6, [], .null), (6, .istore 4, 8, [], .null), (8, .aload_n 0, 9, [], .null), (9, .getfield 15, 12, [0, 1, 131], .null), (12, .iload_n 1, 13, [], .null), (13, .iaload, 14, [], .null), (14, .istore 5, 16, [], .null), (16, .aload_n 0, 17, [], .null), (17, .getfield 9, 20, [0, 0, 127], .null), (20, .iload_n 1, 21, [], .null), (21, .iload_n 2, 22, [], .null), (22, .iastore, 23, [], .null), (23, .aload_n 0, 24, [], .null), (24, .getfield 15, 27, [0, 1, 131], .null), (27, .iload_n 1, 28, [], .null), (28, .iload_n 3, 29, [], .null), (29, .iastore, 30, [], .null), (30, .aload_n 0, 31, [], .null), (31, .invokevirtual 62, 34, [10, 1, 1, 4, 0, 541, 0], .null), (34, .istore 6, 36, [], .null), (36, .aload_n 0, 37, [], .null), (37, .getfield 9, 40, [0, 0, 127], .null), (40, .iload_n 1, 41, [], .null), (41, .iload 4, 43, [], .null), (43, .iastore, 44, [], .null), (44, .aload_n 0, 45, [], .null), (45, .getfield 15, 48, [0, 1, 131], .null), (48, .iload_n 1, 49, [], .null), (49, .iload 5, 51, [], .null), (51, .iastore, 52, [], .null), (52, .iload 6, 54, [], .null), (54, .ireturn, 55, [], .null)])
noncomputable def kX0_mustCross : zM := (3, some .boolean, 4, [(2, [0, 1]), (12, [0, 1, 2])], [(0, .iconst 0, 1, [], .int (0)), (1, .istore_n 1, 2, [], .null), (2, .iload_n 1, 3, [], .null), (3, .bipush 36, 5, [], .int (36)), (5, .if_icmp .ge 58, 8, [63], .null), (8, .iload_n 1, 9, [], .null), (9, .iconst 1, 10, [], .int (1)), (10, .iadd, 11, [], .null), (11, .istore_n 2, 12, [], .null), (12, .iload_n 2, 13, [], .null), (13, .bipush 36, 15, [], .int (36)), (15, .if_icmp .ge 42, 18, [57], .null), (18, .aload_n 0, 19, [], .null), (19, .getfield 31, 22, [0, 6, 148], .null), (22, .iload_n 1, 23, [], .null), (23, .invokestatic 54, 26, [139, 2, 1, 1, 0, 545, 1], .null), (26, .ifCond .eq 25, 29, [51], .null), (29, .aload_n 0, 30, [], .null), (30, .getfield 31, 33, [0, 6, 148], .null), (33, .iload_n 2, 34, [], .null), (34, .invokestatic 54, 37, [139, 2, 1, 1, 0, 545, 1], .null), (37, .ifCond .eq 14, 40, [51], .null), (40, .aload_n 0, 41, [], .null), (41, .iload_n 1, 42, [], .null), (42, .iload_n 2, 43, [], .null), (43, .invokevirtual 66, 46, [11, 3, 1, 3, 0, 548, 0], .null), (46, .ifCond .eq 5, 49, [51], .null), (49, .iconst 1, 50, [], .int (1)), (50, .ireturn, 51, [], .null), (51, .iinc 2 1, 54, [], .int (1)), (54, .goto (-42), 57, [12], .null), (57, .iinc 1 1, 60, [], .int (1)), (60, .goto (-58), 63, [2], .null), (63, .iconst 0, 64, [], .int (0)), (64, .ireturn, 65, [], .null)])
noncomputable def kX0_doCross : zM := (8, some .boolean, 3, [(53, [0, 3, 4, 5, 6])], [(0, .getstatic 70, 3, [1, 552, 1], .null), (3, .iload_n 1, 4, [], .null), (4, .iaload, 5, [], .null), (5, .istore_n 3, 6, [], .null), (6, .getstatic 73, 9, [2, 554, 1], .null), (9, .iload_n 1, 10, [], .null), (10, .iaload, 11, [], .null), (11, .istore 4, 13, [], .null), (13, .getstatic 70, 16, [1, 552, 1], .null), (16, .iload_n 2, 17, [], .null), (17, .iaload, 18, [], .null), (18, .istore 5, 20, [], .null), (20, .getstatic 73, 23, [2, 554, 1], .null), (23, .iload_n 2, 24, [], .null), (24, .iaload, 25, [], .null), (25, .istore 6, 27, [], .null), (27, .iload_n 3, 28, [], .null), (28, .iload 5, 30, [], .null), (30, .if_icmp .eq 23, 33, [53], .null), (33, .iload_n 3, 34, [], .null), (34, .iload 6, 36, [], .null), (36, .if_icmp .eq 17, 39, [53], .null), (39, .iload 4, 41, [], .null), (41, .iload 5, 43, [], .null), (43, .if_icmp .eq 10, 46, [53], .null), (46, .iload 4, 48, [], .null), (48, .iload 6, 50, [], .null), (50, .if_icmp .ne 7, 53, [57], .null), (53, .iconst 1, 54, [], .int (1)), (54, .goto 4, 57, [58], .null), (57, .iconst 0, 58, [], .int (0)), (58, .istore 7, 60, [], .null), (60, .iload 7, 62, [], .null), (62, .ifCond .ne 50, 65, [112], .null), (65, .aload_n 0, 66, [], .null), (66, .iload_n 3, 67, [], .null), (67, .iload 4, 69, [], .null), (69, .iload 5, 71, [], .null), (71, .invokevirtual 76, 74, [12, 4, 1, 2, 0, 556, 0], .null), (74, .aload_n 0, 75, [], .null), (75, .iload_n 3, 76, [], .null), (76, .iload 4, 78, [], .null), (78, .iload 6, 80, [], .null), (80, .invokevirtual 76, 83, [12, 4, 1, 2, 0, 556, 0], .null), (83, .if_icmp .eq 29, 86, [112], .null), (86, .aload_n 0, 87, [], .null), (87, .iload 5, 89, [], .null), (89, .iload 6, 91, [], .null), (91, .iload_n 3, 92, [], .null), (92, .invokevirtual 76, 95, [12, 4, 1, 2, 0, 556, 0], .null), (95, .aload_n 0, 96, [], .null), (96, .iload 5, 98, [], .null), (98, .iload 6, 100, [], .null), (100, .iload 4, 102, [], .null), (102, .invokevirtual 76, 105, [12, 4, 1, 2, 0, 556, 0], .null), (105, .if_icmp .eq 7, 108, [112], .null), (108, .iconst 1, 109, [], .int (1)), (109, .goto 4, 112, [113], .null), (112, .iconst 0, 113, [], .int (0)), (113, .ireturn, 114, [], .null)])
noncomputable def kX0_turnsLeft : zM := (4, some .boolean, 2, [], [(0, .aload_n 0, 1, [], .null), (1, .getfield 9, 4, [0, 0, 127], .null), (4, .iload_n 1, 5, [], .null), (5, .iaload, 6, [], .null), (6, .aload_n 0, 7, [], .null), (7, .getfield 15, 10, [0, 1, 131], .null), (10, .iload_n 1, 11, [], .null), (11, .iaload, 12, [], .null), (12, .aload_n 0, 13, [], .null), (13, .getfield 9, 16, [0, 0, 127], .null), (16, .iload_n 2, 17, [], .null), (17, .iaload, 18, [], .null), (18, .aload_n 0, 19, [], .null), (19, .getfield 15, 22, [0, 1, 131], .null), (22, .iload_n 2, 23, [], .null), (23, .iaload, 24, [], .null), (24, .aload_n 0, 25, [], .null), (25, .getfield 9, 28, [0, 0, 127], .null), (28, .iload_n 3, 29, [], .null), (29, .iaload, 30, [], .null), (30, .aload_n 0, 31, [], .null), (31, .getfield 15, 34, [0, 1, 131], .null), (34, .iload_n 3, 35, [], .null), (35, .iaload, 36, [], .null), (36, .invokestatic 58, 39, [142, 6, 1, 1, 0, 489, 1], .null), (39, .ifCond .le 7, 42, [46], .null), (42, .iconst 1, 43, [], .int (1)), (43, .goto 4, 46, [47], .null), (46, .iconst 0, 47, [], .int (0)), (47, .ireturn, 48, [], .null)])
noncomputable def kX1_fewest : zM := (6, some .int, 4, [(22, [0, 2, 3, 4, 5])], [(0, .aload_n 0, 1, [], .null), (1, .getfield 9, 4, [1, 0, 293], .null), (4, .iconst (-1), 5, [], .int (-1)), (5, .invokestatic 22, 8, [250, 2, 0, 1, 0, 761, 0], .null), (8, .aload_n 0, 9, [], .null), (9, .iconst 0, 10, [], .int (0)), (10, .putfield 18, 13, [1, 2, 295], .null), (13, .aload_n 0, 14, [], .null), (14, .iload_n 1, 15, [], .null), (15, .iconst 0, 16, [], .int (0)), (16, .invokevirtual 28, 19, [15, 3, 0, 1, 1, 762, 0], .null), (19, .iconst 0, 20, [], .int (0)), (20, .istore 5, 22, [], .null), (22, .iload 5, 24, [], .null), (24, .aload_n 0, 25, [], .null), (25, .getfield 18, 28, [1, 2, 295], .null), (28, .if_icmp .ge 40, 31, [68], .null), (31, .iload 5, 33, [], .null), (33, .sipush 800, 36, [], .int (800)), (36, .if_icmp .ge 32, 39, [68], .null), (39, .aload_n 0, 40, [], .null), (40, .getfield 9, 43, [1, 0, 293], .null), (43, .iload_n 2, 44, [], .null), (44, .iaload, 45, [], .null), (45, .ifCond .ge 23, 48, [68], .null), (48, .aload_n 0, 49, [], .null), (49, .aload_n 0, 50, [], .null), (50, .getfield 15, 53, [1, 1, 294], .null), (53, .iload 5, 55, [], .null), (55, .iaload, 56, [], .null), (56, .aload_n 3, 57, [], .null), (57, .aload 4, 59, [], .null), (59, .invokevirtual 32, 62, [14, 4, 0, 3, 1, 766, 0], .null), (62, .iinc 5 1, 65, [], .int (1)), (65, .goto (-43), 68, [22], .null), (68, .aload_n 0, 69, [], .null), (69, .getfield 9, 72, [1, 0, 293], .null), (72, .iload_n 2, 73, [], .null), (73, .iaload, 74, [], .null), (74, .ireturn, 75, [], .null)])
noncomputable def kX1_meetAround : zM := (10, none, 3, [(11, [0, 1, 2, 3, 4, 6])], [(0, .aload_n 2, 1, [], .null), (1, .getfield 36, 4, [3, 6, 264], .null), (4, .iload_n 1, 5, [], .null), (5, .laload, 6, [], .null), (6, .lstore 4, 8, [], .null), (8, .iconst 0, 9, [], .int (0)), (9, .istore 6, 11, [], .null), (11, .iload 6, 13, [], .null), (13, .bipush 36, 15, [], .int (36)), (15, .if_icmp .ge 66, 18, [81], .null), (18, .aload_n 2, 19, [], .null), (19, .iload 6, 21, [], .null), (21, .lload 4, 23, [], .null), (23, .aload_n 3, 24, [], .null), (24, .invokevirtual 42, 27, [38, 4, 2, 2, 3, 770, 0], .null), (27, .lstore 7, 29, [], .null), (29, .lload 7, 31, [], .null), (31, .lconst 0, 32, [], .long (0)), (32, .lcmp, 33, [], .null), (33, .ifCond .ne 7, 36, [40], .null), (36, .iconst (-1), 37, [], .int (-1)), (37, .goto 17, 40, [54], .null), (40, .aload_n 2, 41, [], .null), (41, .lload 4, 43, [], .null), (43, .lload 7, 45, [], .null), (45, .lxor, 46, [], .null), (46, .lconst 1, 47, [], .long (1)), (47, .iload 6, 49, [], .null), (49, .lshl, 50, [], .null), (50, .lxor, 51, [], .null), (51, .invokevirtual 46, 54, [34, 2, 1, 2, 3, 771, 0], .null), (54, .istore 9, 56, [], .null), (56, .iload 9, 58, [], .null), (58, .ifCond .lt 17, 61, [75], .null), (61, .aload_n 0, 62, [], .null), (62, .iload 9, 64, [], .null), (64, .aload_n 0, 65, [], .null), (65, .getfield 9, 68, [1, 0, 293], .null), (68, .iload_n 1, 69, [], .null), (69, .iaload, 70, [], .null), (70, .iconst 1, 71, [], .int (1)), (71, .iadd, 72, [], .null), (72, .invokevirtual 28, 75, [15, 3, 0, 1, 1, 762, 0], .null), (75, .iinc 6 1, 78, [], .int (1)), (78, .goto (-67), 81, [11], .null), (81, .return_, 82, [], .null)])
noncomputable def kX1_meet : zM := (3, none, 1, [], [(0, .aload_n 0, 1, [], .null), (1, .getfield 9, 4, [1, 0, 293], .null), (4, .iload_n 1, 5, [], .null), (5, .iaload, 6, [], .null), (6, .ifCond .ge 40, 9, [46], .null), (9, .aload_n 0, 10, [], .null), (10, .getfield 18, 13, [1, 2, 295], .null), (13, .sipush 800, 16, [], .int (800)), (16, .if_icmp .ge 30, 19, [46], .null), (19, .aload_n 0, 20, [], .null), (20, .getfield 9, 23, [1, 0, 293], .null), (23, .iload_n 1, 24, [], .null), (24, .iload_n 2, 25, [], .null), (25, .iastore, 26, [], .null), (26, .aload_n 0, 27, [], .null), (27, .getfield 15, 30, [1, 1, 294], .null), (30, .aload_n 0, 31, [], .null), (31, .getfield 18, 34, [1, 2, 295], .null), (34, .iload_n 1, 35, [], .null), (35, .iastore, 36, [], .null), (36, .aload_n 0, 37, [], .null), (37, .dup, 38, [], .null), (38, .getfield 18, 41, [1, 2, 295], .null), (41, .iconst 1, 42, [], .int (1)), (42, .iadd, 43, [], .null), (43, .putfield 18, 46, [1, 2, 295], .null), (46, .return_, 47, [], .null)])
noncomputable def kX2_start : zM := (3, none, 1, [], [(0, .aload_n 0, 1, [], .null), (1, .lload_n 1, 2, [], .null), (2, .putfield 19, 5, [2, 2, 353], .null), (5, .aload_n 0, 6, [], .null), (6, .iconst 0, 7, [], .int (0)), (7, .putfield 22, 10, [2, 3, 355], .null), (10, .return_, 11, [], .null)])
noncomputable def kX2_takeSteps : zM := (3, none, 3, [(2, [0, 1, 2])], [(0, .iconst 0, 1, [], .int (0)), (1, .istore_n 2, 2, [], .null), (2, .iload_n 2, 3, [], .null), (3, .aload_n 1, 4, [], .null), (4, .getfield 26, 7, [0, 5, 146], .null), (7, .if_icmp .ge 32, 10, [39], .null), (10, .aload_n 0, 11, [], .null), (11, .getfield 22, 14, [2, 3, 355], .null), (14, .ifCond .ne 25, 17, [39], .null), (17, .aload_n 0, 18, [], .null), (18, .aload_n 1, 19, [], .null), (19, .getfield 32, 22, [0, 2, 136], .null), (22, .iload_n 2, 23, [], .null), (23, .iaload, 24, [], .null), (24, .aload_n 1, 25, [], .null), (25, .getfield 36, 28, [0, 3, 139], .null), (28, .iload_n 2, 29, [], .null), (29, .iaload, 30, [], .null), (30, .invokevirtual 39, 33, [18, 3, 0, 2, 2, 861, 0], .null), (33, .iinc 2 1, 36, [], .int (1)), (36, .goto (-34), 39, [2], .null), (39, .return_, 40, [], .null)])
noncomputable def kX2_takeStep : zM := (3, none, 2, [], [(0, .iload_n 1, 1, [], .null), (1, .tableswitch 123 0 5 #[39, 48, 57, 82, 98, 114], 40, [124, 40, 49, 58, 83, 99, 115], .null), (40, .aload_n 0, 41, [], .null), (41, .iload_n 2, 42, [], .null), (42, .i2l, 43, [], .null), (43, .invokevirtual 43, 46, [19, 2, 0, 1, 2, 865, 0], .null), (46, .goto 82, 49, [128], .null), (49, .aload_n 0, 50, [], .null), (50, .iload_n 2, 51, [], .null), (51, .i2l, 52, [], .null), (52, .invokevirtual 47, 55, [21, 2, 0, 1, 2, 869, 0], .null), (55, .goto 73, 58, [128], .null), (58, .aload_n 0, 59, [], .null), (59, .iload_n 2, 60, [], .null), (60, .ifCond .ne 10, 63, [70], .null), (63, .aload_n 0, 64, [], .null), (64, .getfield 19, 67, [2, 2, 353], .null), (67, .goto 10, 70, [77], .null), (70, .aload_n 0, 71, [], .null), (71, .getfield 19, 74, [2, 2, 353], .null), (74, .iload_n 2, 75, [], .null), (75, .i2l, 76, [], .null), (76, .lrem, 77, [], .null), (77, .putfield 19, 80, [2, 2, 353], .null), (80, .goto 48, 83, [128], .null), (83, .aload_n 0, 84, [], .null), (84, .aload_n 0, 85, [], .null), (85, .getfield 19, 88, [2, 2, 353], .null), (88, .iload_n 2, 89, [], .null), (89, .i2l, 90, [], .null), (90, .invokestatic 50, 93, [993, 875], .null), (93, .putfield 19, 96, [2, 2, 353], .null), (96, .goto 32, 99, [128], .null), (99, .aload_n 0, 100, [], .null), (100, .aload_n 0, 101, [], .null), (101, .getfield 19, 104, [2, 2, 353], .null), (104, .iload_n 2, 105, [], .null), (105, .i2l, 106, [], .null), (106, .invokestatic 56, 109, [994, 878], .null), (109, .putfield 19, 112, [2, 2, 353], .null), (112, .goto 16, 115, [128], .null), (115, .aload_n 0, 116, [], .null), (116, .iload_n 2, 117, [], .null), (117, .i2l, 118, [], .null), (118, .invokevirtual 59, 121, [20, 2, 0, 1, 2, 881, 0], .null), (121, .goto 7, 124, [128], .null), (124, .aload_n 0, 125, [], .null), (125, .invokevirtual 62, 128, [22, 1, 0, 1, 2, 885, 0], .null), (128, .return_, 129, [], .null)])
noncomputable def kX2_plus : zM := (5, none, 1, [], [(0, .aload_n 0, 1, [], .null), (1, .getfield 19, 4, [2, 2, 353], .null), (4, .lload_n 1, 5, [], .null), (5, .ladd, 6, [], .null), (6, .lstore_n 3, 7, [], .null), (7, .aload_n 0, 8, [], .null), (8, .aload_n 0, 9, [], .null), (9, .getfield 22, 12, [2, 3, 355], .null), (12, .ifCond .ne 18, 15, [30], .null), (15, .aload_n 0, 16, [], .null), (16, .getfield 19, 19, [2, 2, 353], .null), (19, .lload_n 3, 20, [], .null), (20, .lxor, 21, [], .null), (21, .lload_n 1, 22, [], .null), (22, .lload_n 3, 23, [], .null), (23, .lxor, 24, [], .null), (24, .land, 25, [], .null), (25, .lconst 0, 26, [], .long (0)), (26, .lcmp, 27, [], .null), (27, .ifCond .ge 7, 30, [34], .null), (30, .iconst 1, 31, [], .int (1)), (31, .goto 4, 34, [35], .null), (34, .iconst 0, 35, [], .int (0)), (35, .putfield 22, 38, [2, 3, 355], .null), (38, .aload_n 0, 39, [], .null), (39, .lload_n 3, 40, [], .null), (40, .putfield 19, 43, [2, 2, 353], .null), (43, .return_, 44, [], .null)])
noncomputable def kX2_takenFrom : zM := (5, none, 1, [], [(0, .lload_n 1, 1, [], .null), (1, .aload_n 0, 2, [], .null), (2, .getfield 19, 5, [2, 2, 353], .null), (5, .lsub, 6, [], .null), (6, .lstore_n 3, 7, [], .null), (7, .aload_n 0, 8, [], .null), (8, .aload_n 0, 9, [], .null), (9, .getfield 22, 12, [2, 3, 355], .null), (12, .ifCond .ne 18, 15, [30], .null), (15, .lload_n 1, 16, [], .null), (16, .aload_n 0, 17, [], .null), (17, .getfield 19, 20, [2, 2, 353], .null), (20, .lxor, 21, [], .null), (21, .lload_n 1, 22, [], .null), (22, .lload_n 3, 23, [], .null), (23, .lxor, 24, [], .null), (24, .land, 25, [], .null), (25, .lconst 0, 26, [], .long (0)), (26, .lcmp, 27, [], .null), (27, .ifCond .ge 7, 30, [34], .null), (30, .iconst 1, 31, [], .int (1)), (31, .goto 4, 34, [35], .null), (34, .iconst 0, 35, [], .int (0)), (35, .putfield 22, 38, [2, 3, 355], .null), (38, .aload_n 0, 39, [], .null), (39, .lload_n 3, 40, [], .null), (40, .putfield 19, 43, [2, 2, 353], .null), (43, .return_, 44, [], .null)])
noncomputable def kX2_times : zM := (4, none, 1, [(31, [0, 1]), (47, [0, 1])], [(0, .lload_n 1, 1, [], .null), (1, .lconst 0, 2, [], .long (0)), (2, .lcmp, 3, [], .null), (3, .ifCond .ne 9, 6, [12], .null), (6, .aload_n 0, 7, [], .null), (7, .lconst 0, 8, [], .long (0)), (8, .putfield 19, 11, [2, 2, 353], .null), (11, .return_, 12, [], .null), (12, .aload_n 0, 13, [], .null), (13, .getfield 19, 16, [2, 2, 353], .null), (16, .ldc2_w 67, 19, [873], .long (-9223372036854775808)), (19, .lcmp, 20, [], .null), (20, .ifCond .ne 11, 23, [31], .null), (23, .lload_n 1, 24, [], .null), (24, .ldc2_w 69, 27, [874], .long (-1)), (27, .lcmp, 28, [], .null), (28, .ifCond .eq 19, 31, [47], .null), (31, .aload_n 0, 32, [], .null), (32, .getfield 19, 35, [2, 2, 353], .null), (35, .lload_n 1, 36, [], .null), (36, .lmul, 37, [], .null), (37, .lload_n 1, 38, [], .null), (38, .ldiv, 39, [], .null), (39, .aload_n 0, 40, [], .null), (40, .getfield 19, 43, [2, 2, 353], .null), (43, .lcmp, 44, [], .null), (44, .ifCond .eq 7, 47, [51], .null), (47, .iconst 1, 48, [], .int (1)), (48, .goto 4, 51, [52], .null), (51, .iconst 0, 52, [], .int (0)), (52, .istore_n 3, 53, [], .null), (53, .aload_n 0, 54, [], .null), (54, .aload_n 0, 55, [], .null), (55, .getfield 22, 58, [2, 3, 355], .null), (58, .ifCond .ne 7, 61, [65], .null), (61, .iload_n 3, 62, [], .null), (62, .ifCond .eq 7, 65, [69], .null), (65, .iconst 1, 66, [], .int (1)), (66, .goto 4, 69, [70], .null), (69, .iconst 0, 70, [], .int (0)), (70, .putfield 22, 73, [2, 3, 355], .null), (73, .aload_n 0, 74, [], .null), (74, .aload_n 0, 75, [], .null), (75, .getfield 19, 78, [2, 2, 353], .null), (78, .lload_n 1, 79, [], .null), (79, .lmul, 80, [], .null), (80, .putfield 19, 83, [2, 2, 353], .null), (83, .return_, 84, [], .null)])
noncomputable def kX2_square : zM := (1, none, 1, [], [(0, .aload_n 0, 1, [], .null), (1, .aload_n 0, 2, [], .null), (2, .getfield 22, 5, [2, 3, 355], .null), (5, .ifCond .ne 25, 8, [30], .null), (8, .aload_n 0, 9, [], .null), (9, .getfield 19, 12, [2, 2, 353], .null), (12, .ldc2_w 71, 15, [889], .long (3037000499)), (15, .lcmp, 16, [], .null), (16, .ifCond .gt 14, 19, [30], .null), (19, .aload_n 0, 20, [], .null), (20, .getfield 19, 23, [2, 2, 353], .null), (23, .ldc2_w 73, 26, [890], .long (-3037000499)), (26, .lcmp, 27, [], .null), (27, .ifCond .ge 7, 30, [34], .null), (30, .iconst 1, 31, [], .int (1)), (31, .goto 4, 34, [35], .null), (34, .iconst 0, 35, [], .int (0)), (35, .putfield 22, 38, [2, 3, 355], .null), (38, .aload_n 0, 39, [], .null), (39, .aload_n 0, 40, [], .null), (40, .getfield 19, 43, [2, 2, 353], .null), (43, .aload_n 0, 44, [], .null), (44, .getfield 19, 47, [2, 2, 353], .null), (47, .lmul, 48, [], .null), (48, .putfield 19, 51, [2, 2, 353], .null), (51, .return_, 52, [], .null)])
noncomputable def kX2_measureEdge : zM := (4, none, 4, [], [(0, .aload_n 0, 1, [], .null), (1, .aload_n 1, 2, [], .null), (2, .iload_n 2, 3, [], .null), (3, .iload_n 3, 4, [], .null), (4, .invokestatic 75, 7, [24, 3, 2, 1, 0, 902, 0], .null), (7, .invokevirtual 79, 10, [16, 2, 0, 1, 2, 910, 0], .null), (10, .aload_n 0, 11, [], .null), (11, .aload_n 1, 12, [], .null), (12, .invokevirtual 82, 15, [17, 2, 0, 3, 2, 911, 0], .null), (15, .return_, 16, [], .null)])
noncomputable def kX2_byRule : zM := (9, some .long, 1, [], [(0, .getstatic 86, 3, [1, 905, 1], .null), (3, .iload_n 1, 4, [], .null), (4, .iaload, 5, [], .null), (5, .istore_n 3, 6, [], .null), (6, .getstatic 89, 9, [2, 906, 1], .null), (9, .iload_n 1, 10, [], .null), (10, .iaload, 11, [], .null), (11, .istore 4, 13, [], .null), (13, .aload_n 0, 14, [], .null), (14, .getfield 92, 17, [0, 0, 130], .null), (17, .iload_n 3, 18, [], .null), (18, .iaload, 19, [], .null), (19, .aload_n 0, 20, [], .null), (20, .getfield 92, 23, [0, 0, 130], .null), (23, .iload 4, 25, [], .null), (25, .iaload, 26, [], .null), (26, .isub, 27, [], .null), (27, .invokestatic 95, 30, [992, 907], .null), (30, .i2l, 31, [], .null), (31, .lstore 5, 33, [], .null), (33, .aload_n 0, 34, [], .null), (34, .getfield 99, 37, [0, 1, 134], .null), (37, .iload_n 3, 38, [], .null), (38, .iaload, 39, [], .null), (39, .aload_n 0, 40, [], .null), (40, .getfield 99, 43, [0, 1, 134], .null), (43, .iload 4, 45, [], .null), (45, .iaload, 46, [], .null), (46, .isub, 47, [], .null), (47, .invokestatic 95, 50, [992, 907], .null), (50, .i2l, 51, [], .null), (51, .lstore 7, 53, [], .null), (53, .iload_n 2, 54, [], .null), (54, .tableswitch 80 0 5 #[38, 40, 52, 58, 66, 74], 92, [134, 92, 94, 106, 112, 120, 128], .null), (92, .lconst 1, 93, [], .long (1)), (93, .lreturn, 94, [], .null), (94, .lload 5, 96, [], .null), (96, .lload 5, 98, [], .null), (98, .lmul, 99, [], .null), (99, .lload 7, 101, [], .null), (101, .lload 7, 103, [], .null), (103, .lmul, 104, [], .null), (104, .ladd, 105, [], .null), (105, .lreturn, 106, [], .null), (106, .lload 5, 108, [], .null), (108, .lload 7, 110, [], .null), (110, .ladd, 111, [], .null), (111, .lreturn, 112, [], .null), (112, .lload 5, 114, [], .null), (114, .lload 7, 116, [], .null), (116, .invokestatic 50, 119, [993, 875], .null), (119, .lreturn, 120, [], .null), (120, .lload 5, 122, [], .null), (122, .lload 7, 124, [], .null), (124, .invokestatic 56, 127, [994, 878], .null), (127, .lreturn, 128, [], .null), (128, .iload_n 3, 129, [], .null), (129, .iload 4, 131, [], .null), (131, .iadd, 132, [], .null), (132, .i2l, 133, [], .null), (133, .lreturn, 134, [], .null), (134, .iload_n 3, 135, [], .null), (135, .iconst 1, 136, [], .int (1)), (136, .iadd, 137, [], .null), (137, .iload 4, 139, [], .null), (139, .iconst 1, 140, [], .int (1)), (140, .iadd, 141, [], .null), (141, .imul, 142, [], .null), (142, .i2l, 143, [], .null), (143, .lreturn, 144, [], .null)])
noncomputable def kX2_measureEdges : zM := (4, none, 5, [(7, [0, 1, 2, 3])], [(0, .aload_n 0, 1, [], .null), (1, .lconst 0, 2, [], .long (0)), (2, .putfield 15, 5, [2, 1, 352], .null), (5, .iconst 0, 6, [], .int (0)), (6, .istore_n 3, 7, [], .null), (7, .iload_n 3, 8, [], .null), (8, .bipush 36, 10, [], .int (36)), (10, .if_icmp .ge 61, 13, [71], .null), (13, .getstatic 89, 16, [2, 906, 1], .null), (16, .iload_n 3, 17, [], .null), (17, .iaload, 18, [], .null), (18, .aload_n 1, 19, [], .null), (19, .getfield 102, 22, [0, 4, 144], .null), (22, .if_icmp .ge 43, 25, [65], .null), (25, .aload_n 0, 26, [], .null), (26, .aload_n 1, 27, [], .null), (27, .iload_n 3, 28, [], .null), (28, .iload_n 2, 29, [], .null), (29, .invokevirtual 105, 32, [23, 4, 0, 4, 2, 923, 0], .null), (32, .aload_n 0, 33, [], .null), (33, .getfield 9, 36, [2, 0, 351], .null), (36, .iload_n 3, 37, [], .null), (37, .aload_n 0, 38, [], .null), (38, .getfield 19, 41, [2, 2, 353], .null), (41, .lastore, 42, [], .null), (42, .aload_n 0, 43, [], .null), (43, .dup, 44, [], .null), (44, .getfield 15, 47, [2, 1, 352], .null), (47, .aload_n 0, 48, [], .null), (48, .getfield 22, 51, [2, 3, 355], .null), (51, .ifCond .eq 9, 54, [60], .null), (54, .lconst 1, 55, [], .long (1)), (55, .iload_n 3, 56, [], .null), (56, .lshl, 57, [], .null), (57, .goto 4, 60, [61], .null), (60, .lconst 0, 61, [], .long (0)), (61, .lor, 62, [], .null), (62, .putfield 15, 65, [2, 1, 352], .null), (65, .iinc 3 1, 68, [], .int (1)), (68, .goto (-61), 71, [7], .null), (71, .return_, 72, [], .null)])
noncomputable def kX2_measureNet : zM := (6, none, 3, [(31, [0, 1, 3, 4, 5])], [(0, .aload_n 0, 1, [], .null), (1, .lconst 0, 2, [], .long (0)), (2, .invokevirtual 79, 5, [16, 2, 0, 1, 2, 910, 0], .null), (5, .aload_n 0, 6, [], .null), (6, .lload_n 1, 7, [], .null), (7, .aload_n 0, 8, [], .null), (8, .getfield 15, 11, [2, 1, 352], .null), (11, .land, 12, [], .null), (12, .lconst 0, 13, [], .long (0)), (13, .lcmp, 14, [], .null), (14, .ifCond .eq 7, 17, [21], .null), (17, .iconst 1, 18, [], .int (1)), (18, .goto 4, 21, [22], .null), (21, .iconst 0, 22, [], .int (0)), (22, .putfield 22, 25, [2, 3, 355], .null), (25, .iconst 1, 26, [], .int (1)), (26, .istore 4, 28, [], .null), (28, .iconst 0, 29, [], .int (0)), (29, .istore 5, 31, [], .null), (31, .iload 5, 33, [], .null), (33, .bipush 36, 35, [], .int (36)), (35, .if_icmp .ge 59, 38, [94], .null), (38, .aload_n 0, 39, [], .null), (39, .getfield 22, 42, [2, 3, 355], .null), (42, .ifCond .ne 52, 45, [94], .null), (45, .lload_n 1, 46, [], .null), (46, .iload 5, 48, [], .null), (48, .invokestatic 109, 51, [139, 2, 1, 1, 0, 928, 1], .null), (51, .ifCond .eq 37, 54, [88], .null), (54, .iload 4, 56, [], .null), (56, .ifCond .eq 17, 59, [73], .null), (59, .aload_n 0, 60, [], .null), (60, .aload_n 0, 61, [], .null), (61, .getfield 9, 64, [2, 0, 351], .null), (64, .iload 5, 66, [], .null), (66, .laload, 67, [], .null), (67, .putfield 19, 70, [2, 2, 353], .null), (70, .goto 15, 73, [85], .null), (73, .aload_n 0, 74, [], .null), (74, .aload_n 0, 75, [], .null), (75, .getfield 9, 78, [2, 0, 351], .null), (78, .iload 5, 80, [], .null), (80, .laload, 81, [], .null), (81, .iload_n 3, 82, [], .null), (82, .invokevirtual 113, 85, [27, 3, 0, 2, 2, 929, 0], .null), (85, .iconst 0, 86, [], .int (0)), (86, .istore 4, 88, [], .null), (88, .iinc 5 1, 91, [], .int (1)), (91, .goto (-60), 94, [31], .null), (94, .return_, 95, [], .null)])
noncomputable def kX2_foldIn : zM := (4, none, 2, [], [(0, .iload_n 3, 1, [], .null), (1, .tableswitch 65 0 2 #[27, 35, 50], 28, [66, 28, 36, 51], .null), (28, .aload_n 0, 29, [], .null), (29, .lload_n 1, 30, [], .null), (30, .invokevirtual 43, 33, [19, 2, 0, 1, 2, 865, 0], .null), (33, .goto 43, 36, [76], .null), (36, .aload_n 0, 37, [], .null), (37, .aload_n 0, 38, [], .null), (38, .getfield 19, 41, [2, 2, 353], .null), (41, .lload_n 1, 42, [], .null), (42, .invokestatic 50, 45, [993, 875], .null), (45, .putfield 19, 48, [2, 2, 353], .null), (48, .goto 28, 51, [76], .null), (51, .aload_n 0, 52, [], .null), (52, .aload_n 0, 53, [], .null), (53, .getfield 19, 56, [2, 2, 353], .null), (56, .lload_n 1, 57, [], .null), (57, .invokestatic 56, 60, [994, 878], .null), (60, .putfield 19, 63, [2, 2, 353], .null), (63, .goto 13, 66, [76], .null), (66, .aload_n 0, 67, [], .null), (67, .aload_n 0, 68, [], .null), (68, .getfield 19, 71, [2, 2, 353], .null), (71, .lload_n 1, 72, [], .null), (72, .lxor, 73, [], .null), (73, .putfield 19, 76, [2, 2, 353], .null), (76, .return_, 77, [], .null)])
noncomputable def kX2_leastOf : zM := (7, some .int, 4, [(8, [0, 1, 2, 3, 4, 6])], [(0, .iconst (-1), 1, [], .int (-1)), (1, .istore_n 3, 2, [], .null), (2, .lconst 0, 3, [], .long (0)), (3, .lstore 4, 5, [], .null), (5, .iconst 0, 6, [], .int (0)), (6, .istore 6, 8, [], .null), (8, .iload 6, 10, [], .null), (10, .aload_n 1, 11, [], .null), (11, .getfield 117, 14, [3, 7, 269], .null), (14, .if_icmp .ge 53, 17, [67], .null), (17, .aload_n 0, 18, [], .null), (18, .aload_n 1, 19, [], .null), (19, .getfield 122, 22, [3, 6, 266], .null), (22, .iload 6, 24, [], .null), (24, .laload, 25, [], .null), (25, .iload_n 2, 26, [], .null), (26, .invokevirtual 125, 29, [26, 3, 0, 3, 2, 941, 0], .null), (29, .aload_n 0, 30, [], .null), (30, .getfield 22, 33, [2, 3, 355], .null), (33, .ifCond .eq 5, 36, [38], .null), (36, .iconst (-1), 37, [], .int (-1)), (37, .ireturn, 38, [], .null), (38, .iload_n 3, 39, [], .null), (39, .ifCond .lt 13, 42, [52], .null), (42, .aload_n 0, 43, [], .null), (43, .getfield 19, 46, [2, 2, 353], .null), (46, .lload 4, 48, [], .null), (48, .lcmp, 49, [], .null), (49, .ifCond .ge 12, 52, [61], .null), (52, .iload 6, 54, [], .null), (54, .istore_n 3, 55, [], .null), (55, .aload_n 0, 56, [], .null), (56, .getfield 19, 59, [2, 2, 353], .null), (59, .lstore 4, 61, [], .null), (61, .iinc 6 1, 64, [], .int (1)), (64, .goto (-56), 67, [8], .null), (67, .iload_n 3, 68, [], .null), (68, .ireturn, 69, [], .null)])
noncomputable def kX3_follow : zM := (5, none, 4, [(28, [0, 1, 2]), (46, [0, 1, 2]), (62, [0, 1, 2]), (94, [0, 4])], [(0, .aload_n 0, 1, [], .null), (1, .getfield 25, 4, [3, 4, 261], .null), (4, .aload_n 2, 5, [], .null), (5, .getfield 38, 8, [0, 6, 149], .null), (8, .lcmp, 9, [], .null), (9, .ifCond .ne 19, 12, [28], .null), (12, .aload_n 0, 13, [], .null), (13, .getfield 29, 16, [3, 5, 262], .null), (16, .aload_n 2, 17, [], .null), (17, .getfield 41, 20, [0, 7, 152], .null), (20, .lcmp, 21, [], .null), (21, .ifCond .ne 7, 24, [28], .null), (24, .iconst 1, 25, [], .int (1)), (25, .goto 4, 28, [29], .null), (28, .iconst 0, 29, [], .int (0)), (29, .istore_n 3, 30, [], .null), (30, .aload_n 0, 31, [], .null), (31, .getfield 22, 34, [3, 3, 260], .null), (34, .aload_n 1, 35, [], .null), (35, .getfield 42, 38, [5, 10, 226], .null), (38, .if_icmp .ne 8, 41, [46], .null), (41, .iload_n 3, 42, [], .null), (42, .ifCond .eq 4, 45, [46], .null), (45, .return_, 46, [], .null), (46, .aload_n 0, 47, [], .null), (47, .getfield 22, 50, [3, 3, 260], .null), (50, .aload_n 1, 51, [], .null), (51, .getfield 42, 54, [5, 10, 226], .null), (54, .if_icmp .eq 8, 57, [62], .null), (57, .aload_n 0, 58, [], .null), (58, .aload_n 1, 59, [], .null), (59, .invokevirtual 45, 62, [30, 2, 0, 3, 3, 656, 0], .null), (62, .aload_n 0, 63, [], .null), (63, .aload_n 1, 64, [], .null), (64, .getfield 42, 67, [5, 10, 226], .null), (67, .putfield 22, 70, [3, 3, 260], .null), (70, .aload_n 0, 71, [], .null), (71, .aload_n 2, 72, [], .null), (72, .getfield 38, 75, [0, 6, 149], .null), (75, .putfield 25, 78, [3, 4, 261], .null), (78, .aload_n 0, 79, [], .null), (79, .aload_n 2, 80, [], .null), (80, .getfield 41, 83, [0, 7, 152], .null), (83, .putfield 29, 86, [3, 5, 262], .null), (86, .aload_n 0, 87, [], .null), (87, .iconst 0, 88, [], .int (0)), (88, .putfield 35, 91, [3, 7, 267], .null), (91, .iconst 0, 92, [], .int (0)), (92, .istore 4, 94, [], .null), (94, .iload 4, 96, [], .null), (96, .aload_n 0, 97, [], .null), (97, .getfield 18, 100, [3, 2, 259], .null), (100, .if_icmp .ge 72, 103, [172], .null), (103, .aload_n 0, 104, [], .null), (104, .getfield 9, 107, [3, 0, 257], .null), (107, .iload 4, 109, [], .null), (109, .laload, 110, [], .null), (110, .aload_n 0, 111, [], .null), (111, .getfield 25, 114, [3, 4, 261], .null), (114, .land, 115, [], .null), (115, .aload_n 0, 116, [], .null), (116, .getfield 25, 119, [3, 4, 261], .null), (119, .lcmp, 120, [], .null), (120, .ifCond .ne 46, 123, [166], .null), (123, .aload_n 0, 124, [], .null), (124, .getfield 9, 127, [3, 0, 257], .null), (127, .iload 4, 129, [], .null), (129, .laload, 130, [], .null), (130, .aload_n 0, 131, [], .null), (131, .getfield 29, 134, [3, 5, 262], .null), (134, .land, 135, [], .null), (135, .lconst 0, 136, [], .long (0)), (136, .lcmp, 137, [], .null), (137, .ifCond .ne 29, 140, [166], .null), (140, .aload_n 0, 141, [], .null), (141, .getfield 32, 144, [3, 6, 263], .null), (144, .aload_n 0, 145, [], .null), (145, .getfield 35, 148, [3, 7, 267], .null), (148, .aload_n 0, 149, [], .null), (149, .getfield 9, 152, [3, 0, 257], .null), (152, .iload 4, 154, [], .null), (154, .laload, 155, [], .null), (155, .lastore, 156, [], .null), (156, .aload_n 0, 157, [], .null), (157, .dup, 158, [], .null), (158, .getfield 35, 161, [3, 7, 267], .null), (161, .iconst 1, 162, [], .int (1)), (162, .iadd, 163, [], .null), (163, .putfield 35, 166, [3, 7, 267], .null), (166, .iinc 4 1, 169, [], .int (1)), (169, .goto (-75), 172, [94], .null), (172, .return_, 173, [], .null)])
noncomputable def kX3_findWhole : zM := (8, none, 3, [(24, [0, 1, 2]), (49, [0, 1, 2, 3, 5])], [(0, .aload_n 0, 1, [], .null), (1, .iconst 0, 2, [], .int (0)), (2, .putfield 18, 5, [3, 2, 259], .null), (5, .aload_n 1, 6, [], .null), (6, .getfield 49, 9, [5, 7, 217], .null), (9, .iconst 3, 10, [], .int (3)), (10, .if_icmp .ge 4, 13, [14], .null), (13, .return_, 14, [], .null), (14, .aload_n 0, 15, [], .null), (15, .aload_n 1, 16, [], .null), (16, .invokestatic 52, 19, [31, 1, 2, 1, 0, 660, 0], .null), (19, .invokevirtual 56, 22, [32, 2, 0, 2, 3, 664, 0], .null), (22, .iconst 0, 23, [], .int (0)), (23, .istore_n 2, 24, [], .null), (24, .iload_n 2, 25, [], .null), (25, .aload_n 0, 26, [], .null), (26, .getfield 18, 29, [3, 2, 259], .null), (29, .if_icmp .ge 72, 32, [101], .null), (32, .iload_n 2, 33, [], .null), (33, .sipush 800, 36, [], .int (800)), (36, .if_icmp .ge 65, 39, [101], .null), (39, .aload_n 0, 40, [], .null), (40, .getfield 15, 43, [3, 1, 258], .null), (43, .iload_n 2, 44, [], .null), (44, .laload, 45, [], .null), (45, .lstore_n 3, 46, [], .null), (46, .iconst 0, 47, [], .int (0)), (47, .istore 5, 49, [], .null), (49, .iload 5, 51, [], .null), (51, .bipush 36, 53, [], .int (36)), (53, .if_icmp .ge 42, 56, [95], .null), (56, .aload_n 1, 57, [], .null), (57, .getfield 60, 60, [5, 5, 210], .null), (60, .iload 5, 62, [], .null), (62, .laload, 63, [], .null), (63, .lload_n 3, 64, [], .null), (64, .land, 65, [], .null), (65, .lstore 6, 67, [], .null), (67, .lload 6, 69, [], .null), (69, .invokestatic 63, 72, [248, 1, 1, 1, 0, 672, 0], .null), (72, .iconst 1, 73, [], .int (1)), (73, .if_icmp .ne 16, 76, [89], .null), (76, .aload_n 0, 77, [], .null), (77, .lload_n 3, 78, [], .null), (78, .lload 6, 80, [], .null), (80, .lxor, 81, [], .null), (81, .lconst 1, 82, [], .long (1)), (82, .iload 5, 84, [], .null), (84, .lshl, 85, [], .null), (85, .lxor, 86, [], .null), (86, .invokevirtual 56, 89, [32, 2, 0, 2, 3, 664, 0], .null), (89, .iinc 5 1, 92, [], .int (1)), (92, .goto (-43), 95, [49], .null), (95, .iinc 2 1, 98, [], .int (1)), (98, .goto (-74), 101, [24], .null), (101, .return_, 102, [], .null)])
noncomputable def kX3_greedyNet : zM := (4, some .long, 1, [(4, [0, 1, 3])], [(0, .lconst 0, 1, [], .long (0)), (1, .lstore_n 1, 2, [], .null), (2, .iconst 0, 3, [], .int (0)), (3, .istore_n 3, 4, [], .null), (4, .iload_n 3, 5, [], .null), (5, .bipush 36, 7, [], .int (36)), (7, .if_icmp .ge 40, 10, [47], .null), (10, .getstatic 69, 13, [2, 663, 1], .null), (13, .iload_n 3, 14, [], .null), (14, .iaload, 15, [], .null), (15, .aload_n 0, 16, [], .null), (16, .getfield 49, 19, [5, 7, 217], .null), (19, .if_icmp .ge 22, 22, [41], .null), (22, .aload_n 0, 23, [], .null), (23, .getfield 60, 26, [5, 5, 210], .null), (26, .iload_n 3, 27, [], .null), (27, .laload, 28, [], .null), (28, .lload_n 1, 29, [], .null), (29, .land, 30, [], .null), (30, .lconst 0, 31, [], .long (0)), (31, .lcmp, 32, [], .null), (32, .ifCond .ne 9, 35, [41], .null), (35, .lload_n 1, 36, [], .null), (36, .lconst 1, 37, [], .long (1)), (37, .iload_n 3, 38, [], .null), (38, .lshl, 39, [], .null), (39, .lor, 40, [], .null), (40, .lstore_n 1, 41, [], .null), (41, .iinc 3 1, 44, [], .int (1)), (44, .goto (-40), 47, [4], .null), (47, .lload_n 1, 48, [], .null), (48, .lreturn, 49, [], .null)])
noncomputable def kX3_meet : zM := (5, none, 2, [(36, [0, 1, 3])], [(0, .aload_n 0, 1, [], .null), (1, .getfield 9, 4, [3, 0, 257], .null), (4, .aload_n 0, 5, [], .null), (5, .getfield 18, 8, [3, 2, 259], .null), (8, .lload_n 1, 9, [], .null), (9, .invokestatic 73, 12, [33, 3, 1, 1, 0, 668, 0], .null), (12, .istore_n 3, 13, [], .null), (13, .iload_n 3, 14, [], .null), (14, .aload_n 0, 15, [], .null), (15, .getfield 18, 18, [3, 2, 259], .null), (18, .if_icmp .ge 18, 21, [36], .null), (21, .aload_n 0, 22, [], .null), (22, .getfield 9, 25, [3, 0, 257], .null), (25, .iload_n 3, 26, [], .null), (26, .laload, 27, [], .null), (27, .lload_n 1, 28, [], .null), (28, .lcmp, 29, [], .null), (29, .ifCond .ne 7, 32, [36], .null), (32, .iconst 1, 33, [], .int (1)), (33, .goto 4, 36, [37], .null), (36, .iconst 0, 37, [], .int (0)), (37, .istore 4, 39, [], .null), (39, .iload 4, 41, [], .null), (41, .ifCond .ne 13, 44, [54], .null), (44, .aload_n 0, 45, [], .null), (45, .getfield 18, 48, [3, 2, 259], .null), (48, .sipush 800, 51, [], .int (800)), (51, .if_icmp .lt 4, 54, [55], .null), (54, .return_, 55, [], .null), (55, .aload_n 0, 56, [], .null), (56, .getfield 9, 59, [3, 0, 257], .null), (59, .iload_n 3, 60, [], .null), (60, .aload_n 0, 61, [], .null), (61, .getfield 9, 64, [3, 0, 257], .null), (64, .iload_n 3, 65, [], .null), (65, .iconst 1, 66, [], .int (1)), (66, .iadd, 67, [], .null), (67, .aload_n 0, 68, [], .null), (68, .getfield 18, 71, [3, 2, 259], .null), (71, .iload_n 3, 72, [], .null), (72, .isub, 73, [], .null), (73, .invokestatic 77, 76, [999, 101, 671], .null), (76, .aload_n 0, 77, [], .null), (77, .getfield 9, 80, [3, 0, 257], .null), (80, .iload_n 3, 81, [], .null), (81, .lload_n 1, 82, [], .null), (82, .lastore, 83, [], .null), (83, .aload_n 0, 84, [], .null), (84, .getfield 15, 87, [3, 1, 258], .null), (87, .aload_n 0, 88, [], .null), (88, .getfield 18, 91, [3, 2, 259], .null), (91, .lload_n 1, 92, [], .null), (92, .lastore, 93, [], .null), (93, .aload_n 0, 94, [], .null), (94, .dup, 95, [], .null), (95, .getfield 18, 98, [3, 2, 259], .null), (98, .iconst 1, 99, [], .int (1)), (99, .iadd, 100, [], .null), (100, .putfield 18, 103, [3, 2, 259], .null), (103, .return_, 104, [], .null)])
noncomputable def kX3_spotIn : zM := (6, some .int, 1, [(8, [0, 1, 2, 4, 5])], [(0, .iconst 0, 1, [], .int (0)), (1, .istore 4, 3, [], .null), (3, .sipush 1024, 6, [], .int (1024)), (6, .istore 5, 8, [], .null), (8, .iload 5, 10, [], .null), (10, .ifCond .le 42, 13, [52], .null), (13, .iload 4, 15, [], .null), (15, .iload 5, 17, [], .null), (17, .iadd, 18, [], .null), (18, .iload_n 1, 19, [], .null), (19, .if_icmp .gt 24, 22, [43], .null), (22, .aload_n 0, 23, [], .null), (23, .iload 4, 25, [], .null), (25, .iload 5, 27, [], .null), (27, .iadd, 28, [], .null), (28, .iconst 1, 29, [], .int (1)), (29, .isub, 30, [], .null), (30, .laload, 31, [], .null), (31, .lload_n 2, 32, [], .null), (32, .lcmp, 33, [], .null), (33, .ifCond .ge 10, 36, [43], .null), (36, .iload 4, 38, [], .null), (38, .iload 5, 40, [], .null), (40, .iadd, 41, [], .null), (41, .istore 4, 43, [], .null), (43, .iload 5, 45, [], .null), (45, .iconst 1, 46, [], .int (1)), (46, .ishr, 47, [], .null), (47, .istore 5, 49, [], .null), (49, .goto (-41), 52, [8], .null), (52, .iload 4, 54, [], .null), (54, .ireturn, 55, [], .null)])
noncomputable def kX3_find : zM := (4, some .int, 2, [], [(0, .aload_n 0, 1, [], .null), (1, .getfield 32, 4, [3, 6, 263], .null), (4, .aload_n 0, 5, [], .null), (5, .getfield 35, 8, [3, 7, 267], .null), (8, .lload_n 1, 9, [], .null), (9, .invokestatic 73, 12, [33, 3, 1, 1, 0, 668, 0], .null), (12, .istore_n 3, 13, [], .null), (13, .iload_n 3, 14, [], .null), (14, .aload_n 0, 15, [], .null), (15, .getfield 35, 18, [3, 7, 267], .null), (18, .if_icmp .ge 18, 21, [36], .null), (21, .aload_n 0, 22, [], .null), (22, .getfield 32, 25, [3, 6, 263], .null), (25, .iload_n 3, 26, [], .null), (26, .laload, 27, [], .null), (27, .lload_n 1, 28, [], .null), (28, .lcmp, 29, [], .null), (29, .ifCond .ne 7, 32, [36], .null), (32, .iload_n 3, 33, [], .null), (33, .goto 4, 36, [37], .null), (36, .iconst (-1), 37, [], .int (-1)), (37, .ireturn, 38, [], .null)])
noncomputable def kX3_holding : zM := (4, some .int, 2, [(4, [0, 1, 2, 3])], [(0, .iconst 0, 1, [], .int (0)), (1, .istore_n 2, 2, [], .null), (2, .iconst 0, 3, [], .int (0)), (3, .istore_n 3, 4, [], .null), (4, .iload_n 3, 5, [], .null), (5, .aload_n 0, 6, [], .null), (6, .getfield 35, 9, [3, 7, 267], .null), (9, .if_icmp .ge 25, 12, [34], .null), (12, .aload_n 0, 13, [], .null), (13, .getfield 32, 16, [3, 6, 263], .null), (16, .iload_n 3, 17, [], .null), (17, .laload, 18, [], .null), (18, .iload_n 1, 19, [], .null), (19, .invokestatic 83, 22, [139, 2, 1, 1, 0, 707, 1], .null), (22, .ifCond .eq 6, 25, [28], .null), (25, .iinc 2 1, 28, [], .int (1)), (28, .iinc 3 1, 31, [], .int (1)), (31, .goto (-27), 34, [4], .null), (34, .iload_n 2, 35, [], .null), (35, .ireturn, 36, [], .null)])
noncomputable def kX3_inAll : zM := (4, some .long, 1, [(6, [0, 1, 3])], [(0, .ldc2_w 87, 3, [716], .long (-1)), (3, .lstore_n 1, 4, [], .null), (4, .iconst 0, 5, [], .int (0)), (5, .istore_n 3, 6, [], .null), (6, .iload_n 3, 7, [], .null), (7, .aload_n 0, 8, [], .null), (8, .getfield 35, 11, [3, 7, 267], .null), (11, .if_icmp .ge 18, 14, [29], .null), (14, .lload_n 1, 15, [], .null), (15, .aload_n 0, 16, [], .null), (16, .getfield 32, 19, [3, 6, 263], .null), (19, .iload_n 3, 20, [], .null), (20, .laload, 21, [], .null), (21, .land, 22, [], .null), (22, .lstore_n 1, 23, [], .null), (23, .iinc 3 1, 26, [], .int (1)), (26, .goto (-20), 29, [6], .null), (29, .lload_n 1, 30, [], .null), (30, .lreturn, 31, [], .null)])
noncomputable def kX3_inAny : zM := (4, some .long, 1, [(4, [0, 1, 3])], [(0, .lconst 0, 1, [], .long (0)), (1, .lstore_n 1, 2, [], .null), (2, .iconst 0, 3, [], .int (0)), (3, .istore_n 3, 4, [], .null), (4, .iload_n 3, 5, [], .null), (5, .aload_n 0, 6, [], .null), (6, .getfield 35, 9, [3, 7, 267], .null), (9, .if_icmp .ge 18, 12, [27], .null), (12, .lload_n 1, 13, [], .null), (13, .aload_n 0, 14, [], .null), (14, .getfield 32, 17, [3, 6, 263], .null), (17, .iload_n 3, 18, [], .null), (18, .laload, 19, [], .null), (19, .lor, 20, [], .null), (20, .lstore_n 1, 21, [], .null), (21, .iinc 3 1, 24, [], .int (1)), (24, .goto (-20), 27, [4], .null), (27, .lload_n 1, 28, [], .null), (28, .lreturn, 29, [], .null)])
noncomputable def kX3_givenUpFor : zM := (8, some .long, 2, [], [(0, .aload 4, 2, [], .null), (2, .getfield 60, 5, [5, 5, 210], .null), (5, .iload_n 1, 6, [], .null), (6, .laload, 7, [], .null), (7, .lload_n 2, 8, [], .null), (8, .land, 9, [], .null), (9, .lstore 5, 11, [], .null), (11, .lload 5, 13, [], .null), (13, .invokestatic 63, 16, [248, 1, 1, 1, 0, 672, 0], .null), (16, .iconst 1, 17, [], .int (1)), (17, .if_icmp .ne 7, 20, [24], .null), (20, .iconst 1, 21, [], .int (1)), (21, .goto 4, 24, [25], .null), (24, .iconst 0, 25, [], .int (0)), (25, .istore 7, 27, [], .null), (27, .iload 7, 29, [], .null), (29, .ifCond .eq 31, 32, [60], .null), (32, .lload 5, 34, [], .null), (34, .aload_n 0, 35, [], .null), (35, .getfield 25, 38, [3, 4, 261], .null), (38, .land, 39, [], .null), (39, .lconst 0, 40, [], .long (0)), (40, .lcmp, 41, [], .null), (41, .ifCond .ne 19, 44, [60], .null), (44, .aload_n 0, 45, [], .null), (45, .getfield 29, 48, [3, 5, 262], .null), (48, .iload_n 1, 49, [], .null), (49, .invokestatic 83, 52, [139, 2, 1, 1, 0, 707, 1], .null), (52, .ifCond .ne 8, 55, [60], .null), (55, .lload 5, 57, [], .null), (57, .goto 4, 60, [61], .null), (60, .lconst 0, 61, [], .long (0)), (61, .lreturn, 62, [], .null)])
noncomputable def kX3_flippable : zM := (6, some .long, 3, [(5, [0, 1, 2, 3, 5])], [(0, .lconst 0, 1, [], .long (0)), (1, .lstore_n 3, 2, [], .null), (2, .iconst 0, 3, [], .int (0)), (3, .istore 5, 5, [], .null), (5, .iload 5, 7, [], .null), (7, .bipush 36, 9, [], .int (36)), (9, .if_icmp .ge 25, 12, [34], .null), (12, .lload_n 3, 13, [], .null), (13, .aload_n 0, 14, [], .null), (14, .iload 5, 16, [], .null), (16, .aload_n 0, 17, [], .null), (17, .getfield 32, 20, [3, 6, 263], .null), (20, .iload_n 1, 21, [], .null), (21, .laload, 22, [], .null), (22, .aload_n 2, 23, [], .null), (23, .invokevirtual 89, 26, [38, 4, 2, 2, 3, 740, 0], .null), (26, .lor, 27, [], .null), (27, .lstore_n 3, 28, [], .null), (28, .iinc 5 1, 31, [], .int (1)), (31, .goto (-26), 34, [5], .null), (34, .lload_n 3, 35, [], .null), (35, .lreturn, 36, [], .null)])
noncomputable def kX3_flipped : zM := (7, some .int, 3, [(8, [0, 1, 3, 4, 6])], [(0, .lconst 1, 1, [], .long (1)), (1, .iload_n 2, 2, [], .null), (2, .lshl, 3, [], .null), (3, .lstore 4, 5, [], .null), (5, .iconst 0, 6, [], .int (0)), (6, .istore 6, 8, [], .null), (8, .iload 6, 10, [], .null), (10, .bipush 36, 12, [], .int (36)), (12, .if_icmp .ge 47, 15, [59], .null), (15, .aload_n 0, 16, [], .null), (16, .iload 6, 18, [], .null), (18, .aload_n 0, 19, [], .null), (19, .getfield 32, 22, [3, 6, 263], .null), (22, .iload_n 1, 23, [], .null), (23, .laload, 24, [], .null), (24, .aload_n 3, 25, [], .null), (25, .invokevirtual 89, 28, [38, 4, 2, 2, 3, 740, 0], .null), (28, .lload 4, 30, [], .null), (30, .lcmp, 31, [], .null), (31, .ifCond .ne 22, 34, [53], .null), (34, .aload_n 0, 35, [], .null), (35, .aload_n 0, 36, [], .null), (36, .getfield 32, 39, [3, 6, 263], .null), (39, .iload_n 1, 40, [], .null), (40, .laload, 41, [], .null), (41, .lload 4, 43, [], .null), (43, .lxor, 44, [], .null), (44, .lconst 1, 45, [], .long (1)), (45, .iload 6, 47, [], .null), (47, .lshl, 48, [], .null), (48, .lxor, 49, [], .null), (49, .invokevirtual 93, 52, [34, 2, 1, 2, 3, 752, 0], .null), (52, .ireturn, 53, [], .null), (53, .iinc 6 1, 56, [], .int (1)), (56, .goto (-48), 59, [8], .null), (59, .iconst (-1), 60, [], .int (-1)), (60, .ireturn, 61, [], .null)])
noncomputable def kX4_keep : zM := (2, none, 2, [], [(0, .aload_n 0, 1, [], .null), (1, .getfield 11, 4, [4, 0, 181], .null), (4, .aload_n 0, 5, [], .null), (5, .getfield 17, 8, [4, 1, 182], .null), (8, .aaload, 9, [], .null), (9, .aload_n 1, 10, [], .null), (10, .invokevirtual 25, 13, [0, 2, 0, 1, 0, 496, 0], .null), (13, .aload_n 0, 14, [], .null), (14, .aload_n 0, 15, [], .null), (15, .getfield 17, 18, [4, 1, 182], .null), (18, .iconst 1, 19, [], .int (1)), (19, .iadd, 20, [], .null), (20, .bipush 40, 22, [], .int (40)), (22, .irem, 23, [], .null), (23, .putfield 17, 26, [4, 1, 182], .null), (26, .aload_n 0, 27, [], .null), (27, .aload_n 0, 28, [], .null), (28, .getfield 21, 31, [4, 2, 183], .null), (31, .iconst 1, 32, [], .int (1)), (32, .iadd, 33, [], .null), (33, .bipush 40, 35, [], .int (40)), (35, .invokestatic 29, 38, [991, 503], .null), (38, .putfield 21, 41, [4, 2, 183], .null), (41, .return_, 42, [], .null)])
noncomputable def kX4_bringBack : zM := (2, none, 2, [], [(0, .aload_n 0, 1, [], .null), (1, .getfield 21, 4, [4, 2, 183], .null), (4, .ifCond .le 42, 7, [46], .null), (7, .aload_n 0, 8, [], .null), (8, .aload_n 0, 9, [], .null), (9, .getfield 17, 12, [4, 1, 182], .null), (12, .bipush 40, 14, [], .int (40)), (14, .iadd, 15, [], .null), (15, .iconst 1, 16, [], .int (1)), (16, .isub, 17, [], .null), (17, .bipush 40, 19, [], .int (40)), (19, .irem, 20, [], .null), (20, .putfield 17, 23, [4, 1, 182], .null), (23, .aload_n 1, 24, [], .null), (24, .aload_n 0, 25, [], .null), (25, .getfield 11, 28, [4, 0, 181], .null), (28, .aload_n 0, 29, [], .null), (29, .getfield 17, 32, [4, 1, 182], .null), (32, .aaload, 33, [], .null), (33, .invokevirtual 25, 36, [0, 2, 0, 1, 0, 496, 0], .null), (36, .aload_n 0, 37, [], .null), (37, .dup, 38, [], .null), (38, .getfield 21, 41, [4, 2, 183], .null), (41, .iconst 1, 42, [], .int (1)), (42, .isub, 43, [], .null), (43, .putfield 21, 46, [4, 2, 183], .null), (46, .return_, 47, [], .null)])
noncomputable def kX5_follow : zM := (2, none, 5, [], [(0, .aload_n 0, 1, [], .null), (1, .aload_n 1, 2, [], .null), (2, .invokevirtual 47, 5, [44, 2, 1, 1, 5, 568, 0], .null), (5, .ifCond .eq 4, 8, [9], .null), (8, .return_, 9, [], .null), (9, .aload_n 0, 10, [], .null), (10, .aload_n 1, 11, [], .null), (11, .getfield 51, 14, [0, 4, 142], .null), (14, .putfield 34, 17, [5, 7, 214], .null), (17, .aload_n 1, 18, [], .null), (18, .getfield 54, 21, [0, 0, 128], .null), (21, .iconst 0, 22, [], .int (0)), (22, .aload_n 0, 23, [], .null), (23, .getfield 9, 26, [5, 0, 198], .null), (26, .iconst 0, 27, [], .int (0)), (27, .bipush 9, 29, [], .int (9)), (29, .invokestatic 55, 32, [999, 100, 572], .null), (32, .aload_n 1, 33, [], .null), (33, .getfield 61, 36, [0, 1, 132], .null), (36, .iconst 0, 37, [], .int (0)), (37, .aload_n 0, 38, [], .null), (38, .getfield 15, 41, [5, 1, 200], .null), (41, .iconst 0, 42, [], .int (0)), (42, .bipush 9, 44, [], .int (9)), (44, .invokestatic 55, 47, [999, 100, 572], .null), (47, .aload_n 0, 48, [], .null), (48, .invokevirtual 62, 51, [45, 1, 0, 1, 5, 573, 0], .null), (51, .aload_n 0, 52, [], .null), (52, .aload_n 1, 53, [], .null), (53, .invokevirtual 65, 56, [46, 2, 0, 3, 5, 577, 0], .null), (56, .aload_n 0, 57, [], .null), (57, .aload_n 1, 58, [], .null), (58, .invokevirtual 69, 61, [48, 2, 0, 4, 5, 589, 0], .null), (61, .aload_n 0, 62, [], .null), (62, .invokevirtual 72, 65, [49, 1, 0, 2, 5, 598, 0], .null), (65, .aload_n 0, 66, [], .null), (66, .dup, 67, [], .null), (67, .getfield 44, 70, [5, 10, 224], .null), (70, .iconst 1, 71, [], .int (1)), (71, .iadd, 72, [], .null), (72, .putfield 44, 75, [5, 10, 224], .null), (75, .return_, 76, [], .null)])
noncomputable def kX5_isOf : zM := (3, some .boolean, 1, [(15, [0, 1, 2])], [(0, .aload_n 0, 1, [], .null), (1, .getfield 34, 4, [5, 7, 214], .null), (4, .aload_n 1, 5, [], .null), (5, .getfield 51, 8, [0, 4, 142], .null), (8, .if_icmp .eq 5, 11, [13], .null), (11, .iconst 0, 12, [], .int (0)), (12, .ireturn, 13, [], .null), (13, .iconst 0, 14, [], .int (0)), (14, .istore_n 2, 15, [], .null), (15, .iload_n 2, 16, [], .null), (16, .aload_n 0, 17, [], .null), (17, .getfield 34, 20, [5, 7, 214], .null), (20, .if_icmp .ge 41, 23, [61], .null), (23, .aload_n 0, 24, [], .null), (24, .getfield 9, 27, [5, 0, 198], .null), (27, .iload_n 2, 28, [], .null), (28, .iaload, 29, [], .null), (29, .aload_n 1, 30, [], .null), (30, .getfield 54, 33, [0, 0, 128], .null), (33, .iload_n 2, 34, [], .null), (34, .iaload, 35, [], .null), (35, .if_icmp .ne 18, 38, [53], .null), (38, .aload_n 0, 39, [], .null), (39, .getfield 15, 42, [5, 1, 200], .null), (42, .iload_n 2, 43, [], .null), (43, .iaload, 44, [], .null), (44, .aload_n 1, 45, [], .null), (45, .getfield 61, 48, [0, 1, 132], .null), (48, .iload_n 2, 49, [], .null), (49, .iaload, 50, [], .null), (50, .if_icmp .eq 5, 53, [55], .null), (53, .iconst 0, 54, [], .int (0)), (54, .ireturn, 55, [], .null), (55, .iinc 2 1, 58, [], .int (1)), (58, .goto (-43), 61, [15], .null), (61, .iconst 1, 62, [], .int (1)), (62, .ireturn, 63, [], .null)])
noncomputable def kX5_findOrder : zM := (4, none, 1, [(2, [0, 1]), (14, [0, 1, 2, 3])], [(0, .iconst 0, 1, [], .int (0)), (1, .istore_n 1, 2, [], .null), (2, .iload_n 1, 3, [], .null), (3, .aload_n 0, 4, [], .null), (4, .getfield 34, 7, [5, 7, 214], .null), (7, .if_icmp .ge 89, 10, [96], .null), (10, .iconst 0, 11, [], .int (0)), (11, .istore_n 2, 12, [], .null), (12, .iconst 0, 13, [], .int (0)), (13, .istore_n 3, 14, [], .null), (14, .iload_n 3, 15, [], .null), (15, .aload_n 0, 16, [], .null), (16, .getfield 34, 19, [5, 7, 214], .null), (19, .if_icmp .ge 57, 22, [76], .null), (22, .aload_n 0, 23, [], .null), (23, .getfield 9, 26, [5, 0, 198], .null), (26, .iload_n 3, 27, [], .null), (27, .iaload, 28, [], .null), (28, .aload_n 0, 29, [], .null), (29, .getfield 9, 32, [5, 0, 198], .null), (32, .iload_n 1, 33, [], .null), (33, .iaload, 34, [], .null), (34, .if_icmp .lt 33, 37, [67], .null), (37, .aload_n 0, 38, [], .null), (38, .getfield 9, 41, [5, 0, 198], .null), (41, .iload_n 3, 42, [], .null), (42, .iaload, 43, [], .null), (43, .aload_n 0, 44, [], .null), (44, .getfield 9, 47, [5, 0, 198], .null), (47, .iload_n 1, 48, [], .null), (48, .iaload, 49, [], .null), (49, .if_icmp .ne 21, 52, [70], .null), (52, .aload_n 0, 53, [], .null), (53, .getfield 15, 56, [5, 1, 200], .null), (56, .iload_n 3, 57, [], .null), (57, .iaload, 58, [], .null), (58, .aload_n 0, 59, [], .null), (59, .getfield 15, 62, [5, 1, 200], .null), (62, .iload_n 1, 63, [], .null), (63, .iaload, 64, [], .null), (64, .if_icmp .ge 6, 67, [70], .null), (67, .iinc 2 1, 70, [], .int (1)), (70, .iinc 3 1, 73, [], .int (1)), (73, .goto (-59), 76, [14], .null), (76, .aload_n 0, 77, [], .null), (77, .getfield 21, 80, [5, 3, 205], .null), (80, .iload_n 1, 81, [], .null), (81, .iload_n 2, 82, [], .null), (82, .iastore, 83, [], .null), (83, .aload_n 0, 84, [], .null), (84, .getfield 18, 87, [5, 2, 202], .null), (87, .iload_n 2, 88, [], .null), (88, .iload_n 1, 89, [], .null), (89, .iastore, 90, [], .null), (90, .iinc 1 1, 93, [], .int (1)), (93, .goto (-91), 96, [2], .null), (96, .return_, 97, [], .null)])
noncomputable def kX5_findSides : zM := (5, none, 3, [(10, [0, 1, 2]), (22, [0, 1, 2, 3]), (35, [0, 1, 2, 3, 4])], [(0, .aload_n 0, 1, [], .null), (1, .getfield 31, 4, [5, 6, 213], .null), (4, .iconst 0, 5, [], .int (0)), (5, .invokestatic 75, 8, [250, 2, 0, 1, 0, 581, 0], .null), (8, .iconst 0, 9, [], .int (0)), (9, .istore_n 2, 10, [], .null), (10, .iload_n 2, 11, [], .null), (11, .aload_n 0, 12, [], .null), (12, .getfield 34, 15, [5, 7, 214], .null), (15, .if_icmp .ge 77, 18, [92], .null), (18, .iload_n 2, 19, [], .null), (19, .iconst 1, 20, [], .int (1)), (20, .iadd, 21, [], .null), (21, .istore_n 3, 22, [], .null), (22, .iload_n 3, 23, [], .null), (23, .aload_n 0, 24, [], .null), (24, .getfield 34, 27, [5, 7, 214], .null), (27, .if_icmp .ge 59, 30, [86], .null), (30, .iload_n 3, 31, [], .null), (31, .iconst 1, 32, [], .int (1)), (32, .iadd, 33, [], .null), (33, .istore 4, 35, [], .null), (35, .iload 4, 37, [], .null), (37, .aload_n 0, 38, [], .null), (38, .getfield 34, 41, [5, 7, 214], .null), (41, .if_icmp .ge 39, 44, [80], .null), (44, .aload_n 1, 45, [], .null), (45, .iload_n 2, 46, [], .null), (46, .iload_n 3, 47, [], .null), (47, .iload 4, 49, [], .null), (49, .invokevirtual 81, 52, [12, 4, 1, 2, 0, 584, 0], .null), (52, .ifCond .eq 14, 55, [66], .null), (55, .aload_n 0, 56, [], .null), (56, .iload_n 2, 57, [], .null), (57, .iload_n 3, 58, [], .null), (58, .iload 4, 60, [], .null), (60, .invokevirtual 85, 63, [47, 4, 0, 1, 5, 585, 0], .null), (63, .goto 11, 66, [74], .null), (66, .aload_n 0, 67, [], .null), (67, .iload_n 2, 68, [], .null), (68, .iload 4, 70, [], .null), (70, .iload_n 3, 71, [], .null), (71, .invokevirtual 85, 74, [47, 4, 0, 1, 5, 585, 0], .null), (74, .iinc 4 1, 77, [], .int (1)), (77, .goto (-42), 80, [35], .null), (80, .iinc 3 1, 83, [], .int (1)), (83, .goto (-61), 86, [22], .null), (86, .iinc 2 1, 89, [], .int (1)), (89, .goto (-79), 92, [10], .null), (92, .return_, 93, [], .null)])
noncomputable def kX5_setLeftTurn : zM := (4, none, 1, [], [(0, .aload_n 0, 1, [], .null), (1, .getfield 31, 4, [5, 6, 213], .null), (4, .iload_n 1, 5, [], .null), (5, .bipush 9, 7, [], .int (9)), (7, .imul, 8, [], .null), (8, .iload_n 2, 9, [], .null), (9, .iadd, 10, [], .null), (10, .dup2, 11, [], .null), (11, .iaload, 12, [], .null), (12, .iconst 1, 13, [], .int (1)), (13, .iload_n 3, 14, [], .null), (14, .ishl, 15, [], .null), (15, .ior, 16, [], .null), (16, .iastore, 17, [], .null), (17, .aload_n 0, 18, [], .null), (18, .getfield 31, 21, [5, 6, 213], .null), (21, .iload_n 2, 22, [], .null), (22, .bipush 9, 24, [], .int (9)), (24, .imul, 25, [], .null), (25, .iload_n 3, 26, [], .null), (26, .iadd, 27, [], .null), (27, .dup2, 28, [], .null), (28, .iaload, 29, [], .null), (29, .iconst 1, 30, [], .int (1)), (30, .iload_n 1, 31, [], .null), (31, .ishl, 32, [], .null), (32, .ior, 33, [], .null), (33, .iastore, 34, [], .null), (34, .aload_n 0, 35, [], .null), (35, .getfield 31, 38, [5, 6, 213], .null), (38, .iload_n 3, 39, [], .null), (39, .bipush 9, 41, [], .int (9)), (41, .imul, 42, [], .null), (42, .iload_n 1, 43, [], .null), (43, .iadd, 44, [], .null), (44, .dup2, 45, [], .null), (45, .iaload, 46, [], .null), (46, .iconst 1, 47, [], .int (1)), (47, .iload_n 2, 48, [], .null), (48, .ishl, 49, [], .null), (49, .ior, 50, [], .null), (50, .iastore, 51, [], .null), (51, .return_, 52, [], .null)])
noncomputable def kX5_findCrossings : zM := (5, none, 4, [(10, [0, 1, 2]), (20, [0, 1, 2, 3]), (54, [0, 1, 2, 3])], [(0, .aload_n 0, 1, [], .null), (1, .getfield 27, 4, [5, 5, 209], .null), (4, .lconst 0, 5, [], .long (0)), (5, .invokestatic 89, 8, [249, 2, 0, 1, 0, 593, 0], .null), (8, .iconst 0, 9, [], .int (0)), (9, .istore_n 2, 10, [], .null), (10, .iload_n 2, 11, [], .null), (11, .bipush 36, 13, [], .int (36)), (13, .if_icmp .ge 94, 16, [107], .null), (16, .iload_n 2, 17, [], .null), (17, .iconst 1, 18, [], .int (1)), (18, .iadd, 19, [], .null), (19, .istore_n 3, 20, [], .null), (20, .iload_n 3, 21, [], .null), (21, .bipush 36, 23, [], .int (36)), (23, .if_icmp .ge 78, 26, [101], .null), (26, .getstatic 92, 29, [2, 596, 1], .null), (29, .iload_n 2, 30, [], .null), (30, .iaload, 31, [], .null), (31, .aload_n 0, 32, [], .null), (32, .getfield 34, 35, [5, 7, 214], .null), (35, .if_icmp .ge 19, 38, [54], .null), (38, .getstatic 92, 41, [2, 596, 1], .null), (41, .iload_n 3, 42, [], .null), (42, .iaload, 43, [], .null), (43, .aload_n 0, 44, [], .null), (44, .getfield 34, 47, [5, 7, 214], .null), (47, .if_icmp .ge 7, 50, [54], .null), (50, .iconst 1, 51, [], .int (1)), (51, .goto 4, 54, [55], .null), (54, .iconst 0, 55, [], .int (0)), (55, .istore 4, 57, [], .null), (57, .iload 4, 59, [], .null), (59, .ifCond .eq 36, 62, [95], .null), (62, .aload_n 1, 63, [], .null), (63, .iload_n 2, 64, [], .null), (64, .iload_n 3, 65, [], .null), (65, .invokevirtual 95, 68, [11, 3, 1, 3, 0, 597, 0], .null), (68, .ifCond .eq 27, 71, [95], .null), (71, .aload_n 0, 72, [], .null), (72, .getfield 27, 75, [5, 5, 209], .null), (75, .iload_n 2, 76, [], .null), (76, .dup2, 77, [], .null), (77, .laload, 78, [], .null), (78, .lconst 1, 79, [], .long (1)), (79, .iload_n 3, 80, [], .null), (80, .lshl, 81, [], .null), (81, .lor, 82, [], .null), (82, .lastore, 83, [], .null), (83, .aload_n 0, 84, [], .null), (84, .getfield 27, 87, [5, 5, 209], .null), (87, .iload_n 3, 88, [], .null), (88, .dup2, 89, [], .null), (89, .laload, 90, [], .null), (90, .lconst 1, 91, [], .long (1)), (91, .iload_n 2, 92, [], .null), (92, .lshl, 93, [], .null), (93, .lor, 94, [], .null), (94, .lastore, 95, [], .null), (95, .iinc 3 1, 98, [], .int (1)), (98, .goto (-78), 101, [20], .null), (101, .iinc 2 1, 104, [], .int (1)), (104, .goto (-94), 107, [10], .null), (107, .return_, 108, [], .null)])
noncomputable def kX5_findHull : zM := (3, none, 2, [(30, [0, 1, 2])], [(0, .aload_n 0, 1, [], .null), (1, .iconst 0, 2, [], .int (0)), (2, .putfield 38, 5, [5, 8, 220], .null), (5, .aload_n 0, 6, [], .null), (6, .iconst 0, 7, [], .int (0)), (7, .putfield 41, 10, [5, 9, 222], .null), (10, .aload_n 0, 11, [], .null), (11, .getfield 34, 14, [5, 7, 214], .null), (14, .ifCond .le 12, 17, [26], .null), (17, .aload_n 0, 18, [], .null), (18, .getfield 18, 21, [5, 2, 202], .null), (21, .iconst 0, 22, [], .int (0)), (22, .iaload, 23, [], .null), (23, .goto 4, 26, [27], .null), (26, .iconst (-1), 27, [], .int (-1)), (27, .istore_n 1, 28, [], .null), (28, .iconst 0, 29, [], .int (0)), (29, .istore_n 2, 30, [], .null), (30, .iload_n 2, 31, [], .null), (31, .aload_n 0, 32, [], .null), (32, .getfield 34, 35, [5, 7, 214], .null), (35, .if_icmp .ge 59, 38, [94], .null), (38, .iload_n 1, 39, [], .null), (39, .ifCond .lt 55, 42, [94], .null), (42, .aload_n 0, 43, [], .null), (43, .getfield 41, 46, [5, 9, 222], .null), (46, .iload_n 1, 47, [], .null), (47, .ishr, 48, [], .null), (48, .iconst 1, 49, [], .int (1)), (49, .iand, 50, [], .null), (50, .ifCond .ne 44, 53, [94], .null), (53, .aload_n 0, 54, [], .null), (54, .getfield 24, 57, [5, 4, 207], .null), (57, .iload_n 2, 58, [], .null), (58, .iload_n 1, 59, [], .null), (59, .iastore, 60, [], .null), (60, .aload_n 0, 61, [], .null), (61, .dup, 62, [], .null), (62, .getfield 41, 65, [5, 9, 222], .null), (65, .iconst 1, 66, [], .int (1)), (66, .iload_n 1, 67, [], .null), (67, .ishl, 68, [], .null), (68, .ior, 69, [], .null), (69, .putfield 41, 72, [5, 9, 222], .null), (72, .aload_n 0, 73, [], .null), (73, .dup, 74, [], .null), (74, .getfield 38, 77, [5, 8, 220], .null), (77, .iconst 1, 78, [], .int (1)), (78, .iadd, 79, [], .null), (79, .putfield 38, 82, [5, 8, 220], .null), (82, .aload_n 0, 83, [], .null), (83, .iload_n 1, 84, [], .null), (84, .invokevirtual 99, 87, [50, 2, 1, 1, 5, 602, 0], .null), (87, .istore_n 1, 88, [], .null), (88, .iinc 2 1, 91, [], .int (1)), (91, .goto (-61), 94, [30], .null), (94, .return_, 95, [], .null)])
noncomputable def kX5_behindOnHull : zM := (5, some .int, 1, [(11, [0, 1, 2, 3])], [(0, .iconst 1, 1, [], .int (1)), (1, .aload_n 0, 2, [], .null), (2, .getfield 34, 5, [5, 7, 214], .null), (5, .ishl, 6, [], .null), (6, .iconst 1, 7, [], .int (1)), (7, .isub, 8, [], .null), (8, .istore_n 2, 9, [], .null), (9, .iconst 0, 10, [], .int (0)), (10, .istore_n 3, 11, [], .null), (11, .iload_n 3, 12, [], .null), (12, .aload_n 0, 13, [], .null), (13, .getfield 34, 16, [5, 7, 214], .null), (16, .if_icmp .ge 47, 19, [63], .null), (19, .iload_n 2, 20, [], .null), (20, .iconst 1, 21, [], .int (1)), (21, .iload_n 1, 22, [], .null), (22, .ishl, 23, [], .null), (23, .iconst (-1), 24, [], .int (-1)), (24, .ixor, 25, [], .null), (25, .iand, 26, [], .null), (26, .iconst 1, 27, [], .int (1)), (27, .iload_n 3, 28, [], .null), (28, .ishl, 29, [], .null), (29, .iconst (-1), 30, [], .int (-1)), (30, .ixor, 31, [], .null), (31, .iand, 32, [], .null), (32, .istore 4, 34, [], .null), (34, .iload_n 3, 35, [], .null), (35, .iload_n 1, 36, [], .null), (36, .if_icmp .eq 21, 39, [57], .null), (39, .aload_n 0, 40, [], .null), (40, .getfield 31, 43, [5, 6, 213], .null), (43, .iload_n 1, 44, [], .null), (44, .bipush 9, 46, [], .int (9)), (46, .imul, 47, [], .null), (47, .iload_n 3, 48, [], .null), (48, .iadd, 49, [], .null), (49, .iaload, 50, [], .null), (50, .iload 4, 52, [], .null), (52, .if_icmp .ne 5, 55, [57], .null), (55, .iload_n 3, 56, [], .null), (56, .ireturn, 57, [], .null), (57, .iinc 3 1, 60, [], .int (1)), (60, .goto (-49), 63, [11], .null), (63, .iconst (-1), 64, [], .int (-1)), (64, .ireturn, 65, [], .null)])
noncomputable def kX5_isLeft : zM := (4, some .boolean, 1, [], [(0, .aload_n 0, 1, [], .null), (1, .getfield 31, 4, [5, 6, 213], .null), (4, .iload_n 1, 5, [], .null), (5, .bipush 9, 7, [], .int (9)), (7, .imul, 8, [], .null), (8, .iload_n 2, 9, [], .null), (9, .iadd, 10, [], .null), (10, .iaload, 11, [], .null), (11, .iload_n 3, 12, [], .null), (12, .ishr, 13, [], .null), (13, .iconst 1, 14, [], .int (1)), (14, .iand, 15, [], .null), (15, .ifCond .eq 7, 18, [22], .null), (18, .iconst 1, 19, [], .int (1)), (19, .goto 4, 22, [23], .null), (22, .iconst 0, 23, [], .int (0)), (23, .ireturn, 24, [], .null)])
noncomputable def kX5_isBare : zM := (10, some .boolean, 1, [], [(0, .aload_n 0, 1, [], .null), (1, .getfield 31, 4, [5, 6, 213], .null), (4, .iload_n 1, 5, [], .null), (5, .bipush 9, 7, [], .int (9)), (7, .imul, 8, [], .null), (8, .iload_n 2, 9, [], .null), (9, .iadd, 10, [], .null), (10, .iaload, 11, [], .null), (11, .istore 4, 13, [], .null), (13, .aload_n 0, 14, [], .null), (14, .getfield 31, 17, [5, 6, 213], .null), (17, .iload_n 2, 18, [], .null), (18, .bipush 9, 20, [], .int (9)), (20, .imul, 21, [], .null), (21, .iload_n 3, 22, [], .null), (22, .iadd, 23, [], .null), (23, .iaload, 24, [], .null), (24, .istore 5, 26, [], .null), (26, .aload_n 0, 27, [], .null), (27, .getfield 31, 30, [5, 6, 213], .null), (30, .iload_n 3, 31, [], .null), (31, .bipush 9, 33, [], .int (9)), (33, .imul, 34, [], .null), (34, .iload_n 1, 35, [], .null), (35, .iadd, 36, [], .null), (36, .iaload, 37, [], .null), (37, .istore 6, 39, [], .null), (39, .aload_n 0, 40, [], .null), (40, .getfield 31, 43, [5, 6, 213], .null), (43, .iload_n 2, 44, [], .null), (44, .bipush 9, 46, [], .int (9)), (46, .imul, 47, [], .null), (47, .iload_n 1, 48, [], .null), (48, .iadd, 49, [], .null), (49, .iaload, 50, [], .null), (50, .istore 7, 52, [], .null), (52, .aload_n 0, 53, [], .null), (53, .getfield 31, 56, [5, 6, 213], .null), (56, .iload_n 3, 57, [], .null), (57, .bipush 9, 59, [], .int (9)), (59, .imul, 60, [], .null), (60, .iload_n 2, 61, [], .null), (61, .iadd, 62, [], .null), (62, .iaload, 63, [], .null), (63, .istore 8, 65, [], .null), (65, .aload_n 0, 66, [], .null), (66, .getfield 31, 69, [5, 6, 213], .null), (69, .iload_n 1, 70, [], .null), (70, .bipush 9, 72, [], .int (9)), (72, .imul, 73, [], .null), (73, .iload_n 3, 74, [], .null), (74, .iadd, 75, [], .null), (75, .iaload, 76, [], .null), (76, .istore 9, 78, [], .null), (78, .iload 4, 80, [], .null), (80, .iload 5, 82, [], .null), (82, .iand, 83, [], .null), (83, .iload 6, 85, [], .null), (85, .iand, 86, [], .null), (86, .ifCond .ne 18, 89, [104], .null), (89, .iload 7, 91, [], .null), (91, .iload 8, 93, [], .null), (93, .iand, 94, [], .null), (94, .iload 9, 96, [], .null), (96, .iand, 97, [], .null), (97, .ifCond .ne 7, 100, [104], .null), (100, .iconst 1, 101, [], .int (1)), (101, .goto 4, 104, [105], .null), (104, .iconst 0, 105, [], .int (0)), (105, .ireturn, 106, [], .null)])
noncomputable def kX5_isHollow : zM := (6, some .boolean, 2, [(2, [0, 1, 2]), (14, [0, 1, 2, 3]), (27, [0, 1, 2, 3, 4])], [(0, .iconst 0, 1, [], .int (0)), (1, .istore_n 2, 2, [], .null), (2, .iload_n 2, 3, [], .null), (3, .aload_n 0, 4, [], .null), (4, .getfield 34, 7, [5, 7, 214], .null), (7, .if_icmp .ge 83, 10, [90], .null), (10, .iload_n 2, 11, [], .null), (11, .iconst 1, 12, [], .int (1)), (12, .iadd, 13, [], .null), (13, .istore_n 3, 14, [], .null), (14, .iload_n 3, 15, [], .null), (15, .aload_n 0, 16, [], .null), (16, .getfield 34, 19, [5, 7, 214], .null), (19, .if_icmp .ge 65, 22, [84], .null), (22, .iload_n 3, 23, [], .null), (23, .iconst 1, 24, [], .int (1)), (24, .iadd, 25, [], .null), (25, .istore 4, 27, [], .null), (27, .iload 4, 29, [], .null), (29, .aload_n 0, 30, [], .null), (30, .getfield 34, 33, [5, 7, 214], .null), (33, .if_icmp .ge 45, 36, [78], .null), (36, .iconst 1, 37, [], .int (1)), (37, .iload_n 2, 38, [], .null), (38, .ishl, 39, [], .null), (39, .iconst 1, 40, [], .int (1)), (40, .iload_n 3, 41, [], .null), (41, .ishl, 42, [], .null), (42, .ior, 43, [], .null), (43, .iconst 1, 44, [], .int (1)), (44, .iload 4, 46, [], .null), (46, .ishl, 47, [], .null), (47, .ior, 48, [], .null), (48, .istore 5, 50, [], .null), (50, .iload_n 1, 51, [], .null), (51, .iload 5, 53, [], .null), (53, .iand, 54, [], .null), (54, .iload 5, 56, [], .null), (56, .if_icmp .ne 16, 59, [72], .null), (59, .aload_n 0, 60, [], .null), (60, .iload_n 2, 61, [], .null), (61, .iload_n 3, 62, [], .null), (62, .iload 4, 64, [], .null), (64, .invokevirtual 103, 67, [52, 4, 1, 1, 5, 1034, 0], .null), (67, .ifCond .ne 5, 70, [72], .null), (70, .iconst 0, 71, [], .int (0)), (71, .ireturn, 72, [], .null), (72, .iinc 4 1, 75, [], .int (1)), (75, .goto (-48), 78, [27], .null), (78, .iinc 3 1, 81, [], .int (1)), (81, .goto (-67), 84, [14], .null), (84, .iinc 2 1, 87, [], .int (1)), (87, .goto (-85), 90, [2], .null), (90, .iconst 1, 91, [], .int (1)), (91, .ireturn, 92, [], .null)])
noncomputable def kX5_lowerPath : zM := (3, some .int, 1, [(4, [0, 1, 2])], [(0, .iconst 0, 1, [], .int (0)), (1, .istore_n 1, 2, [], .null), (2, .iconst 0, 3, [], .int (0)), (3, .istore_n 2, 4, [], .null), (4, .iload_n 2, 5, [], .null), (5, .aload_n 0, 6, [], .null), (6, .getfield 38, 9, [5, 8, 220], .null), (9, .if_icmp .ge 42, 12, [51], .null), (12, .iload_n 1, 13, [], .null), (13, .iconst 1, 14, [], .int (1)), (14, .aload_n 0, 15, [], .null), (15, .getfield 24, 18, [5, 4, 207], .null), (18, .iload_n 2, 19, [], .null), (19, .iaload, 20, [], .null), (20, .ishl, 21, [], .null), (21, .ior, 22, [], .null), (22, .istore_n 1, 23, [], .null), (23, .aload_n 0, 24, [], .null), (24, .getfield 24, 27, [5, 4, 207], .null), (27, .iload_n 2, 28, [], .null), (28, .iaload, 29, [], .null), (29, .aload_n 0, 30, [], .null), (30, .getfield 18, 33, [5, 2, 202], .null), (33, .aload_n 0, 34, [], .null), (34, .getfield 34, 37, [5, 7, 214], .null), (37, .iconst 1, 38, [], .int (1)), (38, .isub, 39, [], .null), (39, .iaload, 40, [], .null), (40, .if_icmp .ne 5, 43, [45], .null), (43, .iload_n 1, 44, [], .null), (44, .ireturn, 45, [], .null), (45, .iinc 2 1, 48, [], .int (1)), (48, .goto (-44), 51, [4], .null), (51, .iload_n 1, 52, [], .null), (52, .ireturn, 53, [], .null)])
noncomputable def kX6_read : zM := (3, some .boolean, 3, [], [(0, .aload_n 0, 1, [], .null), (1, .aload_n 1, 2, [], .null), (2, .aload_n 2, 3, [], .null), (3, .invokevirtual 32, 6, [56, 3, 1, 1, 6, 961, 0], .null), (6, .ifCond .eq 11, 9, [17], .null), (9, .aload_n 0, 10, [], .null), (10, .aload_n 2, 11, [], .null), (11, .invokevirtual 36, 14, [57, 2, 1, 2, 6, 965, 0], .null), (14, .ifCond .ne 5, 17, [19], .null), (17, .iconst 0, 18, [], .int (0)), (18, .ireturn, 19, [], .null), (19, .aload_n 0, 20, [], .null), (20, .aload_n 0, 21, [], .null), (21, .aload_n 2, 22, [], .null), (22, .invokevirtual 40, 25, [60, 2, 1, 2, 6, 974, 0], .null), (25, .putfield 29, 28, [6, 5, 377], .null), (28, .aload_n 0, 29, [], .null), (29, .getfield 29, 32, [6, 5, 377], .null), (32, .ifCond .ge 16, 35, [48], .null), (35, .aload_n 0, 36, [], .null), (36, .invokevirtual 44, 39, [61, 1, 0, 1, 6, 978, 0], .null), (39, .aload_n 0, 40, [], .null), (40, .aload_n 0, 41, [], .null), (41, .getfield 29, 44, [6, 5, 377], .null), (44, .ineg, 45, [], .null), (45, .putfield 29, 48, [6, 5, 377], .null), (48, .iconst 1, 49, [], .int (1)), (49, .ireturn, 50, [], .null)])
noncomputable def kX6_readCorners : zM := (7, some .boolean, 1, [(33, [0, 1, 2, 3])], [(0, .aload_n 0, 1, [], .null), (1, .iconst 0, 2, [], .int (0)), (2, .putfield 18, 5, [6, 2, 374], .null), (5, .aload_n 0, 6, [], .null), (6, .iconst 0, 7, [], .int (0)), (7, .putfield 22, 10, [6, 3, 375], .null), (10, .aload_n 1, 11, [], .null), (11, .getfield 47, 14, [8, 2, 424], .null), (14, .iconst 3, 15, [], .int (3)), (15, .if_icmp .lt 14, 18, [29], .null), (18, .aload_n 1, 19, [], .null), (19, .getfield 47, 22, [8, 2, 424], .null), (22, .aload_n 2, 23, [], .null), (23, .getfield 50, 26, [5, 7, 218], .null), (26, .if_icmp .le 5, 29, [31], .null), (29, .iconst 0, 30, [], .int (0)), (30, .ireturn, 31, [], .null), (31, .iconst 0, 32, [], .int (0)), (32, .istore_n 3, 33, [], .null), (33, .iload_n 3, 34, [], .null), (34, .aload_n 1, 35, [], .null), (35, .getfield 47, 38, [8, 2, 424], .null), (38, .if_icmp .ge 90, 41, [128], .null), (41, .aload_n 1, 42, [], .null), (42, .getfield 55, 45, [8, 0, 419], .null), (45, .iload_n 3, 46, [], .null), (46, .laload, 47, [], .null), (47, .lstore 4, 49, [], .null), (49, .lload 4, 51, [], .null), (51, .lconst 0, 52, [], .long (0)), (52, .lcmp, 53, [], .null), (53, .ifCond .lt 14, 56, [67], .null), (56, .lload 4, 58, [], .null), (58, .aload_n 2, 59, [], .null), (59, .getfield 50, 62, [5, 7, 218], .null), (62, .i2l, 63, [], .null), (63, .lcmp, 64, [], .null), (64, .ifCond .lt 5, 67, [69], .null), (67, .iconst 0, 68, [], .int (0)), (68, .ireturn, 69, [], .null), (69, .lload 4, 71, [], .null), (71, .l2i, 72, [], .null), (72, .istore 6, 74, [], .null), (74, .aload_n 0, 75, [], .null), (75, .getfield 22, 78, [6, 3, 375], .null), (78, .iload 6, 80, [], .null), (80, .ishr, 81, [], .null), (81, .iconst 1, 82, [], .int (1)), (82, .iand, 83, [], .null), (83, .ifCond .eq 5, 86, [88], .null), (86, .iconst 0, 87, [], .int (0)), (87, .ireturn, 88, [], .null), (88, .aload_n 0, 89, [], .null), (89, .getfield 9, 92, [6, 0, 372], .null), (92, .aload_n 0, 93, [], .null), (93, .getfield 18, 96, [6, 2, 374], .null), (96, .iload 6, 98, [], .null), (98, .iastore, 99, [], .null), (99, .aload_n 0, 100, [], .null), (100, .dup, 101, [], .null), (101, .getfield 22, 104, [6, 3, 375], .null), (104, .iconst 1, 105, [], .int (1)), (105, .iload 6, 107, [], .null), (107, .ishl, 108, [], .null), (108, .ior, 109, [], .null), (109, .putfield 22, 112, [6, 3, 375], .null), (112, .aload_n 0, 113, [], .null), (113, .dup, 114, [], .null), (114, .getfield 18, 117, [6, 2, 374], .null), (117, .iconst 1, 118, [], .int (1)), (118, .iadd, 119, [], .null), (119, .putfield 18, 122, [6, 2, 374], .null), (122, .iinc 3 1, 125, [], .int (1)), (125, .goto (-92), 128, [33], .null), (128, .iconst 1, 129, [], .int (1)), (129, .ireturn, 130, [], .null)])
noncomputable def kX6_readSides : zM := (4, some .boolean, 2, [(7, [0, 1, 2])], [(0, .aload_n 0, 1, [], .null), (1, .lconst 0, 2, [], .long (0)), (2, .putfield 25, 5, [6, 4, 376], .null), (5, .iconst 0, 6, [], .int (0)), (6, .istore_n 2, 7, [], .null), (7, .iload_n 2, 8, [], .null), (8, .aload_n 0, 9, [], .null), (9, .getfield 18, 12, [6, 2, 374], .null), (12, .if_icmp .ge 59, 15, [71], .null), (15, .aload_n 0, 16, [], .null), (16, .getfield 9, 19, [6, 0, 372], .null), (19, .iload_n 2, 20, [], .null), (20, .iaload, 21, [], .null), (21, .aload_n 0, 22, [], .null), (22, .getfield 9, 25, [6, 0, 372], .null), (25, .aload_n 0, 26, [], .null), (26, .iload_n 2, 27, [], .null), (27, .invokevirtual 59, 30, [58, 2, 1, 1, 6, 969, 0], .null), (30, .iaload, 31, [], .null), (31, .invokestatic 63, 34, [140, 2, 1, 1, 0, 973, 1], .null), (34, .istore_n 3, 35, [], .null), (35, .aload_n 1, 36, [], .null), (36, .getfield 67, 39, [5, 5, 211], .null), (39, .iload_n 3, 40, [], .null), (40, .laload, 41, [], .null), (41, .aload_n 0, 42, [], .null), (42, .getfield 25, 45, [6, 4, 376], .null), (45, .land, 46, [], .null), (46, .lconst 0, 47, [], .long (0)), (47, .lcmp, 48, [], .null), (48, .ifCond .eq 5, 51, [53], .null), (51, .iconst 0, 52, [], .int (0)), (52, .ireturn, 53, [], .null), (53, .aload_n 0, 54, [], .null), (54, .dup, 55, [], .null), (55, .getfield 25, 58, [6, 4, 376], .null), (58, .lconst 1, 59, [], .long (1)), (59, .iload_n 3, 60, [], .null), (60, .lshl, 61, [], .null), (61, .lor, 62, [], .null), (62, .putfield 25, 65, [6, 4, 376], .null), (65, .iinc 2 1, 68, [], .int (1)), (68, .goto (-61), 71, [7], .null), (71, .iconst 1, 72, [], .int (1)), (72, .ireturn, 73, [], .null)])
noncomputable def kX6_behind : zM := (2, some .int, 1, [], [(0, .iload_n 1, 1, [], .null), (1, .iconst 1, 2, [], .int (1)), (2, .iadd, 3, [], .null), (3, .aload_n 0, 4, [], .null), (4, .getfield 18, 7, [6, 2, 374], .null), (7, .if_icmp .ge 9, 10, [16], .null), (10, .iload_n 1, 11, [], .null), (11, .iconst 1, 12, [], .int (1)), (12, .iadd, 13, [], .null), (13, .goto 4, 16, [17], .null), (16, .iconst 0, 17, [], .int (0)), (17, .ireturn, 18, [], .null)])
noncomputable def kX6_ahead : zM := (2, some .int, 1, [], [(0, .iload_n 1, 1, [], .null), (1, .ifCond .le 9, 4, [10], .null), (4, .iload_n 1, 5, [], .null), (5, .iconst 1, 6, [], .int (1)), (6, .isub, 7, [], .null), (7, .goto 9, 10, [16], .null), (10, .aload_n 0, 11, [], .null), (11, .getfield 18, 14, [6, 2, 374], .null), (14, .iconst 1, 15, [], .int (1)), (15, .isub, 16, [], .null), (16, .ireturn, 17, [], .null)])
noncomputable def kX6_signedArea : zM := (6, some .int, 2, [(4, [0, 1, 2, 3])], [(0, .iconst 0, 1, [], .int (0)), (1, .istore_n 2, 2, [], .null), (2, .iconst 0, 3, [], .int (0)), (3, .istore_n 3, 4, [], .null), (4, .iload_n 3, 5, [], .null), (5, .aload_n 0, 6, [], .null), (6, .getfield 18, 9, [6, 2, 374], .null), (9, .if_icmp .ge 63, 12, [72], .null), (12, .aload_n 0, 13, [], .null), (13, .getfield 9, 16, [6, 0, 372], .null), (16, .iload_n 3, 17, [], .null), (17, .iaload, 18, [], .null), (18, .istore 4, 20, [], .null), (20, .aload_n 0, 21, [], .null), (21, .getfield 9, 24, [6, 0, 372], .null), (24, .aload_n 0, 25, [], .null), (25, .iload_n 3, 26, [], .null), (26, .invokevirtual 59, 29, [58, 2, 1, 1, 6, 969, 0], .null), (29, .iaload, 30, [], .null), (30, .istore 5, 32, [], .null), (32, .iload_n 2, 33, [], .null), (33, .aload_n 1, 34, [], .null), (34, .getfield 70, 37, [5, 0, 199], .null), (37, .iload 4, 39, [], .null), (39, .iaload, 40, [], .null), (40, .aload_n 1, 41, [], .null), (41, .getfield 73, 44, [5, 1, 201], .null), (44, .iload 5, 46, [], .null), (46, .iaload, 47, [], .null), (47, .imul, 48, [], .null), (48, .aload_n 1, 49, [], .null), (49, .getfield 70, 52, [5, 0, 199], .null), (52, .iload 5, 54, [], .null), (54, .iaload, 55, [], .null), (55, .aload_n 1, 56, [], .null), (56, .getfield 73, 59, [5, 1, 201], .null), (59, .iload 4, 61, [], .null), (61, .iaload, 62, [], .null), (62, .imul, 63, [], .null), (63, .isub, 64, [], .null), (64, .iadd, 65, [], .null), (65, .istore_n 2, 66, [], .null), (66, .iinc 3 1, 69, [], .int (1)), (69, .goto (-65), 72, [4], .null), (72, .iload_n 2, 73, [], .null), (73, .ireturn, 74, [], .null)])
noncomputable def kX6_turnRound : zM := (3, none, 1, [(2, [0, 1])], [(0, .iconst 0, 1, [], .int (0)), (1, .istore_n 1, 2, [], .null), (2, .iload_n 1, 3, [], .null), (3, .aload_n 0, 4, [], .null), (4, .getfield 18, 7, [6, 2, 374], .null), (7, .iconst 2, 8, [], .int (2)), (8, .idiv, 9, [], .null), (9, .if_icmp .ge 49, 12, [58], .null), (12, .aload_n 0, 13, [], .null), (13, .getfield 9, 16, [6, 0, 372], .null), (16, .iload_n 1, 17, [], .null), (17, .iaload, 18, [], .null), (18, .istore_n 2, 19, [], .null), (19, .aload_n 0, 20, [], .null), (20, .getfield 9, 23, [6, 0, 372], .null), (23, .iload_n 1, 24, [], .null), (24, .aload_n 0, 25, [], .null), (25, .getfield 9, 28, [6, 0, 372], .null), (28, .aload_n 0, 29, [], .null), (29, .getfield 18, 32, [6, 2, 374], .null), (32, .iconst 1, 33, [], .int (1)), (33, .isub, 34, [], .null), (34, .iload_n 1, 35, [], .null), (35, .isub, 36, [], .null), (36, .iaload, 37, [], .null), (37, .iastore, 38, [], .null), (38, .aload_n 0, 39, [], .null), (39, .getfield 9, 42, [6, 0, 372], .null), (42, .aload_n 0, 43, [], .null), (43, .getfield 18, 46, [6, 2, 374], .null), (46, .iconst 1, 47, [], .int (1)), (47, .isub, 48, [], .null), (48, .iload_n 1, 49, [], .null), (49, .isub, 50, [], .null), (50, .iload_n 2, 51, [], .null), (51, .iastore, 52, [], .null), (52, .iinc 1 1, 55, [], .int (1)), (55, .goto (-53), 58, [2], .null), (58, .return_, 59, [], .null)])
noncomputable def kX6_splitCount : zM := (5, some .int, 5, [(2, [0, 1, 2]), (12, [0, 1, 2, 3])], [(0, .iconst 1, 1, [], .int (1)), (1, .istore_n 2, 2, [], .null), (2, .iload_n 2, 3, [], .null), (3, .aload_n 0, 4, [], .null), (4, .getfield 18, 7, [6, 2, 374], .null), (7, .if_icmp .ge 61, 10, [68], .null), (10, .iconst 0, 11, [], .int (0)), (11, .istore_n 3, 12, [], .null), (12, .iload_n 3, 13, [], .null), (13, .iload_n 2, 14, [], .null), (14, .iadd, 15, [], .null), (15, .aload_n 0, 16, [], .null), (16, .getfield 18, 19, [6, 2, 374], .null), (19, .if_icmp .ge 43, 22, [62], .null), (22, .iload_n 3, 23, [], .null), (23, .iload_n 2, 24, [], .null), (24, .iadd, 25, [], .null), (25, .istore 4, 27, [], .null), (27, .aload_n 0, 28, [], .null), (28, .getfield 15, 31, [6, 1, 373], .null), (31, .iload_n 3, 32, [], .null), (32, .bipush 9, 34, [], .int (9)), (34, .imul, 35, [], .null), (35, .iload 4, 37, [], .null), (37, .iadd, 38, [], .null), (38, .iload_n 2, 39, [], .null), (39, .iconst 1, 40, [], .int (1)), (40, .if_icmp .ne 7, 43, [47], .null), (43, .iconst 1, 44, [], .int (1)), (44, .goto 11, 47, [55], .null), (47, .aload_n 0, 48, [], .null), (48, .iload_n 3, 49, [], .null), (49, .iload 4, 51, [], .null), (51, .aload_n 1, 52, [], .null), (52, .invokevirtual 76, 55, [63, 4, 1, 4, 6, 986, 0], .null), (55, .iastore, 56, [], .null), (56, .iinc 3 1, 59, [], .int (1)), (59, .goto (-47), 62, [12], .null), (62, .iinc 2 1, 65, [], .int (1)), (65, .goto (-63), 68, [2], .null), (68, .aload_n 0, 69, [], .null), (69, .getfield 18, 72, [6, 2, 374], .null), (72, .iconst 3, 73, [], .int (3)), (73, .if_icmp .ge 7, 76, [80], .null), (76, .iconst 0, 77, [], .int (0)), (77, .goto 14, 80, [91], .null), (80, .aload_n 0, 81, [], .null), (81, .getfield 15, 84, [6, 1, 373], .null), (84, .aload_n 0, 85, [], .null), (85, .getfield 18, 88, [6, 2, 374], .null), (88, .iconst 1, 89, [], .int (1)), (89, .isub, 90, [], .null), (90, .iaload, 91, [], .null), (91, .ireturn, 92, [], .null)])
noncomputable def kX6_splitsBetween : zM := (6, some .int, 4, [(18, [0, 1, 2, 4, 5])], [(0, .iconst 0, 1, [], .int (0)), (1, .istore 4, 3, [], .null), (3, .aload_n 0, 4, [], .null), (4, .iload_n 1, 5, [], .null), (5, .iload_n 2, 6, [], .null), (6, .aload_n 3, 7, [], .null), (7, .invokevirtual 80, 10, [64, 4, 1, 3, 6, 990, 0], .null), (10, .ifCond .eq 50, 13, [60], .null), (13, .iload_n 1, 14, [], .null), (14, .iconst 1, 15, [], .int (1)), (15, .iadd, 16, [], .null), (16, .istore 5, 18, [], .null), (18, .iload 5, 20, [], .null), (20, .iload_n 2, 21, [], .null), (21, .if_icmp .ge 39, 24, [60], .null), (24, .iload 4, 26, [], .null), (26, .aload_n 0, 27, [], .null), (27, .getfield 15, 30, [6, 1, 373], .null), (30, .iload_n 1, 31, [], .null), (31, .bipush 9, 33, [], .int (9)), (33, .imul, 34, [], .null), (34, .iload 5, 36, [], .null), (36, .iadd, 37, [], .null), (37, .iaload, 38, [], .null), (38, .aload_n 0, 39, [], .null), (39, .getfield 15, 42, [6, 1, 373], .null), (42, .iload 5, 44, [], .null), (44, .bipush 9, 46, [], .int (9)), (46, .imul, 47, [], .null), (47, .iload_n 2, 48, [], .null), (48, .iadd, 49, [], .null), (49, .iaload, 50, [], .null), (50, .imul, 51, [], .null), (51, .iadd, 52, [], .null), (52, .istore 4, 54, [], .null), (54, .iinc 5 1, 57, [], .int (1)), (57, .goto (-39), 60, [18], .null), (60, .iload 4, 62, [], .null), (62, .ireturn, 63, [], .null)])
noncomputable def kX6_isJoined : zM := (5, some .boolean, 3, [], [(0, .aload_n 0, 1, [], .null), (1, .getfield 9, 4, [6, 0, 372], .null), (4, .iload_n 1, 5, [], .null), (5, .iaload, 6, [], .null), (6, .aload_n 0, 7, [], .null), (7, .getfield 9, 10, [6, 0, 372], .null), (10, .iload_n 2, 11, [], .null), (11, .iaload, 12, [], .null), (12, .invokestatic 63, 15, [140, 2, 1, 1, 0, 973, 1], .null), (15, .istore 4, 17, [], .null), (17, .aload_n 0, 18, [], .null), (18, .getfield 25, 21, [6, 4, 376], .null), (21, .iload 4, 23, [], .null), (23, .invokestatic 84, 26, [139, 2, 1, 1, 0, 994, 1], .null), (26, .ifCond .ne 30, 29, [56], .null), (29, .aload_n 3, 30, [], .null), (30, .getfield 67, 33, [5, 5, 211], .null), (33, .iload 4, 35, [], .null), (35, .laload, 36, [], .null), (36, .aload_n 0, 37, [], .null), (37, .getfield 25, 40, [6, 4, 376], .null), (40, .land, 41, [], .null), (41, .lconst 0, 42, [], .long (0)), (42, .lcmp, 43, [], .null), (43, .ifCond .ne 17, 46, [60], .null), (46, .aload_n 0, 47, [], .null), (47, .iload_n 1, 48, [], .null), (48, .iload_n 2, 49, [], .null), (49, .aload_n 3, 50, [], .null), (50, .invokevirtual 88, 53, [65, 4, 1, 2, 6, 995, 0], .null), (53, .ifCond .eq 7, 56, [60], .null), (56, .iconst 1, 57, [], .int (1)), (57, .goto 4, 60, [61], .null), (60, .iconst 0, 61, [], .int (0)), (61, .ireturn, 62, [], .null)])
noncomputable def kX6_leavesInward : zM := (8, some .boolean, 2, [], [(0, .aload_n 0, 1, [], .null), (1, .getfield 9, 4, [6, 0, 372], .null), (4, .iload_n 1, 5, [], .null), (5, .iaload, 6, [], .null), (6, .istore 4, 8, [], .null), (8, .aload_n 0, 9, [], .null), (9, .getfield 9, 12, [6, 0, 372], .null), (12, .iload_n 2, 13, [], .null), (13, .iaload, 14, [], .null), (14, .istore 5, 16, [], .null), (16, .aload_n 0, 17, [], .null), (17, .getfield 9, 20, [6, 0, 372], .null), (20, .aload_n 0, 21, [], .null), (21, .iload_n 1, 22, [], .null), (22, .invokevirtual 91, 25, [59, 2, 1, 1, 6, 999, 0], .null), (25, .iaload, 26, [], .null), (26, .istore 6, 28, [], .null), (28, .aload_n 0, 29, [], .null), (29, .getfield 9, 32, [6, 0, 372], .null), (32, .aload_n 0, 33, [], .null), (33, .iload_n 1, 34, [], .null), (34, .invokevirtual 59, 37, [58, 2, 1, 1, 6, 969, 0], .null), (37, .iaload, 38, [], .null), (38, .istore 7, 40, [], .null), (40, .aload_n 3, 41, [], .null), (41, .iload 6, 43, [], .null), (43, .iload 4, 45, [], .null), (45, .iload 7, 47, [], .null), (47, .invokevirtual 94, 50, [51, 4, 1, 1, 5, 1003, 0], .null), (50, .ifCond .eq 35, 53, [85], .null), (53, .aload_n 3, 54, [], .null), (54, .iload 4, 56, [], .null), (56, .iload 5, 58, [], .null), (58, .iload 6, 60, [], .null), (60, .invokevirtual 94, 63, [51, 4, 1, 1, 5, 1003, 0], .null), (63, .ifCond .eq 20, 66, [83], .null), (66, .aload_n 3, 67, [], .null), (67, .iload 5, 69, [], .null), (69, .iload 4, 71, [], .null), (71, .iload 7, 73, [], .null), (73, .invokevirtual 94, 76, [51, 4, 1, 1, 5, 1003, 0], .null), (76, .ifCond .eq 7, 79, [83], .null), (79, .iconst 1, 80, [], .int (1)), (80, .goto 4, 83, [84], .null), (83, .iconst 0, 84, [], .int (0)), (84, .ireturn, 85, [], .null), (85, .aload_n 3, 86, [], .null), (86, .iload 4, 88, [], .null), (88, .iload 5, 90, [], .null), (90, .iload 7, 92, [], .null), (92, .invokevirtual 94, 95, [51, 4, 1, 1, 5, 1003, 0], .null), (95, .ifCond .eq 16, 98, [111], .null), (98, .aload_n 3, 99, [], .null), (99, .iload 5, 101, [], .null), (101, .iload 4, 103, [], .null), (103, .iload 6, 105, [], .null), (105, .invokevirtual 94, 108, [51, 4, 1, 1, 5, 1003, 0], .null), (108, .ifCond .ne 7, 111, [115], .null), (111, .iconst 1, 112, [], .int (1)), (112, .goto 4, 115, [116], .null), (115, .iconst 0, 116, [], .int (0)), (116, .ireturn, 117, [], .null)])
noncomputable def kX6_pointsInside : zM := (4, some .int, 3, [(4, [0, 1, 2, 3])], [(0, .iconst 0, 1, [], .int (0)), (1, .istore_n 2, 2, [], .null), (2, .iconst 0, 3, [], .int (0)), (3, .istore_n 3, 4, [], .null), (4, .iload_n 3, 5, [], .null), (5, .aload_n 1, 6, [], .null), (6, .getfield 50, 9, [5, 7, 218], .null), (9, .if_icmp .ge 35, 12, [44], .null), (12, .aload_n 0, 13, [], .null), (13, .getfield 22, 16, [6, 3, 375], .null), (16, .iload_n 3, 17, [], .null), (17, .ishr, 18, [], .null), (18, .iconst 1, 19, [], .int (1)), (19, .iand, 20, [], .null), (20, .ifCond .ne 18, 23, [38], .null), (23, .aload_n 0, 24, [], .null), (24, .iload_n 3, 25, [], .null), (25, .aload_n 1, 26, [], .null), (26, .invokevirtual 98, 29, [67, 3, 1, 2, 6, 1016, 0], .null), (29, .ifCond .eq 9, 32, [38], .null), (32, .iload_n 2, 33, [], .null), (33, .iconst 1, 34, [], .int (1)), (34, .iload_n 3, 35, [], .null), (35, .ishl, 36, [], .null), (36, .ior, 37, [], .null), (37, .istore_n 2, 38, [], .null), (38, .iinc 3 1, 41, [], .int (1)), (41, .goto (-37), 44, [4], .null), (44, .iload_n 2, 45, [], .null), (45, .ireturn, 46, [], .null)])
noncomputable def kX6_isInside : zM := (10, some .boolean, 2, [(13, [0, 1, 2, 3, 4, 5])], [(0, .iconst 0, 1, [], .int (0)), (1, .istore_n 3, 2, [], .null), (2, .aload_n 2, 3, [], .null), (3, .getfield 73, 6, [5, 1, 201], .null), (6, .iload_n 1, 7, [], .null), (7, .iaload, 8, [], .null), (8, .istore 4, 10, [], .null), (10, .iconst 0, 11, [], .int (0)), (11, .istore 5, 13, [], .null), (13, .iload 5, 15, [], .null), (15, .aload_n 0, 16, [], .null), (16, .getfield 18, 19, [6, 2, 374], .null), (19, .if_icmp .ge 128, 22, [147], .null), (22, .aload_n 0, 23, [], .null), (23, .getfield 9, 26, [6, 0, 372], .null), (26, .iload 5, 28, [], .null), (28, .iaload, 29, [], .null), (29, .istore 6, 31, [], .null), (31, .aload_n 0, 32, [], .null), (32, .getfield 9, 35, [6, 0, 372], .null), (35, .aload_n 0, 36, [], .null), (36, .iload 5, 38, [], .null), (38, .invokevirtual 59, 41, [58, 2, 1, 1, 6, 969, 0], .null), (41, .iaload, 42, [], .null), (42, .istore 7, 44, [], .null), (44, .aload_n 2, 45, [], .null), (45, .getfield 73, 48, [5, 1, 201], .null), (48, .iload 7, 50, [], .null), (50, .iaload, 51, [], .null), (51, .aload_n 2, 52, [], .null), (52, .getfield 73, 55, [5, 1, 201], .null), (55, .iload 6, 57, [], .null), (57, .iaload, 58, [], .null), (58, .if_icmp .le 7, 61, [65], .null), (61, .iconst 1, 62, [], .int (1)), (62, .goto 4, 65, [66], .null), (65, .iconst 0, 66, [], .int (0)), (66, .istore 8, 68, [], .null), (68, .aload_n 2, 69, [], .null), (69, .getfield 73, 72, [5, 1, 201], .null), (72, .iload 6, 74, [], .null), (74, .iaload, 75, [], .null), (75, .iload 4, 77, [], .null), (77, .if_icmp .le 7, 80, [84], .null), (80, .iconst 1, 81, [], .int (1)), (81, .goto 4, 84, [85], .null), (84, .iconst 0, 85, [], .int (0)), (85, .aload_n 2, 86, [], .null), (86, .getfield 73, 89, [5, 1, 201], .null), (89, .iload 7, 91, [], .null), (91, .iaload, 92, [], .null), (92, .iload 4, 94, [], .null), (94, .if_icmp .le 7, 97, [101], .null), (97, .iconst 1, 98, [], .int (1)), (98, .goto 4, 101, [102], .null), (101, .iconst 0, 102, [], .int (0)), (102, .if_icmp .eq 7, 105, [109], .null), (105, .iconst 1, 106, [], .int (1)), (106, .goto 4, 109, [110], .null), (109, .iconst 0, 110, [], .int (0)), (110, .istore 9, 112, [], .null), (112, .iload 9, 114, [], .null), (114, .ifCond .eq 27, 117, [141], .null), (117, .aload_n 2, 118, [], .null), (118, .iload 6, 120, [], .null), (120, .iload 7, 122, [], .null), (122, .iload_n 1, 123, [], .null), (123, .invokevirtual 94, 126, [51, 4, 1, 1, 5, 1003, 0], .null), (126, .iload 8, 128, [], .null), (128, .if_icmp .ne 13, 131, [141], .null), (131, .iload_n 3, 132, [], .null), (132, .ifCond .ne 7, 135, [139], .null), (135, .iconst 1, 136, [], .int (1)), (136, .goto 4, 139, [140], .null), (139, .iconst 0, 140, [], .int (0)), (140, .istore_n 3, 141, [], .null), (141, .iinc 5 1, 144, [], .int (1)), (144, .goto (-131), 147, [13], .null), (147, .iload_n 3, 148, [], .null), (148, .ireturn, 149, [], .null)])
noncomputable def kX7_take : zM := (2, none, 1, [], [(0, .aload_n 0, 1, [], .null), (1, .aload_n 1, 2, [], .null), (2, .getfield 22, 5, [9, 3, 318], .null), (5, .putfield 18, 8, [7, 2, 402], .null), (8, .aload_n 1, 9, [], .null), (9, .getfield 25, 12, [9, 1, 312], .null), (12, .iconst 0, 13, [], .int (0)), (13, .aload_n 0, 14, [], .null), (14, .getfield 9, 17, [7, 0, 398], .null), (17, .iconst 0, 18, [], .int (0)), (18, .aload_n 0, 19, [], .null), (19, .getfield 18, 22, [7, 2, 402], .null), (22, .invokestatic 26, 25, [999, 100, 1043], .null), (25, .aload_n 1, 26, [], .null), (26, .getfield 32, 29, [9, 2, 315], .null), (29, .iconst 0, 30, [], .int (0)), (30, .aload_n 0, 31, [], .null), (31, .getfield 15, 34, [7, 1, 400], .null), (34, .iconst 0, 35, [], .int (0)), (35, .aload_n 0, 36, [], .null), (36, .getfield 18, 39, [7, 2, 402], .null), (39, .invokestatic 26, 42, [999, 100, 1043], .null), (42, .return_, 43, [], .null)])
noncomputable def kX7_has : zM := (3, some .boolean, 1, [], [(0, .iload_n 1, 1, [], .null), (1, .ifCond .lt 24, 4, [25], .null), (4, .iload_n 1, 5, [], .null), (5, .aload_n 0, 6, [], .null), (6, .getfield 18, 9, [7, 2, 402], .null), (9, .if_icmp .ge 16, 12, [25], .null), (12, .iload_n 2, 13, [], .null), (13, .ifCond .lt 12, 16, [25], .null), (16, .iload_n 2, 17, [], .null), (17, .iconst 1, 18, [], .int (1)), (18, .if_icmp .gt 7, 21, [25], .null), (21, .iconst 1, 22, [], .int (1)), (22, .goto 4, 25, [26], .null), (25, .iconst 0, 26, [], .int (0)), (26, .ireturn, 27, [], .null)])
noncomputable def kX7_firstUnlike : zM := (4, some .int, 1, [(14, [0, 1, 2, 3])], [(0, .aload_n 0, 1, [], .null), (1, .getfield 18, 4, [7, 2, 402], .null), (4, .aload_n 1, 5, [], .null), (5, .getfield 22, 8, [9, 3, 318], .null), (8, .invokestatic 33, 11, [991, 1064], .null), (11, .istore_n 2, 12, [], .null), (12, .iconst 0, 13, [], .int (0)), (13, .istore_n 3, 14, [], .null), (14, .iload_n 3, 15, [], .null), (15, .iload_n 2, 16, [], .null), (16, .if_icmp .ge 41, 19, [57], .null), (19, .aload_n 0, 20, [], .null), (20, .getfield 9, 23, [7, 0, 398], .null), (23, .iload_n 3, 24, [], .null), (24, .iaload, 25, [], .null), (25, .aload_n 1, 26, [], .null), (26, .getfield 25, 29, [9, 1, 312], .null), (29, .iload_n 3, 30, [], .null), (30, .iaload, 31, [], .null), (31, .if_icmp .ne 18, 34, [49], .null), (34, .aload_n 0, 35, [], .null), (35, .getfield 15, 38, [7, 1, 400], .null), (38, .iload_n 3, 39, [], .null), (39, .iaload, 40, [], .null), (40, .aload_n 1, 41, [], .null), (41, .getfield 32, 44, [9, 2, 315], .null), (44, .iload_n 3, 45, [], .null), (45, .iaload, 46, [], .null), (46, .if_icmp .eq 5, 49, [51], .null), (49, .iload_n 3, 50, [], .null), (50, .ireturn, 51, [], .null), (51, .iinc 3 1, 54, [], .int (1)), (54, .goto (-40), 57, [14], .null), (57, .aload_n 0, 58, [], .null), (58, .getfield 18, 61, [7, 2, 402], .null), (61, .aload_n 1, 62, [], .null), (62, .getfield 22, 65, [9, 3, 318], .null), (65, .if_icmp .ne 7, 68, [72], .null), (68, .iconst (-1), 69, [], .int (-1)), (69, .goto 4, 72, [73], .null), (72, .iload_n 2, 73, [], .null), (73, .ireturn, 74, [], .null)])
noncomputable def kX8_lay : zM := (3, none, 2, [], [(0, .aload_n 0, 1, [], .null), (1, .getfield 9, 4, [8, 0, 418], .null), (4, .lconst 0, 5, [], .long (0)), (5, .invokestatic 22, 8, [249, 2, 0, 1, 0, 1073, 0], .null), (8, .aload_n 0, 9, [], .null), (9, .iload_n 1, 10, [], .null), (10, .putfield 15, 13, [8, 1, 421], .null), (13, .aload_n 0, 14, [], .null), (14, .iload_n 2, 15, [], .null), (15, .putfield 19, 18, [8, 2, 423], .null), (18, .return_, 19, [], .null)])
noncomputable def kX8_isMissing : zM := (1, some .boolean, 1, [], [(0, .aload_n 0, 1, [], .null), (1, .getfield 15, 4, [8, 1, 421], .null), (4, .iconst (-1), 5, [], .int (-1)), (5, .if_icmp .ne 7, 8, [12], .null), (8, .iconst 1, 9, [], .int (1)), (9, .goto 4, 12, [13], .null), (12, .iconst 0, 13, [], .int (0)), (13, .ireturn, 14, [], .null)])
noncomputable def kX8_put : zM := (4, none, 1, [], [(0, .aload_n 0, 1, [], .null), (1, .getfield 15, 4, [8, 1, 421], .null), (4, .ifCond .ne 16, 7, [20], .null), (7, .aload_n 0, 8, [], .null), (8, .getfield 9, 11, [8, 0, 418], .null), (11, .iload_n 1, 12, [], .null), (12, .lload_n 2, 13, [], .null), (13, .l2i, 14, [], .null), (14, .i2b, 15, [], .null), (15, .i2l, 16, [], .null), (16, .lastore, 17, [], .null), (17, .goto 30, 20, [47], .null), (20, .aload_n 0, 21, [], .null), (21, .getfield 15, 24, [8, 1, 421], .null), (24, .iconst 1, 25, [], .int (1)), (25, .if_icmp .ne 15, 28, [40], .null), (28, .aload_n 0, 29, [], .null), (29, .getfield 9, 32, [8, 0, 418], .null), (32, .iload_n 1, 33, [], .null), (33, .lload_n 2, 34, [], .null), (34, .l2i, 35, [], .null), (35, .i2l, 36, [], .null), (36, .lastore, 37, [], .null), (37, .goto 10, 40, [47], .null), (40, .aload_n 0, 41, [], .null), (41, .getfield 9, 44, [8, 0, 418], .null), (44, .iload_n 1, 45, [], .null), (45, .lload_n 2, 46, [], .null), (46, .lastore, 47, [], .null), (47, .return_, 48, [], .null)])
noncomputable def kX8_hasRun : zM := (3, some .boolean, 1, [], [(0, .iload_n 1, 1, [], .null), (1, .ifCond .lt 25, 4, [26], .null), (4, .iload_n 2, 5, [], .null), (5, .ifCond .lt 21, 8, [26], .null), (8, .iload_n 1, 9, [], .null), (9, .i2l, 10, [], .null), (10, .iload_n 2, 11, [], .null), (11, .i2l, 12, [], .null), (12, .ladd, 13, [], .null), (13, .aload_n 0, 14, [], .null), (14, .getfield 19, 17, [8, 2, 423], .null), (17, .i2l, 18, [], .null), (18, .lcmp, 19, [], .null), (19, .ifCond .gt 7, 22, [26], .null), (22, .iconst 1, 23, [], .int (1)), (23, .goto 4, 26, [27], .null), (26, .iconst 0, 27, [], .int (0)), (27, .ireturn, 28, [], .null)])
noncomputable def kX9_follow : zM := (6, none, 5, [(21, [0, 1, 3]), (55, [0, 3, 4, 5])], [(0, .aload_n 0, 1, [], .null), (1, .getfield 25, 4, [9, 4, 320], .null), (4, .lload_n 1, 5, [], .null), (5, .lcmp, 6, [], .null), (6, .ifCond .ne 15, 9, [21], .null), (9, .aload_n 0, 10, [], .null), (10, .getfield 29, 13, [9, 5, 321], .null), (13, .aload_n 3, 14, [], .null), (14, .getfield 32, 17, [5, 10, 225], .null), (17, .if_icmp .ne 4, 20, [21], .null), (20, .return_, 21, [], .null), (21, .aload_n 0, 22, [], .null), (22, .lload_n 1, 23, [], .null), (23, .putfield 25, 26, [9, 4, 320], .null), (26, .aload_n 0, 27, [], .null), (27, .aload_n 3, 28, [], .null), (28, .getfield 32, 31, [5, 10, 225], .null), (31, .putfield 29, 34, [9, 5, 321], .null), (34, .aload_n 0, 35, [], .null), (35, .iconst 0, 36, [], .int (0)), (36, .putfield 21, 39, [9, 3, 317], .null), (39, .aload_n 0, 40, [], .null), (40, .getfield 9, 43, [9, 0, 309], .null), (43, .iconst 0, 44, [], .int (0)), (44, .aload_n 3, 45, [], .null), (45, .invokevirtual 35, 48, [54, 1, 1, 1, 5, 780, 0], .null), (48, .iastore, 49, [], .null), (49, .iconst 1, 50, [], .int (1)), (50, .istore 4, 52, [], .null), (52, .iconst 0, 53, [], .int (0)), (53, .istore 5, 55, [], .null), (55, .iload 5, 57, [], .null), (57, .bipush 13, 59, [], .int (13)), (59, .if_icmp .ge 21, 62, [80], .null), (62, .iload 4, 64, [], .null), (64, .ifCond .eq 16, 67, [80], .null), (67, .aload_n 0, 68, [], .null), (68, .aload_n 3, 69, [], .null), (69, .invokevirtual 39, 72, [76, 2, 1, 4, 9, 784, 0], .null), (72, .istore 4, 74, [], .null), (74, .iinc 5 1, 77, [], .int (1)), (77, .goto (-22), 80, [55], .null), (80, .return_, 81, [], .null)])
noncomputable def kX9_goOn : zM := (4, some .boolean, 4, [(2, [0, 1, 2])], [(0, .iconst 0, 1, [], .int (0)), (1, .istore_n 2, 2, [], .null), (2, .iload_n 2, 3, [], .null), (3, .aload_n 1, 4, [], .null), (4, .getfield 43, 7, [5, 7, 216], .null), (7, .if_icmp .ge 40, 10, [47], .null), (10, .aload_n 0, 11, [], .null), (11, .iload_n 2, 12, [], .null), (12, .aload_n 1, 13, [], .null), (13, .invokevirtual 46, 16, [77, 3, 1, 1, 9, 788, 0], .null), (16, .istore_n 3, 17, [], .null), (17, .iload_n 3, 18, [], .null), (18, .ifCond .eq 23, 21, [41], .null), (21, .aload_n 0, 22, [], .null), (22, .iload_n 2, 23, [], .null), (23, .aload_n 1, 24, [], .null), (24, .invokevirtual 50, 27, [79, 3, 1, 3, 9, 792, 0], .null), (27, .ifCond .ne 12, 30, [39], .null), (30, .aload_n 0, 31, [], .null), (31, .iload_n 2, 32, [], .null), (32, .aload_n 1, 33, [], .null), (33, .invokevirtual 53, 36, [80, 3, 1, 3, 9, 815, 0], .null), (36, .ifCond .eq 5, 39, [41], .null), (39, .iconst 1, 40, [], .int (1)), (40, .ireturn, 41, [], .null), (41, .iinc 2 1, 44, [], .int (1)), (44, .goto (-42), 47, [2], .null), (47, .iconst 0, 48, [], .int (0)), (48, .ireturn, 49, [], .null)])
noncomputable def kX9_isOn : zM := (3, some .boolean, 1, [], [(0, .aload_n 0, 1, [], .null), (1, .getfield 9, 4, [9, 0, 309], .null), (4, .aload_n 0, 5, [], .null), (5, .getfield 21, 8, [9, 3, 317], .null), (8, .iaload, 9, [], .null), (9, .aload_n 2, 10, [], .null), (10, .getfield 56, 13, [5, 2, 204], .null), (13, .iload_n 1, 14, [], .null), (14, .iaload, 15, [], .null), (15, .ishr, 16, [], .null), (16, .iconst 1, 17, [], .int (1)), (17, .iand, 18, [], .null), (18, .ifCond .eq 7, 21, [25], .null), (21, .iconst 1, 22, [], .int (1)), (22, .goto 4, 25, [26], .null), (25, .iconst 0, 26, [], .int (0)), (26, .ireturn, 27, [], .null)])
noncomputable def kX9_nextOn : zM := (4, some .int, 2, [(4, [0, 2, 3])], [(0, .iload_n 1, 1, [], .null), (1, .iconst 1, 2, [], .int (1)), (2, .iadd, 3, [], .null), (3, .istore_n 3, 4, [], .null), (4, .iload_n 3, 5, [], .null), (5, .aload_n 2, 6, [], .null), (6, .getfield 43, 9, [5, 7, 216], .null), (9, .if_icmp .ge 20, 12, [29], .null), (12, .aload_n 0, 13, [], .null), (13, .iload_n 3, 14, [], .null), (14, .aload_n 2, 15, [], .null), (15, .invokevirtual 46, 18, [77, 3, 1, 1, 9, 788, 0], .null), (18, .ifCond .eq 5, 21, [23], .null), (21, .iload_n 3, 22, [], .null), (22, .ireturn, 23, [], .null), (23, .iinc 3 1, 26, [], .int (1)), (26, .goto (-22), 29, [4], .null), (29, .aload_n 2, 30, [], .null), (30, .getfield 43, 33, [5, 7, 216], .null), (33, .ireturn, 34, [], .null)])
noncomputable def kX9_comesBehind : zM := (8, some .boolean, 3, [(38, [0, 2, 3, 4, 5, 6])], [(0, .aload_n 0, 1, [], .null), (1, .iload_n 1, 2, [], .null), (2, .aload_n 2, 3, [], .null), (3, .invokevirtual 59, 6, [78, 3, 1, 2, 9, 796, 0], .null), (6, .istore_n 3, 7, [], .null), (7, .iload_n 3, 8, [], .null), (8, .aload_n 2, 9, [], .null), (9, .getfield 43, 12, [5, 7, 216], .null), (12, .if_icmp .lt 5, 15, [17], .null), (15, .iconst 0, 16, [], .int (0)), (16, .ireturn, 17, [], .null), (17, .aload_n 2, 18, [], .null), (18, .getfield 56, 21, [5, 2, 204], .null), (21, .iload_n 1, 22, [], .null), (22, .iaload, 23, [], .null), (23, .istore 4, 25, [], .null), (25, .aload_n 2, 26, [], .null), (26, .getfield 56, 29, [5, 2, 204], .null), (29, .iload_n 3, 30, [], .null), (30, .iaload, 31, [], .null), (31, .istore 5, 33, [], .null), (33, .iload_n 1, 34, [], .null), (34, .iconst 1, 35, [], .int (1)), (35, .iadd, 36, [], .null), (36, .istore 6, 38, [], .null), (38, .iload 6, 40, [], .null), (40, .iload_n 3, 41, [], .null), (41, .if_icmp .ge 58, 44, [99], .null), (44, .aload_n 2, 45, [], .null), (45, .getfield 56, 48, [5, 2, 204], .null), (48, .iload 6, 50, [], .null), (50, .iaload, 51, [], .null), (51, .istore 7, 53, [], .null), (53, .aload_n 2, 54, [], .null), (54, .iload 4, 56, [], .null), (56, .iload 5, 58, [], .null), (58, .iload 7, 60, [], .null), (60, .invokevirtual 63, 63, [51, 4, 1, 1, 5, 800, 0], .null), (63, .ifCond .eq 30, 66, [93], .null), (66, .aload_n 0, 67, [], .null), (67, .iload 4, 69, [], .null), (69, .iload 5, 71, [], .null), (71, .iload 7, 73, [], .null), (73, .aload_n 2, 74, [], .null), (74, .invokevirtual 67, 77, [81, 5, 1, 2, 9, 801, 0], .null), (77, .ifCond .eq 16, 80, [93], .null), (80, .aload_n 0, 81, [], .null), (81, .iload 4, 83, [], .null), (83, .iload 5, 85, [], .null), (85, .iload 7, 87, [], .null), (87, .iconst 0, 88, [], .int (0)), (88, .invokevirtual 71, 91, [82, 5, 0, 1, 9, 811, 0], .null), (91, .iconst 1, 92, [], .int (1)), (92, .ireturn, 93, [], .null), (93, .iinc 6 1, 96, [], .int (1)), (96, .goto (-58), 99, [38], .null), (99, .iconst 0, 100, [], .int (0)), (100, .ireturn, 101, [], .null)])
noncomputable def kX9_goesBehind : zM := (9, some .boolean, 3, [(90, [0, 5, 6, 7])], [(0, .aload_n 0, 1, [], .null), (1, .iload_n 1, 2, [], .null), (2, .aload_n 2, 3, [], .null), (3, .invokevirtual 59, 6, [78, 3, 1, 2, 9, 796, 0], .null), (6, .istore_n 3, 7, [], .null), (7, .aload_n 0, 8, [], .null), (8, .iload_n 3, 9, [], .null), (9, .aload_n 2, 10, [], .null), (10, .invokevirtual 59, 13, [78, 3, 1, 2, 9, 796, 0], .null), (13, .istore 4, 15, [], .null), (15, .iload_n 3, 16, [], .null), (16, .aload_n 2, 17, [], .null), (17, .getfield 43, 20, [5, 7, 216], .null), (20, .if_icmp .ge 12, 23, [32], .null), (23, .iload 4, 25, [], .null), (25, .aload_n 2, 26, [], .null), (26, .getfield 43, 29, [5, 7, 216], .null), (29, .if_icmp .lt 5, 32, [34], .null), (32, .iconst 0, 33, [], .int (0)), (33, .ireturn, 34, [], .null), (34, .aload_n 2, 35, [], .null), (35, .getfield 56, 38, [5, 2, 204], .null), (38, .iload_n 1, 39, [], .null), (39, .iaload, 40, [], .null), (40, .istore 5, 42, [], .null), (42, .aload_n 2, 43, [], .null), (43, .getfield 56, 46, [5, 2, 204], .null), (46, .iload_n 3, 47, [], .null), (47, .iaload, 48, [], .null), (48, .istore 6, 50, [], .null), (50, .aload_n 2, 51, [], .null), (51, .getfield 56, 54, [5, 2, 204], .null), (54, .iload 4, 56, [], .null), (56, .iaload, 57, [], .null), (57, .istore 7, 59, [], .null), (59, .aload_n 2, 60, [], .null), (60, .iload 5, 62, [], .null), (62, .iload 6, 64, [], .null), (64, .iload 7, 66, [], .null), (66, .invokevirtual 63, 69, [51, 4, 1, 1, 5, 800, 0], .null), (69, .ifCond .eq 21, 72, [90], .null), (72, .aload_n 0, 73, [], .null), (73, .iload 5, 75, [], .null), (75, .iload 7, 77, [], .null), (77, .iload 6, 79, [], .null), (79, .aload_n 2, 80, [], .null), (80, .invokevirtual 67, 83, [81, 5, 1, 2, 9, 801, 0], .null), (83, .ifCond .eq 7, 86, [90], .null), (86, .iconst 1, 87, [], .int (1)), (87, .goto 4, 90, [91], .null), (90, .iconst 0, 91, [], .int (0)), (91, .istore 8, 93, [], .null), (93, .iload 8, 95, [], .null), (95, .ifCond .eq 14, 98, [109], .null), (98, .aload_n 0, 99, [], .null), (99, .iload 5, 101, [], .null), (101, .iload 7, 103, [], .null), (103, .iload 6, 105, [], .null), (105, .iconst 1, 106, [], .int (1)), (106, .invokevirtual 71, 109, [82, 5, 0, 1, 9, 811, 0], .null), (109, .iload 8, 111, [], .null), (111, .ireturn, 112, [], .null)])
noncomputable def kX9_isTriangle : zM := (5, some .boolean, 2, [], [(0, .aload_n 0, 1, [], .null), (1, .getfield 25, 4, [9, 4, 320], .null), (4, .iload_n 1, 5, [], .null), (5, .iload_n 2, 6, [], .null), (6, .invokestatic 75, 9, [140, 2, 1, 1, 0, 805, 1], .null), (9, .invokestatic 79, 12, [139, 2, 1, 1, 0, 806, 1], .null), (12, .ifCond .eq 48, 15, [60], .null), (15, .aload_n 0, 16, [], .null), (16, .getfield 25, 19, [9, 4, 320], .null), (19, .iload_n 2, 20, [], .null), (20, .iload_n 3, 21, [], .null), (21, .invokestatic 75, 24, [140, 2, 1, 1, 0, 805, 1], .null), (24, .invokestatic 79, 27, [139, 2, 1, 1, 0, 806, 1], .null), (27, .ifCond .eq 33, 30, [60], .null), (30, .aload_n 0, 31, [], .null), (31, .getfield 25, 34, [9, 4, 320], .null), (34, .iload_n 1, 35, [], .null), (35, .iload_n 3, 36, [], .null), (36, .invokestatic 75, 39, [140, 2, 1, 1, 0, 805, 1], .null), (39, .invokestatic 79, 42, [139, 2, 1, 1, 0, 806, 1], .null), (42, .ifCond .eq 18, 45, [60], .null), (45, .aload 4, 47, [], .null), (47, .iload_n 1, 48, [], .null), (48, .iload_n 2, 49, [], .null), (49, .iload_n 3, 50, [], .null), (50, .invokevirtual 83, 53, [52, 4, 1, 1, 5, 807, 0], .null), (53, .ifCond .eq 7, 56, [60], .null), (56, .iconst 1, 57, [], .int (1)), (57, .goto 4, 60, [61], .null), (60, .iconst 0, 61, [], .int (0)), (61, .ireturn, 62, [], .null)])
noncomputable def kX9_add : zM := (5, none, 1, [], [(0, .aload_n 0, 1, [], .null), (1, .getfield 21, 4, [9, 3, 317], .null), (4, .bipush 13, 6, [], .int (13)), (6, .if_icmp .ge 68, 9, [74], .null), (9, .aload_n 0, 10, [], .null), (10, .getfield 15, 13, [9, 1, 311], .null), (13, .aload_n 0, 14, [], .null), (14, .getfield 21, 17, [9, 3, 317], .null), (17, .iconst 1, 18, [], .int (1)), (18, .iload_n 1, 19, [], .null), (19, .ishl, 20, [], .null), (20, .iconst 1, 21, [], .int (1)), (21, .iload_n 2, 22, [], .null), (22, .ishl, 23, [], .null), (23, .ior, 24, [], .null), (24, .iconst 1, 25, [], .int (1)), (25, .iload_n 3, 26, [], .null), (26, .ishl, 27, [], .null), (27, .ior, 28, [], .null), (28, .iastore, 29, [], .null), (29, .aload_n 0, 30, [], .null), (30, .getfield 18, 33, [9, 2, 314], .null), (33, .aload_n 0, 34, [], .null), (34, .getfield 21, 37, [9, 3, 317], .null), (37, .iload 4, 39, [], .null), (39, .iastore, 40, [], .null), (40, .aload_n 0, 41, [], .null), (41, .getfield 9, 44, [9, 0, 309], .null), (44, .aload_n 0, 45, [], .null), (45, .getfield 21, 48, [9, 3, 317], .null), (48, .iconst 1, 49, [], .int (1)), (49, .iadd, 50, [], .null), (50, .aload_n 0, 51, [], .null), (51, .getfield 9, 54, [9, 0, 309], .null), (54, .aload_n 0, 55, [], .null), (55, .getfield 21, 58, [9, 3, 317], .null), (58, .iaload, 59, [], .null), (59, .iconst 1, 60, [], .int (1)), (60, .iload_n 3, 61, [], .null), (61, .ishl, 62, [], .null), (62, .ixor, 63, [], .null), (63, .iastore, 64, [], .null), (64, .aload_n 0, 65, [], .null), (65, .dup, 66, [], .null), (66, .getfield 21, 69, [9, 3, 317], .null), (69, .iconst 1, 70, [], .int (1)), (70, .iadd, 71, [], .null), (71, .putfield 21, 74, [9, 3, 317], .null), (74, .return_, 75, [], .null)])
noncomputable def kX10_total : zM := (6, some .int, 2, [(20, [0, 1, 2, 4]), (40, [0, 1, 2, 4, 5])], [(0, .aload_n 1, 1, [], .null), (1, .getfield 15, 4, [5, 7, 215], .null), (4, .iconst 2, 5, [], .int (2)), (5, .if_icmp .ge 5, 8, [10], .null), (8, .iconst 0, 9, [], .int (0)), (9, .ireturn, 10, [], .null), (10, .aload_n 0, 11, [], .null), (11, .getfield 9, 14, [10, 0, 341], .null), (14, .iconst 0, 15, [], .int (0)), (15, .iconst 1, 16, [], .int (1)), (16, .iastore, 17, [], .null), (17, .iconst 1, 18, [], .int (1)), (18, .istore 4, 20, [], .null), (20, .iload 4, 22, [], .null), (22, .aload_n 1, 23, [], .null), (23, .getfield 15, 26, [5, 7, 215], .null), (26, .if_icmp .ge 74, 29, [100], .null), (29, .aload_n 0, 30, [], .null), (30, .getfield 9, 33, [10, 0, 341], .null), (33, .iload 4, 35, [], .null), (35, .iconst 0, 36, [], .int (0)), (36, .iastore, 37, [], .null), (37, .iconst 0, 38, [], .int (0)), (38, .istore 5, 40, [], .null), (40, .iload 5, 42, [], .null), (42, .iload 4, 44, [], .null), (44, .if_icmp .ge 50, 47, [94], .null), (47, .lload_n 2, 48, [], .null), (48, .aload_n 1, 49, [], .null), (49, .getfield 21, 52, [5, 2, 203], .null), (52, .iload 5, 54, [], .null), (54, .iaload, 55, [], .null), (55, .aload_n 1, 56, [], .null), (56, .getfield 21, 59, [5, 2, 203], .null), (59, .iload 4, 61, [], .null), (61, .iaload, 62, [], .null), (62, .invokestatic 24, 65, [140, 2, 1, 1, 0, 831, 1], .null), (65, .invokestatic 28, 68, [139, 2, 1, 1, 0, 832, 1], .null), (68, .ifCond .ne 20, 71, [88], .null), (71, .aload_n 0, 72, [], .null), (72, .getfield 9, 75, [10, 0, 341], .null), (75, .iload 4, 77, [], .null), (77, .dup2, 78, [], .null), (78, .iaload, 79, [], .null), (79, .aload_n 0, 80, [], .null), (80, .getfield 9, 83, [10, 0, 341], .null), (83, .iload 5, 85, [], .null), (85, .iaload, 86, [], .null), (86, .iadd, 87, [], .null), (87, .iastore, 88, [], .null), (88, .iinc 5 1, 91, [], .int (1)), (91, .goto (-51), 94, [40], .null), (94, .iinc 4 1, 97, [], .int (1)), (97, .goto (-77), 100, [20], .null), (100, .aload_n 0, 101, [], .null), (101, .getfield 9, 104, [10, 0, 341], .null), (104, .aload_n 1, 105, [], .null), (105, .getfield 15, 108, [5, 7, 215], .null), (108, .iconst 1, 109, [], .int (1)), (109, .isub, 110, [], .null), (110, .iaload, 111, [], .null), (111, .ireturn, 112, [], .null)])
noncomputable def kX11_place : zM := (3, some .int, 3, [], [(0, .iload_n 1, 1, [], .null), (1, .invokestatic 94, 4, [135, 1, 1, 1, 0, 477, 0], .null), (4, .ifCond .eq 10, 7, [14], .null), (7, .iload_n 2, 8, [], .null), (8, .invokestatic 94, 11, [135, 1, 1, 1, 0, 477, 0], .null), (11, .ifCond .ne 9, 14, [20], .null), (14, .aload_n 0, 15, [], .null), (15, .iconst 0, 16, [], .int (0)), (16, .invokevirtual 98, 19, [129, 2, 1, 1, 11, 480, 0], .null), (19, .ireturn, 20, [], .null), (20, .aload_n 0, 21, [], .null), (21, .getfield 10, 24, [11, 0, 433], .null), (24, .getfield 102, 27, [0, 4, 143], .null), (27, .bipush 9, 29, [], .int (9)), (29, .if_icmp .lt 9, 32, [38], .null), (32, .aload_n 0, 33, [], .null), (33, .iconst 1, 34, [], .int (1)), (34, .invokevirtual 98, 37, [129, 2, 1, 1, 11, 480, 0], .null), (37, .ireturn, 38, [], .null), (38, .aload_n 0, 39, [], .null), (39, .getfield 10, 42, [11, 0, 433], .null), (42, .iload_n 1, 43, [], .null), (43, .iload_n 2, 44, [], .null), (44, .iconst (-1), 45, [], .int (-1)), (45, .invokevirtual 105, 48, [8, 4, 1, 2, 0, 485, 0], .null), (48, .ifCond .ne 9, 51, [57], .null), (51, .aload_n 0, 52, [], .null), (52, .iconst 4, 53, [], .int (4)), (53, .invokevirtual 98, 56, [129, 2, 1, 1, 11, 480, 0], .null), (56, .ireturn, 57, [], .null), (57, .aload_n 0, 58, [], .null), (58, .getfield 19, 61, [11, 1, 434], .null), (61, .aload_n 0, 62, [], .null), (62, .getfield 10, 65, [11, 0, 433], .null), (65, .invokevirtual 109, 68, [41, 2, 0, 2, 4, 492, 0], .null), (68, .aload_n 0, 69, [], .null), (69, .getfield 10, 72, [11, 0, 433], .null), (72, .iload_n 1, 73, [], .null), (73, .iload_n 2, 74, [], .null), (74, .invokevirtual 113, 77, [3, 3, 0, 1, 0, 506, 0], .null), (77, .aload_n 0, 78, [], .null), (78, .getfield 10, 81, [11, 0, 433], .null), (81, .getfield 102, 84, [0, 4, 143], .null), (84, .iconst 1, 85, [], .int (1)), (85, .isub, 86, [], .null), (86, .ireturn, 87, [], .null)])
noncomputable def kX11_drop : zM := (1, some .int, 4, [], [(0, .aload_n 0, 1, [], .null), (1, .getfield 10, 4, [11, 0, 433], .null), (4, .getfield 102, 7, [0, 4, 143], .null), (7, .ifCond .ne 9, 10, [16], .null), (10, .aload_n 0, 11, [], .null), (11, .iconst 3, 12, [], .int (3)), (12, .invokevirtual 98, 15, [129, 2, 1, 1, 11, 480, 0], .null), (15, .ireturn, 16, [], .null), (16, .aload_n 0, 17, [], .null), (17, .getfield 19, 20, [11, 1, 434], .null), (20, .aload_n 0, 21, [], .null), (21, .getfield 10, 24, [11, 0, 433], .null), (24, .invokevirtual 109, 27, [41, 2, 0, 2, 4, 492, 0], .null), (27, .aload_n 0, 28, [], .null), (28, .getfield 10, 31, [11, 0, 433], .null), (31, .invokevirtual 117, 34, [4, 1, 0, 3, 0, 514, 0], .null), (34, .aload_n 0, 35, [], .null), (35, .getfield 10, 38, [11, 0, 433], .null), (38, .getfield 102, 41, [0, 4, 143], .null), (41, .ireturn, 42, [], .null)])
noncomputable def kX11_move : zM := (4, some .int, 6, [], [(0, .aload_n 0, 1, [], .null), (1, .getfield 10, 4, [11, 0, 433], .null), (4, .iload_n 1, 5, [], .null), (5, .invokevirtual 120, 8, [1, 2, 1, 1, 0, 533, 0], .null), (8, .ifCond .eq 17, 11, [25], .null), (11, .iload_n 2, 12, [], .null), (12, .invokestatic 94, 15, [135, 1, 1, 1, 0, 477, 0], .null), (15, .ifCond .eq 10, 18, [25], .null), (18, .iload_n 3, 19, [], .null), (19, .invokestatic 94, 22, [135, 1, 1, 1, 0, 477, 0], .null), (22, .ifCond .ne 9, 25, [31], .null), (25, .aload_n 0, 26, [], .null), (26, .iconst 0, 27, [], .int (0)), (27, .invokevirtual 98, 30, [129, 2, 1, 1, 11, 480, 0], .null), (30, .ireturn, 31, [], .null), (31, .aload_n 0, 32, [], .null), (32, .getfield 10, 35, [11, 0, 433], .null), (35, .iload_n 2, 36, [], .null), (36, .iload_n 3, 37, [], .null), (37, .iload_n 1, 38, [], .null), (38, .invokevirtual 105, 41, [8, 4, 1, 2, 0, 485, 0], .null), (41, .ifCond .eq 16, 44, [57], .null), (44, .aload_n 0, 45, [], .null), (45, .getfield 10, 48, [11, 0, 433], .null), (48, .iload_n 1, 49, [], .null), (49, .iload_n 2, 50, [], .null), (50, .iload_n 3, 51, [], .null), (51, .invokevirtual 123, 54, [9, 4, 1, 5, 0, 537, 0], .null), (54, .ifCond .eq 9, 57, [63], .null), (57, .aload_n 0, 58, [], .null), (58, .iconst 4, 59, [], .int (4)), (59, .invokevirtual 98, 62, [129, 2, 1, 1, 11, 480, 0], .null), (62, .ireturn, 63, [], .null), (63, .aload_n 0, 64, [], .null), (64, .getfield 19, 67, [11, 1, 434], .null), (67, .aload_n 0, 68, [], .null), (68, .getfield 10, 71, [11, 0, 433], .null), (71, .invokevirtual 109, 74, [41, 2, 0, 2, 4, 492, 0], .null), (74, .aload_n 0, 75, [], .null), (75, .getfield 10, 78, [11, 0, 433], .null), (78, .getfield 126, 81, [0, 0, 129], .null), (81, .iload_n 1, 82, [], .null), (82, .iload_n 2, 83, [], .null), (83, .iastore, 84, [], .null), (84, .aload_n 0, 85, [], .null), (85, .getfield 10, 88, [11, 0, 433], .null), (88, .getfield 129, 91, [0, 1, 133], .null), (91, .iload_n 1, 92, [], .null), (92, .iload_n 3, 93, [], .null), (93, .iastore, 94, [], .null), (94, .iconst 1, 95, [], .int (1)), (95, .ireturn, 96, [], .null)])
noncomputable def kX11_at : zM := (3, some .int, 6, [], [(0, .aload_n 0, 1, [], .null), (1, .getfield 10, 4, [11, 0, 433], .null), (4, .iload_n 1, 5, [], .null), (5, .invokevirtual 120, 8, [1, 2, 1, 1, 0, 533, 0], .null), (8, .ifCond .eq 12, 11, [20], .null), (11, .iload_n 2, 12, [], .null), (12, .ifCond .lt 8, 15, [20], .null), (15, .iload_n 2, 16, [], .null), (16, .iconst 3, 17, [], .int (3)), (17, .if_icmp .le 9, 20, [26], .null), (20, .aload_n 0, 21, [], .null), (21, .iconst 0, 22, [], .int (0)), (22, .invokevirtual 98, 25, [129, 2, 1, 1, 11, 480, 0], .null), (25, .ireturn, 26, [], .null), (26, .aload_n 0, 27, [], .null), (27, .getfield 26, 30, [11, 2, 435], .null), (30, .aload_n 0, 31, [], .null), (31, .getfield 10, 34, [11, 0, 433], .null), (34, .invokevirtual 132, 37, [43, 2, 0, 5, 5, 564, 0], .null), (37, .iload_n 2, 38, [], .null), (38, .tableswitch 56 0 2 #[26, 36, 46], 64, [94, 64, 74, 84], .null), (64, .aload_n 0, 65, [], .null), (65, .getfield 10, 68, [11, 0, 433], .null), (68, .getfield 126, 71, [0, 0, 129], .null), (71, .iload_n 1, 72, [], .null), (72, .iaload, 73, [], .null), (73, .ireturn, 74, [], .null), (74, .aload_n 0, 75, [], .null), (75, .getfield 10, 78, [11, 0, 433], .null), (78, .getfield 129, 81, [0, 1, 133], .null), (81, .iload_n 1, 82, [], .null), (82, .iaload, 83, [], .null), (83, .ireturn, 84, [], .null), (84, .aload_n 0, 85, [], .null), (85, .getfield 26, 88, [11, 2, 435], .null), (88, .getfield 135, 91, [5, 3, 206], .null), (91, .iload_n 1, 92, [], .null), (92, .iaload, 93, [], .null), (93, .ireturn, 94, [], .null), (94, .aload_n 0, 95, [], .null), (95, .getfield 26, 98, [11, 2, 435], .null), (98, .getfield 138, 101, [5, 9, 223], .null), (101, .iload_n 1, 102, [], .null), (102, .ishr, 103, [], .null), (103, .iconst 1, 104, [], .int (1)), (104, .iand, 105, [], .null), (105, .ireturn, 106, [], .null)])
noncomputable def kX11_mark : zM := (6, some .int, 6, [(79, [0, 3, 4])], [(0, .aload_n 0, 1, [], .null), (1, .getfield 10, 4, [11, 0, 433], .null), (4, .iload_n 1, 5, [], .null), (5, .iload_n 2, 6, [], .null), (6, .invokevirtual 141, 9, [2, 3, 1, 2, 0, 610, 0], .null), (9, .ifCond .eq 12, 12, [21], .null), (12, .iload_n 3, 13, [], .null), (13, .ifCond .lt 8, 16, [21], .null), (16, .iload_n 3, 17, [], .null), (17, .iconst 2, 18, [], .int (2)), (18, .if_icmp .le 9, 21, [27], .null), (21, .aload_n 0, 22, [], .null), (22, .iconst 0, 23, [], .int (0)), (23, .invokevirtual 98, 26, [129, 2, 1, 1, 11, 480, 0], .null), (26, .ireturn, 27, [], .null), (27, .aload_n 0, 28, [], .null), (28, .getfield 26, 31, [11, 2, 435], .null), (31, .aload_n 0, 32, [], .null), (32, .getfield 10, 35, [11, 0, 433], .null), (35, .invokevirtual 132, 38, [43, 2, 0, 5, 5, 564, 0], .null), (38, .iload_n 1, 39, [], .null), (39, .iload_n 2, 40, [], .null), (40, .invokestatic 145, 43, [140, 2, 1, 1, 0, 521, 0], .null), (43, .istore 4, 45, [], .null), (45, .iload_n 3, 46, [], .null), (46, .iconst 1, 47, [], .int (1)), (47, .if_icmp .ne 32, 50, [79], .null), (50, .aload_n 0, 51, [], .null), (51, .getfield 26, 54, [11, 2, 435], .null), (54, .getfield 149, 57, [5, 5, 212], .null), (57, .iload 4, 59, [], .null), (59, .laload, 60, [], .null), (60, .aload_n 0, 61, [], .null), (61, .getfield 10, 64, [11, 0, 433], .null), (64, .getfield 153, 67, [0, 6, 150], .null), (67, .land, 68, [], .null), (68, .lconst 0, 69, [], .long (0)), (69, .lcmp, 70, [], .null), (70, .ifCond .eq 9, 73, [79], .null), (73, .aload_n 0, 74, [], .null), (74, .iconst 4, 75, [], .int (4)), (75, .invokevirtual 98, 78, [129, 2, 1, 1, 11, 480, 0], .null), (78, .ireturn, 79, [], .null), (79, .aload_n 0, 80, [], .null), (80, .getfield 19, 83, [11, 1, 434], .null), (83, .aload_n 0, 84, [], .null), (84, .getfield 10, 87, [11, 0, 433], .null), (87, .invokevirtual 109, 90, [41, 2, 0, 2, 4, 492, 0], .null), (90, .aload_n 0, 91, [], .null), (91, .getfield 10, 94, [11, 0, 433], .null), (94, .iload 4, 96, [], .null), (96, .invokevirtual 157, 99, [6, 2, 1, 2, 0, 615, 0], .null), (99, .istore 5, 101, [], .null), (101, .aload_n 0, 102, [], .null), (102, .getfield 10, 105, [11, 0, 433], .null), (105, .iload 4, 107, [], .null), (107, .iload_n 3, 108, [], .null), (108, .invokevirtual 160, 111, [7, 3, 0, 1, 0, 619, 0], .null), (111, .iload 5, 113, [], .null), (113, .ireturn, 114, [], .null)])
noncomputable def kX11_markOf : zM := (3, some .int, 3, [], [(0, .aload_n 0, 1, [], .null), (1, .getfield 10, 4, [11, 0, 433], .null), (4, .iload_n 1, 5, [], .null), (5, .iload_n 2, 6, [], .null), (6, .invokevirtual 141, 9, [2, 3, 1, 2, 0, 610, 0], .null), (9, .ifCond .ne 9, 12, [18], .null), (12, .aload_n 0, 13, [], .null), (13, .iconst 0, 14, [], .int (0)), (14, .invokevirtual 98, 17, [129, 2, 1, 1, 11, 480, 0], .null), (17, .ireturn, 18, [], .null), (18, .aload_n 0, 19, [], .null), (19, .getfield 10, 22, [11, 0, 433], .null), (22, .iload_n 1, 23, [], .null), (23, .iload_n 2, 24, [], .null), (24, .invokestatic 145, 27, [140, 2, 1, 1, 0, 521, 0], .null), (27, .invokevirtual 157, 30, [6, 2, 1, 2, 0, 615, 0], .null), (30, .ireturn, 31, [], .null)])
noncomputable def kX11_turn : zM := (4, some .int, 6, [], [(0, .aload_n 0, 1, [], .null), (1, .getfield 10, 4, [11, 0, 433], .null), (4, .iload_n 1, 5, [], .null), (5, .iload_n 2, 6, [], .null), (6, .invokevirtual 141, 9, [2, 3, 1, 2, 0, 610, 0], .null), (9, .ifCond .eq 20, 12, [29], .null), (12, .aload_n 0, 13, [], .null), (13, .getfield 10, 16, [11, 0, 433], .null), (16, .iload_n 2, 17, [], .null), (17, .iload_n 3, 18, [], .null), (18, .invokevirtual 141, 21, [2, 3, 1, 2, 0, 610, 0], .null), (21, .ifCond .eq 8, 24, [29], .null), (24, .iload_n 1, 25, [], .null), (25, .iload_n 3, 26, [], .null), (26, .if_icmp .ne 9, 29, [35], .null), (29, .aload_n 0, 30, [], .null), (30, .iconst 0, 31, [], .int (0)), (31, .invokevirtual 98, 34, [129, 2, 1, 1, 11, 480, 0], .null), (34, .ireturn, 35, [], .null), (35, .aload_n 0, 36, [], .null), (36, .getfield 26, 39, [11, 2, 435], .null), (39, .aload_n 0, 40, [], .null), (40, .getfield 10, 43, [11, 0, 433], .null), (43, .invokevirtual 132, 46, [43, 2, 0, 5, 5, 564, 0], .null), (46, .aload_n 0, 47, [], .null), (47, .getfield 26, 50, [11, 2, 435], .null), (50, .iload_n 1, 51, [], .null), (51, .iload_n 2, 52, [], .null), (52, .iload_n 3, 53, [], .null), (53, .invokevirtual 163, 56, [51, 4, 1, 1, 5, 631, 0], .null), (56, .ifCond .eq 7, 59, [63], .null), (59, .iconst 1, 60, [], .int (1)), (60, .goto 4, 63, [64], .null), (63, .iconst (-1), 64, [], .int (-1)), (64, .ireturn, 65, [], .null)])
noncomputable def kX11_crosses : zM := (5, some .int, 6, [], [(0, .aload_n 0, 1, [], .null), (1, .getfield 10, 4, [11, 0, 433], .null), (4, .iload_n 1, 5, [], .null), (5, .iload_n 2, 6, [], .null), (6, .invokevirtual 141, 9, [2, 3, 1, 2, 0, 610, 0], .null), (9, .ifCond .eq 16, 12, [25], .null), (12, .aload_n 0, 13, [], .null), (13, .getfield 10, 16, [11, 0, 433], .null), (16, .iload_n 3, 17, [], .null), (17, .iload 4, 19, [], .null), (19, .invokevirtual 141, 22, [2, 3, 1, 2, 0, 610, 0], .null), (22, .ifCond .ne 9, 25, [31], .null), (25, .aload_n 0, 26, [], .null), (26, .iconst 0, 27, [], .int (0)), (27, .invokevirtual 98, 30, [129, 2, 1, 1, 11, 480, 0], .null), (30, .ireturn, 31, [], .null), (31, .aload_n 0, 32, [], .null), (32, .getfield 26, 35, [11, 2, 435], .null), (35, .aload_n 0, 36, [], .null), (36, .getfield 10, 39, [11, 0, 433], .null), (39, .invokevirtual 132, 42, [43, 2, 0, 5, 5, 564, 0], .null), (42, .aload_n 0, 43, [], .null), (43, .getfield 26, 46, [11, 2, 435], .null), (46, .getfield 149, 49, [5, 5, 212], .null), (49, .iload_n 1, 50, [], .null), (50, .iload_n 2, 51, [], .null), (51, .invokestatic 145, 54, [140, 2, 1, 1, 0, 521, 0], .null), (54, .laload, 55, [], .null), (55, .iload_n 3, 56, [], .null), (56, .iload 4, 58, [], .null), (58, .invokestatic 145, 61, [140, 2, 1, 1, 0, 521, 0], .null), (61, .invokestatic 166, 64, [139, 2, 1, 1, 0, 639, 0], .null), (64, .ifCond .eq 7, 67, [71], .null), (67, .iconst 1, 68, [], .int (1)), (68, .goto 4, 71, [72], .null), (71, .iconst 0, 72, [], .int (0)), (72, .ireturn, 73, [], .null)])
noncomputable def kX11_hull : zM := (2, some .int, 6, [], [(0, .aload_n 0, 1, [], .null), (1, .getfield 26, 4, [11, 2, 435], .null), (4, .aload_n 0, 5, [], .null), (5, .getfield 10, 8, [11, 0, 433], .null), (8, .invokevirtual 132, 11, [43, 2, 0, 5, 5, 564, 0], .null), (11, .iload_n 1, 12, [], .null), (12, .iconst (-1), 13, [], .int (-1)), (13, .if_icmp .ne 11, 16, [24], .null), (16, .aload_n 0, 17, [], .null), (17, .getfield 26, 20, [11, 2, 435], .null), (20, .getfield 170, 23, [5, 8, 221], .null), (23, .ireturn, 24, [], .null), (24, .iload_n 1, 25, [], .null), (25, .ifCond .lt 14, 28, [39], .null), (28, .iload_n 1, 29, [], .null), (29, .aload_n 0, 30, [], .null), (30, .getfield 26, 33, [11, 2, 435], .null), (33, .getfield 170, 36, [5, 8, 221], .null), (36, .if_icmp .lt 9, 39, [45], .null), (39, .aload_n 0, 40, [], .null), (40, .iconst 3, 41, [], .int (3)), (41, .invokevirtual 98, 44, [129, 2, 1, 1, 11, 480, 0], .null), (44, .ireturn, 45, [], .null), (45, .aload_n 0, 46, [], .null), (46, .getfield 26, 49, [11, 2, 435], .null), (49, .getfield 173, 52, [5, 4, 208], .null), (52, .iload_n 1, 53, [], .null), (53, .iaload, 54, [], .null), (54, .ireturn, 55, [], .null)])
noncomputable def kX11_nets : zM := (1, some .int, 7, [], [(0, .aload_n 0, 1, [], .null), (1, .invokevirtual 176, 4, [131, 1, 0, 6, 11, 648, 0], .null), (4, .aload_n 0, 5, [], .null), (5, .getfield 33, 8, [11, 3, 436], .null), (8, .getfield 179, 11, [3, 7, 268], .null), (11, .ireturn, 12, [], .null)])
noncomputable def kX11_net : zM := (2, some .long, 7, [], [(0, .aload_n 0, 1, [], .null), (1, .iload_n 1, 2, [], .null), (2, .invokevirtual 182, 5, [132, 2, 1, 6, 11, 682, 0], .null), (5, .ifCond .ne 9, 8, [14], .null), (8, .aload_n 0, 9, [], .null), (9, .iconst 3, 10, [], .int (3)), (10, .invokevirtual 185, 13, [130, 2, 2, 1, 11, 686, 0], .null), (13, .lreturn, 14, [], .null), (14, .aload_n 0, 15, [], .null), (15, .getfield 33, 18, [11, 3, 436], .null), (18, .getfield 189, 21, [3, 6, 265], .null), (21, .iload_n 1, 22, [], .null), (22, .laload, 23, [], .null), (23, .lreturn, 24, [], .null)])
noncomputable def kX11_rank : zM := (4, some .int, 7, [], [(0, .aload_n 0, 1, [], .null), (1, .invokevirtual 176, 4, [131, 1, 0, 6, 11, 648, 0], .null), (4, .aload_n 0, 5, [], .null), (5, .getfield 33, 8, [11, 3, 436], .null), (8, .lload_n 1, 9, [], .null), (9, .invokevirtual 192, 12, [34, 2, 1, 2, 3, 695, 0], .null), (12, .istore_n 3, 13, [], .null), (13, .iload_n 3, 14, [], .null), (14, .ifCond .ge 11, 17, [25], .null), (17, .aload_n 0, 18, [], .null), (18, .iconst 3, 19, [], .int (3)), (19, .invokevirtual 98, 22, [129, 2, 1, 1, 11, 480, 0], .null), (22, .goto 4, 25, [26], .null), (25, .iload_n 3, 26, [], .null), (26, .ireturn, 27, [], .null)])
noncomputable def kX11_with : zM := (3, some .int, 7, [], [(0, .aload_n 0, 1, [], .null), (1, .getfield 10, 4, [11, 0, 433], .null), (4, .iload_n 1, 5, [], .null), (5, .iload_n 2, 6, [], .null), (6, .invokevirtual 141, 9, [2, 3, 1, 2, 0, 610, 0], .null), (9, .ifCond .ne 9, 12, [18], .null), (12, .aload_n 0, 13, [], .null), (13, .iconst 0, 14, [], .int (0)), (14, .invokevirtual 98, 17, [129, 2, 1, 1, 11, 480, 0], .null), (17, .ireturn, 18, [], .null), (18, .aload_n 0, 19, [], .null), (19, .invokevirtual 176, 22, [131, 1, 0, 6, 11, 648, 0], .null), (22, .aload_n 0, 23, [], .null), (23, .getfield 33, 26, [11, 3, 436], .null), (26, .iload_n 1, 27, [], .null), (27, .iload_n 2, 28, [], .null), (28, .invokestatic 145, 31, [140, 2, 1, 1, 0, 521, 0], .null), (31, .invokevirtual 196, 34, [35, 2, 1, 2, 3, 703, 0], .null), (34, .ireturn, 35, [], .null)])
noncomputable def kX11_always : zM := (2, some .long, 7, [], [(0, .iload_n 1, 1, [], .null), (1, .ifCond .lt 8, 4, [9], .null), (4, .iload_n 1, 5, [], .null), (5, .iconst 1, 6, [], .int (1)), (6, .if_icmp .le 9, 9, [15], .null), (9, .aload_n 0, 10, [], .null), (10, .iconst 0, 11, [], .int (0)), (11, .invokevirtual 185, 14, [130, 2, 2, 1, 11, 686, 0], .null), (14, .lreturn, 15, [], .null), (15, .aload_n 0, 16, [], .null), (16, .invokevirtual 176, 19, [131, 1, 0, 6, 11, 648, 0], .null), (19, .aload_n 0, 20, [], .null), (20, .getfield 33, 23, [11, 3, 436], .null), (23, .getfield 179, 26, [3, 7, 268], .null), (26, .ifCond .ne 9, 29, [35], .null), (29, .aload_n 0, 30, [], .null), (30, .iconst 3, 31, [], .int (3)), (31, .invokevirtual 185, 34, [130, 2, 2, 1, 11, 686, 0], .null), (34, .lreturn, 35, [], .null), (35, .iload_n 1, 36, [], .null), (36, .ifCond .ne 13, 39, [49], .null), (39, .aload_n 0, 40, [], .null), (40, .getfield 33, 43, [11, 3, 436], .null), (43, .invokevirtual 199, 46, [36, 1, 2, 1, 3, 712, 0], .null), (46, .goto 10, 49, [56], .null), (49, .aload_n 0, 50, [], .null), (50, .getfield 33, 53, [11, 3, 436], .null), (53, .invokevirtual 203, 56, [37, 1, 2, 1, 3, 717, 0], .null), (56, .lreturn, 57, [], .null)])
noncomputable def kX11_draw : zM := (2, some .int, 7, [], [(0, .aload_n 0, 1, [], .null), (1, .invokevirtual 176, 4, [131, 1, 0, 6, 11, 648, 0], .null), (4, .aload_n 0, 5, [], .null), (5, .getfield 33, 8, [11, 3, 436], .null), (8, .getfield 179, 11, [3, 7, 268], .null), (11, .istore_n 1, 12, [], .null), (12, .iload_n 1, 13, [], .null), (13, .ifCond .ne 9, 16, [22], .null), (16, .aload_n 0, 17, [], .null), (17, .iconst 3, 18, [], .int (3)), (18, .invokevirtual 98, 21, [129, 2, 1, 1, 11, 480, 0], .null), (21, .ireturn, 22, [], .null), (22, .aload_n 0, 23, [], .null), (23, .aload_n 0, 24, [], .null), (24, .getfield 89, 27, [11, 12, 445], .null), (27, .ldc 206, 29, [725], .int (1103515245)), (29, .imul, 30, [], .null), (30, .sipush 12345, 33, [], .int (12345)), (33, .iadd, 34, [], .null), (34, .putfield 89, 37, [11, 12, 445], .null), (37, .aload_n 0, 38, [], .null), (38, .getfield 89, 41, [11, 12, 445], .null), (41, .bipush 8, 43, [], .int (8)), (43, .iushr, 44, [], .null), (44, .iload_n 1, 45, [], .null), (45, .irem, 46, [], .null), (46, .ireturn, 47, [], .null)])
noncomputable def kX11_fan : zM := (4, some .int, 7, [], [(0, .aload_n 0, 1, [], .null), (1, .getfield 10, 4, [11, 0, 433], .null), (4, .iload_n 2, 5, [], .null), (5, .invokevirtual 120, 8, [1, 2, 1, 1, 0, 533, 0], .null), (8, .ifCond .ne 9, 11, [17], .null), (11, .aload_n 0, 12, [], .null), (12, .iconst 0, 13, [], .int (0)), (13, .invokevirtual 98, 16, [129, 2, 1, 1, 11, 480, 0], .null), (16, .ireturn, 17, [], .null), (17, .aload_n 0, 18, [], .null), (18, .iload_n 1, 19, [], .null), (19, .invokevirtual 182, 22, [132, 2, 1, 6, 11, 682, 0], .null), (22, .ifCond .ne 9, 25, [31], .null), (25, .aload_n 0, 26, [], .null), (26, .iconst 3, 27, [], .int (3)), (27, .invokevirtual 98, 30, [129, 2, 1, 1, 11, 480, 0], .null), (30, .ireturn, 31, [], .null), (31, .aload_n 0, 32, [], .null), (32, .getfield 26, 35, [11, 2, 435], .null), (35, .getfield 138, 38, [5, 9, 223], .null), (38, .iload_n 2, 39, [], .null), (39, .ishr, 40, [], .null), (40, .iconst 1, 41, [], .int (1)), (41, .iand, 42, [], .null), (42, .istore_n 3, 43, [], .null), (43, .aload_n 0, 44, [], .null), (44, .getfield 33, 47, [11, 3, 436], .null), (47, .getfield 189, 50, [3, 6, 265], .null), (50, .iload_n 1, 51, [], .null), (51, .laload, 52, [], .null), (52, .iload_n 2, 53, [], .null), (53, .invokestatic 207, 56, [141, 1, 2, 2, 0, 730, 0], .null), (56, .land, 57, [], .null), (57, .invokestatic 210, 60, [248, 1, 1, 1, 0, 731, 0], .null), (60, .iload_n 3, 61, [], .null), (61, .isub, 62, [], .null), (62, .ireturn, 63, [], .null)])
noncomputable def kX11_flips : zM := (2, some .long, 7, [], [(0, .aload_n 0, 1, [], .null), (1, .iload_n 1, 2, [], .null), (2, .invokevirtual 182, 5, [132, 2, 1, 6, 11, 682, 0], .null), (5, .ifCond .ne 9, 8, [14], .null), (8, .aload_n 0, 9, [], .null), (9, .iconst 3, 10, [], .int (3)), (10, .invokevirtual 185, 13, [130, 2, 2, 1, 11, 686, 0], .null), (13, .lreturn, 14, [], .null), (14, .aload_n 0, 15, [], .null), (15, .getfield 33, 18, [11, 3, 436], .null), (18, .iload_n 1, 19, [], .null), (19, .aload_n 0, 20, [], .null), (20, .getfield 26, 23, [11, 2, 435], .null), (23, .invokevirtual 215, 26, [39, 3, 2, 3, 3, 736, 0], .null), (26, .lreturn, 27, [], .null)])
noncomputable def kX11_flip : zM := (5, some .int, 7, [], [(0, .aload_n 0, 1, [], .null), (1, .getfield 10, 4, [11, 0, 433], .null), (4, .iload_n 2, 5, [], .null), (5, .iload_n 3, 6, [], .null), (6, .invokevirtual 141, 9, [2, 3, 1, 2, 0, 610, 0], .null), (9, .ifCond .ne 9, 12, [18], .null), (12, .aload_n 0, 13, [], .null), (13, .iconst 0, 14, [], .int (0)), (14, .invokevirtual 98, 17, [129, 2, 1, 1, 11, 480, 0], .null), (17, .ireturn, 18, [], .null), (18, .aload_n 0, 19, [], .null), (19, .iload_n 1, 20, [], .null), (20, .invokevirtual 182, 23, [132, 2, 1, 6, 11, 682, 0], .null), (23, .ifCond .ne 9, 26, [32], .null), (26, .aload_n 0, 27, [], .null), (27, .iconst 3, 28, [], .int (3)), (28, .invokevirtual 98, 31, [129, 2, 1, 1, 11, 480, 0], .null), (31, .ireturn, 32, [], .null), (32, .aload_n 0, 33, [], .null), (33, .getfield 33, 36, [11, 3, 436], .null), (36, .iload_n 1, 37, [], .null), (37, .iload_n 2, 38, [], .null), (38, .iload_n 3, 39, [], .null), (39, .invokestatic 145, 42, [140, 2, 1, 1, 0, 521, 0], .null), (42, .aload_n 0, 43, [], .null), (43, .getfield 26, 46, [11, 2, 435], .null), (46, .invokevirtual 219, 49, [40, 4, 1, 3, 3, 748, 0], .null), (49, .istore 4, 51, [], .null), (51, .iload 4, 53, [], .null), (53, .ifCond .ge 11, 56, [64], .null), (56, .aload_n 0, 57, [], .null), (57, .iconst 3, 58, [], .int (3)), (58, .invokevirtual 98, 61, [129, 2, 1, 1, 11, 480, 0], .null), (61, .goto 5, 64, [66], .null), (64, .iload 4, 66, [], .null), (66, .ireturn, 67, [], .null)])
noncomputable def kX11_apart : zM := (4, some .int, 7, [], [(0, .aload_n 0, 1, [], .null), (1, .iload_n 1, 2, [], .null), (2, .invokevirtual 182, 5, [132, 2, 1, 6, 11, 682, 0], .null), (5, .ifCond .eq 11, 8, [16], .null), (8, .aload_n 0, 9, [], .null), (9, .iload_n 2, 10, [], .null), (10, .invokevirtual 182, 13, [132, 2, 1, 6, 11, 682, 0], .null), (13, .ifCond .ne 9, 16, [22], .null), (16, .aload_n 0, 17, [], .null), (17, .iconst 3, 18, [], .int (3)), (18, .invokevirtual 98, 21, [129, 2, 1, 1, 11, 480, 0], .null), (21, .ireturn, 22, [], .null), (22, .aload_n 0, 23, [], .null), (23, .getfield 40, 26, [11, 4, 437], .null), (26, .iload_n 1, 27, [], .null), (27, .iload_n 2, 28, [], .null), (28, .aload_n 0, 29, [], .null), (29, .getfield 33, 32, [11, 3, 436], .null), (32, .aload_n 0, 33, [], .null), (33, .getfield 26, 36, [11, 2, 435], .null), (36, .invokevirtual 223, 39, [13, 5, 1, 4, 1, 757, 0], .null), (39, .istore_n 3, 40, [], .null), (40, .iload_n 3, 41, [], .null), (41, .ifCond .ge 11, 44, [52], .null), (44, .aload_n 0, 45, [], .null), (45, .iconst 3, 46, [], .int (3)), (46, .invokevirtual 98, 49, [129, 2, 1, 1, 11, 480, 0], .null), (49, .goto 4, 52, [53], .null), (52, .iload_n 3, 53, [], .null), (53, .ireturn, 54, [], .null)])
noncomputable def kX11_path : zM := (3, some .int, 7, [], [(0, .aload_n 0, 1, [], .null), (1, .iload_n 1, 2, [], .null), (2, .invokevirtual 182, 5, [132, 2, 1, 6, 11, 682, 0], .null), (5, .ifCond .ne 9, 8, [14], .null), (8, .aload_n 0, 9, [], .null), (9, .iconst 3, 10, [], .int (3)), (10, .invokevirtual 98, 13, [129, 2, 1, 1, 11, 480, 0], .null), (13, .ireturn, 14, [], .null), (14, .aload_n 0, 15, [], .null), (15, .getfield 47, 18, [11, 5, 438], .null), (18, .aload_n 0, 19, [], .null), (19, .getfield 33, 22, [11, 3, 436], .null), (22, .getfield 189, 25, [3, 6, 265], .null), (25, .iload_n 1, 26, [], .null), (26, .laload, 27, [], .null), (27, .aload_n 0, 28, [], .null), (28, .getfield 26, 31, [11, 2, 435], .null), (31, .invokevirtual 227, 34, [75, 3, 0, 5, 9, 776, 0], .null), (34, .iload_n 2, 35, [], .null), (35, .ifCond .lt 14, 38, [49], .null), (38, .iload_n 2, 39, [], .null), (39, .aload_n 0, 40, [], .null), (40, .getfield 47, 43, [11, 5, 438], .null), (43, .getfield 230, 46, [9, 3, 319], .null), (46, .if_icmp .le 9, 49, [55], .null), (49, .aload_n 0, 50, [], .null), (50, .iconst 3, 51, [], .int (3)), (51, .invokevirtual 98, 54, [129, 2, 1, 1, 11, 480, 0], .null), (54, .ireturn, 55, [], .null), (55, .aload_n 0, 56, [], .null), (56, .getfield 47, 59, [11, 5, 438], .null), (59, .getfield 231, 62, [9, 0, 310], .null), (62, .iload_n 2, 63, [], .null), (63, .iaload, 64, [], .null), (64, .ireturn, 65, [], .null)])
noncomputable def kX11_advance : zM := (4, some .int, 7, [], [(0, .iload_n 3, 1, [], .null), (1, .ifCond .lt 8, 4, [9], .null), (4, .iload_n 3, 5, [], .null), (5, .iconst 1, 6, [], .int (1)), (6, .if_icmp .le 9, 9, [15], .null), (9, .aload_n 0, 10, [], .null), (10, .iconst 0, 11, [], .int (0)), (11, .invokevirtual 98, 14, [129, 2, 1, 1, 11, 480, 0], .null), (14, .ireturn, 15, [], .null), (15, .aload_n 0, 16, [], .null), (16, .iload_n 1, 17, [], .null), (17, .invokevirtual 182, 20, [132, 2, 1, 6, 11, 682, 0], .null), (20, .ifCond .ne 9, 23, [29], .null), (23, .aload_n 0, 24, [], .null), (24, .iconst 3, 25, [], .int (3)), (25, .invokevirtual 98, 28, [129, 2, 1, 1, 11, 480, 0], .null), (28, .ireturn, 29, [], .null), (29, .aload_n 0, 30, [], .null), (30, .getfield 47, 33, [11, 5, 438], .null), (33, .aload_n 0, 34, [], .null), (34, .getfield 33, 37, [11, 3, 436], .null), (37, .getfield 189, 40, [3, 6, 265], .null), (40, .iload_n 1, 41, [], .null), (41, .laload, 42, [], .null), (42, .aload_n 0, 43, [], .null), (43, .getfield 26, 46, [11, 2, 435], .null), (46, .invokevirtual 227, 49, [75, 3, 0, 5, 9, 776, 0], .null), (49, .iload_n 2, 50, [], .null), (50, .ifCond .lt 14, 53, [64], .null), (53, .iload_n 2, 54, [], .null), (54, .aload_n 0, 55, [], .null), (55, .getfield 47, 58, [11, 5, 438], .null), (58, .getfield 230, 61, [9, 3, 319], .null), (61, .if_icmp .lt 9, 64, [70], .null), (64, .aload_n 0, 65, [], .null), (65, .iconst 3, 66, [], .int (3)), (66, .invokevirtual 98, 69, [129, 2, 1, 1, 11, 480, 0], .null), (69, .ireturn, 70, [], .null), (70, .iload_n 3, 71, [], .null), (71, .ifCond .ne 15, 74, [86], .null), (74, .aload_n 0, 75, [], .null), (75, .getfield 47, 78, [11, 5, 438], .null), (78, .getfield 234, 81, [9, 1, 313], .null), (81, .iload_n 2, 82, [], .null), (82, .iaload, 83, [], .null), (83, .goto 12, 86, [95], .null), (86, .aload_n 0, 87, [], .null), (87, .getfield 47, 90, [11, 5, 438], .null), (90, .getfield 237, 93, [9, 2, 316], .null), (93, .iload_n 2, 94, [], .null), (94, .iaload, 95, [], .null), (95, .ireturn, 96, [], .null)])
noncomputable def kX11_ways : zM := (1, some .int, 6, [], [(0, .aload_n 0, 1, [], .null), (1, .getfield 26, 4, [11, 2, 435], .null), (4, .aload_n 0, 5, [], .null), (5, .getfield 10, 8, [11, 0, 433], .null), (8, .invokevirtual 132, 11, [43, 2, 0, 5, 5, 564, 0], .null), (11, .aload_n 0, 12, [], .null), (12, .getfield 54, 15, [11, 6, 439], .null), (15, .aload_n 0, 16, [], .null), (16, .getfield 26, 19, [11, 2, 435], .null), (19, .aload_n 0, 20, [], .null), (20, .getfield 10, 23, [11, 0, 433], .null), (23, .getfield 240, 26, [0, 7, 153], .null), (26, .invokevirtual 243, 29, [83, 3, 1, 2, 10, 827, 0], .null), (29, .ireturn, 30, [], .null)])
noncomputable def kX11_step : zM := (3, some .int, 3, [], [(0, .iload_n 1, 1, [], .null), (1, .ifCond .lt 16, 4, [17], .null), (4, .iload_n 1, 5, [], .null), (5, .bipush 6, 7, [], .int (6)), (7, .if_icmp .gt 10, 10, [17], .null), (10, .iload_n 2, 11, [], .null), (11, .invokestatic 94, 14, [135, 1, 1, 1, 0, 477, 0], .null), (14, .ifCond .ne 9, 17, [23], .null), (17, .aload_n 0, 18, [], .null), (18, .iconst 0, 19, [], .int (0)), (19, .invokevirtual 98, 22, [129, 2, 1, 1, 11, 480, 0], .null), (22, .ireturn, 23, [], .null), (23, .aload_n 0, 24, [], .null), (24, .getfield 10, 27, [11, 0, 433], .null), (27, .getfield 247, 30, [0, 5, 147], .null), (30, .bipush 8, 32, [], .int (8)), (32, .if_icmp .lt 9, 35, [41], .null), (35, .aload_n 0, 36, [], .null), (36, .iconst 1, 37, [], .int (1)), (37, .invokevirtual 98, 40, [129, 2, 1, 1, 11, 480, 0], .null), (40, .ireturn, 41, [], .null), (41, .aload_n 0, 42, [], .null), (42, .getfield 19, 45, [11, 1, 434], .null), (45, .aload_n 0, 46, [], .null), (46, .getfield 10, 49, [11, 0, 433], .null), (49, .invokevirtual 109, 52, [41, 2, 0, 2, 4, 492, 0], .null), (52, .aload_n 0, 53, [], .null), (53, .getfield 10, 56, [11, 0, 433], .null), (56, .iload_n 1, 57, [], .null), (57, .iload_n 2, 58, [], .null), (58, .invokevirtual 250, 61, [5, 3, 0, 1, 0, 837, 0], .null), (61, .aload_n 0, 62, [], .null), (62, .getfield 10, 65, [11, 0, 433], .null), (65, .getfield 247, 68, [0, 5, 147], .null), (68, .ireturn, 69, [], .null)])
noncomputable def kX11_stepOf : zM := (3, some .int, 2, [], [(0, .iload_n 1, 1, [], .null), (1, .ifCond .lt 23, 4, [24], .null), (4, .iload_n 1, 5, [], .null), (5, .aload_n 0, 6, [], .null), (6, .getfield 10, 9, [11, 0, 433], .null), (9, .getfield 247, 12, [0, 5, 147], .null), (12, .if_icmp .ge 12, 15, [24], .null), (15, .iload_n 2, 16, [], .null), (16, .ifCond .lt 8, 19, [24], .null), (19, .iload_n 2, 20, [], .null), (20, .iconst 1, 21, [], .int (1)), (21, .if_icmp .le 9, 24, [30], .null), (24, .aload_n 0, 25, [], .null), (25, .iconst 0, 26, [], .int (0)), (26, .invokevirtual 98, 29, [129, 2, 1, 1, 11, 480, 0], .null), (29, .ireturn, 30, [], .null), (30, .iload_n 2, 31, [], .null), (31, .ifCond .ne 15, 34, [46], .null), (34, .aload_n 0, 35, [], .null), (35, .getfield 10, 38, [11, 0, 433], .null), (38, .getfield 253, 41, [0, 2, 137], .null), (41, .iload_n 1, 42, [], .null), (42, .iaload, 43, [], .null), (43, .goto 12, 46, [55], .null), (46, .aload_n 0, 47, [], .null), (47, .getfield 10, 50, [11, 0, 433], .null), (50, .getfield 256, 53, [0, 3, 140], .null), (53, .iload_n 1, 54, [], .null), (54, .iaload, 55, [], .null), (55, .ireturn, 56, [], .null)])
noncomputable def kX11_clear : zM := (2, some .int, 3, [], [(0, .aload_n 0, 1, [], .null), (1, .getfield 19, 4, [11, 1, 434], .null), (4, .aload_n 0, 5, [], .null), (5, .getfield 10, 8, [11, 0, 433], .null), (8, .invokevirtual 109, 11, [41, 2, 0, 2, 4, 492, 0], .null), (11, .aload_n 0, 12, [], .null), (12, .getfield 10, 15, [11, 0, 433], .null), (15, .getfield 247, 18, [0, 5, 147], .null), (18, .istore_n 1, 19, [], .null), (19, .aload_n 0, 20, [], .null), (20, .getfield 10, 23, [11, 0, 433], .null), (23, .iconst 0, 24, [], .int (0)), (24, .putfield 247, 27, [0, 5, 147], .null), (27, .iload_n 1, 28, [], .null), (28, .ireturn, 29, [], .null)])
noncomputable def kX11_chain : zM := (3, some .long, 4, [], [(0, .aload_n 0, 1, [], .null), (1, .getfield 61, 4, [11, 7, 440], .null), (4, .lload_n 1, 5, [], .null), (5, .invokevirtual 259, 8, [16, 2, 0, 1, 2, 853, 0], .null), (8, .aload_n 0, 9, [], .null), (9, .getfield 61, 12, [11, 7, 440], .null), (12, .aload_n 0, 13, [], .null), (13, .getfield 10, 16, [11, 0, 433], .null), (16, .invokevirtual 263, 19, [17, 2, 0, 3, 2, 857, 0], .null), (19, .aload_n 0, 20, [], .null), (20, .getfield 61, 23, [11, 7, 440], .null), (23, .getfield 266, 26, [2, 3, 356], .null), (26, .ifCond .eq 12, 29, [38], .null), (29, .aload_n 0, 30, [], .null), (30, .bipush 7, 32, [], .int (7)), (32, .invokevirtual 185, 35, [130, 2, 2, 1, 11, 686, 0], .null), (35, .goto 10, 38, [45], .null), (38, .aload_n 0, 39, [], .null), (39, .getfield 61, 42, [11, 7, 440], .null), (42, .getfield 270, 45, [2, 2, 354], .null), (45, .lreturn, 46, [], .null)])
noncomputable def kX11_ofEdge : zM := (4, some .long, 5, [], [(0, .aload_n 0, 1, [], .null), (1, .getfield 10, 4, [11, 0, 433], .null), (4, .iload_n 1, 5, [], .null), (5, .iload_n 2, 6, [], .null), (6, .invokevirtual 141, 9, [2, 3, 1, 2, 0, 610, 0], .null), (9, .ifCond .eq 10, 12, [19], .null), (12, .iload_n 3, 13, [], .null), (13, .invokestatic 273, 16, [136, 1, 1, 1, 0, 895, 0], .null), (16, .ifCond .ne 9, 19, [25], .null), (19, .aload_n 0, 20, [], .null), (20, .iconst 0, 21, [], .int (0)), (21, .invokevirtual 185, 24, [130, 2, 2, 1, 11, 686, 0], .null), (24, .lreturn, 25, [], .null), (25, .aload_n 0, 26, [], .null), (26, .getfield 61, 29, [11, 7, 440], .null), (29, .aload_n 0, 30, [], .null), (30, .getfield 10, 33, [11, 0, 433], .null), (33, .iload_n 1, 34, [], .null), (34, .iload_n 2, 35, [], .null), (35, .invokestatic 145, 38, [140, 2, 1, 1, 0, 521, 0], .null), (38, .iload_n 3, 39, [], .null), (39, .invokevirtual 276, 42, [23, 4, 0, 4, 2, 898, 0], .null), (42, .aload_n 0, 43, [], .null), (43, .getfield 61, 46, [11, 7, 440], .null), (46, .getfield 266, 49, [2, 3, 356], .null), (49, .ifCond .eq 12, 52, [61], .null), (52, .aload_n 0, 53, [], .null), (53, .bipush 7, 55, [], .int (7)), (55, .invokevirtual 185, 58, [130, 2, 2, 1, 11, 686, 0], .null), (58, .goto 10, 61, [68], .null), (61, .aload_n 0, 62, [], .null), (62, .getfield 61, 65, [11, 7, 440], .null), (65, .getfield 270, 68, [2, 2, 354], .null), (68, .lreturn, 69, [], .null)])
noncomputable def kX11_ofNet : zM := (4, some .long, 7, [], [(0, .iload_n 2, 1, [], .null), (1, .invokestatic 273, 4, [136, 1, 1, 1, 0, 895, 0], .null), (4, .ifCond .eq 10, 7, [14], .null), (7, .iload_n 3, 8, [], .null), (8, .invokestatic 280, 11, [137, 1, 1, 1, 0, 916, 0], .null), (11, .ifCond .ne 9, 14, [20], .null), (14, .aload_n 0, 15, [], .null), (15, .iconst 0, 16, [], .int (0)), (16, .invokevirtual 185, 19, [130, 2, 2, 1, 11, 686, 0], .null), (19, .lreturn, 20, [], .null), (20, .aload_n 0, 21, [], .null), (21, .iload_n 1, 22, [], .null), (22, .invokevirtual 182, 25, [132, 2, 1, 6, 11, 682, 0], .null), (25, .ifCond .ne 9, 28, [34], .null), (28, .aload_n 0, 29, [], .null), (29, .iconst 3, 30, [], .int (3)), (30, .invokevirtual 185, 33, [130, 2, 2, 1, 11, 686, 0], .null), (33, .lreturn, 34, [], .null), (34, .aload_n 0, 35, [], .null), (35, .getfield 61, 38, [11, 7, 440], .null), (38, .aload_n 0, 39, [], .null), (39, .getfield 10, 42, [11, 0, 433], .null), (42, .iload_n 2, 43, [], .null), (43, .invokevirtual 283, 46, [25, 3, 0, 5, 2, 919, 0], .null), (46, .aload_n 0, 47, [], .null), (47, .getfield 61, 50, [11, 7, 440], .null), (50, .aload_n 0, 51, [], .null), (51, .getfield 33, 54, [11, 3, 436], .null), (54, .getfield 189, 57, [3, 6, 265], .null), (57, .iload_n 1, 58, [], .null), (58, .laload, 59, [], .null), (59, .iload_n 3, 60, [], .null), (60, .invokevirtual 287, 63, [26, 3, 0, 3, 2, 924, 0], .null), (63, .aload_n 0, 64, [], .null), (64, .getfield 61, 67, [11, 7, 440], .null), (67, .getfield 266, 70, [2, 3, 356], .null), (70, .ifCond .eq 12, 73, [82], .null), (73, .aload_n 0, 74, [], .null), (74, .bipush 7, 76, [], .int (7)), (76, .invokevirtual 185, 79, [130, 2, 2, 1, 11, 686, 0], .null), (79, .goto 10, 82, [89], .null), (82, .aload_n 0, 83, [], .null), (83, .getfield 61, 86, [11, 7, 440], .null), (86, .getfield 270, 89, [2, 2, 354], .null), (89, .lreturn, 90, [], .null)])
noncomputable def kX11_best : zM := (4, some .int, 7, [], [(0, .iload_n 1, 1, [], .null), (1, .invokestatic 273, 4, [136, 1, 1, 1, 0, 895, 0], .null), (4, .ifCond .eq 10, 7, [14], .null), (7, .iload_n 2, 8, [], .null), (8, .invokestatic 280, 11, [137, 1, 1, 1, 0, 916, 0], .null), (11, .ifCond .ne 9, 14, [20], .null), (14, .aload_n 0, 15, [], .null), (15, .iconst 0, 16, [], .int (0)), (16, .invokevirtual 98, 19, [129, 2, 1, 1, 11, 480, 0], .null), (19, .ireturn, 20, [], .null), (20, .aload_n 0, 21, [], .null), (21, .invokevirtual 176, 24, [131, 1, 0, 6, 11, 648, 0], .null), (24, .aload_n 0, 25, [], .null), (25, .getfield 33, 28, [11, 3, 436], .null), (28, .getfield 179, 31, [3, 7, 268], .null), (31, .ifCond .ne 9, 34, [40], .null), (34, .aload_n 0, 35, [], .null), (35, .iconst 3, 36, [], .int (3)), (36, .invokevirtual 98, 39, [129, 2, 1, 1, 11, 480, 0], .null), (39, .ireturn, 40, [], .null), (40, .aload_n 0, 41, [], .null), (41, .getfield 61, 44, [11, 7, 440], .null), (44, .aload_n 0, 45, [], .null), (45, .getfield 10, 48, [11, 0, 433], .null), (48, .iload_n 1, 49, [], .null), (49, .invokevirtual 283, 52, [25, 3, 0, 5, 2, 919, 0], .null), (52, .aload_n 0, 53, [], .null), (53, .getfield 61, 56, [11, 7, 440], .null), (56, .aload_n 0, 57, [], .null), (57, .getfield 33, 60, [11, 3, 436], .null), (60, .iload_n 2, 61, [], .null), (61, .invokevirtual 291, 64, [28, 3, 1, 4, 2, 937, 0], .null), (64, .istore_n 3, 65, [], .null), (65, .iload_n 3, 66, [], .null), (66, .ifCond .ge 12, 69, [78], .null), (69, .aload_n 0, 70, [], .null), (70, .bipush 7, 72, [], .int (7)), (72, .invokevirtual 98, 75, [129, 2, 1, 1, 11, 480, 0], .null), (75, .goto 4, 78, [79], .null), (78, .iload_n 3, 79, [], .null), (79, .ireturn, 80, [], .null)])
noncomputable def kX11_splits : zM := (3, some .int, 7, [], [(0, .aload_n 0, 1, [], .null), (1, .iload_n 1, 2, [], .null), (2, .invokevirtual 295, 5, [134, 2, 1, 6, 11, 946, 0], .null), (5, .istore_n 2, 6, [], .null), (6, .iload_n 2, 7, [], .null), (7, .ifCond .ge 17, 10, [24], .null), (10, .aload_n 0, 11, [], .null), (11, .getfield 68, 14, [11, 8, 441], .null), (14, .aload_n 0, 15, [], .null), (15, .getfield 26, 18, [11, 2, 435], .null), (18, .invokevirtual 298, 21, [62, 2, 1, 5, 6, 982, 0], .null), (21, .goto 8, 24, [29], .null), (24, .aload_n 0, 25, [], .null), (25, .iload_n 2, 26, [], .null), (26, .invokevirtual 98, 29, [129, 2, 1, 1, 11, 480, 0], .null), (29, .ireturn, 30, [], .null)])
noncomputable def kX11_area : zM := (3, some .int, 7, [], [(0, .aload_n 0, 1, [], .null), (1, .iload_n 1, 2, [], .null), (2, .invokevirtual 295, 5, [134, 2, 1, 6, 11, 946, 0], .null), (5, .istore_n 2, 6, [], .null), (6, .iload_n 2, 7, [], .null), (7, .ifCond .ge 13, 10, [20], .null), (10, .aload_n 0, 11, [], .null), (11, .getfield 68, 14, [11, 8, 441], .null), (14, .getfield 302, 17, [6, 5, 378], .null), (17, .goto 8, 20, [25], .null), (20, .aload_n 0, 21, [], .null), (21, .iload_n 2, 22, [], .null), (22, .invokevirtual 98, 25, [129, 2, 1, 1, 11, 480, 0], .null), (25, .ireturn, 26, [], .null)])
noncomputable def kX11_within : zM := (3, some .int, 7, [], [(0, .aload_n 0, 1, [], .null), (1, .iload_n 1, 2, [], .null), (2, .invokevirtual 295, 5, [134, 2, 1, 6, 11, 946, 0], .null), (5, .istore_n 2, 6, [], .null), (6, .iload_n 2, 7, [], .null), (7, .ifCond .ge 17, 10, [24], .null), (10, .aload_n 0, 11, [], .null), (11, .getfield 68, 14, [11, 8, 441], .null), (14, .aload_n 0, 15, [], .null), (15, .getfield 26, 18, [11, 2, 435], .null), (18, .invokevirtual 305, 21, [66, 2, 1, 3, 6, 1012, 0], .null), (21, .goto 8, 24, [29], .null), (24, .aload_n 0, 25, [], .null), (25, .iload_n 2, 26, [], .null), (26, .invokevirtual 98, 29, [129, 2, 1, 1, 11, 480, 0], .null), (29, .ireturn, 30, [], .null)])
noncomputable def kX11_empty : zM := (4, some .int, 6, [(32, [0, 1, 2, 3])], [(0, .iload_n 1, 1, [], .null), (1, .iconst 3, 2, [], .int (3)), (2, .if_icmp .lt 9, 5, [11], .null), (5, .iload_n 1, 6, [], .null), (6, .bipush 6, 8, [], .int (6)), (8, .if_icmp .le 9, 11, [17], .null), (11, .aload_n 0, 12, [], .null), (12, .iconst 0, 13, [], .int (0)), (13, .invokevirtual 98, 16, [129, 2, 1, 1, 11, 480, 0], .null), (16, .ireturn, 17, [], .null), (17, .aload_n 0, 18, [], .null), (18, .getfield 26, 21, [11, 2, 435], .null), (21, .aload_n 0, 22, [], .null), (22, .getfield 10, 25, [11, 0, 433], .null), (25, .invokevirtual 132, 28, [43, 2, 0, 5, 5, 564, 0], .null), (28, .iconst 0, 29, [], .int (0)), (29, .istore_n 2, 30, [], .null), (30, .iconst 0, 31, [], .int (0)), (31, .istore_n 3, 32, [], .null), (32, .iload_n 3, 33, [], .null), (33, .iconst 1, 34, [], .int (1)), (34, .aload_n 0, 35, [], .null), (35, .getfield 26, 38, [11, 2, 435], .null), (38, .getfield 308, 41, [5, 7, 219], .null), (41, .ishl, 42, [], .null), (42, .if_icmp .ge 31, 45, [73], .null), (45, .iload_n 3, 46, [], .null), (46, .invokestatic 309, 49, [247, 1, 1, 1, 0, 1024, 0], .null), (49, .iload_n 1, 50, [], .null), (50, .if_icmp .ne 17, 53, [67], .null), (53, .aload_n 0, 54, [], .null), (54, .getfield 26, 57, [11, 2, 435], .null), (57, .iload_n 3, 58, [], .null), (58, .invokevirtual 313, 61, [53, 2, 1, 2, 5, 1030, 0], .null), (61, .ifCond .eq 6, 64, [67], .null), (64, .iinc 2 1, 67, [], .int (1)), (67, .iinc 3 1, 70, [], .int (1)), (70, .goto (-38), 73, [32], .null), (73, .iload_n 2, 74, [], .null), (74, .ireturn, 75, [], .null)])
noncomputable def kX11_prove : zM := (2, some .int, 7, [], [(0, .aload_n 0, 1, [], .null), (1, .iload_n 1, 2, [], .null), (2, .invokevirtual 182, 5, [132, 2, 1, 6, 11, 682, 0], .null), (5, .ifCond .ne 9, 8, [14], .null), (8, .aload_n 0, 9, [], .null), (9, .iconst 3, 10, [], .int (3)), (10, .invokevirtual 98, 13, [129, 2, 1, 1, 11, 480, 0], .null), (13, .ireturn, 14, [], .null), (14, .aload_n 0, 15, [], .null), (15, .getfield 47, 18, [11, 5, 438], .null), (18, .aload_n 0, 19, [], .null), (19, .getfield 33, 22, [11, 3, 436], .null), (22, .getfield 189, 25, [3, 6, 265], .null), (25, .iload_n 1, 26, [], .null), (26, .laload, 27, [], .null), (27, .aload_n 0, 28, [], .null), (28, .getfield 26, 31, [11, 2, 435], .null), (31, .invokevirtual 227, 34, [75, 3, 0, 5, 9, 776, 0], .null), (34, .aload_n 0, 35, [], .null), (35, .getfield 75, 38, [11, 9, 442], .null), (38, .aload_n 0, 39, [], .null), (39, .getfield 47, 42, [11, 5, 438], .null), (42, .invokevirtual 316, 45, [68, 2, 0, 1, 7, 1039, 0], .null), (45, .aload_n 0, 46, [], .null), (46, .getfield 75, 49, [11, 9, 442], .null), (49, .getfield 320, 52, [7, 2, 403], .null), (52, .ireturn, 53, [], .null)])
noncomputable def kX11_row : zM := (3, some .int, 2, [], [(0, .aload_n 0, 1, [], .null), (1, .getfield 75, 4, [11, 9, 442], .null), (4, .iload_n 1, 5, [], .null), (5, .iload_n 2, 6, [], .null), (6, .invokevirtual 321, 9, [69, 3, 1, 1, 7, 1048, 0], .null), (9, .ifCond .ne 9, 12, [18], .null), (12, .aload_n 0, 13, [], .null), (13, .iconst 0, 14, [], .int (0)), (14, .invokevirtual 98, 17, [129, 2, 1, 1, 11, 480, 0], .null), (17, .ireturn, 18, [], .null), (18, .iload_n 2, 19, [], .null), (19, .ifCond .ne 15, 22, [34], .null), (22, .aload_n 0, 23, [], .null), (23, .getfield 75, 26, [11, 9, 442], .null), (26, .getfield 324, 29, [7, 0, 399], .null), (29, .iload_n 1, 30, [], .null), (30, .iaload, 31, [], .null), (31, .goto 12, 34, [43], .null), (34, .aload_n 0, 35, [], .null), (35, .getfield 75, 38, [11, 9, 442], .null), (38, .getfield 325, 41, [7, 1, 401], .null), (41, .iload_n 1, 42, [], .null), (42, .iaload, 43, [], .null), (43, .ireturn, 44, [], .null)])
noncomputable def kX11_alter : zM := (6, some .int, 2, [], [(0, .aload_n 0, 1, [], .null), (1, .getfield 75, 4, [11, 9, 442], .null), (4, .iload_n 1, 5, [], .null), (5, .iload_n 2, 6, [], .null), (6, .invokevirtual 321, 9, [69, 3, 1, 1, 7, 1048, 0], .null), (9, .ifCond .ne 9, 12, [18], .null), (12, .aload_n 0, 13, [], .null), (13, .iconst 0, 14, [], .int (0)), (14, .invokevirtual 98, 17, [129, 2, 1, 1, 11, 480, 0], .null), (17, .ireturn, 18, [], .null), (18, .iload_n 2, 19, [], .null), (19, .ifCond .ne 13, 22, [32], .null), (22, .aload_n 0, 23, [], .null), (23, .getfield 75, 26, [11, 9, 442], .null), (26, .getfield 324, 29, [7, 0, 399], .null), (29, .goto 10, 32, [39], .null), (32, .aload_n 0, 33, [], .null), (33, .getfield 75, 36, [11, 9, 442], .null), (36, .getfield 325, 39, [7, 1, 401], .null), (39, .astore 4, 41, [], .null), (41, .aload 4, 43, [], .null), (43, .iload_n 1, 44, [], .null), (44, .iaload, 45, [], .null), (45, .istore 5, 47, [], .null), (47, .aload 4, 49, [], .null), (49, .iload_n 1, 50, [], .null), (50, .iload_n 3, 51, [], .null), (51, .iastore, 52, [], .null), (52, .iload 5, 54, [], .null), (54, .ireturn, 55, [], .null)])
noncomputable def kX11_judge : zM := (2, some .int, 7, [], [(0, .aload_n 0, 1, [], .null), (1, .iload_n 1, 2, [], .null), (2, .invokevirtual 182, 5, [132, 2, 1, 6, 11, 682, 0], .null), (5, .ifCond .ne 9, 8, [14], .null), (8, .aload_n 0, 9, [], .null), (9, .iconst 3, 10, [], .int (3)), (10, .invokevirtual 98, 13, [129, 2, 1, 1, 11, 480, 0], .null), (13, .ireturn, 14, [], .null), (14, .aload_n 0, 15, [], .null), (15, .getfield 47, 18, [11, 5, 438], .null), (18, .aload_n 0, 19, [], .null), (19, .getfield 33, 22, [11, 3, 436], .null), (22, .getfield 189, 25, [3, 6, 265], .null), (25, .iload_n 1, 26, [], .null), (26, .laload, 27, [], .null), (27, .aload_n 0, 28, [], .null), (28, .getfield 26, 31, [11, 2, 435], .null), (31, .invokevirtual 227, 34, [75, 3, 0, 5, 9, 776, 0], .null), (34, .aload_n 0, 35, [], .null), (35, .getfield 75, 38, [11, 9, 442], .null), (38, .aload_n 0, 39, [], .null), (39, .getfield 47, 42, [11, 5, 438], .null), (42, .invokevirtual 326, 45, [70, 2, 1, 1, 7, 1060, 0], .null), (45, .iconst 1, 46, [], .int (1)), (46, .iadd, 47, [], .null), (47, .ireturn, 48, [], .null)])
noncomputable def kX11_sheet : zM := (4, some .int, 3, [], [(0, .iload_n 1, 1, [], .null), (1, .invokestatic 330, 4, [138, 1, 1, 1, 0, 950, 0], .null), (4, .ifCond .eq 13, 7, [17], .null), (7, .iload_n 2, 8, [], .null), (8, .iconst (-1), 9, [], .int (-1)), (9, .if_icmp .lt 8, 12, [17], .null), (12, .iload_n 2, 13, [], .null), (13, .iconst 2, 14, [], .int (2)), (14, .if_icmp .le 9, 17, [23], .null), (17, .aload_n 0, 18, [], .null), (18, .iconst 0, 19, [], .int (0)), (19, .invokevirtual 98, 22, [129, 2, 1, 1, 11, 480, 0], .null), (22, .ireturn, 23, [], .null), (23, .iload_n 2, 24, [], .null), (24, .iconst (-1), 25, [], .int (-1)), (25, .if_icmp .ne 16, 28, [41], .null), (28, .aload_n 0, 29, [], .null), (29, .getfield 81, 32, [11, 10, 443], .null), (32, .iload_n 1, 33, [], .null), (33, .aaload, 34, [], .null), (34, .iconst (-1), 35, [], .int (-1)), (35, .iconst 0, 36, [], .int (0)), (36, .invokevirtual 333, 39, [71, 3, 0, 2, 8, 1069, 0], .null), (39, .iconst 0, 40, [], .int (0)), (40, .ireturn, 41, [], .null), (41, .iload_n 3, 42, [], .null), (42, .ifCond .ge 10, 45, [52], .null), (45, .aload_n 0, 46, [], .null), (46, .bipush 6, 48, [], .int (6)), (48, .invokevirtual 98, 51, [129, 2, 1, 1, 11, 480, 0], .null), (51, .ireturn, 52, [], .null), (52, .iload_n 3, 53, [], .null), (53, .bipush 40, 55, [], .int (40)), (55, .if_icmp .le 9, 58, [64], .null), (58, .aload_n 0, 59, [], .null), (59, .iconst 0, 60, [], .int (0)), (60, .invokevirtual 98, 63, [129, 2, 1, 1, 11, 480, 0], .null), (63, .ireturn, 64, [], .null), (64, .aload_n 0, 65, [], .null), (65, .getfield 81, 68, [11, 10, 443], .null), (68, .iload_n 1, 69, [], .null), (69, .aaload, 70, [], .null), (70, .iload_n 2, 71, [], .null), (71, .iload_n 3, 72, [], .null), (72, .invokevirtual 333, 75, [71, 3, 0, 2, 8, 1069, 0], .null), (75, .iload_n 3, 76, [], .null), (76, .ireturn, 77, [], .null)])
noncomputable def kX11_write : zM := (6, some .int, 3, [], [(0, .aload_n 0, 1, [], .null), (1, .iload_n 1, 2, [], .null), (2, .iload_n 2, 3, [], .null), (3, .invokevirtual 336, 6, [133, 3, 1, 2, 11, 1078, 0], .null), (6, .istore 5, 8, [], .null), (8, .iload 5, 10, [], .null), (10, .ifCond .lt 10, 13, [20], .null), (13, .aload_n 0, 14, [], .null), (14, .iload 5, 16, [], .null), (16, .invokevirtual 98, 19, [129, 2, 1, 1, 11, 480, 0], .null), (19, .ireturn, 20, [], .null), (20, .aload_n 0, 21, [], .null), (21, .getfield 81, 24, [11, 10, 443], .null), (24, .iload_n 1, 25, [], .null), (25, .aaload, 26, [], .null), (26, .iload_n 2, 27, [], .null), (27, .lload_n 3, 28, [], .null), (28, .invokevirtual 339, 31, [73, 3, 0, 1, 8, 1082, 0], .null), (31, .iconst 1, 32, [], .int (1)), (32, .ireturn, 33, [], .null)])
noncomputable def kX11_item : zM := (4, some .long, 3, [], [(0, .aload_n 0, 1, [], .null), (1, .iload_n 1, 2, [], .null), (2, .iload_n 2, 3, [], .null), (3, .invokevirtual 336, 6, [133, 3, 1, 2, 11, 1078, 0], .null), (6, .istore_n 3, 7, [], .null), (7, .iload_n 3, 8, [], .null), (8, .ifCond .ge 17, 11, [25], .null), (11, .aload_n 0, 12, [], .null), (12, .getfield 81, 15, [11, 10, 443], .null), (15, .iload_n 1, 16, [], .null), (16, .aaload, 17, [], .null), (17, .getfield 343, 20, [8, 0, 420], .null), (20, .iload_n 2, 21, [], .null), (21, .laload, 22, [], .null), (22, .goto 8, 25, [30], .null), (25, .aload_n 0, 26, [], .null), (26, .iload_n 3, 27, [], .null), (27, .invokevirtual 185, 30, [130, 2, 2, 1, 11, 686, 0], .null), (30, .lreturn, 31, [], .null)])
noncomputable def kX11_copy : zM := (8, some .int, 2, [], [(0, .iload_n 1, 1, [], .null), (1, .invokestatic 330, 4, [138, 1, 1, 1, 0, 950, 0], .null), (4, .ifCond .eq 10, 7, [14], .null), (7, .iload_n 3, 8, [], .null), (8, .invokestatic 330, 11, [138, 1, 1, 1, 0, 950, 0], .null), (11, .ifCond .ne 9, 14, [20], .null), (14, .aload_n 0, 15, [], .null), (15, .iconst 0, 16, [], .int (0)), (16, .invokevirtual 98, 19, [129, 2, 1, 1, 11, 480, 0], .null), (19, .ireturn, 20, [], .null), (20, .aload_n 0, 21, [], .null), (21, .getfield 81, 24, [11, 10, 443], .null), (24, .iload_n 1, 25, [], .null), (25, .aaload, 26, [], .null), (26, .astore 6, 28, [], .null), (28, .aload_n 0, 29, [], .null), (29, .getfield 81, 32, [11, 10, 443], .null), (32, .iload_n 3, 33, [], .null), (33, .aaload, 34, [], .null), (34, .astore 7, 36, [], .null), (36, .aload 6, 38, [], .null), (38, .invokevirtual 346, 41, [72, 1, 1, 1, 8, 953, 0], .null), (41, .ifCond .ne 11, 44, [52], .null), (44, .aload 7, 46, [], .null), (46, .invokevirtual 346, 49, [72, 1, 1, 1, 8, 953, 0], .null), (49, .ifCond .eq 9, 52, [58], .null), (52, .aload_n 0, 53, [], .null), (53, .iconst 5, 54, [], .int (5)), (54, .invokevirtual 98, 57, [129, 2, 1, 1, 11, 480, 0], .null), (57, .ireturn, 58, [], .null), (58, .aload 6, 60, [], .null), (60, .getfield 350, 63, [8, 1, 422], .null), (63, .aload 7, 65, [], .null), (65, .getfield 350, 68, [8, 1, 422], .null), (68, .if_icmp .eq 9, 71, [77], .null), (71, .aload_n 0, 72, [], .null), (72, .iconst 2, 73, [], .int (2)), (73, .invokevirtual 98, 76, [129, 2, 1, 1, 11, 480, 0], .null), (76, .ireturn, 77, [], .null), (77, .aload 6, 79, [], .null), (79, .iload_n 2, 80, [], .null), (80, .iload 5, 82, [], .null), (82, .invokevirtual 353, 85, [74, 3, 1, 1, 8, 1094, 0], .null), (85, .ifCond .eq 15, 88, [100], .null), (88, .aload 7, 90, [], .null), (90, .iload 4, 92, [], .null), (92, .iload 5, 94, [], .null), (94, .invokevirtual 353, 97, [74, 3, 1, 1, 8, 1094, 0], .null), (97, .ifCond .ne 9, 100, [106], .null), (100, .aload_n 0, 101, [], .null), (101, .iconst 0, 102, [], .int (0)), (102, .invokevirtual 98, 105, [129, 2, 1, 1, 11, 480, 0], .null), (105, .ireturn, 106, [], .null), (106, .aload 6, 108, [], .null), (108, .getfield 343, 111, [8, 0, 420], .null), (111, .iload_n 2, 112, [], .null), (112, .aload 7, 114, [], .null), (114, .getfield 343, 117, [8, 0, 420], .null), (117, .iload 4, 119, [], .null), (119, .iload 5, 121, [], .null), (121, .invokestatic 356, 124, [999, 101, 1098], .null), (124, .iload 5, 126, [], .null), (126, .ireturn, 127, [], .null)])
noncomputable def kX11_undo : zM := (1, some .int, 3, [], [(0, .aload_n 0, 1, [], .null), (1, .getfield 19, 4, [11, 1, 434], .null), (4, .getfield 362, 7, [4, 2, 184], .null), (7, .ifCond .ne 9, 10, [16], .null), (10, .aload_n 0, 11, [], .null), (11, .iconst 3, 12, [], .int (3)), (12, .invokevirtual 98, 15, [129, 2, 1, 1, 11, 480, 0], .null), (15, .ireturn, 16, [], .null), (16, .aload_n 0, 17, [], .null), (17, .getfield 19, 20, [11, 1, 434], .null), (20, .aload_n 0, 21, [], .null), (21, .getfield 10, 24, [11, 0, 433], .null), (24, .invokevirtual 363, 27, [42, 2, 0, 2, 4, 1103, 0], .null), (27, .aload_n 0, 28, [], .null), (28, .getfield 19, 31, [11, 1, 434], .null), (31, .getfield 362, 34, [4, 2, 184], .null), (34, .ireturn, 35, [], .null)])
noncomputable def kX11_seed : zM := (3, some .int, 1, [], [(0, .aload_n 0, 1, [], .null), (1, .getfield 89, 4, [11, 12, 445], .null), (4, .istore_n 2, 5, [], .null), (5, .aload_n 0, 6, [], .null), (6, .iload_n 1, 7, [], .null), (7, .putfield 89, 10, [11, 12, 445], .null), (10, .iload_n 2, 11, [], .null), (11, .ireturn, 12, [], .null)])
noncomputable def kX11_count : zM := (2, some .int, 2, [], [(0, .iload_n 1, 1, [], .null), (1, .tableswitch 102 0 6 #[43, 51, 59, 67, 72, 80, 91], 44, [103, 44, 52, 60, 68, 73, 81, 92], .null), (44, .aload_n 0, 45, [], .null), (45, .getfield 10, 48, [11, 0, 433], .null), (48, .getfield 102, 51, [0, 4, 143], .null), (51, .ireturn, 52, [], .null), (52, .aload_n 0, 53, [], .null), (53, .getfield 10, 56, [11, 0, 433], .null), (56, .getfield 247, 59, [0, 5, 147], .null), (59, .ireturn, 60, [], .null), (60, .aload_n 0, 61, [], .null), (61, .getfield 19, 64, [11, 1, 434], .null), (64, .getfield 362, 67, [4, 2, 184], .null), (67, .ireturn, 68, [], .null), (68, .aload_n 0, 69, [], .null), (69, .getfield 89, 72, [11, 12, 445], .null), (72, .ireturn, 73, [], .null), (73, .aload_n 0, 74, [], .null), (74, .getfield 75, 77, [11, 9, 442], .null), (77, .getfield 320, 80, [7, 2, 403], .null), (80, .ireturn, 81, [], .null), (81, .aload_n 0, 82, [], .null), (82, .getfield 10, 85, [11, 0, 433], .null), (85, .getfield 153, 88, [0, 6, 150], .null), (88, .invokestatic 210, 91, [248, 1, 1, 1, 0, 731, 0], .null), (91, .ireturn, 92, [], .null), (92, .aload_n 0, 93, [], .null), (93, .getfield 10, 96, [11, 0, 433], .null), (96, .getfield 240, 99, [0, 7, 153], .null), (99, .invokestatic 210, 102, [248, 1, 1, 1, 0, 731, 0], .null), (102, .ireturn, 103, [], .null), (103, .aload_n 0, 104, [], .null), (104, .iconst 0, 105, [], .int (0)), (105, .invokevirtual 98, 108, [129, 2, 1, 1, 11, 480, 0], .null), (108, .ireturn, 109, [], .null)])
noncomputable def kX11_status : zM := (4, some .int, 2, [(32, [0, 2, 3])], [(0, .iload_n 1, 1, [], .null), (1, .iconst (-1), 2, [], .int (-1)), (2, .if_icmp .lt 9, 5, [11], .null), (5, .iload_n 1, 6, [], .null), (6, .bipush 8, 8, [], .int (8)), (8, .if_icmp .lt 9, 11, [17], .null), (11, .aload_n 0, 12, [], .null), (12, .iconst 0, 13, [], .int (0)), (13, .invokevirtual 98, 16, [129, 2, 1, 1, 11, 480, 0], .null), (16, .ireturn, 17, [], .null), (17, .iload_n 1, 18, [], .null), (18, .ifCond .lt 10, 21, [28], .null), (21, .aload_n 0, 22, [], .null), (22, .getfield 85, 25, [11, 11, 444], .null), (25, .iload_n 1, 26, [], .null), (26, .iaload, 27, [], .null), (27, .ireturn, 28, [], .null), (28, .iconst 0, 29, [], .int (0)), (29, .istore_n 2, 30, [], .null), (30, .iconst 0, 31, [], .int (0)), (31, .istore_n 3, 32, [], .null), (32, .iload_n 3, 33, [], .null), (33, .bipush 8, 35, [], .int (8)), (35, .if_icmp .ge 18, 38, [53], .null), (38, .iload_n 2, 39, [], .null), (39, .aload_n 0, 40, [], .null), (40, .getfield 85, 43, [11, 11, 444], .null), (43, .iload_n 3, 44, [], .null), (44, .iaload, 45, [], .null), (45, .iadd, 46, [], .null), (46, .istore_n 2, 47, [], .null), (47, .iinc 3 1, 50, [], .int (1)), (50, .goto (-18), 53, [32], .null), (53, .iload_n 2, 54, [], .null), (54, .ireturn, 55, [], .null)])
noncomputable def kX11_finding : zM := (2, some .int, 1, [], [(0, .aload_n 0, 1, [], .null), (1, .getfield 85, 4, [11, 11, 444], .null), (4, .iload_n 1, 5, [], .null), (5, .dup2, 6, [], .null), (6, .iaload, 7, [], .null), (7, .iconst 1, 8, [], .int (1)), (8, .iadd, 9, [], .null), (9, .iastore, 10, [], .null), (10, .ldc_w 366, 13, [484], .int (-1000001)), (13, .iload_n 1, 14, [], .null), (14, .isub, 15, [], .null), (15, .ireturn, 16, [], .null)])
noncomputable def kX11_longFinding : zM := (2, some .long, 1, [], [(0, .aload_n 0, 1, [], .null), (1, .getfield 85, 4, [11, 11, 444], .null), (4, .iload_n 1, 5, [], .null), (5, .dup2, 6, [], .null), (6, .iaload, 7, [], .null), (7, .iconst 1, 8, [], .int (1)), (8, .iadd, 9, [], .null), (9, .iastore, 10, [], .null), (10, .ldc2_w 367, 13, [690], .long (-1000000000000000001)), (13, .iload_n 1, 14, [], .null), (14, .i2l, 15, [], .null), (15, .lsub, 16, [], .null), (16, .lreturn, 17, [], .null)])
noncomputable def kX11_followNets : zM := (1, none, 6, [], [(0, .aload_n 0, 1, [], .null), (1, .getfield 26, 4, [11, 2, 435], .null), (4, .aload_n 0, 5, [], .null), (5, .getfield 10, 8, [11, 0, 433], .null), (8, .invokevirtual 132, 11, [43, 2, 0, 5, 5, 564, 0], .null), (11, .aload_n 0, 12, [], .null), (12, .getfield 33, 15, [11, 3, 436], .null), (15, .aload_n 0, 16, [], .null), (16, .getfield 26, 19, [11, 2, 435], .null), (19, .aload_n 0, 20, [], .null), (20, .getfield 10, 23, [11, 0, 433], .null), (23, .invokevirtual 369, 26, [29, 3, 0, 4, 3, 652, 0], .null), (26, .return_, 27, [], .null)])
noncomputable def kX11_isNet : zM := (2, some .boolean, 6, [], [(0, .aload_n 0, 1, [], .null), (1, .getfield 26, 4, [11, 2, 435], .null), (4, .aload_n 0, 5, [], .null), (5, .getfield 10, 8, [11, 0, 433], .null), (8, .invokevirtual 132, 11, [43, 2, 0, 5, 5, 564, 0], .null), (11, .aload_n 0, 12, [], .null), (12, .getfield 33, 15, [11, 3, 436], .null), (15, .aload_n 0, 16, [], .null), (16, .getfield 26, 19, [11, 2, 435], .null), (19, .aload_n 0, 20, [], .null), (20, .getfield 10, 23, [11, 0, 433], .null), (23, .invokevirtual 369, 26, [29, 3, 0, 4, 3, 652, 0], .null), (26, .iload_n 1, 27, [], .null), (27, .ifCond .lt 18, 30, [45], .null), (30, .iload_n 1, 31, [], .null), (31, .aload_n 0, 32, [], .null), (32, .getfield 33, 35, [11, 3, 436], .null), (35, .getfield 179, 38, [3, 7, 268], .null), (38, .if_icmp .ge 7, 41, [45], .null), (41, .iconst 1, 42, [], .int (1)), (42, .goto 4, 45, [46], .null), (45, .iconst 0, 46, [], .int (0)), (46, .ireturn, 47, [], .null)])
noncomputable def kX11_refusedNumber : zM := (3, some .int, 2, [], [(0, .iload_n 1, 1, [], .null), (1, .invokestatic 330, 4, [138, 1, 1, 1, 0, 950, 0], .null), (4, .ifCond .ne 5, 7, [9], .null), (7, .iconst 0, 8, [], .int (0)), (8, .ireturn, 9, [], .null), (9, .aload_n 0, 10, [], .null), (10, .getfield 81, 13, [11, 10, 443], .null), (13, .iload_n 1, 14, [], .null), (14, .aaload, 15, [], .null), (15, .invokevirtual 346, 18, [72, 1, 1, 1, 8, 953, 0], .null), (18, .ifCond .eq 5, 21, [23], .null), (21, .iconst 5, 22, [], .int (5)), (22, .ireturn, 23, [], .null), (23, .iload_n 2, 24, [], .null), (24, .ifCond .lt 16, 27, [40], .null), (27, .iload_n 2, 28, [], .null), (28, .aload_n 0, 29, [], .null), (29, .getfield 81, 32, [11, 10, 443], .null), (32, .iload_n 1, 33, [], .null), (33, .aaload, 34, [], .null), (34, .getfield 372, 37, [8, 2, 425], .null), (37, .if_icmp .lt 7, 40, [44], .null), (40, .iconst 0, 41, [], .int (0)), (41, .goto 4, 44, [45], .null), (44, .iconst (-1), 45, [], .int (-1)), (45, .ireturn, 46, [], .null)])
noncomputable def kX11_refusedPolygon : zM := (2, some .int, 6, [], [(0, .iload_n 1, 1, [], .null), (1, .invokestatic 330, 4, [138, 1, 1, 1, 0, 950, 0], .null), (4, .ifCond .ne 5, 7, [9], .null), (7, .iconst 0, 8, [], .int (0)), (8, .ireturn, 9, [], .null), (9, .aload_n 0, 10, [], .null), (10, .getfield 81, 13, [11, 10, 443], .null), (13, .iload_n 1, 14, [], .null), (14, .aaload, 15, [], .null), (15, .invokevirtual 346, 18, [72, 1, 1, 1, 8, 953, 0], .null), (18, .ifCond .eq 5, 21, [23], .null), (21, .iconst 5, 22, [], .int (5)), (22, .ireturn, 23, [], .null), (23, .aload_n 0, 24, [], .null), (24, .getfield 26, 27, [11, 2, 435], .null), (27, .aload_n 0, 28, [], .null), (28, .getfield 10, 31, [11, 0, 433], .null), (31, .invokevirtual 132, 34, [43, 2, 0, 5, 5, 564, 0], .null), (34, .aload_n 0, 35, [], .null), (35, .getfield 68, 38, [11, 8, 441], .null), (38, .aload_n 0, 39, [], .null), (39, .getfield 81, 42, [11, 10, 443], .null), (42, .iload_n 1, 43, [], .null), (43, .aaload, 44, [], .null), (44, .aload_n 0, 45, [], .null), (45, .getfield 26, 48, [11, 2, 435], .null), (48, .invokevirtual 373, 51, [55, 3, 1, 3, 6, 957, 0], .null), (51, .ifCond .eq 7, 54, [58], .null), (54, .iconst (-1), 55, [], .int (-1)), (55, .goto 4, 58, [59], .null), (58, .iconst 4, 59, [], .int (4)), (59, .ireturn, 60, [], .null)])
noncomputable def kX11_isNear : zM := (1, some .boolean, 1, [], [(0, .iload_n 0, 1, [], .null), (1, .bipush (-99), 3, [], .int (-99)), (3, .if_icmp .lt 13, 6, [16], .null), (6, .iload_n 0, 7, [], .null), (7, .bipush 99, 9, [], .int (99)), (9, .if_icmp .gt 7, 12, [16], .null), (12, .iconst 1, 13, [], .int (1)), (13, .goto 4, 16, [17], .null), (16, .iconst 0, 17, [], .int (0)), (17, .ireturn, 18, [], .null)])
noncomputable def kX11_isRule : zM := (1, some .boolean, 1, [], [(0, .iload_n 0, 1, [], .null), (1, .ifCond .lt 13, 4, [14], .null), (4, .iload_n 0, 5, [], .null), (5, .bipush 6, 7, [], .int (6)), (7, .if_icmp .gt 7, 10, [14], .null), (10, .iconst 1, 11, [], .int (1)), (11, .goto 4, 14, [15], .null), (14, .iconst 0, 15, [], .int (0)), (15, .ireturn, 16, [], .null)])
noncomputable def kX11_isFold : zM := (1, some .boolean, 1, [], [(0, .iload_n 0, 1, [], .null), (1, .ifCond .lt 12, 4, [13], .null), (4, .iload_n 0, 5, [], .null), (5, .iconst 3, 6, [], .int (3)), (6, .if_icmp .gt 7, 9, [13], .null), (9, .iconst 1, 10, [], .int (1)), (10, .goto 4, 13, [14], .null), (13, .iconst 0, 14, [], .int (0)), (14, .ireturn, 15, [], .null)])
noncomputable def kX11_isSheet : zM := (1, some .boolean, 1, [], [(0, .iload_n 0, 1, [], .null), (1, .ifCond .lt 12, 4, [13], .null), (4, .iload_n 0, 5, [], .null), (5, .iconst 4, 6, [], .int (4)), (6, .if_icmp .ge 7, 9, [13], .null), (9, .iconst 1, 10, [], .int (1)), (10, .goto 4, 13, [14], .null), (13, .iconst 0, 14, [], .int (0)), (14, .ireturn, 15, [], .null)])
noncomputable def kX11_holds : zM := (3, some .boolean, 1, [], [(0, .lload_n 0, 1, [], .null), (1, .iload_n 2, 2, [], .null), (2, .lushr, 3, [], .null), (3, .lconst 1, 4, [], .long (1)), (4, .land, 5, [], .null), (5, .lconst 0, 6, [], .long (0)), (6, .lcmp, 7, [], .null), (7, .ifCond .eq 7, 10, [14], .null), (10, .iconst 1, 11, [], .int (1)), (11, .goto 4, 14, [15], .null), (14, .iconst 0, 15, [], .int (0)), (15, .ireturn, 16, [], .null)])
noncomputable def kX11_edgeOf : zM := (4, some .int, 1, [], [(0, .iload_n 0, 1, [], .null), (1, .iload_n 1, 2, [], .null), (2, .invokestatic 377, 5, [991, 524], .null), (5, .istore_n 2, 6, [], .null), (6, .iload_n 0, 7, [], .null), (7, .iload_n 1, 8, [], .null), (8, .invokestatic 382, 11, [990, 525], .null), (11, .istore_n 3, 12, [], .null), (12, .iload_n 2, 13, [], .null), (13, .bipush 17, 15, [], .int (17)), (15, .iload_n 2, 16, [], .null), (16, .isub, 17, [], .null), (17, .imul, 18, [], .null), (18, .iconst 2, 19, [], .int (2)), (19, .idiv, 20, [], .null), (20, .iload_n 3, 21, [], .null), (21, .iadd, 22, [], .null), (22, .iload_n 2, 23, [], .null), (23, .isub, 24, [], .null), (24, .iconst 1, 25, [], .int (1)), (25, .isub, 26, [], .null), (26, .ireturn, 27, [], .null)])
noncomputable def kX11_edgesAt : zM := (4, some .long, 2, [(4, [0, 1, 3])], [(0, .lconst 0, 1, [], .long (0)), (1, .lstore_n 1, 2, [], .null), (2, .iconst 0, 3, [], .int (0)), (3, .istore_n 3, 4, [], .null), (4, .iload_n 3, 5, [], .null), (5, .bipush 9, 7, [], .int (9)), (7, .if_icmp .ge 24, 10, [31], .null), (10, .iload_n 3, 11, [], .null), (11, .iload_n 0, 12, [], .null), (12, .if_icmp .eq 13, 15, [25], .null), (15, .lload_n 1, 16, [], .null), (16, .lconst 1, 17, [], .long (1)), (17, .iload_n 0, 18, [], .null), (18, .iload_n 3, 19, [], .null), (19, .invokestatic 145, 22, [140, 2, 1, 1, 0, 521, 0], .null), (22, .lshl, 23, [], .null), (23, .lor, 24, [], .null), (24, .lstore_n 1, 25, [], .null), (25, .iinc 3 1, 28, [], .int (1)), (28, .goto (-24), 31, [4], .null), (31, .lload_n 1, 32, [], .null), (32, .lreturn, 33, [], .null)])
noncomputable def kX11_side : zM := (6, some .int, 1, [], [(0, .iload_n 2, 1, [], .null), (1, .iload_n 0, 2, [], .null), (2, .isub, 3, [], .null), (3, .iload 5, 5, [], .null), (5, .iload_n 1, 6, [], .null), (6, .isub, 7, [], .null), (7, .imul, 8, [], .null), (8, .iload_n 3, 9, [], .null), (9, .iload_n 1, 10, [], .null), (10, .isub, 11, [], .null), (11, .iload 4, 13, [], .null), (13, .iload_n 0, 14, [], .null), (14, .isub, 15, [], .null), (15, .imul, 16, [], .null), (16, .isub, 17, [], .null), (17, .ireturn, 18, [], .null)])
noncomputable def kX12_finds : zM := (2, some .int, 1, [], [(0, .aload_n 0, 1, [], .null), (1, .getfield 22, 4, [12, 5, 1134], .null), (4, .iload_n 1, 5, [], .null), (5, .dup2, 6, [], .null), (6, .iaload, 7, [], .null), (7, .iconst 1, 8, [], .int (1)), (8, .iadd, 9, [], .null), (9, .iastore, 10, [], .null), (10, .ldc 64, 12, [1236], .int (-1000001)), (12, .iload_n 1, 13, [], .null), (13, .isub, 14, [], .null), (14, .ireturn, 15, [], .null)])
noncomputable def kX12_findsLong : zM := (2, some .long, 1, [], [(0, .aload_n 0, 1, [], .null), (1, .getfield 22, 4, [12, 5, 1134], .null), (4, .iload_n 1, 5, [], .null), (5, .dup2, 6, [], .null), (6, .iaload, 7, [], .null), (7, .iconst 1, 8, [], .int (1)), (8, .iadd, 9, [], .null), (9, .iastore, 10, [], .null), (10, .ldc2_w 65, 13, [1387], .long (-1000000000000000001)), (13, .iload_n 1, 14, [], .null), (14, .i2l, 15, [], .null), (15, .lsub, 16, [], .null), (16, .lreturn, 17, [], .null)])
noncomputable def kX12_in : zM := (6, some .boolean, 1, [], [(0, .lload_n 0, 1, [], .null), (1, .lload_n 2, 2, [], .null), (2, .lcmp, 3, [], .null), (3, .ifCond .lt 14, 6, [17], .null), (6, .lload_n 0, 7, [], .null), (7, .lload 4, 9, [], .null), (9, .lcmp, 10, [], .null), (10, .ifCond .gt 7, 13, [17], .null), (13, .iconst 1, 14, [], .int (1)), (14, .goto 4, 17, [18], .null), (17, .iconst 0, 18, [], .int (0)), (18, .ireturn, 19, [], .null)])
noncomputable def kX12_points : zM := (1, some .int, 1, [], [(0, .aload_n 0, 1, [], .null), (1, .getfield 9, 4, [12, 0, 1129], .null), (4, .iconst 0, 5, [], .int (0)), (5, .iaload, 6, [], .null), (6, .ireturn, 7, [], .null)])
noncomputable def kX12_x : zM := (2, some .int, 1, [], [(0, .aload_n 0, 1, [], .null), (1, .getfield 9, 4, [12, 0, 1129], .null), (4, .iconst 2, 5, [], .int (2)), (5, .iconst 2, 6, [], .int (2)), (6, .iload_n 1, 7, [], .null), (7, .imul, 8, [], .null), (8, .iadd, 9, [], .null), (9, .iaload, 10, [], .null), (10, .ireturn, 11, [], .null)])
noncomputable def kX12_y : zM := (2, some .int, 1, [], [(0, .aload_n 0, 1, [], .null), (1, .getfield 9, 4, [12, 0, 1129], .null), (4, .iconst 2, 5, [], .int (2)), (5, .iconst 2, 6, [], .int (2)), (6, .iload_n 1, 7, [], .null), (7, .imul, 8, [], .null), (8, .iadd, 9, [], .null), (9, .iconst 1, 10, [], .int (1)), (10, .iadd, 11, [], .null), (11, .iaload, 12, [], .null), (12, .ireturn, 13, [], .null)])
noncomputable def kX12_isPoint : zM := (3, some .boolean, 2, [], [(0, .lload_n 1, 1, [], .null), (1, .lconst 0, 2, [], .long (0)), (2, .aload_n 0, 3, [], .null), (3, .invokevirtual 67, 6, [146, 1, 1, 1, 12, 1237, 0], .null), (6, .iconst 1, 7, [], .int (1)), (7, .isub, 8, [], .null), (8, .i2l, 9, [], .null), (9, .invokestatic 71, 12, [145, 3, 1, 1, 0, 1229, 0], .null), (12, .ireturn, 13, [], .null)])
noncomputable def kX12_areTwo : zM := (3, some .boolean, 3, [], [(0, .aload_n 0, 1, [], .null), (1, .iload_n 1, 2, [], .null), (2, .i2l, 3, [], .null), (3, .invokevirtual 75, 6, [149, 2, 1, 2, 12, 1281, 0], .null), (6, .ifCond .eq 21, 9, [27], .null), (9, .aload_n 0, 10, [], .null), (10, .iload_n 2, 11, [], .null), (11, .i2l, 12, [], .null), (12, .invokevirtual 75, 15, [149, 2, 1, 2, 12, 1281, 0], .null), (15, .ifCond .eq 12, 18, [27], .null), (18, .iload_n 1, 19, [], .null), (19, .iload_n 2, 20, [], .null), (20, .if_icmp .eq 7, 23, [27], .null), (23, .iconst 1, 24, [], .int (1)), (24, .goto 4, 27, [28], .null), (27, .iconst 0, 28, [], .int (0)), (28, .ireturn, 29, [], .null)])
noncomputable def kX12_side : zM := (6, some .int, 1, [], [(0, .iload_n 2, 1, [], .null), (1, .iload_n 0, 2, [], .null), (2, .isub, 3, [], .null), (3, .iload 5, 5, [], .null), (5, .iload_n 1, 6, [], .null), (6, .isub, 7, [], .null), (7, .imul, 8, [], .null), (8, .iload_n 3, 9, [], .null), (9, .iload_n 1, 10, [], .null), (10, .isub, 11, [], .null), (11, .iload 4, 13, [], .null), (13, .iload_n 0, 14, [], .null), (14, .isub, 15, [], .null), (15, .imul, 16, [], .null), (16, .isub, 17, [], .null), (17, .ireturn, 18, [], .null)])
noncomputable def kX12_turnOf : zM := (4, some .int, 2, [], [(0, .aload_n 0, 1, [], .null), (1, .iload_n 1, 2, [], .null), (2, .invokevirtual 79, 5, [147, 2, 1, 1, 12, 1249, 0], .null), (5, .aload_n 0, 6, [], .null), (6, .iload_n 1, 7, [], .null), (7, .invokevirtual 83, 10, [148, 2, 1, 1, 12, 1253, 0], .null), (10, .aload_n 0, 11, [], .null), (11, .iload_n 2, 12, [], .null), (12, .invokevirtual 79, 15, [147, 2, 1, 1, 12, 1249, 0], .null), (15, .aload_n 0, 16, [], .null), (16, .iload_n 2, 17, [], .null), (17, .invokevirtual 83, 20, [148, 2, 1, 1, 12, 1253, 0], .null), (20, .aload_n 0, 21, [], .null), (21, .iload_n 3, 22, [], .null), (22, .invokevirtual 79, 25, [147, 2, 1, 1, 12, 1249, 0], .null), (25, .aload_n 0, 26, [], .null), (26, .iload_n 3, 27, [], .null), (27, .invokevirtual 83, 30, [148, 2, 1, 1, 12, 1253, 0], .null), (30, .invokestatic 86, 33, [151, 6, 1, 1, 0, 1257, 0], .null), (33, .ifCond .le 7, 36, [40], .null), (36, .iconst 1, 37, [], .int (1)), (37, .goto 4, 40, [41], .null), (40, .iconst (-1), 41, [], .int (-1)), (41, .ireturn, 42, [], .null)])
noncomputable def kX12_isAhead : zM := (3, some .boolean, 2, [], [(0, .aload_n 0, 1, [], .null), (1, .iload_n 1, 2, [], .null), (2, .invokevirtual 79, 5, [147, 2, 1, 1, 12, 1249, 0], .null), (5, .aload_n 0, 6, [], .null), (6, .iload_n 2, 7, [], .null), (7, .invokevirtual 79, 10, [147, 2, 1, 1, 12, 1249, 0], .null), (10, .if_icmp .lt 29, 13, [39], .null), (13, .aload_n 0, 14, [], .null), (14, .iload_n 1, 15, [], .null), (15, .invokevirtual 79, 18, [147, 2, 1, 1, 12, 1249, 0], .null), (18, .aload_n 0, 19, [], .null), (19, .iload_n 2, 20, [], .null), (20, .invokevirtual 79, 23, [147, 2, 1, 1, 12, 1249, 0], .null), (23, .if_icmp .ne 20, 26, [43], .null), (26, .aload_n 0, 27, [], .null), (27, .iload_n 1, 28, [], .null), (28, .invokevirtual 83, 31, [148, 2, 1, 1, 12, 1253, 0], .null), (31, .aload_n 0, 32, [], .null), (32, .iload_n 2, 33, [], .null), (33, .invokevirtual 83, 36, [148, 2, 1, 1, 12, 1253, 0], .null), (36, .if_icmp .ge 7, 39, [43], .null), (39, .iconst 1, 40, [], .int (1)), (40, .goto 4, 43, [44], .null), (43, .iconst 0, 44, [], .int (0)), (44, .ireturn, 45, [], .null)])
noncomputable def kX12_isWithin : zM := (6, some .boolean, 3, [], [(0, .iload_n 1, 1, [], .null), (1, .iload_n 2, 2, [], .null), (2, .if_icmp .eq 14, 5, [16], .null), (5, .iload_n 1, 6, [], .null), (6, .iload_n 3, 7, [], .null), (7, .if_icmp .eq 9, 10, [16], .null), (10, .iload_n 1, 11, [], .null), (11, .iload 4, 13, [], .null), (13, .if_icmp .ne 5, 16, [18], .null), (16, .iconst 0, 17, [], .int (0)), (17, .ireturn, 18, [], .null), (18, .aload_n 0, 19, [], .null), (19, .iload_n 2, 20, [], .null), (20, .iload_n 3, 21, [], .null), (21, .iload 4, 23, [], .null), (23, .invokevirtual 90, 26, [152, 4, 1, 2, 12, 1293, 0], .null), (26, .istore 5, 28, [], .null), (28, .aload_n 0, 29, [], .null), (29, .iload_n 2, 30, [], .null), (30, .iload_n 3, 31, [], .null), (31, .iload_n 1, 32, [], .null), (32, .invokevirtual 90, 35, [152, 4, 1, 2, 12, 1293, 0], .null), (35, .iload 5, 37, [], .null), (37, .if_icmp .ne 33, 40, [70], .null), (40, .aload_n 0, 41, [], .null), (41, .iload_n 3, 42, [], .null), (42, .iload 4, 44, [], .null), (44, .iload_n 1, 45, [], .null), (45, .invokevirtual 90, 48, [152, 4, 1, 2, 12, 1293, 0], .null), (48, .iload 5, 50, [], .null), (50, .if_icmp .ne 20, 53, [70], .null), (53, .aload_n 0, 54, [], .null), (54, .iload 4, 56, [], .null), (56, .iload_n 2, 57, [], .null), (57, .iload_n 1, 58, [], .null), (58, .invokevirtual 90, 61, [152, 4, 1, 2, 12, 1293, 0], .null), (61, .iload 5, 63, [], .null), (63, .if_icmp .ne 7, 66, [70], .null), (66, .iconst 1, 67, [], .int (1)), (67, .goto 4, 70, [71], .null), (70, .iconst 0, 71, [], .int (0)), (71, .ireturn, 72, [], .null)])
noncomputable def kX12_edge : zM := (4, some .int, 1, [], [(0, .iload_n 0, 1, [], .null), (1, .iload_n 1, 2, [], .null), (2, .invokestatic 94, 5, [991, 1275], .null), (5, .istore_n 2, 6, [], .null), (6, .iload_n 0, 7, [], .null), (7, .iload_n 1, 8, [], .null), (8, .invokestatic 100, 11, [990, 1276], .null), (11, .istore_n 3, 12, [], .null), (12, .iload_n 2, 13, [], .null), (13, .bipush 17, 15, [], .int (17)), (15, .iload_n 2, 16, [], .null), (16, .isub, 17, [], .null), (17, .imul, 18, [], .null), (18, .iconst 2, 19, [], .int (2)), (19, .idiv, 20, [], .null), (20, .iload_n 3, 21, [], .null), (21, .iadd, 22, [], .null), (22, .iload_n 2, 23, [], .null), (23, .isub, 24, [], .null), (24, .iconst 1, 25, [], .int (1)), (25, .isub, 26, [], .null), (26, .ireturn, 27, [], .null)])
noncomputable def kX12_doCross : zM := (5, some .boolean, 3, [], [(0, .iload_n 1, 1, [], .null), (1, .iload_n 3, 2, [], .null), (2, .if_icmp .eq 20, 5, [22], .null), (5, .iload_n 1, 6, [], .null), (6, .iload 4, 8, [], .null), (8, .if_icmp .eq 14, 11, [22], .null), (11, .iload_n 2, 12, [], .null), (12, .iload_n 3, 13, [], .null), (13, .if_icmp .eq 9, 16, [22], .null), (16, .iload_n 2, 17, [], .null), (17, .iload 4, 19, [], .null), (19, .if_icmp .ne 5, 22, [24], .null), (22, .iconst 0, 23, [], .int (0)), (23, .ireturn, 24, [], .null), (24, .aload_n 0, 25, [], .null), (25, .iload_n 1, 26, [], .null), (26, .iload_n 2, 27, [], .null), (27, .iload_n 3, 28, [], .null), (28, .invokevirtual 90, 31, [152, 4, 1, 2, 12, 1293, 0], .null), (31, .aload_n 0, 32, [], .null), (32, .iload_n 1, 33, [], .null), (33, .iload_n 2, 34, [], .null), (34, .iload 4, 36, [], .null), (36, .invokevirtual 90, 39, [152, 4, 1, 2, 12, 1293, 0], .null), (39, .if_icmp .eq 26, 42, [65], .null), (42, .aload_n 0, 43, [], .null), (43, .iload_n 3, 44, [], .null), (44, .iload 4, 46, [], .null), (46, .iload_n 1, 47, [], .null), (47, .invokevirtual 90, 50, [152, 4, 1, 2, 12, 1293, 0], .null), (50, .aload_n 0, 51, [], .null), (51, .iload_n 3, 52, [], .null), (52, .iload 4, 54, [], .null), (54, .iload_n 2, 55, [], .null), (55, .invokevirtual 90, 58, [152, 4, 1, 2, 12, 1293, 0], .null), (58, .if_icmp .eq 7, 61, [65], .null), (61, .iconst 1, 62, [], .int (1)), (62, .goto 4, 65, [66], .null), (65, .iconst 0, 66, [], .int (0)), (66, .ireturn, 67, [], .null)])
noncomputable def kX12_first : zM := (3, some .int, 3, [(4, [0, 1, 2])], [(0, .iconst 0, 1, [], .int (0)), (1, .istore_n 1, 2, [], .null), (2, .iconst 1, 3, [], .int (1)), (3, .istore_n 2, 4, [], .null), (4, .iload_n 2, 5, [], .null), (5, .aload_n 0, 6, [], .null), (6, .invokevirtual 67, 9, [146, 1, 1, 1, 12, 1237, 0], .null), (9, .if_icmp .ge 24, 12, [33], .null), (12, .aload_n 0, 13, [], .null), (13, .iload_n 2, 14, [], .null), (14, .iload_n 1, 15, [], .null), (15, .invokevirtual 103, 18, [153, 3, 1, 2, 12, 1302, 0], .null), (18, .ifCond .eq 7, 21, [25], .null), (21, .iload_n 2, 22, [], .null), (22, .goto 4, 25, [26], .null), (25, .iload_n 1, 26, [], .null), (26, .istore_n 1, 27, [], .null), (27, .iinc 2 1, 30, [], .int (1)), (30, .goto (-26), 33, [4], .null), (33, .iload_n 1, 34, [], .null), (34, .ireturn, 35, [], .null)])
noncomputable def kX12_last : zM := (3, some .int, 3, [(4, [0, 1, 2])], [(0, .iconst 0, 1, [], .int (0)), (1, .istore_n 1, 2, [], .null), (2, .iconst 1, 3, [], .int (1)), (3, .istore_n 2, 4, [], .null), (4, .iload_n 2, 5, [], .null), (5, .aload_n 0, 6, [], .null), (6, .invokevirtual 67, 9, [146, 1, 1, 1, 12, 1237, 0], .null), (9, .if_icmp .ge 24, 12, [33], .null), (12, .aload_n 0, 13, [], .null), (13, .iload_n 1, 14, [], .null), (14, .iload_n 2, 15, [], .null), (15, .invokevirtual 103, 18, [153, 3, 1, 2, 12, 1302, 0], .null), (18, .ifCond .eq 7, 21, [25], .null), (21, .iload_n 2, 22, [], .null), (22, .goto 4, 25, [26], .null), (25, .iload_n 1, 26, [], .null), (26, .istore_n 1, 27, [], .null), (27, .iinc 2 1, 30, [], .int (1)), (30, .goto (-26), 33, [4], .null), (33, .iload_n 1, 34, [], .null), (34, .ireturn, 35, [], .null)])
noncomputable def kX12_isOfHull : zM := (5, some .boolean, 4, [(2, [0, 1, 2]), (14, [0, 1, 2, 3]), (27, [0, 1, 2, 3, 4])], [(0, .iconst 0, 1, [], .int (0)), (1, .istore_n 2, 2, [], .null), (2, .iload_n 2, 3, [], .null), (3, .aload_n 0, 4, [], .null), (4, .invokevirtual 67, 7, [146, 1, 1, 1, 12, 1237, 0], .null), (7, .if_icmp .ge 61, 10, [68], .null), (10, .iload_n 2, 11, [], .null), (11, .iconst 1, 12, [], .int (1)), (12, .iadd, 13, [], .null), (13, .istore_n 3, 14, [], .null), (14, .iload_n 3, 15, [], .null), (15, .aload_n 0, 16, [], .null), (16, .invokevirtual 67, 19, [146, 1, 1, 1, 12, 1237, 0], .null), (19, .if_icmp .ge 43, 22, [62], .null), (22, .iload_n 3, 23, [], .null), (23, .iconst 1, 24, [], .int (1)), (24, .iadd, 25, [], .null), (25, .istore 4, 27, [], .null), (27, .iload 4, 29, [], .null), (29, .aload_n 0, 30, [], .null), (30, .invokevirtual 67, 33, [146, 1, 1, 1, 12, 1237, 0], .null), (33, .if_icmp .ge 23, 36, [56], .null), (36, .aload_n 0, 37, [], .null), (37, .iload_n 1, 38, [], .null), (38, .iload_n 2, 39, [], .null), (39, .iload_n 3, 40, [], .null), (40, .iload 4, 42, [], .null), (42, .invokevirtual 107, 45, [154, 5, 1, 3, 12, 1310, 0], .null), (45, .ifCond .eq 5, 48, [50], .null), (48, .iconst 0, 49, [], .int (0)), (49, .ireturn, 50, [], .null), (50, .iinc 4 1, 53, [], .int (1)), (53, .goto (-26), 56, [27], .null), (56, .iinc 3 1, 59, [], .int (1)), (59, .goto (-45), 62, [14], .null), (62, .iinc 2 1, 65, [], .int (1)), (65, .goto (-63), 68, [2], .null), (68, .iconst 1, 69, [], .int (1)), (69, .ireturn, 70, [], .null)])
noncomputable def kX12_behind : zM := (5, some .int, 3, [(2, [0, 1, 2]), (24, [0, 1, 2, 3, 4]), (73, [0, 1, 2, 3])], [(0, .iconst 0, 1, [], .int (0)), (1, .istore_n 2, 2, [], .null), (2, .iload_n 2, 3, [], .null), (3, .aload_n 0, 4, [], .null), (4, .invokevirtual 67, 7, [146, 1, 1, 1, 12, 1237, 0], .null), (7, .if_icmp .ge 91, 10, [98], .null), (10, .iload_n 2, 11, [], .null), (11, .iload_n 1, 12, [], .null), (12, .if_icmp .eq 7, 15, [19], .null), (15, .iconst 1, 16, [], .int (1)), (16, .goto 4, 19, [20], .null), (19, .iconst 0, 20, [], .int (0)), (20, .istore_n 3, 21, [], .null), (21, .iconst 0, 22, [], .int (0)), (22, .istore 4, 24, [], .null), (24, .iload 4, 26, [], .null), (26, .aload_n 0, 27, [], .null), (27, .invokevirtual 67, 30, [146, 1, 1, 1, 12, 1237, 0], .null), (30, .if_icmp .ge 43, 33, [73], .null), (33, .iload_n 3, 34, [], .null), (34, .ifCond .eq 39, 37, [73], .null), (37, .iload 4, 39, [], .null), (39, .iload_n 1, 40, [], .null), (40, .if_icmp .eq 21, 43, [61], .null), (43, .iload 4, 45, [], .null), (45, .iload_n 2, 46, [], .null), (46, .if_icmp .eq 15, 49, [61], .null), (49, .aload_n 0, 50, [], .null), (50, .iload_n 1, 51, [], .null), (51, .iload_n 2, 52, [], .null), (52, .iload 4, 54, [], .null), (54, .invokevirtual 90, 57, [152, 4, 1, 2, 12, 1293, 0], .null), (57, .iconst 1, 58, [], .int (1)), (58, .if_icmp .ne 7, 61, [65], .null), (61, .iconst 1, 62, [], .int (1)), (62, .goto 4, 65, [66], .null), (65, .iconst 0, 66, [], .int (0)), (66, .istore_n 3, 67, [], .null), (67, .iinc 4 1, 70, [], .int (1)), (70, .goto (-46), 73, [24], .null), (73, .iload_n 3, 74, [], .null), (74, .ifCond .eq 18, 77, [92], .null), (77, .aload_n 0, 78, [], .null), (78, .invokevirtual 67, 81, [146, 1, 1, 1, 12, 1237, 0], .null), (81, .iconst 2, 82, [], .int (2)), (82, .if_icmp .gt 8, 85, [90], .null), (85, .iload_n 2, 86, [], .null), (86, .iload_n 1, 87, [], .null), (87, .if_icmp .eq 5, 90, [92], .null), (90, .iload_n 2, 91, [], .null), (91, .ireturn, 92, [], .null), (92, .iinc 2 1, 95, [], .int (1)), (95, .goto (-93), 98, [2], .null), (98, .iload_n 1, 99, [], .null), (99, .ireturn, 100, [], .null)])
noncomputable def kX12_findsHull : zM := (2, none, 4, [(18, [0, 1])], [(0, .aload_n 0, 1, [], .null), (1, .iconst 0, 2, [], .int (0)), (2, .putfield 111, 5, [12, 6, 1135], .null), (5, .aload_n 0, 6, [], .null), (6, .invokevirtual 67, 9, [146, 1, 1, 1, 12, 1237, 0], .null), (9, .ifCond .ne 4, 12, [13], .null), (12, .return_, 13, [], .null), (13, .aload_n 0, 14, [], .null), (14, .invokevirtual 114, 17, [157, 1, 1, 3, 12, 1343, 0], .null), (17, .istore_n 1, 18, [], .null), (18, .aload_n 0, 19, [], .null), (19, .getfield 25, 22, [12, 7, 1136], .null), (22, .aload_n 0, 23, [], .null), (23, .getfield 111, 26, [12, 6, 1135], .null), (26, .iload_n 1, 27, [], .null), (27, .iastore, 28, [], .null), (28, .aload_n 0, 29, [], .null), (29, .dup, 30, [], .null), (30, .getfield 111, 33, [12, 6, 1135], .null), (33, .iconst 1, 34, [], .int (1)), (34, .iadd, 35, [], .null), (35, .putfield 111, 38, [12, 6, 1135], .null), (38, .aload_n 0, 39, [], .null), (39, .iload_n 1, 40, [], .null), (40, .invokevirtual 117, 43, [160, 2, 1, 3, 12, 1347, 0], .null), (43, .istore_n 1, 44, [], .null), (44, .iload_n 1, 45, [], .null), (45, .aload_n 0, 46, [], .null), (46, .invokevirtual 114, 49, [157, 1, 1, 3, 12, 1343, 0], .null), (49, .if_icmp .eq 14, 52, [63], .null), (52, .aload_n 0, 53, [], .null), (53, .getfield 111, 56, [12, 6, 1135], .null), (56, .aload_n 0, 57, [], .null), (57, .invokevirtual 67, 60, [146, 1, 1, 1, 12, 1237, 0], .null), (60, .if_icmp .lt (-42), 63, [18], .null), (63, .return_, 64, [], .null)])
noncomputable def kX12_laysAside : zM := (2, none, 1, [(2, [0, 1])], [(0, .iconst 0, 1, [], .int (0)), (1, .istore_n 1, 2, [], .null), (2, .iload_n 1, 3, [], .null), (3, .bipush 72, 5, [], .int (72)), (5, .if_icmp .ge 21, 8, [26], .null), (8, .aload_n 0, 9, [], .null), (9, .getfield 28, 12, [12, 8, 1137], .null), (12, .iload_n 1, 13, [], .null), (13, .aload_n 0, 14, [], .null), (14, .getfield 9, 17, [12, 0, 1129], .null), (17, .iload_n 1, 18, [], .null), (18, .iaload, 19, [], .null), (19, .iastore, 20, [], .null), (20, .iinc 1 1, 23, [], .int (1)), (23, .goto (-21), 26, [2], .null), (26, .return_, 27, [], .null)])
noncomputable def kX12_laysBack : zM := (2, none, 1, [(2, [0, 1])], [(0, .iconst 0, 1, [], .int (0)), (1, .istore_n 1, 2, [], .null), (2, .iload_n 1, 3, [], .null), (3, .bipush 72, 5, [], .int (72)), (5, .if_icmp .ge 21, 8, [26], .null), (8, .aload_n 0, 9, [], .null), (9, .getfield 9, 12, [12, 0, 1129], .null), (12, .iload_n 1, 13, [], .null), (13, .aload_n 0, 14, [], .null), (14, .getfield 28, 17, [12, 8, 1137], .null), (17, .iload_n 1, 18, [], .null), (18, .iaload, 19, [], .null), (19, .iastore, 20, [], .null), (20, .iinc 1 1, 23, [], .int (1)), (23, .goto (-21), 26, [2], .null), (26, .return_, 27, [], .null)])
noncomputable def kX12_changes : zM := (3, none, 1, [(50, [0, 1, 2])], [(0, .aload_n 0, 1, [], .null), (1, .getfield 120, 4, [12, 2, 1131], .null), (4, .aload_n 0, 5, [], .null), (5, .getfield 122, 8, [12, 3, 1132], .null), (8, .iadd, 9, [], .null), (9, .bipush 40, 11, [], .int (40)), (11, .irem, 12, [], .null), (12, .istore_n 1, 13, [], .null), (13, .aload_n 0, 14, [], .null), (14, .getfield 122, 17, [12, 3, 1132], .null), (17, .bipush 40, 19, [], .int (40)), (19, .if_icmp .ne 19, 22, [38], .null), (22, .aload_n 0, 23, [], .null), (23, .aload_n 0, 24, [], .null), (24, .getfield 120, 27, [12, 2, 1131], .null), (27, .iconst 1, 28, [], .int (1)), (28, .iadd, 29, [], .null), (29, .bipush 40, 31, [], .int (40)), (31, .irem, 32, [], .null), (32, .putfield 120, 35, [12, 2, 1131], .null), (35, .goto 13, 38, [48], .null), (38, .aload_n 0, 39, [], .null), (39, .dup, 40, [], .null), (40, .getfield 122, 43, [12, 3, 1132], .null), (43, .iconst 1, 44, [], .int (1)), (44, .iadd, 45, [], .null), (45, .putfield 122, 48, [12, 3, 1132], .null), (48, .iconst 0, 49, [], .int (0)), (49, .istore_n 2, 50, [], .null), (50, .iload_n 2, 51, [], .null), (51, .bipush 72, 53, [], .int (72)), (53, .if_icmp .ge 23, 56, [76], .null), (56, .aload_n 0, 57, [], .null), (57, .getfield 15, 60, [12, 1, 1130], .null), (60, .iload_n 1, 61, [], .null), (61, .aaload, 62, [], .null), (62, .iload_n 2, 63, [], .null), (63, .aload_n 0, 64, [], .null), (64, .getfield 28, 67, [12, 8, 1137], .null), (67, .iload_n 2, 68, [], .null), (68, .iaload, 69, [], .null), (69, .iastore, 70, [], .null), (70, .iinc 2 1, 73, [], .int (1)), (73, .goto (-23), 76, [50], .null), (76, .aload_n 0, 77, [], .null), (77, .iconst 0, 78, [], .int (0)), (78, .putfield 125, 81, [12, 15, 1144], .null), (81, .return_, 82, [], .null)])
noncomputable def kX12_isFree : zM := (4, some .boolean, 2, [(2, [0, 1, 2]), (47, [0, 1, 2, 3])], [(0, .iconst 0, 1, [], .int (0)), (1, .istore_n 2, 2, [], .null), (2, .iload_n 2, 3, [], .null), (3, .aload_n 0, 4, [], .null), (4, .invokevirtual 67, 7, [146, 1, 1, 1, 12, 1237, 0], .null), (7, .if_icmp .ge 108, 10, [115], .null), (10, .iload_n 2, 11, [], .null), (11, .iload_n 1, 12, [], .null), (12, .if_icmp .eq 31, 15, [43], .null), (15, .aload_n 0, 16, [], .null), (16, .iload_n 2, 17, [], .null), (17, .invokevirtual 79, 20, [147, 2, 1, 1, 12, 1249, 0], .null), (20, .aload_n 0, 21, [], .null), (21, .iload_n 1, 22, [], .null), (22, .invokevirtual 79, 25, [147, 2, 1, 1, 12, 1249, 0], .null), (25, .if_icmp .ne 18, 28, [43], .null), (28, .aload_n 0, 29, [], .null), (29, .iload_n 2, 30, [], .null), (30, .invokevirtual 83, 33, [148, 2, 1, 1, 12, 1253, 0], .null), (33, .aload_n 0, 34, [], .null), (34, .iload_n 1, 35, [], .null), (35, .invokevirtual 83, 38, [148, 2, 1, 1, 12, 1253, 0], .null), (38, .if_icmp .ne 5, 41, [43], .null), (41, .iconst 0, 42, [], .int (0)), (42, .ireturn, 43, [], .null), (43, .iload_n 2, 44, [], .null), (44, .iconst 1, 45, [], .int (1)), (45, .iadd, 46, [], .null), (46, .istore_n 3, 47, [], .null), (47, .iload_n 3, 48, [], .null), (48, .aload_n 0, 49, [], .null), (49, .invokevirtual 67, 52, [146, 1, 1, 1, 12, 1237, 0], .null), (52, .if_icmp .ge 57, 55, [109], .null), (55, .iload_n 2, 56, [], .null), (56, .iload_n 1, 57, [], .null), (57, .if_icmp .eq 46, 60, [103], .null), (60, .iload_n 3, 61, [], .null), (61, .iload_n 1, 62, [], .null), (62, .if_icmp .eq 41, 65, [103], .null), (65, .aload_n 0, 66, [], .null), (66, .iload_n 2, 67, [], .null), (67, .invokevirtual 79, 70, [147, 2, 1, 1, 12, 1249, 0], .null), (70, .aload_n 0, 71, [], .null), (71, .iload_n 2, 72, [], .null), (72, .invokevirtual 83, 75, [148, 2, 1, 1, 12, 1253, 0], .null), (75, .aload_n 0, 76, [], .null), (76, .iload_n 3, 77, [], .null), (77, .invokevirtual 79, 80, [147, 2, 1, 1, 12, 1249, 0], .null), (80, .aload_n 0, 81, [], .null), (81, .iload_n 3, 82, [], .null), (82, .invokevirtual 83, 85, [148, 2, 1, 1, 12, 1253, 0], .null), (85, .aload_n 0, 86, [], .null), (86, .iload_n 1, 87, [], .null), (87, .invokevirtual 79, 90, [147, 2, 1, 1, 12, 1249, 0], .null), (90, .aload_n 0, 91, [], .null), (91, .iload_n 1, 92, [], .null), (92, .invokevirtual 83, 95, [148, 2, 1, 1, 12, 1253, 0], .null), (95, .invokestatic 86, 98, [151, 6, 1, 1, 0, 1257, 0], .null), (98, .ifCond .ne 5, 101, [103], .null), (101, .iconst 0, 102, [], .int (0)), (102, .ireturn, 103, [], .null), (103, .iinc 3 1, 106, [], .int (1)), (106, .goto (-59), 109, [47], .null), (109, .iinc 2 1, 112, [], .int (1)), (112, .goto (-110), 115, [2], .null), (115, .iconst 1, 116, [], .int (1)), (116, .ireturn, 117, [], .null)])
noncomputable def kX12_doMustsCross : zM := (5, some .boolean, 4, [(2, [0, 1]), (14, [0, 1, 2]), (24, [0, 1, 2, 3]), (37, [0, 1, 2, 3, 4])], [(0, .iconst 0, 1, [], .int (0)), (1, .istore_n 1, 2, [], .null), (2, .iload_n 1, 3, [], .null), (3, .aload_n 0, 4, [], .null), (4, .invokevirtual 67, 7, [146, 1, 1, 1, 12, 1237, 0], .null), (7, .if_icmp .ge 112, 10, [119], .null), (10, .iload_n 1, 11, [], .null), (11, .iconst 1, 12, [], .int (1)), (12, .iadd, 13, [], .null), (13, .istore_n 2, 14, [], .null), (14, .iload_n 2, 15, [], .null), (15, .aload_n 0, 16, [], .null), (16, .invokevirtual 67, 19, [146, 1, 1, 1, 12, 1237, 0], .null), (19, .if_icmp .ge 94, 22, [113], .null), (22, .iconst 0, 23, [], .int (0)), (23, .istore_n 3, 24, [], .null), (24, .iload_n 3, 25, [], .null), (25, .aload_n 0, 26, [], .null), (26, .invokevirtual 67, 29, [146, 1, 1, 1, 12, 1237, 0], .null), (29, .if_icmp .ge 78, 32, [107], .null), (32, .iload_n 3, 33, [], .null), (33, .iconst 1, 34, [], .int (1)), (34, .iadd, 35, [], .null), (35, .istore 4, 37, [], .null), (37, .iload 4, 39, [], .null), (39, .aload_n 0, 40, [], .null), (40, .invokevirtual 67, 43, [146, 1, 1, 1, 12, 1237, 0], .null), (43, .if_icmp .ge 58, 46, [101], .null), (46, .aload_n 0, 47, [], .null), (47, .getfield 9, 50, [12, 0, 1129], .null), (50, .bipush 20, 52, [], .int (20)), (52, .iload_n 1, 53, [], .null), (53, .iload_n 2, 54, [], .null), (54, .invokestatic 129, 57, [155, 2, 1, 1, 0, 1272, 0], .null), (57, .iadd, 58, [], .null), (58, .iaload, 59, [], .null), (59, .iconst 1, 60, [], .int (1)), (60, .if_icmp .ne 35, 63, [95], .null), (63, .aload_n 0, 64, [], .null), (64, .getfield 9, 67, [12, 0, 1129], .null), (67, .bipush 20, 69, [], .int (20)), (69, .iload_n 3, 70, [], .null), (70, .iload 4, 72, [], .null), (72, .invokestatic 129, 75, [155, 2, 1, 1, 0, 1272, 0], .null), (75, .iadd, 76, [], .null), (76, .iaload, 77, [], .null), (77, .iconst 1, 78, [], .int (1)), (78, .if_icmp .ne 17, 81, [95], .null), (81, .aload_n 0, 82, [], .null), (82, .iload_n 1, 83, [], .null), (83, .iload_n 2, 84, [], .null), (84, .iload_n 3, 85, [], .null), (85, .iload 4, 87, [], .null), (87, .invokevirtual 132, 90, [156, 5, 1, 3, 12, 1289, 0], .null), (90, .ifCond .eq 5, 93, [95], .null), (93, .iconst 1, 94, [], .int (1)), (94, .ireturn, 95, [], .null), (95, .iinc 4 1, 98, [], .int (1)), (98, .goto (-61), 101, [37], .null), (101, .iinc 3 1, 104, [], .int (1)), (104, .goto (-80), 107, [24], .null), (107, .iinc 2 1, 110, [], .int (1)), (110, .goto (-96), 113, [14], .null), (113, .iinc 1 1, 116, [], .int (1)), (116, .goto (-114), 119, [2], .null), (119, .iconst 0, 120, [], .int (0)), (120, .ireturn, 121, [], .null)])
noncomputable def kX12_isPlace : zM := (2, some .boolean, 2, [], [(0, .iload_n 0, 1, [], .null), (1, .i2l, 2, [], .null), (2, .ldc2_w 135, 5, [1227], .long (-99)), (5, .ldc2_w 137, 8, [1228], .long (99)), (8, .invokestatic 71, 11, [145, 3, 1, 1, 0, 1229, 0], .null), (11, .ifCond .eq 21, 14, [32], .null), (14, .iload_n 1, 15, [], .null), (15, .i2l, 16, [], .null), (16, .ldc2_w 135, 19, [1227], .long (-99)), (19, .ldc2_w 137, 22, [1228], .long (99)), (22, .invokestatic 71, 25, [145, 3, 1, 1, 0, 1229, 0], .null), (25, .ifCond .eq 7, 28, [32], .null), (28, .iconst 1, 29, [], .int (1)), (29, .goto 4, 32, [33], .null), (32, .iconst 0, 33, [], .int (0)), (33, .ireturn, 34, [], .null)])
noncomputable def kX12_place : zM := (3, some .int, 3, [], [(0, .iload_n 1, 1, [], .null), (1, .iload_n 2, 2, [], .null), (2, .invokestatic 139, 5, [167, 2, 1, 2, 0, 1224, 0], .null), (5, .ifCond .ne 9, 8, [14], .null), (8, .aload_n 0, 9, [], .null), (9, .iconst 0, 10, [], .int (0)), (10, .invokevirtual 142, 13, [143, 2, 1, 1, 12, 1232, 0], .null), (13, .ireturn, 14, [], .null), (14, .aload_n 0, 15, [], .null), (15, .invokevirtual 67, 18, [146, 1, 1, 1, 12, 1237, 0], .null), (18, .bipush 9, 20, [], .int (9)), (20, .if_icmp .ne 9, 23, [29], .null), (23, .aload_n 0, 24, [], .null), (24, .iconst 1, 25, [], .int (1)), (25, .invokevirtual 142, 28, [143, 2, 1, 1, 12, 1232, 0], .null), (28, .ireturn, 29, [], .null), (29, .aload_n 0, 30, [], .null), (30, .invokevirtual 145, 33, [162, 1, 0, 1, 12, 1241, 0], .null), (33, .aload_n 0, 34, [], .null), (34, .getfield 9, 37, [12, 0, 1129], .null), (37, .iconst 2, 38, [], .int (2)), (38, .iconst 2, 39, [], .int (2)), (39, .aload_n 0, 40, [], .null), (40, .invokevirtual 67, 43, [146, 1, 1, 1, 12, 1237, 0], .null), (43, .imul, 44, [], .null), (44, .iadd, 45, [], .null), (45, .iload_n 1, 46, [], .null), (46, .iastore, 47, [], .null), (47, .aload_n 0, 48, [], .null), (48, .getfield 9, 51, [12, 0, 1129], .null), (51, .iconst 2, 52, [], .int (2)), (52, .iconst 2, 53, [], .int (2)), (53, .aload_n 0, 54, [], .null), (54, .invokevirtual 67, 57, [146, 1, 1, 1, 12, 1237, 0], .null), (57, .imul, 58, [], .null), (58, .iadd, 59, [], .null), (59, .iconst 1, 60, [], .int (1)), (60, .iadd, 61, [], .null), (61, .iload_n 2, 62, [], .null), (62, .iastore, 63, [], .null), (63, .aload_n 0, 64, [], .null), (64, .getfield 9, 67, [12, 0, 1129], .null), (67, .iconst 0, 68, [], .int (0)), (68, .dup2, 69, [], .null), (69, .iaload, 70, [], .null), (70, .iconst 1, 71, [], .int (1)), (71, .iadd, 72, [], .null), (72, .iastore, 73, [], .null), (73, .aload_n 0, 74, [], .null), (74, .aload_n 0, 75, [], .null), (75, .invokevirtual 67, 78, [146, 1, 1, 1, 12, 1237, 0], .null), (78, .iconst 1, 79, [], .int (1)), (79, .isub, 80, [], .null), (80, .invokevirtual 148, 83, [165, 2, 1, 2, 12, 1245, 0], .null), (83, .ifCond .ne 13, 86, [96], .null), (86, .aload_n 0, 87, [], .null), (87, .invokevirtual 152, 90, [163, 1, 0, 1, 12, 1260, 0], .null), (90, .aload_n 0, 91, [], .null), (91, .iconst 4, 92, [], .int (4)), (92, .invokevirtual 142, 95, [143, 2, 1, 1, 12, 1232, 0], .null), (95, .ireturn, 96, [], .null), (96, .aload_n 0, 97, [], .null), (97, .invokevirtual 155, 100, [164, 1, 0, 1, 12, 1264, 0], .null), (100, .aload_n 0, 101, [], .null), (101, .invokevirtual 67, 104, [146, 1, 1, 1, 12, 1237, 0], .null), (104, .iconst 1, 105, [], .int (1)), (105, .isub, 106, [], .null), (106, .ireturn, 107, [], .null)])
noncomputable def kX12_drop : zM := (2, some .int, 2, [(29, [0, 1])], [(0, .aload_n 0, 1, [], .null), (1, .invokevirtual 67, 4, [146, 1, 1, 1, 12, 1237, 0], .null), (4, .ifCond .ne 9, 7, [13], .null), (7, .aload_n 0, 8, [], .null), (8, .iconst 3, 9, [], .int (3)), (9, .invokevirtual 142, 12, [143, 2, 1, 1, 12, 1232, 0], .null), (12, .ireturn, 13, [], .null), (13, .aload_n 0, 14, [], .null), (14, .invokevirtual 145, 17, [162, 1, 0, 1, 12, 1241, 0], .null), (17, .aload_n 0, 18, [], .null), (18, .getfield 9, 21, [12, 0, 1129], .null), (21, .iconst 0, 22, [], .int (0)), (22, .dup2, 23, [], .null), (23, .iaload, 24, [], .null), (24, .iconst 1, 25, [], .int (1)), (25, .isub, 26, [], .null), (26, .iastore, 27, [], .null), (27, .iconst 0, 28, [], .int (0)), (28, .istore_n 1, 29, [], .null), (29, .iload_n 1, 30, [], .null), (30, .aload_n 0, 31, [], .null), (31, .invokevirtual 67, 34, [146, 1, 1, 1, 12, 1237, 0], .null), (34, .if_icmp .ge 26, 37, [60], .null), (37, .aload_n 0, 38, [], .null), (38, .getfield 9, 41, [12, 0, 1129], .null), (41, .bipush 20, 43, [], .int (20)), (43, .iload_n 1, 44, [], .null), (44, .aload_n 0, 45, [], .null), (45, .invokevirtual 67, 48, [146, 1, 1, 1, 12, 1237, 0], .null), (48, .invokestatic 129, 51, [155, 2, 1, 1, 0, 1272, 0], .null), (51, .iadd, 52, [], .null), (52, .iconst 0, 53, [], .int (0)), (53, .iastore, 54, [], .null), (54, .iinc 1 1, 57, [], .int (1)), (57, .goto (-28), 60, [29], .null), (60, .aload_n 0, 61, [], .null), (61, .invokevirtual 155, 64, [164, 1, 0, 1, 12, 1264, 0], .null), (64, .aload_n 0, 65, [], .null), (65, .invokevirtual 67, 68, [146, 1, 1, 1, 12, 1237, 0], .null), (68, .ireturn, 69, [], .null)])
noncomputable def kX12_move : zM := (4, some .int, 5, [], [(0, .aload_n 0, 1, [], .null), (1, .iload_n 1, 2, [], .null), (2, .i2l, 3, [], .null), (3, .invokevirtual 75, 6, [149, 2, 1, 2, 12, 1281, 0], .null), (6, .ifCond .eq 11, 9, [17], .null), (9, .iload_n 2, 10, [], .null), (10, .iload_n 3, 11, [], .null), (11, .invokestatic 139, 14, [167, 2, 1, 2, 0, 1224, 0], .null), (14, .ifCond .ne 9, 17, [23], .null), (17, .aload_n 0, 18, [], .null), (18, .iconst 0, 19, [], .int (0)), (19, .invokevirtual 142, 22, [143, 2, 1, 1, 12, 1232, 0], .null), (22, .ireturn, 23, [], .null), (23, .aload_n 0, 24, [], .null), (24, .invokevirtual 145, 27, [162, 1, 0, 1, 12, 1241, 0], .null), (27, .aload_n 0, 28, [], .null), (28, .getfield 9, 31, [12, 0, 1129], .null), (31, .iconst 2, 32, [], .int (2)), (32, .iconst 2, 33, [], .int (2)), (33, .iload_n 1, 34, [], .null), (34, .imul, 35, [], .null), (35, .iadd, 36, [], .null), (36, .iload_n 2, 37, [], .null), (37, .iastore, 38, [], .null), (38, .aload_n 0, 39, [], .null), (39, .getfield 9, 42, [12, 0, 1129], .null), (42, .iconst 2, 43, [], .int (2)), (43, .iconst 2, 44, [], .int (2)), (44, .iload_n 1, 45, [], .null), (45, .imul, 46, [], .null), (46, .iadd, 47, [], .null), (47, .iconst 1, 48, [], .int (1)), (48, .iadd, 49, [], .null), (49, .iload_n 3, 50, [], .null), (50, .iastore, 51, [], .null), (51, .aload_n 0, 52, [], .null), (52, .iload_n 1, 53, [], .null), (53, .invokevirtual 148, 56, [165, 2, 1, 2, 12, 1245, 0], .null), (56, .ifCond .eq 10, 59, [66], .null), (59, .aload_n 0, 60, [], .null), (60, .invokevirtual 158, 63, [166, 1, 1, 4, 12, 1285, 0], .null), (63, .ifCond .eq 13, 66, [76], .null), (66, .aload_n 0, 67, [], .null), (67, .invokevirtual 152, 70, [163, 1, 0, 1, 12, 1260, 0], .null), (70, .aload_n 0, 71, [], .null), (71, .iconst 4, 72, [], .int (4)), (72, .invokevirtual 142, 75, [143, 2, 1, 1, 12, 1232, 0], .null), (75, .ireturn, 76, [], .null), (76, .aload_n 0, 77, [], .null), (77, .invokevirtual 155, 80, [164, 1, 0, 1, 12, 1264, 0], .null), (80, .iconst 1, 81, [], .int (1)), (81, .ireturn, 82, [], .null)])
noncomputable def kX12_at : zM := (5, some .int, 5, [(32, [0, 1, 2, 3, 4])], [(0, .aload_n 0, 1, [], .null), (1, .iload_n 1, 2, [], .null), (2, .i2l, 3, [], .null), (3, .invokevirtual 75, 6, [149, 2, 1, 2, 12, 1281, 0], .null), (6, .ifCond .eq 15, 9, [21], .null), (9, .iload_n 2, 10, [], .null), (10, .i2l, 11, [], .null), (11, .lconst 0, 12, [], .long (0)), (12, .ldc2_w 162, 15, [1301], .long (3)), (15, .invokestatic 71, 18, [145, 3, 1, 1, 0, 1229, 0], .null), (18, .ifCond .ne 9, 21, [27], .null), (21, .aload_n 0, 22, [], .null), (22, .iconst 0, 23, [], .int (0)), (23, .invokevirtual 142, 26, [143, 2, 1, 1, 12, 1232, 0], .null), (26, .ireturn, 27, [], .null), (27, .iconst 0, 28, [], .int (0)), (28, .istore_n 3, 29, [], .null), (29, .iconst 0, 30, [], .int (0)), (30, .istore 4, 32, [], .null), (32, .iload 4, 34, [], .null), (34, .aload_n 0, 35, [], .null), (35, .invokevirtual 67, 38, [146, 1, 1, 1, 12, 1237, 0], .null), (38, .if_icmp .ge 33, 41, [71], .null), (41, .iload_n 3, 42, [], .null), (42, .iload 4, 44, [], .null), (44, .iload_n 1, 45, [], .null), (45, .if_icmp .eq 17, 48, [62], .null), (48, .aload_n 0, 49, [], .null), (49, .iload 4, 51, [], .null), (51, .iload_n 1, 52, [], .null), (52, .invokevirtual 103, 55, [153, 3, 1, 2, 12, 1302, 0], .null), (55, .ifCond .eq 7, 58, [62], .null), (58, .iconst 1, 59, [], .int (1)), (59, .goto 4, 62, [63], .null), (62, .iconst 0, 63, [], .int (0)), (63, .iadd, 64, [], .null), (64, .istore_n 3, 65, [], .null), (65, .iinc 4 1, 68, [], .int (1)), (68, .goto (-36), 71, [32], .null), (71, .iload_n 2, 72, [], .null), (72, .ifCond .ne 11, 75, [83], .null), (75, .aload_n 0, 76, [], .null), (76, .iload_n 1, 77, [], .null), (77, .invokevirtual 79, 80, [147, 2, 1, 1, 12, 1249, 0], .null), (80, .goto 38, 83, [118], .null), (83, .iload_n 2, 84, [], .null), (84, .iconst 1, 85, [], .int (1)), (85, .if_icmp .ne 11, 88, [96], .null), (88, .aload_n 0, 89, [], .null), (89, .iload_n 1, 90, [], .null), (90, .invokevirtual 83, 93, [148, 2, 1, 1, 12, 1253, 0], .null), (93, .goto 25, 96, [118], .null), (96, .iload_n 2, 97, [], .null), (97, .iconst 2, 98, [], .int (2)), (98, .if_icmp .ne 7, 101, [105], .null), (101, .iload_n 3, 102, [], .null), (102, .goto 16, 105, [118], .null), (105, .aload_n 0, 106, [], .null), (106, .iload_n 1, 107, [], .null), (107, .invokevirtual 164, 110, [159, 2, 1, 4, 12, 1306, 0], .null), (110, .ifCond .eq 7, 113, [117], .null), (113, .iconst 1, 114, [], .int (1)), (114, .goto 4, 117, [118], .null), (117, .iconst 0, 118, [], .int (0)), (118, .ireturn, 119, [], .null)])
noncomputable def kX12_mark : zM := (5, some .int, 5, [], [(0, .aload_n 0, 1, [], .null), (1, .iload_n 1, 2, [], .null), (2, .iload_n 2, 3, [], .null), (3, .invokevirtual 167, 6, [150, 3, 1, 3, 12, 1318, 0], .null), (6, .ifCond .eq 15, 9, [21], .null), (9, .iload_n 3, 10, [], .null), (10, .i2l, 11, [], .null), (11, .lconst 0, 12, [], .long (0)), (12, .ldc2_w 170, 15, [1322], .long (2)), (15, .invokestatic 71, 18, [145, 3, 1, 1, 0, 1229, 0], .null), (18, .ifCond .ne 9, 21, [27], .null), (21, .aload_n 0, 22, [], .null), (22, .iconst 0, 23, [], .int (0)), (23, .invokevirtual 142, 26, [143, 2, 1, 1, 12, 1232, 0], .null), (26, .ireturn, 27, [], .null), (27, .aload_n 0, 28, [], .null), (28, .invokevirtual 145, 31, [162, 1, 0, 1, 12, 1241, 0], .null), (31, .aload_n 0, 32, [], .null), (32, .getfield 9, 35, [12, 0, 1129], .null), (35, .bipush 20, 37, [], .int (20)), (37, .iload_n 1, 38, [], .null), (38, .iload_n 2, 39, [], .null), (39, .invokestatic 129, 42, [155, 2, 1, 1, 0, 1272, 0], .null), (42, .iadd, 43, [], .null), (43, .iaload, 44, [], .null), (44, .istore 4, 46, [], .null), (46, .aload_n 0, 47, [], .null), (47, .getfield 9, 50, [12, 0, 1129], .null), (50, .bipush 20, 52, [], .int (20)), (52, .iload_n 1, 53, [], .null), (53, .iload_n 2, 54, [], .null), (54, .invokestatic 129, 57, [155, 2, 1, 1, 0, 1272, 0], .null), (57, .iadd, 58, [], .null), (58, .iload_n 3, 59, [], .null), (59, .iastore, 60, [], .null), (60, .iload_n 3, 61, [], .null), (61, .iconst 1, 62, [], .int (1)), (62, .if_icmp .ne 20, 65, [82], .null), (65, .aload_n 0, 66, [], .null), (66, .invokevirtual 158, 69, [166, 1, 1, 4, 12, 1285, 0], .null), (69, .ifCond .eq 13, 72, [82], .null), (72, .aload_n 0, 73, [], .null), (73, .invokevirtual 152, 76, [163, 1, 0, 1, 12, 1260, 0], .null), (76, .aload_n 0, 77, [], .null), (77, .iconst 4, 78, [], .int (4)), (78, .invokevirtual 142, 81, [143, 2, 1, 1, 12, 1232, 0], .null), (81, .ireturn, 82, [], .null), (82, .aload_n 0, 83, [], .null), (83, .invokevirtual 155, 86, [164, 1, 0, 1, 12, 1264, 0], .null), (86, .iload 4, 88, [], .null), (88, .ireturn, 89, [], .null)])
noncomputable def kX12_markOf : zM := (3, some .int, 4, [], [(0, .aload_n 0, 1, [], .null), (1, .iload_n 1, 2, [], .null), (2, .iload_n 2, 3, [], .null), (3, .invokevirtual 167, 6, [150, 3, 1, 3, 12, 1318, 0], .null), (6, .ifCond .eq 19, 9, [25], .null), (9, .aload_n 0, 10, [], .null), (10, .getfield 9, 13, [12, 0, 1129], .null), (13, .bipush 20, 15, [], .int (20)), (15, .iload_n 1, 16, [], .null), (16, .iload_n 2, 17, [], .null), (17, .invokestatic 129, 20, [155, 2, 1, 1, 0, 1272, 0], .null), (20, .iadd, 21, [], .null), (21, .iaload, 22, [], .null), (22, .goto 8, 25, [30], .null), (25, .aload_n 0, 26, [], .null), (26, .iconst 0, 27, [], .int (0)), (27, .invokevirtual 142, 30, [143, 2, 1, 1, 12, 1232, 0], .null), (30, .ireturn, 31, [], .null)])
noncomputable def kX12_turn : zM := (4, some .int, 4, [], [(0, .aload_n 0, 1, [], .null), (1, .iload_n 1, 2, [], .null), (2, .iload_n 2, 3, [], .null), (3, .invokevirtual 167, 6, [150, 3, 1, 3, 12, 1318, 0], .null), (6, .ifCond .eq 27, 9, [33], .null), (9, .aload_n 0, 10, [], .null), (10, .iload_n 1, 11, [], .null), (11, .iload_n 3, 12, [], .null), (12, .invokevirtual 167, 15, [150, 3, 1, 3, 12, 1318, 0], .null), (15, .ifCond .eq 18, 18, [33], .null), (18, .iload_n 2, 19, [], .null), (19, .iload_n 3, 20, [], .null), (20, .if_icmp .eq 13, 23, [33], .null), (23, .aload_n 0, 24, [], .null), (24, .iload_n 1, 25, [], .null), (25, .iload_n 2, 26, [], .null), (26, .iload_n 3, 27, [], .null), (27, .invokevirtual 90, 30, [152, 4, 1, 2, 12, 1293, 0], .null), (30, .goto 8, 33, [38], .null), (33, .aload_n 0, 34, [], .null), (34, .iconst 0, 35, [], .int (0)), (35, .invokevirtual 142, 38, [143, 2, 1, 1, 12, 1232, 0], .null), (38, .ireturn, 39, [], .null)])
noncomputable def kX12_crosses : zM := (5, some .int, 4, [], [(0, .aload_n 0, 1, [], .null), (1, .iload_n 1, 2, [], .null), (2, .iload_n 2, 3, [], .null), (3, .invokevirtual 167, 6, [150, 3, 1, 3, 12, 1318, 0], .null), (6, .ifCond .eq 13, 9, [19], .null), (9, .aload_n 0, 10, [], .null), (10, .iload_n 3, 11, [], .null), (11, .iload 4, 13, [], .null), (13, .invokevirtual 167, 16, [150, 3, 1, 3, 12, 1318, 0], .null), (16, .ifCond .ne 9, 19, [25], .null), (19, .aload_n 0, 20, [], .null), (20, .iconst 0, 21, [], .int (0)), (21, .invokevirtual 142, 24, [143, 2, 1, 1, 12, 1232, 0], .null), (24, .ireturn, 25, [], .null), (25, .aload_n 0, 26, [], .null), (26, .iload_n 1, 27, [], .null), (27, .iload_n 2, 28, [], .null), (28, .iload_n 3, 29, [], .null), (29, .iload 4, 31, [], .null), (31, .invokevirtual 132, 34, [156, 5, 1, 3, 12, 1289, 0], .null), (34, .ifCond .eq 7, 37, [41], .null), (37, .iconst 1, 38, [], .int (1)), (38, .goto 4, 41, [42], .null), (41, .iconst 0, 42, [], .int (0)), (42, .ireturn, 43, [], .null)])
noncomputable def kX12_hull : zM := (2, some .int, 5, [], [(0, .aload_n 0, 1, [], .null), (1, .invokevirtual 172, 4, [161, 1, 0, 4, 12, 1339, 0], .null), (4, .iload_n 1, 5, [], .null), (5, .iconst (-1), 6, [], .int (-1)), (6, .if_icmp .ne 8, 9, [14], .null), (9, .aload_n 0, 10, [], .null), (10, .getfield 111, 13, [12, 6, 1135], .null), (13, .ireturn, 14, [], .null), (14, .iload_n 1, 15, [], .null), (15, .i2l, 16, [], .null), (16, .lconst 0, 17, [], .long (0)), (17, .aload_n 0, 18, [], .null), (18, .getfield 111, 21, [12, 6, 1135], .null), (21, .iconst 1, 22, [], .int (1)), (22, .isub, 23, [], .null), (23, .i2l, 24, [], .null), (24, .invokestatic 71, 27, [145, 3, 1, 1, 0, 1229, 0], .null), (27, .ifCond .eq 12, 30, [39], .null), (30, .aload_n 0, 31, [], .null), (31, .getfield 25, 34, [12, 7, 1136], .null), (34, .iload_n 1, 35, [], .null), (35, .iaload, 36, [], .null), (36, .goto 8, 39, [44], .null), (39, .aload_n 0, 40, [], .null), (40, .iconst 3, 41, [], .int (3)), (41, .invokevirtual 142, 44, [143, 2, 1, 1, 12, 1232, 0], .null), (44, .ireturn, 45, [], .null)])
noncomputable def kX12_has : zM := (3, some .boolean, 1, [], [(0, .lload_n 0, 1, [], .null), (1, .iload_n 2, 2, [], .null), (2, .lshr, 3, [], .null), (3, .lconst 1, 4, [], .long (1)), (4, .land, 5, [], .null), (5, .lconst 1, 6, [], .long (1)), (6, .lcmp, 7, [], .null), (7, .ifCond .ne 7, 10, [14], .null), (10, .iconst 1, 11, [], .int (1)), (11, .goto 4, 14, [15], .null), (14, .iconst 0, 15, [], .int (0)), (15, .ireturn, 16, [], .null)])
noncomputable def kX12_readsCrossings : zM := (7, none, 4, [(2, [0, 1]), (14, [0, 1, 2]), (27, [0, 1, 2, 3, 5]), (42, [0, 1, 2, 3, 5, 6])], [(0, .iconst 0, 1, [], .int (0)), (1, .istore_n 1, 2, [], .null), (2, .iload_n 1, 3, [], .null), (3, .aload_n 0, 4, [], .null), (4, .invokevirtual 67, 7, [146, 1, 1, 1, 12, 1237, 0], .null), (7, .if_icmp .ge 108, 10, [115], .null), (10, .iload_n 1, 11, [], .null), (11, .iconst 1, 12, [], .int (1)), (12, .iadd, 13, [], .null), (13, .istore_n 2, 14, [], .null), (14, .iload_n 2, 15, [], .null), (15, .aload_n 0, 16, [], .null), (16, .invokevirtual 67, 19, [146, 1, 1, 1, 12, 1237, 0], .null), (19, .if_icmp .ge 90, 22, [109], .null), (22, .lconst 0, 23, [], .long (0)), (23, .lstore_n 3, 24, [], .null), (24, .iconst 0, 25, [], .int (0)), (25, .istore 5, 27, [], .null), (27, .iload 5, 29, [], .null), (29, .aload_n 0, 30, [], .null), (30, .invokevirtual 67, 33, [146, 1, 1, 1, 12, 1237, 0], .null), (33, .if_icmp .ge 59, 36, [92], .null), (36, .iload 5, 38, [], .null), (38, .iconst 1, 39, [], .int (1)), (39, .iadd, 40, [], .null), (40, .istore 6, 42, [], .null), (42, .iload 6, 44, [], .null), (44, .aload_n 0, 45, [], .null), (45, .invokevirtual 67, 48, [146, 1, 1, 1, 12, 1237, 0], .null), (48, .if_icmp .ge 38, 51, [86], .null), (51, .lload_n 3, 52, [], .null), (52, .aload_n 0, 53, [], .null), (53, .iload_n 1, 54, [], .null), (54, .iload_n 2, 55, [], .null), (55, .iload 5, 57, [], .null), (57, .iload 6, 59, [], .null), (59, .invokevirtual 132, 62, [156, 5, 1, 3, 12, 1289, 0], .null), (62, .ifCond .eq 15, 65, [77], .null), (65, .lconst 1, 66, [], .long (1)), (66, .iload 5, 68, [], .null), (68, .iload 6, 70, [], .null), (70, .invokestatic 129, 73, [155, 2, 1, 1, 0, 1272, 0], .null), (73, .lshl, 74, [], .null), (74, .goto 4, 77, [78], .null), (77, .lconst 0, 78, [], .long (0)), (78, .lor, 79, [], .null), (79, .lstore_n 3, 80, [], .null), (80, .iinc 6 1, 83, [], .int (1)), (83, .goto (-41), 86, [42], .null), (86, .iinc 5 1, 89, [], .int (1)), (89, .goto (-62), 92, [27], .null), (92, .aload_n 0, 93, [], .null), (93, .getfield 31, 96, [12, 9, 1138], .null), (96, .iload_n 1, 97, [], .null), (97, .iload_n 2, 98, [], .null), (98, .invokestatic 129, 101, [155, 2, 1, 1, 0, 1272, 0], .null), (101, .lload_n 3, 102, [], .null), (102, .lastore, 103, [], .null), (103, .iinc 2 1, 106, [], .int (1)), (106, .goto (-92), 109, [14], .null), (109, .iinc 1 1, 112, [], .int (1)), (112, .goto (-110), 115, [2], .null), (115, .return_, 116, [], .null)])
noncomputable def kX12_mayEnd : zM := (7, some .boolean, 2, [(6, [0, 1, 3, 4, 6]), (69, [0, 1, 4, 6])], [(0, .lconst 0, 1, [], .long (0)), (1, .lstore 4, 3, [], .null), (3, .iconst 0, 4, [], .int (0)), (4, .istore 6, 6, [], .null), (6, .iload 6, 8, [], .null), (8, .iload_n 3, 9, [], .null), (9, .if_icmp .ge 57, 12, [66], .null), (12, .lload 4, 14, [], .null), (14, .aload_n 0, 15, [], .null), (15, .getfield 175, 18, [12, 10, 1139], .null), (18, .aload_n 0, 19, [], .null), (19, .getfield 179, 22, [12, 12, 1141], .null), (22, .ldc2_w 182, 25, [1371], .long (-1)), (25, .lxor, 26, [], .null), (26, .land, 27, [], .null), (27, .iload 6, 29, [], .null), (29, .invokestatic 184, 32, [177, 2, 1, 1, 0, 1372, 0], .null), (32, .ifCond .eq 24, 35, [56], .null), (35, .aload_n 0, 36, [], .null), (36, .getfield 31, 39, [12, 9, 1138], .null), (39, .iload 6, 41, [], .null), (41, .laload, 42, [], .null), (42, .lload_n 1, 43, [], .null), (43, .land, 44, [], .null), (44, .lconst 0, 45, [], .long (0)), (45, .lcmp, 46, [], .null), (46, .ifCond .ne 10, 49, [56], .null), (49, .lconst 1, 50, [], .long (1)), (50, .iload 6, 52, [], .null), (52, .lshl, 53, [], .null), (53, .goto 4, 56, [57], .null), (56, .lconst 0, 57, [], .long (0)), (57, .lor, 58, [], .null), (58, .lstore 4, 60, [], .null), (60, .iinc 6 1, 63, [], .int (1)), (63, .goto (-57), 66, [6], .null), (66, .iload_n 3, 67, [], .null), (67, .istore 6, 69, [], .null), (69, .iload 6, 71, [], .null), (71, .bipush 36, 73, [], .int (36)), (73, .if_icmp .ge 46, 76, [119], .null), (76, .aload_n 0, 77, [], .null), (77, .getfield 175, 80, [12, 10, 1139], .null), (80, .lload_n 1, 81, [], .null), (81, .ldc2_w 182, 84, [1371], .long (-1)), (84, .lxor, 85, [], .null), (85, .land, 86, [], .null), (86, .iload 6, 88, [], .null), (88, .invokestatic 184, 91, [177, 2, 1, 1, 0, 1372, 0], .null), (91, .ifCond .eq 22, 94, [113], .null), (94, .aload_n 0, 95, [], .null), (95, .getfield 31, 98, [12, 9, 1138], .null), (98, .iload 6, 100, [], .null), (100, .laload, 101, [], .null), (101, .lload_n 1, 102, [], .null), (102, .lload 4, 104, [], .null), (104, .lor, 105, [], .null), (105, .land, 106, [], .null), (106, .lconst 0, 107, [], .long (0)), (107, .lcmp, 108, [], .null), (108, .ifCond .ne 5, 111, [113], .null), (111, .iconst 0, 112, [], .int (0)), (112, .ireturn, 113, [], .null), (113, .iinc 6 1, 116, [], .int (1)), (116, .goto (-47), 119, [69], .null), (119, .iconst 1, 120, [], .int (1)), (120, .ireturn, 121, [], .null)])
noncomputable def kX12_lists : zM := (5, none, 3, [], [(0, .aload_n 0, 1, [], .null), (1, .lload_n 1, 2, [], .null), (2, .iload_n 3, 3, [], .null), (3, .invokevirtual 188, 6, [179, 3, 1, 2, 12, 1367, 0], .null), (6, .ifCond .ne 4, 9, [10], .null), (9, .return_, 10, [], .null), (10, .iload_n 3, 11, [], .null), (11, .ifCond .ne 24, 14, [35], .null), (14, .aload_n 0, 15, [], .null), (15, .getfield 35, 18, [12, 13, 1142], .null), (18, .aload_n 0, 19, [], .null), (19, .getfield 191, 22, [12, 14, 1143], .null), (22, .lload_n 1, 23, [], .null), (23, .lastore, 24, [], .null), (24, .aload_n 0, 25, [], .null), (25, .dup, 26, [], .null), (26, .getfield 191, 29, [12, 14, 1143], .null), (29, .iconst 1, 30, [], .int (1)), (30, .iadd, 31, [], .null), (31, .putfield 191, 34, [12, 14, 1143], .null), (34, .return_, 35, [], .null), (35, .iload_n 3, 36, [], .null), (36, .iconst 1, 37, [], .int (1)), (37, .isub, 38, [], .null), (38, .istore 4, 40, [], .null), (40, .aload_n 0, 41, [], .null), (41, .getfield 175, 44, [12, 10, 1139], .null), (44, .iload 4, 46, [], .null), (46, .invokestatic 184, 49, [177, 2, 1, 1, 0, 1372, 0], .null), (49, .ifCond .ne 11, 52, [60], .null), (52, .aload_n 0, 53, [], .null), (53, .lload_n 1, 54, [], .null), (54, .iload 4, 56, [], .null), (56, .invokevirtual 194, 59, [180, 3, 0, 3, 12, 1363, 0], .null), (59, .return_, 60, [], .null), (60, .aload_n 0, 61, [], .null), (61, .getfield 198, 64, [12, 11, 1140], .null), (64, .iload 4, 66, [], .null), (66, .invokestatic 184, 69, [177, 2, 1, 1, 0, 1372, 0], .null), (69, .ifCond .ne 10, 72, [79], .null), (72, .aload_n 0, 73, [], .null), (73, .lload_n 1, 74, [], .null), (74, .iload 4, 76, [], .null), (76, .invokevirtual 194, 79, [180, 3, 0, 3, 12, 1363, 0], .null), (79, .aload_n 0, 80, [], .null), (80, .getfield 179, 83, [12, 12, 1141], .null), (83, .iload 4, 85, [], .null), (85, .invokestatic 184, 88, [177, 2, 1, 1, 0, 1372, 0], .null), (88, .ifCond .ne 29, 91, [117], .null), (91, .aload_n 0, 92, [], .null), (92, .getfield 31, 95, [12, 9, 1138], .null), (95, .iload 4, 97, [], .null), (97, .laload, 98, [], .null), (98, .lload_n 1, 99, [], .null), (99, .land, 100, [], .null), (100, .lconst 0, 101, [], .long (0)), (101, .lcmp, 102, [], .null), (102, .ifCond .ne 15, 105, [117], .null), (105, .aload_n 0, 106, [], .null), (106, .lload_n 1, 107, [], .null), (107, .lconst 1, 108, [], .long (1)), (108, .iload 4, 110, [], .null), (110, .lshl, 111, [], .null), (111, .lor, 112, [], .null), (112, .iload 4, 114, [], .null), (114, .invokevirtual 194, 117, [180, 3, 0, 3, 12, 1363, 0], .null), (117, .return_, 118, [], .null)])
noncomputable def kX12_listsNets : zM := (3, none, 40, [(48, [0, 1]), (60, [0, 1, 2])], [(0, .aload_n 0, 1, [], .null), (1, .getfield 125, 4, [12, 15, 1144], .null), (4, .ifCond .eq 4, 7, [8], .null), (7, .return_, 8, [], .null), (8, .aload_n 0, 9, [], .null), (9, .iconst 1, 10, [], .int (1)), (10, .putfield 125, 13, [12, 15, 1144], .null), (13, .aload_n 0, 14, [], .null), (14, .iconst 0, 15, [], .int (0)), (15, .putfield 191, 18, [12, 14, 1143], .null), (18, .aload_n 0, 19, [], .null), (19, .invokevirtual 67, 22, [146, 1, 1, 1, 12, 1237, 0], .null), (22, .iconst 3, 23, [], .int (3)), (23, .if_icmp .ge 4, 26, [27], .null), (26, .return_, 27, [], .null), (27, .aload_n 0, 28, [], .null), (28, .invokevirtual 201, 31, [178, 1, 0, 4, 12, 1359, 0], .null), (31, .aload_n 0, 32, [], .null), (32, .lconst 0, 33, [], .long (0)), (33, .putfield 175, 36, [12, 10, 1139], .null), (36, .aload_n 0, 37, [], .null), (37, .lconst 0, 38, [], .long (0)), (38, .putfield 198, 41, [12, 11, 1140], .null), (41, .aload_n 0, 42, [], .null), (42, .lconst 0, 43, [], .long (0)), (43, .putfield 179, 46, [12, 12, 1141], .null), (46, .iconst 0, 47, [], .int (0)), (47, .istore_n 1, 48, [], .null), (48, .iload_n 1, 49, [], .null), (49, .aload_n 0, 50, [], .null), (50, .invokevirtual 67, 53, [146, 1, 1, 1, 12, 1237, 0], .null), (53, .if_icmp .ge 117, 56, [170], .null), (56, .iload_n 1, 57, [], .null), (57, .iconst 1, 58, [], .int (1)), (58, .iadd, 59, [], .null), (59, .istore_n 2, 60, [], .null), (60, .iload_n 2, 61, [], .null), (61, .aload_n 0, 62, [], .null), (62, .invokevirtual 67, 65, [146, 1, 1, 1, 12, 1237, 0], .null), (65, .if_icmp .ge 99, 68, [164], .null), (68, .aload_n 0, 69, [], .null), (69, .dup, 70, [], .null), (70, .getfield 175, 73, [12, 10, 1139], .null), (73, .lconst 1, 74, [], .long (1)), (74, .iload_n 1, 75, [], .null), (75, .iload_n 2, 76, [], .null), (76, .invokestatic 129, 79, [155, 2, 1, 1, 0, 1272, 0], .null), (79, .lshl, 80, [], .null), (80, .lor, 81, [], .null), (81, .putfield 175, 84, [12, 10, 1139], .null), (84, .aload_n 0, 85, [], .null), (85, .dup, 86, [], .null), (86, .getfield 198, 89, [12, 11, 1140], .null), (89, .aload_n 0, 90, [], .null), (90, .getfield 9, 93, [12, 0, 1129], .null), (93, .bipush 20, 95, [], .int (20)), (95, .iload_n 1, 96, [], .null), (96, .iload_n 2, 97, [], .null), (97, .invokestatic 129, 100, [155, 2, 1, 1, 0, 1272, 0], .null), (100, .iadd, 101, [], .null), (101, .iaload, 102, [], .null), (102, .iconst 1, 103, [], .int (1)), (103, .if_icmp .ne 13, 106, [116], .null), (106, .lconst 1, 107, [], .long (1)), (107, .iload_n 1, 108, [], .null), (108, .iload_n 2, 109, [], .null), (109, .invokestatic 129, 112, [155, 2, 1, 1, 0, 1272, 0], .null), (112, .lshl, 113, [], .null), (113, .goto 4, 116, [117], .null), (116, .lconst 0, 117, [], .long (0)), (117, .lor, 118, [], .null), (118, .putfield 198, 121, [12, 11, 1140], .null), (121, .aload_n 0, 122, [], .null), (122, .dup, 123, [], .null), (123, .getfield 179, 126, [12, 12, 1141], .null), (126, .aload_n 0, 127, [], .null), (127, .getfield 9, 130, [12, 0, 1129], .null), (130, .bipush 20, 132, [], .int (20)), (132, .iload_n 1, 133, [], .null), (133, .iload_n 2, 134, [], .null), (134, .invokestatic 129, 137, [155, 2, 1, 1, 0, 1272, 0], .null), (137, .iadd, 138, [], .null), (138, .iaload, 139, [], .null), (139, .iconst 2, 140, [], .int (2)), (140, .if_icmp .ne 13, 143, [153], .null), (143, .lconst 1, 144, [], .long (1)), (144, .iload_n 1, 145, [], .null), (145, .iload_n 2, 146, [], .null), (146, .invokestatic 129, 149, [155, 2, 1, 1, 0, 1272, 0], .null), (149, .lshl, 150, [], .null), (150, .goto 4, 153, [154], .null), (153, .lconst 0, 154, [], .long (0)), (154, .lor, 155, [], .null), (155, .putfield 179, 158, [12, 12, 1141], .null), (158, .iinc 2 1, 161, [], .int (1)), (161, .goto (-101), 164, [60], .null), (164, .iinc 1 1, 167, [], .int (1)), (167, .goto (-119), 170, [48], .null), (170, .aload_n 0, 171, [], .null), (171, .lconst 0, 172, [], .long (0)), (172, .bipush 36, 174, [], .int (36)), (174, .invokevirtual 194, 177, [180, 3, 0, 3, 12, 1363, 0], .null), (177, .return_, 178, [], .null)])
noncomputable def kX12_numberOf : zM := (6, some .int, 1, [(10, [0, 1, 3, 4])], [(0, .iconst 0, 1, [], .int (0)), (1, .istore_n 3, 2, [], .null), (2, .aload_n 0, 3, [], .null), (3, .getfield 191, 6, [12, 14, 1143], .null), (6, .iconst 1, 7, [], .int (1)), (7, .isub, 8, [], .null), (8, .istore 4, 10, [], .null), (10, .iload_n 3, 11, [], .null), (11, .iload 4, 13, [], .null), (13, .if_icmp .ge 38, 16, [51], .null), (16, .iload_n 3, 17, [], .null), (17, .iload 4, 19, [], .null), (19, .iadd, 20, [], .null), (20, .iconst 2, 21, [], .int (2)), (21, .idiv, 22, [], .null), (22, .istore 5, 24, [], .null), (24, .aload_n 0, 25, [], .null), (25, .getfield 35, 28, [12, 13, 1142], .null), (28, .iload 5, 30, [], .null), (30, .laload, 31, [], .null), (31, .lload_n 1, 32, [], .null), (32, .lcmp, 33, [], .null), (33, .ifCond .ge 11, 36, [44], .null), (36, .iload 5, 38, [], .null), (38, .iconst 1, 39, [], .int (1)), (39, .iadd, 40, [], .null), (40, .istore_n 3, 41, [], .null), (41, .goto 7, 44, [48], .null), (44, .iload 5, 46, [], .null), (46, .istore 4, 48, [], .null), (48, .goto (-38), 51, [10], .null), (51, .aload_n 0, 52, [], .null), (52, .getfield 191, 55, [12, 14, 1143], .null), (55, .ifCond .le 18, 58, [73], .null), (58, .aload_n 0, 59, [], .null), (59, .getfield 35, 62, [12, 13, 1142], .null), (62, .iload_n 3, 63, [], .null), (63, .laload, 64, [], .null), (64, .lload_n 1, 65, [], .null), (65, .lcmp, 66, [], .null), (66, .ifCond .ne 7, 69, [73], .null), (69, .iload_n 3, 70, [], .null), (70, .goto 4, 73, [74], .null), (73, .iconst (-1), 74, [], .int (-1)), (74, .ireturn, 75, [], .null)])
noncomputable def kX12_isNet : zM := (2, some .boolean, 41, [], [(0, .aload_n 0, 1, [], .null), (1, .invokevirtual 204, 4, [181, 1, 0, 40, 12, 1355, 0], .null), (4, .iload_n 1, 5, [], .null), (5, .i2l, 6, [], .null), (6, .lconst 0, 7, [], .long (0)), (7, .aload_n 0, 8, [], .null), (8, .getfield 191, 11, [12, 14, 1143], .null), (11, .iconst 1, 12, [], .int (1)), (12, .isub, 13, [], .null), (13, .i2l, 14, [], .null), (14, .invokestatic 71, 17, [145, 3, 1, 1, 0, 1229, 0], .null), (17, .ireturn, 18, [], .null)])
noncomputable def kX12_nets : zM := (1, some .int, 41, [], [(0, .aload_n 0, 1, [], .null), (1, .invokevirtual 204, 4, [181, 1, 0, 40, 12, 1355, 0], .null), (4, .aload_n 0, 5, [], .null), (5, .getfield 191, 8, [12, 14, 1143], .null), (8, .ireturn, 9, [], .null)])
noncomputable def kX12_net : zM := (2, some .long, 42, [], [(0, .aload_n 0, 1, [], .null), (1, .iload_n 1, 2, [], .null), (2, .invokevirtual 207, 5, [183, 2, 1, 41, 12, 1379, 0], .null), (5, .ifCond .eq 12, 8, [17], .null), (8, .aload_n 0, 9, [], .null), (9, .getfield 35, 12, [12, 13, 1142], .null), (12, .iload_n 1, 13, [], .null), (13, .laload, 14, [], .null), (14, .goto 8, 17, [22], .null), (17, .aload_n 0, 18, [], .null), (18, .iconst 3, 19, [], .int (3)), (19, .invokevirtual 210, 22, [144, 2, 2, 1, 12, 1383, 0], .null), (22, .lreturn, 23, [], .null)])
noncomputable def kX12_rank : zM := (4, some .int, 41, [], [(0, .aload_n 0, 1, [], .null), (1, .invokevirtual 204, 4, [181, 1, 0, 40, 12, 1355, 0], .null), (4, .aload_n 0, 5, [], .null), (5, .lload_n 1, 6, [], .null), (6, .invokevirtual 214, 9, [182, 2, 1, 1, 12, 1392, 0], .null), (9, .istore_n 3, 10, [], .null), (10, .iload_n 3, 11, [], .null), (11, .ifCond .ge 11, 14, [22], .null), (14, .aload_n 0, 15, [], .null), (15, .iconst 3, 16, [], .int (3)), (16, .invokevirtual 142, 19, [143, 2, 1, 1, 12, 1232, 0], .null), (19, .goto 4, 22, [23], .null), (22, .iload_n 3, 23, [], .null), (23, .ireturn, 24, [], .null)])
noncomputable def kX12_with : zM := (5, some .int, 41, [(24, [0, 1, 2, 3, 4])], [(0, .aload_n 0, 1, [], .null), (1, .iload_n 1, 2, [], .null), (2, .iload_n 2, 3, [], .null), (3, .invokevirtual 167, 6, [150, 3, 1, 3, 12, 1318, 0], .null), (6, .ifCond .ne 9, 9, [15], .null), (9, .aload_n 0, 10, [], .null), (10, .iconst 0, 11, [], .int (0)), (11, .invokevirtual 142, 14, [143, 2, 1, 1, 12, 1232, 0], .null), (14, .ireturn, 15, [], .null), (15, .aload_n 0, 16, [], .null), (16, .invokevirtual 204, 19, [181, 1, 0, 40, 12, 1355, 0], .null), (19, .iconst 0, 20, [], .int (0)), (20, .istore_n 3, 21, [], .null), (21, .iconst 0, 22, [], .int (0)), (22, .istore 4, 24, [], .null), (24, .iload 4, 26, [], .null), (26, .aload_n 0, 27, [], .null), (27, .getfield 191, 30, [12, 14, 1143], .null), (30, .if_icmp .ge 35, 33, [65], .null), (33, .iload_n 3, 34, [], .null), (34, .aload_n 0, 35, [], .null), (35, .getfield 35, 38, [12, 13, 1142], .null), (38, .iload 4, 40, [], .null), (40, .laload, 41, [], .null), (41, .iload_n 1, 42, [], .null), (42, .iload_n 2, 43, [], .null), (43, .invokestatic 129, 46, [155, 2, 1, 1, 0, 1272, 0], .null), (46, .invokestatic 184, 49, [177, 2, 1, 1, 0, 1372, 0], .null), (49, .ifCond .eq 7, 52, [56], .null), (52, .iconst 1, 53, [], .int (1)), (53, .goto 4, 56, [57], .null), (56, .iconst 0, 57, [], .int (0)), (57, .iadd, 58, [], .null), (58, .istore_n 3, 59, [], .null), (59, .iinc 4 1, 62, [], .int (1)), (62, .goto (-38), 65, [24], .null), (65, .iload_n 3, 66, [], .null), (66, .ireturn, 67, [], .null)])
noncomputable def kX12_always : zM := (5, some .long, 41, [(43, [0, 1, 2, 4])], [(0, .iload_n 1, 1, [], .null), (1, .i2l, 2, [], .null), (2, .lconst 0, 3, [], .long (0)), (3, .lconst 1, 4, [], .long (1)), (4, .invokestatic 71, 7, [145, 3, 1, 1, 0, 1229, 0], .null), (7, .ifCond .ne 9, 10, [16], .null), (10, .aload_n 0, 11, [], .null), (11, .iconst 0, 12, [], .int (0)), (12, .invokevirtual 210, 15, [144, 2, 2, 1, 12, 1383, 0], .null), (15, .lreturn, 16, [], .null), (16, .aload_n 0, 17, [], .null), (17, .invokevirtual 204, 20, [181, 1, 0, 40, 12, 1355, 0], .null), (20, .aload_n 0, 21, [], .null), (21, .getfield 191, 24, [12, 14, 1143], .null), (24, .ifCond .ne 9, 27, [33], .null), (27, .aload_n 0, 28, [], .null), (28, .iconst 3, 29, [], .int (3)), (29, .invokevirtual 210, 32, [144, 2, 2, 1, 12, 1383, 0], .null), (32, .lreturn, 33, [], .null), (33, .aload_n 0, 34, [], .null), (34, .getfield 35, 37, [12, 13, 1142], .null), (37, .iconst 0, 38, [], .int (0)), (38, .laload, 39, [], .null), (39, .lstore_n 2, 40, [], .null), (40, .iconst 1, 41, [], .int (1)), (41, .istore 4, 43, [], .null), (43, .iload 4, 45, [], .null), (45, .aload_n 0, 46, [], .null), (46, .getfield 191, 49, [12, 14, 1143], .null), (49, .if_icmp .ge 35, 52, [84], .null), (52, .iload_n 1, 53, [], .null), (53, .ifCond .ne 15, 56, [68], .null), (56, .lload_n 2, 57, [], .null), (57, .aload_n 0, 58, [], .null), (58, .getfield 35, 61, [12, 13, 1142], .null), (61, .iload 4, 63, [], .null), (63, .laload, 64, [], .null), (64, .land, 65, [], .null), (65, .goto 12, 68, [77], .null), (68, .lload_n 2, 69, [], .null), (69, .aload_n 0, 70, [], .null), (70, .getfield 35, 73, [12, 13, 1142], .null), (73, .iload 4, 75, [], .null), (75, .laload, 76, [], .null), (76, .lor, 77, [], .null), (77, .lstore_n 2, 78, [], .null), (78, .iinc 4 1, 81, [], .int (1)), (81, .goto (-38), 84, [43], .null), (84, .lload_n 2, 85, [], .null), (85, .lreturn, 86, [], .null)])
noncomputable def kX12_drawn : zM := (1, some .int, 1, [], [(0, .aload_n 0, 1, [], .null), (1, .aload_n 0, 2, [], .null), (2, .getfield 18, 5, [12, 4, 1133], .null), (5, .ldc 218, 7, [1412], .int (1103515245)), (7, .imul, 8, [], .null), (8, .sipush 12345, 11, [], .int (12345)), (11, .iadd, 12, [], .null), (12, .putfield 18, 15, [12, 4, 1133], .null), (15, .aload_n 0, 16, [], .null), (16, .getfield 18, 19, [12, 4, 1133], .null), (19, .bipush 8, 21, [], .int (8)), (21, .iushr, 22, [], .null), (22, .ireturn, 23, [], .null)])
noncomputable def kX12_draw : zM := (1, some .int, 41, [], [(0, .aload_n 0, 1, [], .null), (1, .invokevirtual 204, 4, [181, 1, 0, 40, 12, 1355, 0], .null), (4, .aload_n 0, 5, [], .null), (5, .getfield 191, 8, [12, 14, 1143], .null), (8, .ifCond .ne 11, 11, [19], .null), (11, .aload_n 0, 12, [], .null), (12, .iconst 3, 13, [], .int (3)), (13, .invokevirtual 142, 16, [143, 2, 1, 1, 12, 1232, 0], .null), (16, .goto 12, 19, [28], .null), (19, .aload_n 0, 20, [], .null), (20, .invokevirtual 219, 23, [189, 1, 1, 1, 12, 1408, 0], .null), (23, .aload_n 0, 24, [], .null), (24, .getfield 191, 27, [12, 14, 1143], .null), (27, .irem, 28, [], .null), (28, .ireturn, 29, [], .null)])
noncomputable def kX12_isTriangle : zM := (7, some .boolean, 4, [(45, [0, 3, 4, 5, 6])], [(0, .lload_n 1, 1, [], .null), (1, .iload_n 3, 2, [], .null), (2, .iload 4, 4, [], .null), (4, .invokestatic 129, 7, [155, 2, 1, 1, 0, 1272, 0], .null), (7, .invokestatic 184, 10, [177, 2, 1, 1, 0, 1372, 0], .null), (10, .ifCond .eq 30, 13, [40], .null), (13, .lload_n 1, 14, [], .null), (14, .iload_n 3, 15, [], .null), (15, .iload 5, 17, [], .null), (17, .invokestatic 129, 20, [155, 2, 1, 1, 0, 1272, 0], .null), (20, .invokestatic 184, 23, [177, 2, 1, 1, 0, 1372, 0], .null), (23, .ifCond .eq 17, 26, [40], .null), (26, .lload_n 1, 27, [], .null), (27, .iload 4, 29, [], .null), (29, .iload 5, 31, [], .null), (31, .invokestatic 129, 34, [155, 2, 1, 1, 0, 1272, 0], .null), (34, .invokestatic 184, 37, [177, 2, 1, 1, 0, 1372, 0], .null), (37, .ifCond .ne 5, 40, [42], .null), (40, .iconst 0, 41, [], .int (0)), (41, .ireturn, 42, [], .null), (42, .iconst 0, 43, [], .int (0)), (43, .istore 6, 45, [], .null), (45, .iload 6, 47, [], .null), (47, .aload_n 0, 48, [], .null), (48, .invokevirtual 67, 51, [146, 1, 1, 1, 12, 1237, 0], .null), (51, .if_icmp .ge 25, 54, [76], .null), (54, .aload_n 0, 55, [], .null), (55, .iload 6, 57, [], .null), (57, .iload_n 3, 58, [], .null), (58, .iload 4, 60, [], .null), (60, .iload 5, 62, [], .null), (62, .invokevirtual 107, 65, [154, 5, 1, 3, 12, 1310, 0], .null), (65, .ifCond .eq 5, 68, [70], .null), (68, .iconst 0, 69, [], .int (0)), (69, .ireturn, 70, [], .null), (70, .iinc 6 1, 73, [], .int (1)), (73, .goto (-28), 76, [45], .null), (76, .iconst 1, 77, [], .int (1)), (77, .ireturn, 78, [], .null)])
noncomputable def kX12_fan : zM := (6, some .int, 42, [(34, [0, 1, 2, 3, 4]), (49, [0, 1, 2, 3, 4, 5])], [(0, .aload_n 0, 1, [], .null), (1, .iload_n 2, 2, [], .null), (2, .i2l, 3, [], .null), (3, .invokevirtual 75, 6, [149, 2, 1, 2, 12, 1281, 0], .null), (6, .ifCond .ne 9, 9, [15], .null), (9, .aload_n 0, 10, [], .null), (10, .iconst 0, 11, [], .int (0)), (11, .invokevirtual 142, 14, [143, 2, 1, 1, 12, 1232, 0], .null), (14, .ireturn, 15, [], .null), (15, .aload_n 0, 16, [], .null), (16, .iload_n 1, 17, [], .null), (17, .invokevirtual 207, 20, [183, 2, 1, 41, 12, 1379, 0], .null), (20, .ifCond .ne 9, 23, [29], .null), (23, .aload_n 0, 24, [], .null), (24, .iconst 3, 25, [], .int (3)), (25, .invokevirtual 142, 28, [143, 2, 1, 1, 12, 1232, 0], .null), (28, .ireturn, 29, [], .null), (29, .iconst 0, 30, [], .int (0)), (30, .istore_n 3, 31, [], .null), (31, .iconst 0, 32, [], .int (0)), (32, .istore 4, 34, [], .null), (34, .iload 4, 36, [], .null), (36, .aload_n 0, 37, [], .null), (37, .invokevirtual 67, 40, [146, 1, 1, 1, 12, 1237, 0], .null), (40, .if_icmp .ge 68, 43, [108], .null), (43, .iload 4, 45, [], .null), (45, .iconst 1, 46, [], .int (1)), (46, .iadd, 47, [], .null), (47, .istore 5, 49, [], .null), (49, .iload 5, 51, [], .null), (51, .aload_n 0, 52, [], .null), (52, .invokevirtual 67, 55, [146, 1, 1, 1, 12, 1237, 0], .null), (55, .if_icmp .ge 47, 58, [102], .null), (58, .iload_n 3, 59, [], .null), (59, .iload 4, 61, [], .null), (61, .iload_n 2, 62, [], .null), (62, .if_icmp .eq 31, 65, [93], .null), (65, .iload 5, 67, [], .null), (67, .iload_n 2, 68, [], .null), (68, .if_icmp .eq 25, 71, [93], .null), (71, .aload_n 0, 72, [], .null), (72, .aload_n 0, 73, [], .null), (73, .getfield 35, 76, [12, 13, 1142], .null), (76, .iload_n 1, 77, [], .null), (77, .laload, 78, [], .null), (78, .iload_n 2, 79, [], .null), (79, .iload 4, 81, [], .null), (81, .iload 5, 83, [], .null), (83, .invokevirtual 222, 86, [191, 5, 1, 4, 12, 1417, 0], .null), (86, .ifCond .eq 7, 89, [93], .null), (89, .iconst 1, 90, [], .int (1)), (90, .goto 4, 93, [94], .null), (93, .iconst 0, 94, [], .int (0)), (94, .iadd, 95, [], .null), (95, .istore_n 3, 96, [], .null), (96, .iinc 5 1, 99, [], .int (1)), (99, .goto (-50), 102, [49], .null), (102, .iinc 4 1, 105, [], .int (1)), (105, .goto (-71), 108, [34], .null), (108, .iload_n 3, 109, [], .null), (109, .ireturn, 110, [], .null)])
noncomputable def kX12_flipped : zM := (6, some .int, 5, [(22, [0, 1, 2, 3, 4]), (69, [0, 1, 2, 3, 4, 5])], [(0, .aload_n 0, 1, [], .null), (1, .getfield 35, 4, [12, 13, 1142], .null), (4, .iload_n 1, 5, [], .null), (5, .laload, 6, [], .null), (6, .iload_n 2, 7, [], .null), (7, .iload_n 3, 8, [], .null), (8, .invokestatic 129, 11, [155, 2, 1, 1, 0, 1272, 0], .null), (11, .invokestatic 184, 14, [177, 2, 1, 1, 0, 1372, 0], .null), (14, .ifCond .ne 5, 17, [19], .null), (17, .iconst (-1), 18, [], .int (-1)), (18, .ireturn, 19, [], .null), (19, .iconst 0, 20, [], .int (0)), (20, .istore 4, 22, [], .null), (22, .iload 4, 24, [], .null), (24, .aload_n 0, 25, [], .null), (25, .invokevirtual 67, 28, [146, 1, 1, 1, 12, 1237, 0], .null), (28, .if_icmp .ge 140, 31, [168], .null), (31, .iload 4, 33, [], .null), (33, .iload_n 2, 34, [], .null), (34, .if_icmp .eq 128, 37, [162], .null), (37, .iload 4, 39, [], .null), (39, .iload_n 3, 40, [], .null), (40, .if_icmp .eq 122, 43, [162], .null), (43, .aload_n 0, 44, [], .null), (44, .aload_n 0, 45, [], .null), (45, .getfield 35, 48, [12, 13, 1142], .null), (48, .iload_n 1, 49, [], .null), (49, .laload, 50, [], .null), (50, .iload_n 2, 51, [], .null), (51, .iload_n 3, 52, [], .null), (52, .iload 4, 54, [], .null), (54, .invokevirtual 222, 57, [191, 5, 1, 4, 12, 1417, 0], .null), (57, .ifCond .ne 6, 60, [63], .null), (60, .goto 102, 63, [162], .null), (63, .iload 4, 65, [], .null), (65, .iconst 1, 66, [], .int (1)), (66, .iadd, 67, [], .null), (67, .istore 5, 69, [], .null), (69, .iload 5, 71, [], .null), (71, .aload_n 0, 72, [], .null), (72, .invokevirtual 67, 75, [146, 1, 1, 1, 12, 1237, 0], .null), (75, .if_icmp .ge 87, 78, [162], .null), (78, .iload 5, 80, [], .null), (80, .iload_n 2, 81, [], .null), (81, .if_icmp .eq 75, 84, [156], .null), (84, .iload 5, 86, [], .null), (86, .iload_n 3, 87, [], .null), (87, .if_icmp .eq 69, 90, [156], .null), (90, .aload_n 0, 91, [], .null), (91, .aload_n 0, 92, [], .null), (92, .getfield 35, 95, [12, 13, 1142], .null), (95, .iload_n 1, 96, [], .null), (96, .laload, 97, [], .null), (97, .iload_n 2, 98, [], .null), (98, .iload_n 3, 99, [], .null), (99, .iload 5, 101, [], .null), (101, .invokevirtual 222, 104, [191, 5, 1, 4, 12, 1417, 0], .null), (104, .ifCond .eq 52, 107, [156], .null), (107, .aload_n 0, 108, [], .null), (108, .iload_n 2, 109, [], .null), (109, .iload_n 3, 110, [], .null), (110, .iload 4, 112, [], .null), (112, .iload 5, 114, [], .null), (114, .invokevirtual 132, 117, [156, 5, 1, 3, 12, 1289, 0], .null), (117, .ifCond .ne 6, 120, [123], .null), (120, .goto 36, 123, [156], .null), (123, .aload_n 0, 124, [], .null), (124, .aload_n 0, 125, [], .null), (125, .getfield 35, 128, [12, 13, 1142], .null), (128, .iload_n 1, 129, [], .null), (129, .laload, 130, [], .null), (130, .lconst 1, 131, [], .long (1)), (131, .iload_n 2, 132, [], .null), (132, .iload_n 3, 133, [], .null), (133, .invokestatic 129, 136, [155, 2, 1, 1, 0, 1272, 0], .null), (136, .lshl, 137, [], .null), (137, .ldc2_w 182, 140, [1371], .long (-1)), (140, .lxor, 141, [], .null), (141, .land, 142, [], .null), (142, .lconst 1, 143, [], .long (1)), (143, .iload 4, 145, [], .null), (145, .iload 5, 147, [], .null), (147, .invokestatic 129, 150, [155, 2, 1, 1, 0, 1272, 0], .null), (150, .lshl, 151, [], .null), (151, .lor, 152, [], .null), (152, .invokevirtual 214, 155, [182, 2, 1, 1, 12, 1392, 0], .null), (155, .ireturn, 156, [], .null), (156, .iinc 5 1, 159, [], .int (1)), (159, .goto (-90), 162, [69], .null), (162, .iinc 4 1, 165, [], .int (1)), (165, .goto (-143), 168, [22], .null), (168, .iconst (-1), 169, [], .int (-1)), (169, .ireturn, 170, [], .null)])
noncomputable def kX12_flips : zM := (6, some .long, 42, [(19, [0, 1, 2, 4]), (34, [0, 1, 2, 4, 5])], [(0, .aload_n 0, 1, [], .null), (1, .iload_n 1, 2, [], .null), (2, .invokevirtual 207, 5, [183, 2, 1, 41, 12, 1379, 0], .null), (5, .ifCond .ne 9, 8, [14], .null), (8, .aload_n 0, 9, [], .null), (9, .iconst 3, 10, [], .int (3)), (10, .invokevirtual 210, 13, [144, 2, 2, 1, 12, 1383, 0], .null), (13, .lreturn, 14, [], .null), (14, .lconst 0, 15, [], .long (0)), (15, .lstore_n 2, 16, [], .null), (16, .iconst 0, 17, [], .int (0)), (17, .istore 4, 19, [], .null), (19, .iload 4, 21, [], .null), (21, .aload_n 0, 22, [], .null), (22, .invokevirtual 67, 25, [146, 1, 1, 1, 12, 1237, 0], .null), (25, .if_icmp .ge 58, 28, [83], .null), (28, .iload 4, 30, [], .null), (30, .iconst 1, 31, [], .int (1)), (31, .iadd, 32, [], .null), (32, .istore 5, 34, [], .null), (34, .iload 5, 36, [], .null), (36, .aload_n 0, 37, [], .null), (37, .invokevirtual 67, 40, [146, 1, 1, 1, 12, 1237, 0], .null), (40, .if_icmp .ge 37, 43, [77], .null), (43, .lload_n 2, 44, [], .null), (44, .aload_n 0, 45, [], .null), (45, .iload_n 1, 46, [], .null), (46, .iload 4, 48, [], .null), (48, .iload 5, 50, [], .null), (50, .invokevirtual 226, 53, [193, 4, 1, 5, 12, 1425, 0], .null), (53, .ifCond .lt 15, 56, [68], .null), (56, .lconst 1, 57, [], .long (1)), (57, .iload 4, 59, [], .null), (59, .iload 5, 61, [], .null), (61, .invokestatic 129, 64, [155, 2, 1, 1, 0, 1272, 0], .null), (64, .lshl, 65, [], .null), (65, .goto 4, 68, [69], .null), (68, .lconst 0, 69, [], .long (0)), (69, .lor, 70, [], .null), (70, .lstore_n 2, 71, [], .null), (71, .iinc 5 1, 74, [], .int (1)), (74, .goto (-40), 77, [34], .null), (77, .iinc 4 1, 80, [], .int (1)), (80, .goto (-61), 83, [19], .null), (83, .lload_n 2, 84, [], .null), (84, .lreturn, 85, [], .null)])
noncomputable def kX12_flip : zM := (5, some .int, 42, [], [(0, .aload_n 0, 1, [], .null), (1, .iload_n 2, 2, [], .null), (2, .iload_n 3, 3, [], .null), (3, .invokevirtual 167, 6, [150, 3, 1, 3, 12, 1318, 0], .null), (6, .ifCond .ne 9, 9, [15], .null), (9, .aload_n 0, 10, [], .null), (10, .iconst 0, 11, [], .int (0)), (11, .invokevirtual 142, 14, [143, 2, 1, 1, 12, 1232, 0], .null), (14, .ireturn, 15, [], .null), (15, .aload_n 0, 16, [], .null), (16, .iload_n 1, 17, [], .null), (17, .invokevirtual 207, 20, [183, 2, 1, 41, 12, 1379, 0], .null), (20, .ifCond .eq 13, 23, [33], .null), (23, .aload_n 0, 24, [], .null), (24, .iload_n 1, 25, [], .null), (25, .iload_n 2, 26, [], .null), (26, .iload_n 3, 27, [], .null), (27, .invokevirtual 226, 30, [193, 4, 1, 5, 12, 1425, 0], .null), (30, .goto 4, 33, [34], .null), (33, .iconst (-1), 34, [], .int (-1)), (34, .istore 4, 36, [], .null), (36, .iload 4, 38, [], .null), (38, .ifCond .ge 11, 41, [49], .null), (41, .aload_n 0, 42, [], .null), (42, .iconst 3, 43, [], .int (3)), (43, .invokevirtual 142, 46, [143, 2, 1, 1, 12, 1232, 0], .null), (46, .goto 5, 49, [51], .null), (49, .iload 4, 51, [], .null), (51, .ireturn, 52, [], .null)])
noncomputable def kX12_apart : zM := (8, some .int, 42, [(24, [0, 1, 2, 3]), (64, [0, 2, 3, 4]), (82, [0, 2, 3, 4, 5]), (97, [0, 2, 3, 4, 5, 6]), (191, [0, 2])], [(0, .aload_n 0, 1, [], .null), (1, .iload_n 1, 2, [], .null), (2, .invokevirtual 207, 5, [183, 2, 1, 41, 12, 1379, 0], .null), (5, .ifCond .eq 11, 8, [16], .null), (8, .aload_n 0, 9, [], .null), (9, .iload_n 2, 10, [], .null), (10, .invokevirtual 207, 13, [183, 2, 1, 41, 12, 1379, 0], .null), (13, .ifCond .ne 9, 16, [22], .null), (16, .aload_n 0, 17, [], .null), (17, .iconst 3, 18, [], .int (3)), (18, .invokevirtual 142, 21, [143, 2, 1, 1, 12, 1232, 0], .null), (21, .ireturn, 22, [], .null), (22, .iconst 0, 23, [], .int (0)), (23, .istore_n 3, 24, [], .null), (24, .iload_n 3, 25, [], .null), (25, .aload_n 0, 26, [], .null), (26, .getfield 191, 29, [12, 14, 1143], .null), (29, .if_icmp .ge 16, 32, [45], .null), (32, .aload_n 0, 33, [], .null), (33, .getfield 38, 36, [12, 16, 1145], .null), (36, .iload_n 3, 37, [], .null), (37, .iconst (-1), 38, [], .int (-1)), (38, .iastore, 39, [], .null), (39, .iinc 3 1, 42, [], .int (1)), (42, .goto (-18), 45, [24], .null), (45, .aload_n 0, 46, [], .null), (46, .getfield 38, 49, [12, 16, 1145], .null), (49, .iload_n 1, 50, [], .null), (50, .iconst 0, 51, [], .int (0)), (51, .iastore, 52, [], .null), (52, .aload_n 0, 53, [], .null), (53, .getfield 41, 56, [12, 17, 1146], .null), (56, .iconst 0, 57, [], .int (0)), (57, .iload_n 1, 58, [], .null), (58, .iastore, 59, [], .null), (59, .iconst 1, 60, [], .int (1)), (60, .istore_n 3, 61, [], .null), (61, .iconst 0, 62, [], .int (0)), (62, .istore 4, 64, [], .null), (64, .iload 4, 66, [], .null), (66, .iload_n 3, 67, [], .null), (67, .if_icmp .ge 124, 70, [191], .null), (70, .aload_n 0, 71, [], .null), (71, .getfield 38, 74, [12, 16, 1145], .null), (74, .iload_n 2, 75, [], .null), (75, .iaload, 76, [], .null), (76, .ifCond .ge 115, 79, [191], .null), (79, .iconst 0, 80, [], .int (0)), (80, .istore 5, 82, [], .null), (82, .iload 5, 84, [], .null), (84, .aload_n 0, 85, [], .null), (85, .invokevirtual 67, 88, [146, 1, 1, 1, 12, 1237, 0], .null), (88, .if_icmp .ge 97, 91, [185], .null), (91, .iload 5, 93, [], .null), (93, .iconst 1, 94, [], .int (1)), (94, .iadd, 95, [], .null), (95, .istore 6, 97, [], .null), (97, .iload 6, 99, [], .null), (99, .aload_n 0, 100, [], .null), (100, .invokevirtual 67, 103, [146, 1, 1, 1, 12, 1237, 0], .null), (103, .if_icmp .ge 76, 106, [179], .null), (106, .aload_n 0, 107, [], .null), (107, .aload_n 0, 108, [], .null), (108, .getfield 41, 111, [12, 17, 1146], .null), (111, .iload 4, 113, [], .null), (113, .iaload, 114, [], .null), (114, .iload 5, 116, [], .null), (116, .iload 6, 118, [], .null), (118, .invokevirtual 226, 121, [193, 4, 1, 5, 12, 1425, 0], .null), (121, .istore 7, 123, [], .null), (123, .iload 7, 125, [], .null), (125, .ifCond .lt 48, 128, [173], .null), (128, .aload_n 0, 129, [], .null), (129, .getfield 38, 132, [12, 16, 1145], .null), (132, .iload 7, 134, [], .null), (134, .iaload, 135, [], .null), (135, .ifCond .lt 6, 138, [141], .null), (138, .goto 35, 141, [173], .null), (141, .aload_n 0, 142, [], .null), (142, .getfield 38, 145, [12, 16, 1145], .null), (145, .iload 7, 147, [], .null), (147, .aload_n 0, 148, [], .null), (148, .getfield 38, 151, [12, 16, 1145], .null), (151, .aload_n 0, 152, [], .null), (152, .getfield 41, 155, [12, 17, 1146], .null), (155, .iload 4, 157, [], .null), (157, .iaload, 158, [], .null), (158, .iaload, 159, [], .null), (159, .iconst 1, 160, [], .int (1)), (160, .iadd, 161, [], .null), (161, .iastore, 162, [], .null), (162, .aload_n 0, 163, [], .null), (163, .getfield 41, 166, [12, 17, 1146], .null), (166, .iload_n 3, 167, [], .null), (167, .iload 7, 169, [], .null), (169, .iastore, 170, [], .null), (170, .iinc 3 1, 173, [], .int (1)), (173, .iinc 6 1, 176, [], .int (1)), (176, .goto (-79), 179, [97], .null), (179, .iinc 5 1, 182, [], .int (1)), (182, .goto (-100), 185, [82], .null), (185, .iinc 4 1, 188, [], .int (1)), (188, .goto (-124), 191, [64], .null), (191, .aload_n 0, 192, [], .null), (192, .getfield 38, 195, [12, 16, 1145], .null), (195, .iload_n 2, 196, [], .null), (196, .iaload, 197, [], .null), (197, .ifCond .ge 11, 200, [208], .null), (200, .aload_n 0, 201, [], .null), (201, .iconst 3, 202, [], .int (3)), (202, .invokevirtual 142, 205, [143, 2, 1, 1, 12, 1232, 0], .null), (205, .goto 9, 208, [214], .null), (208, .aload_n 0, 209, [], .null), (209, .getfield 38, 212, [12, 16, 1145], .null), (212, .iload_n 2, 213, [], .null), (213, .iaload, 214, [], .null), (214, .ireturn, 215, [], .null)])
noncomputable def kX12_firstPath : zM := (3, some .int, 5, [(8, [0, 1, 2])], [(0, .aload_n 0, 1, [], .null), (1, .invokevirtual 172, 4, [161, 1, 0, 4, 12, 1339, 0], .null), (4, .iconst 0, 5, [], .int (0)), (5, .istore_n 1, 6, [], .null), (6, .iconst 0, 7, [], .int (0)), (7, .istore_n 2, 8, [], .null), (8, .iload_n 2, 9, [], .null), (9, .aload_n 0, 10, [], .null), (10, .getfield 111, 13, [12, 6, 1135], .null), (13, .if_icmp .ge 35, 16, [48], .null), (16, .iload_n 1, 17, [], .null), (17, .iconst 1, 18, [], .int (1)), (18, .aload_n 0, 19, [], .null), (19, .getfield 25, 22, [12, 7, 1136], .null), (22, .iload_n 2, 23, [], .null), (23, .iaload, 24, [], .null), (24, .ishl, 25, [], .null), (25, .ior, 26, [], .null), (26, .istore_n 1, 27, [], .null), (27, .aload_n 0, 28, [], .null), (28, .getfield 25, 31, [12, 7, 1136], .null), (31, .iload_n 2, 32, [], .null), (32, .iaload, 33, [], .null), (33, .aload_n 0, 34, [], .null), (34, .invokevirtual 229, 37, [158, 1, 1, 3, 12, 1449, 0], .null), (37, .if_icmp .ne 5, 40, [42], .null), (40, .iload_n 1, 41, [], .null), (41, .ireturn, 42, [], .null), (42, .iinc 2 1, 45, [], .int (1)), (45, .goto (-37), 48, [8], .null), (48, .iload_n 1, 49, [], .null), (49, .ireturn, 50, [], .null)])
noncomputable def kX12_nextOn : zM := (4, some .int, 3, [(4, [0, 1, 2, 3])], [(0, .iconst (-1), 1, [], .int (-1)), (1, .istore_n 2, 2, [], .null), (2, .iconst 0, 3, [], .int (0)), (3, .istore_n 3, 4, [], .null), (4, .iload_n 3, 5, [], .null), (5, .aload_n 0, 6, [], .null), (6, .invokevirtual 67, 9, [146, 1, 1, 1, 12, 1237, 0], .null), (9, .if_icmp .ge 45, 12, [54], .null), (12, .aload_n 0, 13, [], .null), (13, .getfield 232, 16, [12, 18, 1147], .null), (16, .iload_n 3, 17, [], .null), (17, .ishr, 18, [], .null), (18, .iconst 1, 19, [], .int (1)), (19, .iand, 20, [], .null), (20, .iconst 1, 21, [], .int (1)), (21, .if_icmp .ne 27, 24, [48], .null), (24, .aload_n 0, 25, [], .null), (25, .iload_n 1, 26, [], .null), (26, .iload_n 3, 27, [], .null), (27, .invokevirtual 103, 30, [153, 3, 1, 2, 12, 1302, 0], .null), (30, .ifCond .eq 18, 33, [48], .null), (33, .iload_n 2, 34, [], .null), (34, .ifCond .lt 12, 37, [46], .null), (37, .aload_n 0, 38, [], .null), (38, .iload_n 3, 39, [], .null), (39, .iload_n 2, 40, [], .null), (40, .invokevirtual 103, 43, [153, 3, 1, 2, 12, 1302, 0], .null), (43, .ifCond .eq 5, 46, [48], .null), (46, .iload_n 3, 47, [], .null), (47, .istore_n 2, 48, [], .null), (48, .iinc 3 1, 51, [], .int (1)), (51, .goto (-47), 54, [4], .null), (54, .iload_n 2, 55, [], .null), (55, .ireturn, 56, [], .null)])
noncomputable def kX12_advances : zM := (6, some .boolean, 5, [(17, [0, 1, 3, 4, 5])], [(0, .aload_n 0, 1, [], .null), (1, .iload_n 3, 2, [], .null), (2, .invokevirtual 235, 5, [198, 2, 1, 3, 12, 1461, 0], .null), (5, .istore 4, 7, [], .null), (7, .iload 4, 9, [], .null), (9, .ifCond .ge 5, 12, [14], .null), (12, .iconst 0, 13, [], .int (0)), (13, .ireturn, 14, [], .null), (14, .iconst 0, 15, [], .int (0)), (15, .istore 5, 17, [], .null), (17, .iload 5, 19, [], .null), (19, .aload_n 0, 20, [], .null), (20, .invokevirtual 67, 23, [146, 1, 1, 1, 12, 1237, 0], .null), (23, .if_icmp .ge 109, 26, [132], .null), (26, .iload 5, 28, [], .null), (28, .iload_n 3, 29, [], .null), (29, .if_icmp .eq 97, 32, [126], .null), (32, .iload 5, 34, [], .null), (34, .iload 4, 36, [], .null), (36, .if_icmp .eq 90, 39, [126], .null), (39, .aload_n 0, 40, [], .null), (40, .iload_n 3, 41, [], .null), (41, .iload 5, 43, [], .null), (43, .invokevirtual 103, 46, [153, 3, 1, 2, 12, 1302, 0], .null), (46, .ifCond .eq 80, 49, [126], .null), (49, .aload_n 0, 50, [], .null), (50, .iload 5, 52, [], .null), (52, .iload 4, 54, [], .null), (54, .invokevirtual 103, 57, [153, 3, 1, 2, 12, 1302, 0], .null), (57, .ifCond .eq 69, 60, [126], .null), (60, .aload_n 0, 61, [], .null), (61, .iload_n 3, 62, [], .null), (62, .iload 4, 64, [], .null), (64, .iload 5, 66, [], .null), (66, .invokevirtual 90, 69, [152, 4, 1, 2, 12, 1293, 0], .null), (69, .iconst 1, 70, [], .int (1)), (70, .if_icmp .ne 56, 73, [126], .null), (73, .aload_n 0, 74, [], .null), (74, .lload_n 1, 75, [], .null), (75, .iload_n 3, 76, [], .null), (76, .iload 4, 78, [], .null), (78, .iload 5, 80, [], .null), (80, .invokevirtual 222, 83, [191, 5, 1, 4, 12, 1417, 0], .null), (83, .ifCond .ne 6, 86, [89], .null), (86, .goto 40, 89, [126], .null), (89, .aload_n 0, 90, [], .null), (90, .dup, 91, [], .null), (91, .getfield 232, 94, [12, 18, 1147], .null), (94, .iconst 1, 95, [], .int (1)), (95, .iload 5, 97, [], .null), (97, .ishl, 98, [], .null), (98, .ior, 99, [], .null), (99, .putfield 232, 102, [12, 18, 1147], .null), (102, .aload_n 0, 103, [], .null), (103, .iconst 1, 104, [], .int (1)), (104, .iload_n 3, 105, [], .null), (105, .ishl, 106, [], .null), (106, .iconst 1, 107, [], .int (1)), (107, .iload 4, 109, [], .null), (109, .ishl, 110, [], .null), (110, .ior, 111, [], .null), (111, .iconst 1, 112, [], .int (1)), (112, .iload 5, 114, [], .null), (114, .ishl, 115, [], .null), (115, .ior, 116, [], .null), (116, .putfield 238, 119, [12, 19, 1148], .null), (119, .aload_n 0, 120, [], .null), (120, .iconst 0, 121, [], .int (0)), (121, .putfield 241, 124, [12, 20, 1149], .null), (124, .iconst 1, 125, [], .int (1)), (125, .ireturn, 126, [], .null), (126, .iinc 5 1, 129, [], .int (1)), (129, .goto (-112), 132, [17], .null), (132, .aload_n 0, 133, [], .null), (133, .iload 4, 135, [], .null), (135, .invokevirtual 235, 138, [198, 2, 1, 3, 12, 1461, 0], .null), (138, .istore 5, 140, [], .null), (140, .iload 5, 142, [], .null), (142, .ifCond .lt 29, 145, [171], .null), (145, .aload_n 0, 146, [], .null), (146, .iload_n 3, 147, [], .null), (147, .iload 4, 149, [], .null), (149, .iload 5, 151, [], .null), (151, .invokevirtual 90, 154, [152, 4, 1, 2, 12, 1293, 0], .null), (154, .iconst 1, 155, [], .int (1)), (155, .if_icmp .ne 16, 158, [171], .null), (158, .aload_n 0, 159, [], .null), (159, .lload_n 1, 160, [], .null), (160, .iload_n 3, 161, [], .null), (161, .iload 4, 163, [], .null), (163, .iload 5, 165, [], .null), (165, .invokevirtual 222, 168, [191, 5, 1, 4, 12, 1417, 0], .null), (168, .ifCond .ne 5, 171, [173], .null), (171, .iconst 0, 172, [], .int (0)), (172, .ireturn, 173, [], .null), (173, .aload_n 0, 174, [], .null), (174, .dup, 175, [], .null), (175, .getfield 232, 178, [12, 18, 1147], .null), (178, .iconst 1, 179, [], .int (1)), (179, .iload 4, 181, [], .null), (181, .ishl, 182, [], .null), (182, .iconst (-1), 183, [], .int (-1)), (183, .ixor, 184, [], .null), (184, .iand, 185, [], .null), (185, .putfield 232, 188, [12, 18, 1147], .null), (188, .aload_n 0, 189, [], .null), (189, .iconst 1, 190, [], .int (1)), (190, .iload_n 3, 191, [], .null), (191, .ishl, 192, [], .null), (192, .iconst 1, 193, [], .int (1)), (193, .iload 4, 195, [], .null), (195, .ishl, 196, [], .null), (196, .ior, 197, [], .null), (197, .iconst 1, 198, [], .int (1)), (198, .iload 5, 200, [], .null), (200, .ishl, 201, [], .null), (201, .ior, 202, [], .null), (202, .putfield 238, 205, [12, 19, 1148], .null), (205, .aload_n 0, 206, [], .null), (206, .iconst 1, 207, [], .int (1)), (207, .putfield 241, 210, [12, 20, 1149], .null), (210, .iconst 1, 211, [], .int (1)), (211, .ireturn, 212, [], .null)])
noncomputable def kX12_advances_ : zM := (4, some .boolean, 6, [(5, [0, 1, 3])], [(0, .aload_n 0, 1, [], .null), (1, .invokevirtual 114, 4, [157, 1, 1, 3, 12, 1343, 0], .null), (4, .istore_n 3, 5, [], .null), (5, .iload_n 3, 6, [], .null), (6, .ifCond .lt 23, 9, [29], .null), (9, .aload_n 0, 10, [], .null), (10, .lload_n 1, 11, [], .null), (11, .iload_n 3, 12, [], .null), (12, .invokevirtual 244, 15, [199, 3, 1, 5, 12, 1457, 0], .null), (15, .ifCond .eq 5, 18, [20], .null), (18, .iconst 1, 19, [], .int (1)), (19, .ireturn, 20, [], .null), (20, .aload_n 0, 21, [], .null), (21, .iload_n 3, 22, [], .null), (22, .invokevirtual 235, 25, [198, 2, 1, 3, 12, 1461, 0], .null), (25, .istore_n 3, 26, [], .null), (26, .goto (-21), 29, [5], .null), (29, .iconst 0, 30, [], .int (0)), (30, .ireturn, 31, [], .null)])
noncomputable def kX12_sweeps : zM := (4, some .boolean, 7, [(10, [0, 1, 2, 3]), (34, [2, 3])], [(0, .aload_n 0, 1, [], .null), (1, .aload_n 0, 2, [], .null), (2, .invokevirtual 247, 5, [197, 1, 1, 5, 12, 1445, 0], .null), (5, .putfield 232, 8, [12, 18, 1147], .null), (8, .iconst 0, 9, [], .int (0)), (9, .istore_n 3, 10, [], .null), (10, .iload_n 3, 11, [], .null), (11, .iload_n 2, 12, [], .null), (12, .if_icmp .ge 22, 15, [34], .null), (15, .aload_n 0, 16, [], .null), (16, .aload_n 0, 17, [], .null), (17, .getfield 35, 20, [12, 13, 1142], .null), (20, .iload_n 1, 21, [], .null), (21, .laload, 22, [], .null), (22, .invokevirtual 250, 25, [200, 2, 1, 6, 12, 1453, 0], .null), (25, .ifCond .eq 9, 28, [34], .null), (28, .iinc 3 1, 31, [], .int (1)), (31, .goto (-21), 34, [10], .null), (34, .iload_n 2, 35, [], .null), (35, .ifCond .lt 12, 38, [47], .null), (38, .iload_n 3, 39, [], .null), (39, .iload_n 2, 40, [], .null), (40, .if_icmp .ne 7, 43, [47], .null), (43, .iconst 1, 44, [], .int (1)), (44, .goto 4, 47, [48], .null), (47, .iconst 0, 48, [], .int (0)), (48, .ireturn, 49, [], .null)])
noncomputable def kX12_path : zM := (3, some .int, 42, [], [(0, .aload_n 0, 1, [], .null), (1, .iload_n 1, 2, [], .null), (2, .invokevirtual 207, 5, [183, 2, 1, 41, 12, 1379, 0], .null), (5, .ifCond .eq 19, 8, [24], .null), (8, .aload_n 0, 9, [], .null), (9, .iload_n 1, 10, [], .null), (10, .iload_n 2, 11, [], .null), (11, .invokevirtual 252, 14, [201, 3, 1, 7, 12, 1441, 0], .null), (14, .ifCond .eq 10, 17, [24], .null), (17, .aload_n 0, 18, [], .null), (18, .getfield 232, 21, [12, 18, 1147], .null), (21, .goto 8, 24, [29], .null), (24, .aload_n 0, 25, [], .null), (25, .iconst 3, 26, [], .int (3)), (26, .invokevirtual 142, 29, [143, 2, 1, 1, 12, 1232, 0], .null), (29, .ireturn, 30, [], .null)])
noncomputable def kX12_advance : zM := (4, some .int, 42, [], [(0, .iload_n 3, 1, [], .null), (1, .i2l, 2, [], .null), (2, .lconst 0, 3, [], .long (0)), (3, .lconst 1, 4, [], .long (1)), (4, .invokestatic 71, 7, [145, 3, 1, 1, 0, 1229, 0], .null), (7, .ifCond .ne 9, 10, [16], .null), (10, .aload_n 0, 11, [], .null), (11, .iconst 0, 12, [], .int (0)), (12, .invokevirtual 142, 15, [143, 2, 1, 1, 12, 1232, 0], .null), (15, .ireturn, 16, [], .null), (16, .aload_n 0, 17, [], .null), (17, .iload_n 1, 18, [], .null), (18, .invokevirtual 207, 21, [183, 2, 1, 41, 12, 1379, 0], .null), (21, .ifCond .eq 25, 24, [46], .null), (24, .iload_n 2, 25, [], .null), (25, .ifCond .lt 21, 28, [46], .null), (28, .iload_n 2, 29, [], .null), (29, .ldc_w 257, 32, [1469], .int (2147483647)), (32, .if_icmp .eq 14, 35, [46], .null), (35, .aload_n 0, 36, [], .null), (36, .iload_n 1, 37, [], .null), (37, .iload_n 2, 38, [], .null), (38, .iconst 1, 39, [], .int (1)), (39, .iadd, 40, [], .null), (40, .invokevirtual 252, 43, [201, 3, 1, 7, 12, 1441, 0], .null), (43, .ifCond .ne 9, 46, [52], .null), (46, .aload_n 0, 47, [], .null), (47, .iconst 3, 48, [], .int (3)), (48, .invokevirtual 142, 51, [143, 2, 1, 1, 12, 1232, 0], .null), (51, .ireturn, 52, [], .null), (52, .iload_n 3, 53, [], .null), (53, .ifCond .ne 10, 56, [63], .null), (56, .aload_n 0, 57, [], .null), (57, .getfield 238, 60, [12, 19, 1148], .null), (60, .goto 7, 63, [67], .null), (63, .aload_n 0, 64, [], .null), (64, .getfield 241, 67, [12, 20, 1149], .null), (67, .ireturn, 68, [], .null)])
noncomputable def kX12_ways : zM := (6, some .int, 4, [(14, [0, 1, 2]), (65, [0, 1, 2, 3, 4]), (118, [0, 1, 2, 3])], [(0, .aload_n 0, 1, [], .null), (1, .invokevirtual 67, 4, [146, 1, 1, 1, 12, 1237, 0], .null), (4, .iconst 2, 5, [], .int (2)), (5, .if_icmp .ge 5, 8, [10], .null), (8, .iconst 0, 9, [], .int (0)), (9, .ireturn, 10, [], .null), (10, .iconst 0, 11, [], .int (0)), (11, .istore_n 1, 12, [], .null), (12, .iconst 0, 13, [], .int (0)), (13, .istore_n 2, 14, [], .null), (14, .iload_n 2, 15, [], .null), (15, .iconst 1, 16, [], .int (1)), (16, .aload_n 0, 17, [], .null), (17, .invokevirtual 67, 20, [146, 1, 1, 1, 12, 1237, 0], .null), (20, .ishl, 21, [], .null), (21, .if_icmp .ge 115, 24, [136], .null), (24, .aload_n 0, 25, [], .null), (25, .iload_n 2, 26, [], .null), (26, .putfield 232, 29, [12, 18, 1147], .null), (29, .iload_n 2, 30, [], .null), (30, .aload_n 0, 31, [], .null), (31, .invokevirtual 114, 34, [157, 1, 1, 3, 12, 1343, 0], .null), (34, .ishr, 35, [], .null), (35, .iconst 1, 36, [], .int (1)), (36, .iand, 37, [], .null), (37, .iconst 1, 38, [], .int (1)), (38, .if_icmp .ne 19, 41, [57], .null), (41, .iload_n 2, 42, [], .null), (42, .aload_n 0, 43, [], .null), (43, .invokevirtual 229, 46, [158, 1, 1, 3, 12, 1449, 0], .null), (46, .ishr, 47, [], .null), (47, .iconst 1, 48, [], .int (1)), (48, .iand, 49, [], .null), (49, .iconst 1, 50, [], .int (1)), (50, .if_icmp .ne 7, 53, [57], .null), (53, .iconst 1, 54, [], .int (1)), (54, .goto 4, 57, [58], .null), (57, .iconst 0, 58, [], .int (0)), (58, .istore_n 3, 59, [], .null), (59, .aload_n 0, 60, [], .null), (60, .invokevirtual 114, 63, [157, 1, 1, 3, 12, 1343, 0], .null), (63, .istore 4, 65, [], .null), (65, .iload_n 3, 66, [], .null), (66, .ifCond .eq 52, 69, [118], .null), (69, .iload 4, 71, [], .null), (71, .aload_n 0, 72, [], .null), (72, .invokevirtual 229, 75, [158, 1, 1, 3, 12, 1449, 0], .null), (75, .if_icmp .eq 43, 78, [118], .null), (78, .aload_n 0, 79, [], .null), (79, .iload 4, 81, [], .null), (81, .invokevirtual 235, 84, [198, 2, 1, 3, 12, 1461, 0], .null), (84, .istore 5, 86, [], .null), (86, .aload_n 0, 87, [], .null), (87, .getfield 9, 90, [12, 0, 1129], .null), (90, .bipush 20, 92, [], .int (20)), (92, .iload 4, 94, [], .null), (94, .iload 5, 96, [], .null), (96, .invokestatic 129, 99, [155, 2, 1, 1, 0, 1272, 0], .null), (99, .iadd, 100, [], .null), (100, .iaload, 101, [], .null), (101, .iconst 2, 102, [], .int (2)), (102, .if_icmp .eq 7, 105, [109], .null), (105, .iconst 1, 106, [], .int (1)), (106, .goto 4, 109, [110], .null), (109, .iconst 0, 110, [], .int (0)), (110, .istore_n 3, 111, [], .null), (111, .iload 5, 113, [], .null), (113, .istore 4, 115, [], .null), (115, .goto (-50), 118, [65], .null), (118, .iload_n 1, 119, [], .null), (119, .iload_n 3, 120, [], .null), (120, .ifCond .eq 7, 123, [127], .null), (123, .iconst 1, 124, [], .int (1)), (124, .goto 4, 127, [128], .null), (127, .iconst 0, 128, [], .int (0)), (128, .iadd, 129, [], .null), (129, .istore_n 1, 130, [], .null), (130, .iinc 2 1, 133, [], .int (1)), (133, .goto (-119), 136, [14], .null), (136, .iload_n 1, 137, [], .null), (137, .ireturn, 138, [], .null)])
noncomputable def kX12_plus : zM := (7, some .long, 1, [], [(0, .lload_n 1, 1, [], .null), (1, .lload_n 3, 2, [], .null), (2, .ladd, 3, [], .null), (3, .lstore 5, 5, [], .null), (5, .aload_n 0, 6, [], .null), (6, .dup, 7, [], .null), (7, .getfield 258, 10, [12, 21, 1150], .null), (10, .lload_n 1, 11, [], .null), (11, .lload 5, 13, [], .null), (13, .lxor, 14, [], .null), (14, .lload_n 3, 15, [], .null), (15, .lload 5, 17, [], .null), (17, .lxor, 18, [], .null), (18, .land, 19, [], .null), (19, .lconst 0, 20, [], .long (0)), (20, .lcmp, 21, [], .null), (21, .ifCond .ge 7, 24, [28], .null), (24, .iconst 1, 25, [], .int (1)), (25, .goto 4, 28, [29], .null), (28, .iconst 0, 29, [], .int (0)), (29, .ior, 30, [], .null), (30, .putfield 258, 33, [12, 21, 1150], .null), (33, .lload 5, 35, [], .null), (35, .lreturn, 36, [], .null)])
noncomputable def kX12_minus : zM := (7, some .long, 1, [], [(0, .lload_n 1, 1, [], .null), (1, .lload_n 3, 2, [], .null), (2, .lsub, 3, [], .null), (3, .lstore 5, 5, [], .null), (5, .aload_n 0, 6, [], .null), (6, .dup, 7, [], .null), (7, .getfield 258, 10, [12, 21, 1150], .null), (10, .lload_n 1, 11, [], .null), (11, .lload_n 3, 12, [], .null), (12, .lxor, 13, [], .null), (13, .lload_n 1, 14, [], .null), (14, .lload 5, 16, [], .null), (16, .lxor, 17, [], .null), (17, .land, 18, [], .null), (18, .lconst 0, 19, [], .long (0)), (19, .lcmp, 20, [], .null), (20, .ifCond .ge 7, 23, [27], .null), (23, .iconst 1, 24, [], .int (1)), (24, .goto 4, 27, [28], .null), (27, .iconst 0, 28, [], .int (0)), (28, .ior, 29, [], .null), (29, .putfield 258, 32, [12, 21, 1150], .null), (32, .lload 5, 34, [], .null), (34, .lreturn, 35, [], .null)])
noncomputable def kX12_times : zM := (7, some .long, 1, [], [(0, .lload_n 1, 1, [], .null), (1, .lload_n 3, 2, [], .null), (2, .lmul, 3, [], .null), (3, .lstore 5, 5, [], .null), (5, .aload_n 0, 6, [], .null), (6, .dup, 7, [], .null), (7, .getfield 258, 10, [12, 21, 1150], .null), (10, .lload_n 1, 11, [], .null), (11, .lconst 0, 12, [], .long (0)), (12, .lcmp, 13, [], .null), (13, .ifCond .eq 32, 16, [45], .null), (16, .lload_n 1, 17, [], .null), (17, .ldc2_w 182, 20, [1371], .long (-1)), (20, .lcmp, 21, [], .null), (21, .ifCond .ne 11, 24, [32], .null), (24, .lload_n 3, 25, [], .null), (25, .ldc2_w 263, 28, [1507], .long (-9223372036854775808)), (28, .lcmp, 29, [], .null), (29, .ifCond .eq 12, 32, [41], .null), (32, .lload 5, 34, [], .null), (34, .lload_n 1, 35, [], .null), (35, .ldiv, 36, [], .null), (36, .lload_n 3, 37, [], .null), (37, .lcmp, 38, [], .null), (38, .ifCond .eq 7, 41, [45], .null), (41, .iconst 1, 42, [], .int (1)), (42, .goto 4, 45, [46], .null), (45, .iconst 0, 46, [], .int (0)), (46, .ior, 47, [], .null), (47, .putfield 258, 50, [12, 21, 1150], .null), (50, .lload 5, 52, [], .null), (52, .lreturn, 53, [], .null)])
noncomputable def kX12_byStep : zM := (6, some .long, 2, [], [(0, .aload_n 0, 1, [], .null), (1, .getfield 9, 4, [12, 0, 1129], .null), (4, .bipush 56, 6, [], .int (56)), (6, .iconst 2, 7, [], .int (2)), (7, .iload_n 3, 8, [], .null), (8, .imul, 9, [], .null), (9, .iadd, 10, [], .null), (10, .iconst 1, 11, [], .int (1)), (11, .iadd, 12, [], .null), (12, .iaload, 13, [], .null), (13, .i2l, 14, [], .null), (14, .lstore 4, 16, [], .null), (16, .aload_n 0, 17, [], .null), (17, .getfield 9, 20, [12, 0, 1129], .null), (20, .bipush 56, 22, [], .int (56)), (22, .iconst 2, 23, [], .int (2)), (23, .iload_n 3, 24, [], .null), (24, .imul, 25, [], .null), (25, .iadd, 26, [], .null), (26, .iaload, 27, [], .null), (27, .tableswitch 91 0 5 #[37, 45, 53, 69, 76, 83], 64, [118, 64, 72, 80, 96, 103, 110], .null), (64, .aload_n 0, 65, [], .null), (65, .lload_n 1, 66, [], .null), (66, .lload 4, 68, [], .null), (68, .invokevirtual 265, 71, [205, 3, 2, 1, 12, 1499, 0], .null), (71, .lreturn, 72, [], .null), (72, .aload_n 0, 73, [], .null), (73, .lload_n 1, 74, [], .null), (74, .lload 4, 76, [], .null), (76, .invokevirtual 269, 79, [207, 3, 2, 1, 12, 1503, 0], .null), (79, .lreturn, 80, [], .null), (80, .lload 4, 82, [], .null), (82, .lconst 0, 83, [], .long (0)), (83, .lcmp, 84, [], .null), (84, .ifCond .ne 7, 87, [91], .null), (87, .lload_n 1, 88, [], .null), (88, .goto 7, 91, [95], .null), (91, .lload_n 1, 92, [], .null), (92, .lload 4, 94, [], .null), (94, .lrem, 95, [], .null), (95, .lreturn, 96, [], .null), (96, .lload_n 1, 97, [], .null), (97, .lload 4, 99, [], .null), (99, .invokestatic 272, 102, [993, 1508], .null), (102, .lreturn, 103, [], .null), (103, .lload_n 1, 104, [], .null), (104, .lload 4, 106, [], .null), (106, .invokestatic 274, 109, [994, 1509], .null), (109, .lreturn, 110, [], .null), (110, .aload_n 0, 111, [], .null), (111, .lload 4, 113, [], .null), (113, .lload_n 1, 114, [], .null), (114, .invokevirtual 276, 117, [206, 3, 2, 1, 12, 1510, 0], .null), (117, .lreturn, 118, [], .null), (118, .aload_n 0, 119, [], .null), (119, .lload_n 1, 120, [], .null), (120, .lload_n 1, 121, [], .null), (121, .invokevirtual 269, 124, [207, 3, 2, 1, 12, 1503, 0], .null), (124, .lreturn, 125, [], .null)])
noncomputable def kX12_chained : zM := (6, some .long, 3, [(5, [0, 3, 5])], [(0, .lload_n 1, 1, [], .null), (1, .lstore_n 3, 2, [], .null), (2, .iconst 0, 3, [], .int (0)), (3, .istore 5, 5, [], .null), (5, .iload 5, 7, [], .null), (7, .aload_n 0, 8, [], .null), (8, .getfield 9, 11, [12, 0, 1129], .null), (11, .iconst 1, 12, [], .int (1)), (12, .iaload, 13, [], .null), (13, .if_icmp .ge 24, 16, [37], .null), (16, .aload_n 0, 17, [], .null), (17, .getfield 258, 20, [12, 21, 1150], .null), (20, .ifCond .ne 17, 23, [37], .null), (23, .aload_n 0, 24, [], .null), (24, .lload_n 3, 25, [], .null), (25, .iload 5, 27, [], .null), (27, .invokevirtual 279, 30, [208, 3, 2, 2, 12, 1495, 0], .null), (30, .lstore_n 3, 31, [], .null), (31, .iinc 5 1, 34, [], .int (1)), (34, .goto (-29), 37, [5], .null), (37, .lload_n 3, 38, [], .null), (38, .lreturn, 39, [], .null)])
noncomputable def kX12_byRule : zM := (6, some .long, 2, [], [(0, .aload_n 0, 1, [], .null), (1, .iload_n 1, 2, [], .null), (2, .invokevirtual 79, 5, [147, 2, 1, 1, 12, 1249, 0], .null), (5, .aload_n 0, 6, [], .null), (6, .iload_n 2, 7, [], .null), (7, .invokevirtual 79, 10, [147, 2, 1, 1, 12, 1249, 0], .null), (10, .isub, 11, [], .null), (11, .invokestatic 283, 14, [992, 1522], .null), (14, .istore 4, 16, [], .null), (16, .aload_n 0, 17, [], .null), (17, .iload_n 1, 18, [], .null), (18, .invokevirtual 83, 21, [148, 2, 1, 1, 12, 1253, 0], .null), (21, .aload_n 0, 22, [], .null), (22, .iload_n 2, 23, [], .null), (23, .invokevirtual 83, 26, [148, 2, 1, 1, 12, 1253, 0], .null), (26, .isub, 27, [], .null), (27, .invokestatic 283, 30, [992, 1522], .null), (30, .istore 5, 32, [], .null), (32, .iload_n 3, 33, [], .null), (33, .tableswitch 84 0 5 #[39, 41, 54, 61, 70, 79], 72, [117, 72, 74, 87, 94, 103, 112], .null), (72, .lconst 1, 73, [], .long (1)), (73, .lreturn, 74, [], .null), (74, .iload 4, 76, [], .null), (76, .iload 4, 78, [], .null), (78, .imul, 79, [], .null), (79, .iload 5, 81, [], .null), (81, .iload 5, 83, [], .null), (83, .imul, 84, [], .null), (84, .iadd, 85, [], .null), (85, .i2l, 86, [], .null), (86, .lreturn, 87, [], .null), (87, .iload 4, 89, [], .null), (89, .iload 5, 91, [], .null), (91, .iadd, 92, [], .null), (92, .i2l, 93, [], .null), (93, .lreturn, 94, [], .null), (94, .iload 4, 96, [], .null), (96, .iload 5, 98, [], .null), (98, .invokestatic 100, 101, [990, 1276], .null), (101, .i2l, 102, [], .null), (102, .lreturn, 103, [], .null), (103, .iload 4, 105, [], .null), (105, .iload 5, 107, [], .null), (107, .invokestatic 94, 110, [991, 1275], .null), (110, .i2l, 111, [], .null), (111, .lreturn, 112, [], .null), (112, .iload_n 1, 113, [], .null), (113, .iload_n 2, 114, [], .null), (114, .iadd, 115, [], .null), (115, .i2l, 116, [], .null), (116, .lreturn, 117, [], .null), (117, .iload_n 1, 118, [], .null), (118, .iconst 1, 119, [], .int (1)), (119, .iadd, 120, [], .null), (120, .iload_n 2, 121, [], .null), (121, .iconst 1, 122, [], .int (1)), (122, .iadd, 123, [], .null), (123, .imul, 124, [], .null), (124, .i2l, 125, [], .null), (125, .lreturn, 126, [], .null)])
noncomputable def kX12_folded : zM := (12, some .long, 4, [(9, [0, 1, 3, 4, 5, 6, 8]), (24, [0, 1, 3, 4, 5, 6, 8, 9])], [(0, .iconst 1, 1, [], .int (1)), (1, .istore 5, 3, [], .null), (3, .lconst 0, 4, [], .long (0)), (4, .lstore 6, 6, [], .null), (6, .iconst 0, 7, [], .int (0)), (7, .istore 8, 9, [], .null), (9, .iload 8, 11, [], .null), (11, .aload_n 0, 12, [], .null), (12, .invokevirtual 67, 15, [146, 1, 1, 1, 12, 1237, 0], .null), (15, .if_icmp .ge 130, 18, [145], .null), (18, .iload 8, 20, [], .null), (20, .iconst 1, 21, [], .int (1)), (21, .iadd, 22, [], .null), (22, .istore 9, 24, [], .null), (24, .iload 9, 26, [], .null), (26, .aload_n 0, 27, [], .null), (27, .invokevirtual 67, 30, [146, 1, 1, 1, 12, 1237, 0], .null), (30, .if_icmp .ge 109, 33, [139], .null), (33, .lload_n 1, 34, [], .null), (34, .iload 8, 36, [], .null), (36, .iload 9, 38, [], .null), (38, .invokestatic 129, 41, [155, 2, 1, 1, 0, 1272, 0], .null), (41, .invokestatic 184, 44, [177, 2, 1, 1, 0, 1372, 0], .null), (44, .ifCond .ne 6, 47, [50], .null), (47, .goto 86, 50, [133], .null), (50, .aload_n 0, 51, [], .null), (51, .aload_n 0, 52, [], .null), (52, .iload 8, 54, [], .null), (54, .iload 9, 56, [], .null), (56, .iload_n 3, 57, [], .null), (57, .invokevirtual 286, 60, [210, 4, 2, 2, 12, 1518, 0], .null), (60, .invokevirtual 290, 63, [209, 2, 2, 3, 12, 1491, 0], .null), (63, .lstore 10, 65, [], .null), (65, .iload 5, 67, [], .null), (67, .ifCond .eq 8, 70, [75], .null), (70, .lload 10, 72, [], .null), (72, .goto 56, 75, [128], .null), (75, .iload 4, 77, [], .null), (77, .ifCond .ne 14, 80, [91], .null), (80, .aload_n 0, 81, [], .null), (81, .lload 6, 83, [], .null), (83, .lload 10, 85, [], .null), (85, .invokevirtual 265, 88, [205, 3, 2, 1, 12, 1499, 0], .null), (88, .goto 40, 91, [128], .null), (91, .iload 4, 93, [], .null), (93, .iconst 1, 94, [], .int (1)), (94, .if_icmp .ne 13, 97, [107], .null), (97, .lload 6, 99, [], .null), (99, .lload 10, 101, [], .null), (101, .invokestatic 272, 104, [993, 1508], .null), (104, .goto 24, 107, [128], .null), (107, .iload 4, 109, [], .null), (109, .iconst 2, 110, [], .int (2)), (110, .if_icmp .ne 13, 113, [123], .null), (113, .lload 6, 115, [], .null), (115, .lload 10, 117, [], .null), (117, .invokestatic 274, 120, [994, 1509], .null), (120, .goto 8, 123, [128], .null), (123, .lload 6, 125, [], .null), (125, .lload 10, 127, [], .null), (127, .lxor, 128, [], .null), (128, .lstore 6, 130, [], .null), (130, .iconst 0, 131, [], .int (0)), (131, .istore 5, 133, [], .null), (133, .iinc 9 1, 136, [], .int (1)), (136, .goto (-112), 139, [24], .null), (139, .iinc 8 1, 142, [], .int (1)), (142, .goto (-133), 145, [9], .null), (145, .lload 6, 147, [], .null), (147, .lreturn, 148, [], .null)])
noncomputable def kX12_step : zM := (3, some .int, 2, [], [(0, .iload_n 1, 1, [], .null), (1, .i2l, 2, [], .null), (2, .lconst 0, 3, [], .long (0)), (3, .ldc2_w 294, 6, [1478], .long (6)), (6, .invokestatic 71, 9, [145, 3, 1, 1, 0, 1229, 0], .null), (9, .ifCond .eq 17, 12, [26], .null), (12, .iload_n 2, 13, [], .null), (13, .i2l, 14, [], .null), (14, .ldc2_w 135, 17, [1227], .long (-99)), (17, .ldc2_w 137, 20, [1228], .long (99)), (20, .invokestatic 71, 23, [145, 3, 1, 1, 0, 1229, 0], .null), (23, .ifCond .ne 9, 26, [32], .null), (26, .aload_n 0, 27, [], .null), (27, .iconst 0, 28, [], .int (0)), (28, .invokevirtual 142, 31, [143, 2, 1, 1, 12, 1232, 0], .null), (31, .ireturn, 32, [], .null), (32, .aload_n 0, 33, [], .null), (33, .getfield 9, 36, [12, 0, 1129], .null), (36, .iconst 1, 37, [], .int (1)), (37, .iaload, 38, [], .null), (38, .bipush 8, 40, [], .int (8)), (40, .if_icmp .ne 9, 43, [49], .null), (43, .aload_n 0, 44, [], .null), (44, .iconst 1, 45, [], .int (1)), (45, .invokevirtual 142, 48, [143, 2, 1, 1, 12, 1232, 0], .null), (48, .ireturn, 49, [], .null), (49, .aload_n 0, 50, [], .null), (50, .invokevirtual 145, 53, [162, 1, 0, 1, 12, 1241, 0], .null), (53, .aload_n 0, 54, [], .null), (54, .getfield 9, 57, [12, 0, 1129], .null), (57, .bipush 56, 59, [], .int (56)), (59, .iconst 2, 60, [], .int (2)), (60, .aload_n 0, 61, [], .null), (61, .getfield 9, 64, [12, 0, 1129], .null), (64, .iconst 1, 65, [], .int (1)), (65, .iaload, 66, [], .null), (66, .imul, 67, [], .null), (67, .iadd, 68, [], .null), (68, .iload_n 1, 69, [], .null), (69, .iastore, 70, [], .null), (70, .aload_n 0, 71, [], .null), (71, .getfield 9, 74, [12, 0, 1129], .null), (74, .bipush 56, 76, [], .int (56)), (76, .iconst 2, 77, [], .int (2)), (77, .aload_n 0, 78, [], .null), (78, .getfield 9, 81, [12, 0, 1129], .null), (81, .iconst 1, 82, [], .int (1)), (82, .iaload, 83, [], .null), (83, .imul, 84, [], .null), (84, .iadd, 85, [], .null), (85, .iconst 1, 86, [], .int (1)), (86, .iadd, 87, [], .null), (87, .iload_n 2, 88, [], .null), (88, .iastore, 89, [], .null), (89, .aload_n 0, 90, [], .null), (90, .getfield 9, 93, [12, 0, 1129], .null), (93, .iconst 1, 94, [], .int (1)), (94, .dup2, 95, [], .null), (95, .iaload, 96, [], .null), (96, .iconst 1, 97, [], .int (1)), (97, .iadd, 98, [], .null), (98, .iastore, 99, [], .null), (99, .aload_n 0, 100, [], .null), (100, .invokevirtual 155, 103, [164, 1, 0, 1, 12, 1264, 0], .null), (103, .aload_n 0, 104, [], .null), (104, .getfield 9, 107, [12, 0, 1129], .null), (107, .iconst 1, 108, [], .int (1)), (108, .iaload, 109, [], .null), (109, .ireturn, 110, [], .null)])
noncomputable def kX12_stepOf : zM := (3, some .int, 2, [], [(0, .iload_n 1, 1, [], .null), (1, .i2l, 2, [], .null), (2, .lconst 0, 3, [], .long (0)), (3, .aload_n 0, 4, [], .null), (4, .getfield 9, 7, [12, 0, 1129], .null), (7, .iconst 1, 8, [], .int (1)), (8, .iaload, 9, [], .null), (9, .iconst 1, 10, [], .int (1)), (10, .isub, 11, [], .null), (11, .i2l, 12, [], .null), (12, .invokestatic 71, 15, [145, 3, 1, 1, 0, 1229, 0], .null), (15, .ifCond .eq 29, 18, [44], .null), (18, .iload_n 2, 19, [], .null), (19, .i2l, 20, [], .null), (20, .lconst 0, 21, [], .long (0)), (21, .lconst 1, 22, [], .long (1)), (22, .invokestatic 71, 25, [145, 3, 1, 1, 0, 1229, 0], .null), (25, .ifCond .eq 19, 28, [44], .null), (28, .aload_n 0, 29, [], .null), (29, .getfield 9, 32, [12, 0, 1129], .null), (32, .bipush 56, 34, [], .int (56)), (34, .iconst 2, 35, [], .int (2)), (35, .iload_n 1, 36, [], .null), (36, .imul, 37, [], .null), (37, .iadd, 38, [], .null), (38, .iload_n 2, 39, [], .null), (39, .iadd, 40, [], .null), (40, .iaload, 41, [], .null), (41, .goto 8, 44, [49], .null), (44, .aload_n 0, 45, [], .null), (45, .iconst 0, 46, [], .int (0)), (46, .invokevirtual 142, 49, [143, 2, 1, 1, 12, 1232, 0], .null), (49, .ireturn, 50, [], .null)])
noncomputable def kX12_clear : zM := (2, some .int, 2, [], [(0, .aload_n 0, 1, [], .null), (1, .invokevirtual 145, 4, [162, 1, 0, 1, 12, 1241, 0], .null), (4, .aload_n 0, 5, [], .null), (5, .getfield 9, 8, [12, 0, 1129], .null), (8, .iconst 1, 9, [], .int (1)), (9, .iaload, 10, [], .null), (10, .istore_n 1, 11, [], .null), (11, .aload_n 0, 12, [], .null), (12, .getfield 9, 15, [12, 0, 1129], .null), (15, .iconst 1, 16, [], .int (1)), (16, .iconst 0, 17, [], .int (0)), (17, .iastore, 18, [], .null), (18, .aload_n 0, 19, [], .null), (19, .invokevirtual 155, 22, [164, 1, 0, 1, 12, 1264, 0], .null), (22, .iload_n 1, 23, [], .null), (23, .ireturn, 24, [], .null)])
noncomputable def kX12_chain : zM := (5, some .long, 4, [], [(0, .aload_n 0, 1, [], .null), (1, .iconst 0, 2, [], .int (0)), (2, .putfield 258, 5, [12, 21, 1150], .null), (5, .aload_n 0, 6, [], .null), (6, .lload_n 1, 7, [], .null), (7, .invokevirtual 290, 10, [209, 2, 2, 3, 12, 1491, 0], .null), (10, .lstore_n 3, 11, [], .null), (11, .aload_n 0, 12, [], .null), (12, .getfield 258, 15, [12, 21, 1150], .null), (15, .ifCond .eq 12, 18, [27], .null), (18, .aload_n 0, 19, [], .null), (19, .bipush 7, 21, [], .int (7)), (21, .invokevirtual 210, 24, [144, 2, 2, 1, 12, 1383, 0], .null), (24, .goto 4, 27, [28], .null), (27, .lload_n 3, 28, [], .null), (28, .lreturn, 29, [], .null)])
noncomputable def kX12_ofEdge : zM := (6, some .long, 4, [], [(0, .aload_n 0, 1, [], .null), (1, .iload_n 1, 2, [], .null), (2, .iload_n 2, 3, [], .null), (3, .invokevirtual 167, 6, [150, 3, 1, 3, 12, 1318, 0], .null), (6, .ifCond .eq 15, 9, [21], .null), (9, .iload_n 3, 10, [], .null), (10, .i2l, 11, [], .null), (11, .lconst 0, 12, [], .long (0)), (12, .ldc2_w 294, 15, [1478], .long (6)), (15, .invokestatic 71, 18, [145, 3, 1, 1, 0, 1229, 0], .null), (18, .ifCond .ne 9, 21, [27], .null), (21, .aload_n 0, 22, [], .null), (22, .iconst 0, 23, [], .int (0)), (23, .invokevirtual 210, 26, [144, 2, 2, 1, 12, 1383, 0], .null), (26, .lreturn, 27, [], .null), (27, .aload_n 0, 28, [], .null), (28, .iconst 0, 29, [], .int (0)), (29, .putfield 258, 32, [12, 21, 1150], .null), (32, .aload_n 0, 33, [], .null), (33, .aload_n 0, 34, [], .null), (34, .iload_n 1, 35, [], .null), (35, .iload_n 2, 36, [], .null), (36, .iload_n 3, 37, [], .null), (37, .invokevirtual 286, 40, [210, 4, 2, 2, 12, 1518, 0], .null), (40, .invokevirtual 290, 43, [209, 2, 2, 3, 12, 1491, 0], .null), (43, .lstore 4, 45, [], .null), (45, .aload_n 0, 46, [], .null), (46, .getfield 258, 49, [12, 21, 1150], .null), (49, .ifCond .eq 12, 52, [61], .null), (52, .aload_n 0, 53, [], .null), (53, .bipush 7, 55, [], .int (7)), (55, .invokevirtual 210, 58, [144, 2, 2, 1, 12, 1383, 0], .null), (58, .goto 5, 61, [63], .null), (61, .lload 4, 63, [], .null), (63, .lreturn, 64, [], .null)])
noncomputable def kX12_ofNet : zM := (6, some .long, 42, [], [(0, .iload_n 2, 1, [], .null), (1, .i2l, 2, [], .null), (2, .lconst 0, 3, [], .long (0)), (3, .ldc2_w 294, 6, [1478], .long (6)), (6, .invokestatic 71, 9, [145, 3, 1, 1, 0, 1229, 0], .null), (9, .ifCond .eq 15, 12, [24], .null), (12, .iload_n 3, 13, [], .null), (13, .i2l, 14, [], .null), (14, .lconst 0, 15, [], .long (0)), (15, .ldc2_w 162, 18, [1301], .long (3)), (18, .invokestatic 71, 21, [145, 3, 1, 1, 0, 1229, 0], .null), (21, .ifCond .ne 9, 24, [30], .null), (24, .aload_n 0, 25, [], .null), (25, .iconst 0, 26, [], .int (0)), (26, .invokevirtual 210, 29, [144, 2, 2, 1, 12, 1383, 0], .null), (29, .lreturn, 30, [], .null), (30, .aload_n 0, 31, [], .null), (31, .iload_n 1, 32, [], .null), (32, .invokevirtual 207, 35, [183, 2, 1, 41, 12, 1379, 0], .null), (35, .ifCond .ne 9, 38, [44], .null), (38, .aload_n 0, 39, [], .null), (39, .iconst 3, 40, [], .int (3)), (40, .invokevirtual 210, 43, [144, 2, 2, 1, 12, 1383, 0], .null), (43, .lreturn, 44, [], .null), (44, .aload_n 0, 45, [], .null), (45, .iconst 0, 46, [], .int (0)), (46, .putfield 258, 49, [12, 21, 1150], .null), (49, .aload_n 0, 50, [], .null), (50, .aload_n 0, 51, [], .null), (51, .getfield 35, 54, [12, 13, 1142], .null), (54, .iload_n 1, 55, [], .null), (55, .laload, 56, [], .null), (56, .iload_n 2, 57, [], .null), (57, .iload_n 3, 58, [], .null), (58, .invokevirtual 296, 61, [211, 4, 2, 4, 12, 1527, 0], .null), (61, .lstore 4, 63, [], .null), (63, .aload_n 0, 64, [], .null), (64, .getfield 258, 67, [12, 21, 1150], .null), (67, .ifCond .eq 12, 70, [79], .null), (70, .aload_n 0, 71, [], .null), (71, .bipush 7, 73, [], .int (7)), (73, .invokevirtual 210, 76, [144, 2, 2, 1, 12, 1383, 0], .null), (76, .goto 5, 79, [81], .null), (79, .lload 4, 81, [], .null), (81, .lreturn, 82, [], .null)])
noncomputable def kX12_best : zM := (9, some .int, 41, [(71, [0, 1, 2, 3, 4, 6])], [(0, .iload_n 1, 1, [], .null), (1, .i2l, 2, [], .null), (2, .lconst 0, 3, [], .long (0)), (3, .ldc2_w 294, 6, [1478], .long (6)), (6, .invokestatic 71, 9, [145, 3, 1, 1, 0, 1229, 0], .null), (9, .ifCond .eq 15, 12, [24], .null), (12, .iload_n 2, 13, [], .null), (13, .i2l, 14, [], .null), (14, .lconst 0, 15, [], .long (0)), (15, .ldc2_w 162, 18, [1301], .long (3)), (18, .invokestatic 71, 21, [145, 3, 1, 1, 0, 1229, 0], .null), (21, .ifCond .ne 9, 24, [30], .null), (24, .aload_n 0, 25, [], .null), (25, .iconst 0, 26, [], .int (0)), (26, .invokevirtual 142, 29, [143, 2, 1, 1, 12, 1232, 0], .null), (29, .ireturn, 30, [], .null), (30, .aload_n 0, 31, [], .null), (31, .invokevirtual 204, 34, [181, 1, 0, 40, 12, 1355, 0], .null), (34, .aload_n 0, 35, [], .null), (35, .getfield 191, 38, [12, 14, 1143], .null), (38, .ifCond .ne 9, 41, [47], .null), (41, .aload_n 0, 42, [], .null), (42, .iconst 3, 43, [], .int (3)), (43, .invokevirtual 142, 46, [143, 2, 1, 1, 12, 1232, 0], .null), (46, .ireturn, 47, [], .null), (47, .aload_n 0, 48, [], .null), (48, .iconst 0, 49, [], .int (0)), (49, .putfield 258, 52, [12, 21, 1150], .null), (52, .iconst 0, 53, [], .int (0)), (53, .istore_n 3, 54, [], .null), (54, .aload_n 0, 55, [], .null), (55, .aload_n 0, 56, [], .null), (56, .getfield 35, 59, [12, 13, 1142], .null), (59, .iconst 0, 60, [], .int (0)), (60, .laload, 61, [], .null), (61, .iload_n 1, 62, [], .null), (62, .iload_n 2, 63, [], .null), (63, .invokevirtual 296, 66, [211, 4, 2, 4, 12, 1527, 0], .null), (66, .lstore 4, 68, [], .null), (68, .iconst 1, 69, [], .int (1)), (69, .istore 6, 71, [], .null), (71, .iload 6, 73, [], .null), (73, .aload_n 0, 74, [], .null), (74, .getfield 191, 77, [12, 14, 1143], .null), (77, .if_icmp .ge 42, 80, [119], .null), (80, .aload_n 0, 81, [], .null), (81, .aload_n 0, 82, [], .null), (82, .getfield 35, 85, [12, 13, 1142], .null), (85, .iload 6, 87, [], .null), (87, .laload, 88, [], .null), (88, .iload_n 1, 89, [], .null), (89, .iload_n 2, 90, [], .null), (90, .invokevirtual 296, 93, [211, 4, 2, 4, 12, 1527, 0], .null), (93, .lstore 7, 95, [], .null), (95, .lload 7, 97, [], .null), (97, .lload 4, 99, [], .null), (99, .lcmp, 100, [], .null), (100, .ifCond .lt 6, 103, [106], .null), (103, .goto 10, 106, [113], .null), (106, .iload 6, 108, [], .null), (108, .istore_n 3, 109, [], .null), (109, .lload 7, 111, [], .null), (111, .lstore 4, 113, [], .null), (113, .iinc 6 1, 116, [], .int (1)), (116, .goto (-45), 119, [71], .null), (119, .aload_n 0, 120, [], .null), (120, .getfield 258, 123, [12, 21, 1150], .null), (123, .ifCond .eq 12, 126, [135], .null), (126, .aload_n 0, 127, [], .null), (127, .bipush 7, 129, [], .int (7)), (129, .invokevirtual 142, 132, [143, 2, 1, 1, 12, 1232, 0], .null), (132, .goto 4, 135, [136], .null), (135, .iload_n 3, 136, [], .null), (136, .ireturn, 137, [], .null)])
noncomputable def kX12_isCorner : zM := (3, some .boolean, 1, [(2, [0, 1, 2])], [(0, .iconst 0, 1, [], .int (0)), (1, .istore_n 2, 2, [], .null), (2, .iload_n 2, 3, [], .null), (3, .aload_n 0, 4, [], .null), (4, .getfield 300, 7, [12, 22, 1151], .null), (7, .if_icmp .ge 21, 10, [28], .null), (10, .aload_n 0, 11, [], .null), (11, .getfield 44, 14, [12, 23, 1152], .null), (14, .iload_n 2, 15, [], .null), (15, .iaload, 16, [], .null), (16, .iload_n 1, 17, [], .null), (17, .if_icmp .ne 5, 20, [22], .null), (20, .iconst 1, 21, [], .int (1)), (21, .ireturn, 22, [], .null), (22, .iinc 2 1, 25, [], .int (1)), (25, .goto (-23), 28, [2], .null), (28, .iconst 0, 29, [], .int (0)), (29, .ireturn, 30, [], .null)])
noncomputable def kX12_cornerAt : zM := (2, some .int, 1, [], [(0, .aload_n 0, 1, [], .null), (1, .getfield 44, 4, [12, 23, 1152], .null), (4, .iload_n 1, 5, [], .null), (5, .aload_n 0, 6, [], .null), (6, .getfield 300, 9, [12, 22, 1151], .null), (9, .irem, 10, [], .null), (10, .iaload, 11, [], .null), (11, .ireturn, 12, [], .null)])
noncomputable def kX12_isPolygon : zM := (4, some .boolean, 4, [(28, [0, 1, 2]), (107, [0, 2]), (117, [0, 2, 3])], [(0, .aload_n 0, 1, [], .null), (1, .getfield 53, 4, [12, 27, 1156], .null), (4, .iload_n 1, 5, [], .null), (5, .iaload, 6, [], .null), (6, .i2l, 7, [], .null), (7, .ldc2_w 162, 10, [1301], .long (3)), (10, .ldc2_w 303, 13, [1550], .long (9)), (13, .invokestatic 71, 16, [145, 3, 1, 1, 0, 1229, 0], .null), (16, .ifCond .ne 5, 19, [21], .null), (19, .iconst 0, 20, [], .int (0)), (20, .ireturn, 21, [], .null), (21, .aload_n 0, 22, [], .null), (22, .iconst 0, 23, [], .int (0)), (23, .putfield 300, 26, [12, 22, 1151], .null), (26, .iconst 0, 27, [], .int (0)), (27, .istore_n 2, 28, [], .null), (28, .iload_n 2, 29, [], .null), (29, .aload_n 0, 30, [], .null), (30, .getfield 53, 33, [12, 27, 1156], .null), (33, .iload_n 1, 34, [], .null), (34, .iaload, 35, [], .null), (35, .if_icmp .ge 70, 38, [105], .null), (38, .aload_n 0, 39, [], .null), (39, .aload_n 0, 40, [], .null), (40, .getfield 58, 43, [12, 28, 1157], .null), (43, .iload_n 1, 44, [], .null), (44, .aaload, 45, [], .null), (45, .iload_n 2, 46, [], .null), (46, .laload, 47, [], .null), (47, .invokevirtual 75, 50, [149, 2, 1, 2, 12, 1281, 0], .null), (50, .ifCond .eq 19, 53, [69], .null), (53, .aload_n 0, 54, [], .null), (54, .aload_n 0, 55, [], .null), (55, .getfield 58, 58, [12, 28, 1157], .null), (58, .iload_n 1, 59, [], .null), (59, .aaload, 60, [], .null), (60, .iload_n 2, 61, [], .null), (61, .laload, 62, [], .null), (62, .l2i, 63, [], .null), (63, .invokevirtual 305, 66, [219, 2, 1, 1, 12, 1551, 0], .null), (66, .ifCond .eq 5, 69, [71], .null), (69, .iconst 0, 70, [], .int (0)), (70, .ireturn, 71, [], .null), (71, .aload_n 0, 72, [], .null), (72, .getfield 44, 75, [12, 23, 1152], .null), (75, .aload_n 0, 76, [], .null), (76, .getfield 300, 79, [12, 22, 1151], .null), (79, .aload_n 0, 80, [], .null), (80, .getfield 58, 83, [12, 28, 1157], .null), (83, .iload_n 1, 84, [], .null), (84, .aaload, 85, [], .null), (85, .iload_n 2, 86, [], .null), (86, .laload, 87, [], .null), (87, .l2i, 88, [], .null), (88, .iastore, 89, [], .null), (89, .aload_n 0, 90, [], .null), (90, .dup, 91, [], .null), (91, .getfield 300, 94, [12, 22, 1151], .null), (94, .iconst 1, 95, [], .int (1)), (95, .iadd, 96, [], .null), (96, .putfield 300, 99, [12, 22, 1151], .null), (99, .iinc 2 1, 102, [], .int (1)), (102, .goto (-74), 105, [28], .null), (105, .iconst 0, 106, [], .int (0)), (106, .istore_n 2, 107, [], .null), (107, .iload_n 2, 108, [], .null), (108, .aload_n 0, 109, [], .null), (109, .getfield 300, 112, [12, 22, 1151], .null), (112, .if_icmp .ge 58, 115, [170], .null), (115, .iconst 0, 116, [], .int (0)), (116, .istore_n 3, 117, [], .null), (117, .iload_n 3, 118, [], .null), (118, .aload_n 0, 119, [], .null), (119, .getfield 300, 122, [12, 22, 1151], .null), (122, .if_icmp .ge 42, 125, [164], .null), (125, .aload_n 0, 126, [], .null), (126, .aload_n 0, 127, [], .null), (127, .iload_n 2, 128, [], .null), (128, .invokevirtual 308, 131, [220, 2, 1, 1, 12, 1555, 0], .null), (131, .aload_n 0, 132, [], .null), (132, .iload_n 2, 133, [], .null), (133, .iconst 1, 134, [], .int (1)), (134, .iadd, 135, [], .null), (135, .invokevirtual 308, 138, [220, 2, 1, 1, 12, 1555, 0], .null), (138, .aload_n 0, 139, [], .null), (139, .iload_n 3, 140, [], .null), (140, .invokevirtual 308, 143, [220, 2, 1, 1, 12, 1555, 0], .null), (143, .aload_n 0, 144, [], .null), (144, .iload_n 3, 145, [], .null), (145, .iconst 1, 146, [], .int (1)), (146, .iadd, 147, [], .null), (147, .invokevirtual 308, 150, [220, 2, 1, 1, 12, 1555, 0], .null), (150, .invokevirtual 132, 153, [156, 5, 1, 3, 12, 1289, 0], .null), (153, .ifCond .eq 5, 156, [158], .null), (156, .iconst 0, 157, [], .int (0)), (157, .ireturn, 158, [], .null), (158, .iinc 3 1, 161, [], .int (1)), (161, .goto (-44), 164, [117], .null), (164, .iinc 2 1, 167, [], .int (1)), (167, .goto (-60), 170, [107], .null), (170, .iconst 1, 171, [], .int (1)), (171, .ireturn, 172, [], .null)])
noncomputable def kX12_whyNot : zM := (2, some .int, 5, [], [(0, .iload_n 1, 1, [], .null), (1, .invokestatic 311, 4, [236, 1, 1, 2, 0, 1543, 0], .null), (4, .ifCond .ne 5, 7, [9], .null), (7, .iconst 0, 8, [], .int (0)), (8, .ireturn, 9, [], .null), (9, .aload_n 0, 10, [], .null), (10, .getfield 50, 13, [12, 26, 1155], .null), (13, .iload_n 1, 14, [], .null), (14, .iaload, 15, [], .null), (15, .ifCond .ge 5, 18, [20], .null), (18, .iconst 5, 19, [], .int (5)), (19, .ireturn, 20, [], .null), (20, .aload_n 0, 21, [], .null), (21, .iload_n 1, 22, [], .null), (22, .invokevirtual 314, 25, [221, 2, 1, 4, 12, 1546, 0], .null), (25, .ifCond .eq 7, 28, [32], .null), (28, .iconst (-1), 29, [], .int (-1)), (29, .goto 4, 32, [33], .null), (32, .iconst 4, 33, [], .int (4)), (33, .ireturn, 34, [], .null)])
noncomputable def kX12_isInside : zM := (9, some .boolean, 2, [(5, [0, 1, 2, 3, 4])], [(0, .iconst 0, 1, [], .int (0)), (1, .istore_n 3, 2, [], .null), (2, .iconst 0, 3, [], .int (0)), (3, .istore 4, 5, [], .null), (5, .iload 4, 7, [], .null), (7, .aload_n 0, 8, [], .null), (8, .getfield 300, 11, [12, 22, 1151], .null), (11, .if_icmp .ge 150, 14, [161], .null), (14, .aload_n 0, 15, [], .null), (15, .iload 4, 17, [], .null), (17, .invokevirtual 308, 20, [220, 2, 1, 1, 12, 1555, 0], .null), (20, .istore 5, 22, [], .null), (22, .aload_n 0, 23, [], .null), (23, .iload 4, 25, [], .null), (25, .iconst 1, 26, [], .int (1)), (26, .iadd, 27, [], .null), (27, .invokevirtual 308, 30, [220, 2, 1, 1, 12, 1555, 0], .null), (30, .istore 6, 32, [], .null), (32, .aload_n 0, 33, [], .null), (33, .iload 5, 35, [], .null), (35, .invokevirtual 83, 38, [148, 2, 1, 1, 12, 1253, 0], .null), (38, .aload_n 0, 39, [], .null), (39, .iload 6, 41, [], .null), (41, .invokevirtual 83, 44, [148, 2, 1, 1, 12, 1253, 0], .null), (44, .if_icmp .ge 8, 47, [52], .null), (47, .iload 5, 49, [], .null), (49, .goto 5, 52, [54], .null), (52, .iload 6, 54, [], .null), (54, .istore 7, 56, [], .null), (56, .aload_n 0, 57, [], .null), (57, .iload 5, 59, [], .null), (59, .invokevirtual 83, 62, [148, 2, 1, 1, 12, 1253, 0], .null), (62, .aload_n 0, 63, [], .null), (63, .iload 6, 65, [], .null), (65, .invokevirtual 83, 68, [148, 2, 1, 1, 12, 1253, 0], .null), (68, .if_icmp .ge 8, 71, [76], .null), (71, .iload 6, 73, [], .null), (73, .goto 5, 76, [78], .null), (76, .iload 5, 78, [], .null), (78, .istore 8, 80, [], .null), (80, .iconst 2, 81, [], .int (2)), (81, .aload_n 0, 82, [], .null), (82, .iload 7, 84, [], .null), (84, .invokevirtual 83, 87, [148, 2, 1, 1, 12, 1253, 0], .null), (87, .imul, 88, [], .null), (88, .iload_n 2, 89, [], .null), (89, .if_icmp .gt 66, 92, [155], .null), (92, .iconst 2, 93, [], .int (2)), (93, .aload_n 0, 94, [], .null), (94, .iload 8, 96, [], .null), (96, .invokevirtual 83, 99, [148, 2, 1, 1, 12, 1253, 0], .null), (99, .imul, 100, [], .null), (100, .iload_n 2, 101, [], .null), (101, .if_icmp .gt 6, 104, [107], .null), (104, .goto 51, 107, [155], .null), (107, .iload_n 3, 108, [], .null), (108, .iconst 2, 109, [], .int (2)), (109, .aload_n 0, 110, [], .null), (110, .iload 7, 112, [], .null), (112, .invokevirtual 79, 115, [147, 2, 1, 1, 12, 1249, 0], .null), (115, .imul, 116, [], .null), (116, .iconst 2, 117, [], .int (2)), (117, .aload_n 0, 118, [], .null), (118, .iload 7, 120, [], .null), (120, .invokevirtual 83, 123, [148, 2, 1, 1, 12, 1253, 0], .null), (123, .imul, 124, [], .null), (124, .iconst 2, 125, [], .int (2)), (125, .aload_n 0, 126, [], .null), (126, .iload 8, 128, [], .null), (128, .invokevirtual 79, 131, [147, 2, 1, 1, 12, 1249, 0], .null), (131, .imul, 132, [], .null), (132, .iconst 2, 133, [], .int (2)), (133, .aload_n 0, 134, [], .null), (134, .iload 8, 136, [], .null), (136, .invokevirtual 83, 139, [148, 2, 1, 1, 12, 1253, 0], .null), (139, .imul, 140, [], .null), (140, .iload_n 1, 141, [], .null), (141, .iload_n 2, 142, [], .null), (142, .invokestatic 86, 145, [151, 6, 1, 1, 0, 1257, 0], .null), (145, .ifCond .le 7, 148, [152], .null), (148, .iconst 1, 149, [], .int (1)), (149, .goto 4, 152, [153], .null), (152, .iconst 0, 153, [], .int (0)), (153, .ixor, 154, [], .null), (154, .istore_n 3, 155, [], .null), (155, .iinc 4 1, 158, [], .int (1)), (158, .goto (-153), 161, [5], .null), (161, .iload_n 3, 162, [], .null), (162, .ireturn, 163, [], .null)])
noncomputable def kX12_isSide : zM := (4, some .boolean, 2, [(2, [0, 1, 2, 3]), (30, [0, 1, 2, 3])], [(0, .iconst 0, 1, [], .int (0)), (1, .istore_n 3, 2, [], .null), (2, .iload_n 3, 3, [], .null), (3, .aload_n 0, 4, [], .null), (4, .getfield 300, 7, [12, 22, 1151], .null), (7, .if_icmp .ge 51, 10, [58], .null), (10, .aload_n 0, 11, [], .null), (11, .iload_n 3, 12, [], .null), (12, .invokevirtual 308, 15, [220, 2, 1, 1, 12, 1555, 0], .null), (15, .iload_n 1, 16, [], .null), (16, .if_icmp .ne 14, 19, [30], .null), (19, .aload_n 0, 20, [], .null), (20, .iload_n 3, 21, [], .null), (21, .iconst 1, 22, [], .int (1)), (22, .iadd, 23, [], .null), (23, .invokevirtual 308, 26, [220, 2, 1, 1, 12, 1555, 0], .null), (26, .iload_n 2, 27, [], .null), (27, .if_icmp .eq 23, 30, [50], .null), (30, .aload_n 0, 31, [], .null), (31, .iload_n 3, 32, [], .null), (32, .invokevirtual 308, 35, [220, 2, 1, 1, 12, 1555, 0], .null), (35, .iload_n 2, 36, [], .null), (36, .if_icmp .ne 16, 39, [52], .null), (39, .aload_n 0, 40, [], .null), (40, .iload_n 3, 41, [], .null), (41, .iconst 1, 42, [], .int (1)), (42, .iadd, 43, [], .null), (43, .invokevirtual 308, 46, [220, 2, 1, 1, 12, 1555, 0], .null), (46, .iload_n 1, 47, [], .null), (47, .if_icmp .ne 5, 50, [52], .null), (50, .iconst 1, 51, [], .int (1)), (51, .ireturn, 52, [], .null), (52, .iinc 3 1, 55, [], .int (1)), (55, .goto (-53), 58, [2], .null), (58, .iconst 0, 59, [], .int (0)), (59, .ireturn, 60, [], .null)])
noncomputable def kX12_runsInside : zM := (4, some .boolean, 4, [(13, [0, 1, 2, 3])], [(0, .aload_n 0, 1, [], .null), (1, .iload_n 1, 2, [], .null), (2, .iload_n 2, 3, [], .null), (3, .invokevirtual 317, 6, [224, 3, 1, 2, 12, 1563, 0], .null), (6, .ifCond .eq 5, 9, [11], .null), (9, .iconst 0, 10, [], .int (0)), (10, .ireturn, 11, [], .null), (11, .iconst 0, 12, [], .int (0)), (12, .istore_n 3, 13, [], .null), (13, .iload_n 3, 14, [], .null), (14, .aload_n 0, 15, [], .null), (15, .getfield 300, 18, [12, 22, 1151], .null), (18, .if_icmp .ge 32, 21, [50], .null), (21, .aload_n 0, 22, [], .null), (22, .iload_n 1, 23, [], .null), (23, .iload_n 2, 24, [], .null), (24, .aload_n 0, 25, [], .null), (25, .iload_n 3, 26, [], .null), (26, .invokevirtual 308, 29, [220, 2, 1, 1, 12, 1555, 0], .null), (29, .aload_n 0, 30, [], .null), (30, .iload_n 3, 31, [], .null), (31, .iconst 1, 32, [], .int (1)), (32, .iadd, 33, [], .null), (33, .invokevirtual 308, 36, [220, 2, 1, 1, 12, 1555, 0], .null), (36, .invokevirtual 132, 39, [156, 5, 1, 3, 12, 1289, 0], .null), (39, .ifCond .eq 5, 42, [44], .null), (42, .iconst 0, 43, [], .int (0)), (43, .ireturn, 44, [], .null), (44, .iinc 3 1, 47, [], .int (1)), (47, .goto (-34), 50, [13], .null), (50, .aload_n 0, 51, [], .null), (51, .aload_n 0, 52, [], .null), (52, .iload_n 1, 53, [], .null), (53, .invokevirtual 79, 56, [147, 2, 1, 1, 12, 1249, 0], .null), (56, .aload_n 0, 57, [], .null), (57, .iload_n 2, 58, [], .null), (58, .invokevirtual 79, 61, [147, 2, 1, 1, 12, 1249, 0], .null), (61, .iadd, 62, [], .null), (62, .aload_n 0, 63, [], .null), (63, .iload_n 1, 64, [], .null), (64, .invokevirtual 83, 67, [148, 2, 1, 1, 12, 1253, 0], .null), (67, .aload_n 0, 68, [], .null), (68, .iload_n 2, 69, [], .null), (69, .invokevirtual 83, 72, [148, 2, 1, 1, 12, 1253, 0], .null), (72, .iadd, 73, [], .null), (73, .invokevirtual 320, 76, [223, 3, 1, 2, 12, 1567, 0], .null), (76, .ireturn, 77, [], .null)])
noncomputable def kX12_splits : zM := (5, some .int, 40, [(42, [0, 3]), (55, [0, 3, 4])], [(0, .aload_n 0, 1, [], .null), (1, .iload_n 1, 2, [], .null), (2, .invokevirtual 323, 5, [222, 2, 1, 5, 12, 1539, 0], .null), (5, .istore_n 2, 6, [], .null), (6, .iload_n 2, 7, [], .null), (7, .ifCond .lt 9, 10, [16], .null), (10, .aload_n 0, 11, [], .null), (11, .iload_n 2, 12, [], .null), (12, .invokevirtual 142, 15, [143, 2, 1, 1, 12, 1232, 0], .null), (15, .ireturn, 16, [], .null), (16, .aload_n 0, 17, [], .null), (17, .iconst 0, 18, [], .int (0)), (18, .putfield 125, 21, [12, 15, 1144], .null), (21, .aload_n 0, 22, [], .null), (22, .invokevirtual 201, 25, [178, 1, 0, 4, 12, 1359, 0], .null), (25, .aload_n 0, 26, [], .null), (26, .lconst 0, 27, [], .long (0)), (27, .putfield 175, 30, [12, 10, 1139], .null), (30, .aload_n 0, 31, [], .null), (31, .lconst 0, 32, [], .long (0)), (32, .putfield 198, 35, [12, 11, 1140], .null), (35, .aload_n 0, 36, [], .null), (36, .lconst 0, 37, [], .long (0)), (37, .putfield 179, 40, [12, 12, 1141], .null), (40, .iconst 0, 41, [], .int (0)), (41, .istore_n 3, 42, [], .null), (42, .iload_n 3, 43, [], .null), (43, .aload_n 0, 44, [], .null), (44, .getfield 300, 47, [12, 22, 1151], .null), (47, .if_icmp .ge 80, 50, [127], .null), (50, .iload_n 3, 51, [], .null), (51, .iconst 1, 52, [], .int (1)), (52, .iadd, 53, [], .null), (53, .istore 4, 55, [], .null), (55, .iload 4, 57, [], .null), (57, .aload_n 0, 58, [], .null), (58, .getfield 300, 61, [12, 22, 1151], .null), (61, .if_icmp .ge 60, 64, [121], .null), (64, .aload_n 0, 65, [], .null), (65, .dup, 66, [], .null), (66, .getfield 175, 69, [12, 10, 1139], .null), (69, .aload_n 0, 70, [], .null), (70, .aload_n 0, 71, [], .null), (71, .getfield 44, 74, [12, 23, 1152], .null), (74, .iload_n 3, 75, [], .null), (75, .iaload, 76, [], .null), (76, .aload_n 0, 77, [], .null), (77, .getfield 44, 80, [12, 23, 1152], .null), (80, .iload 4, 82, [], .null), (82, .iaload, 83, [], .null), (83, .invokevirtual 326, 86, [225, 3, 1, 4, 12, 1559, 0], .null), (86, .ifCond .eq 24, 89, [110], .null), (89, .lconst 1, 90, [], .long (1)), (90, .aload_n 0, 91, [], .null), (91, .getfield 44, 94, [12, 23, 1152], .null), (94, .iload_n 3, 95, [], .null), (95, .iaload, 96, [], .null), (96, .aload_n 0, 97, [], .null), (97, .getfield 44, 100, [12, 23, 1152], .null), (100, .iload 4, 102, [], .null), (102, .iaload, 103, [], .null), (103, .invokestatic 129, 106, [155, 2, 1, 1, 0, 1272, 0], .null), (106, .lshl, 107, [], .null), (107, .goto 4, 110, [111], .null), (110, .lconst 0, 111, [], .long (0)), (111, .lor, 112, [], .null), (112, .putfield 175, 115, [12, 10, 1139], .null), (115, .iinc 4 1, 118, [], .int (1)), (118, .goto (-63), 121, [55], .null), (121, .iinc 3 1, 124, [], .int (1)), (124, .goto (-82), 127, [42], .null), (127, .aload_n 0, 128, [], .null), (128, .iconst 0, 129, [], .int (0)), (129, .putfield 191, 132, [12, 14, 1143], .null), (132, .aload_n 0, 133, [], .null), (133, .lconst 0, 134, [], .long (0)), (134, .bipush 36, 136, [], .int (36)), (136, .invokevirtual 194, 139, [180, 3, 0, 3, 12, 1363, 0], .null), (139, .aload_n 0, 140, [], .null), (140, .getfield 191, 143, [12, 14, 1143], .null), (143, .ireturn, 144, [], .null)])
noncomputable def kX12_area : zM := (5, some .int, 6, [(21, [0, 3, 4])], [(0, .aload_n 0, 1, [], .null), (1, .iload_n 1, 2, [], .null), (2, .invokevirtual 323, 5, [222, 2, 1, 5, 12, 1539, 0], .null), (5, .istore_n 2, 6, [], .null), (6, .iload_n 2, 7, [], .null), (7, .ifCond .lt 9, 10, [16], .null), (10, .aload_n 0, 11, [], .null), (11, .iload_n 2, 12, [], .null), (12, .invokevirtual 142, 15, [143, 2, 1, 1, 12, 1232, 0], .null), (15, .ireturn, 16, [], .null), (16, .iconst 0, 17, [], .int (0)), (17, .istore_n 3, 18, [], .null), (18, .iconst 0, 19, [], .int (0)), (19, .istore 4, 21, [], .null), (21, .iload 4, 23, [], .null), (23, .aload_n 0, 24, [], .null), (24, .getfield 300, 27, [12, 22, 1151], .null), (27, .if_icmp .ge 59, 30, [86], .null), (30, .iload_n 3, 31, [], .null), (31, .aload_n 0, 32, [], .null), (32, .aload_n 0, 33, [], .null), (33, .iload 4, 35, [], .null), (35, .invokevirtual 308, 38, [220, 2, 1, 1, 12, 1555, 0], .null), (38, .invokevirtual 79, 41, [147, 2, 1, 1, 12, 1249, 0], .null), (41, .aload_n 0, 42, [], .null), (42, .aload_n 0, 43, [], .null), (43, .iload 4, 45, [], .null), (45, .iconst 1, 46, [], .int (1)), (46, .iadd, 47, [], .null), (47, .invokevirtual 308, 50, [220, 2, 1, 1, 12, 1555, 0], .null), (50, .invokevirtual 83, 53, [148, 2, 1, 1, 12, 1253, 0], .null), (53, .imul, 54, [], .null), (54, .aload_n 0, 55, [], .null), (55, .aload_n 0, 56, [], .null), (56, .iload 4, 58, [], .null), (58, .iconst 1, 59, [], .int (1)), (59, .iadd, 60, [], .null), (60, .invokevirtual 308, 63, [220, 2, 1, 1, 12, 1555, 0], .null), (63, .invokevirtual 79, 66, [147, 2, 1, 1, 12, 1249, 0], .null), (66, .aload_n 0, 67, [], .null), (67, .aload_n 0, 68, [], .null), (68, .iload 4, 70, [], .null), (70, .invokevirtual 308, 73, [220, 2, 1, 1, 12, 1555, 0], .null), (73, .invokevirtual 83, 76, [148, 2, 1, 1, 12, 1253, 0], .null), (76, .imul, 77, [], .null), (77, .isub, 78, [], .null), (78, .iadd, 79, [], .null), (79, .istore_n 3, 80, [], .null), (80, .iinc 4 1, 83, [], .int (1)), (83, .goto (-62), 86, [21], .null), (86, .iload_n 3, 87, [], .null), (87, .invokestatic 283, 90, [992, 1522], .null), (90, .ireturn, 91, [], .null)])
noncomputable def kX12_within : zM := (5, some .int, 6, [(21, [0, 3, 4])], [(0, .aload_n 0, 1, [], .null), (1, .iload_n 1, 2, [], .null), (2, .invokevirtual 323, 5, [222, 2, 1, 5, 12, 1539, 0], .null), (5, .istore_n 2, 6, [], .null), (6, .iload_n 2, 7, [], .null), (7, .ifCond .lt 9, 10, [16], .null), (10, .aload_n 0, 11, [], .null), (11, .iload_n 2, 12, [], .null), (12, .invokevirtual 142, 15, [143, 2, 1, 1, 12, 1232, 0], .null), (15, .ireturn, 16, [], .null), (16, .iconst 0, 17, [], .int (0)), (17, .istore_n 3, 18, [], .null), (18, .iconst 0, 19, [], .int (0)), (19, .istore 4, 21, [], .null), (21, .iload 4, 23, [], .null), (23, .aload_n 0, 24, [], .null), (24, .invokevirtual 67, 27, [146, 1, 1, 1, 12, 1237, 0], .null), (27, .if_icmp .ge 52, 30, [79], .null), (30, .iload_n 3, 31, [], .null), (31, .aload_n 0, 32, [], .null), (32, .iload 4, 34, [], .null), (34, .invokevirtual 305, 37, [219, 2, 1, 1, 12, 1551, 0], .null), (37, .ifCond .ne 33, 40, [70], .null), (40, .aload_n 0, 41, [], .null), (41, .iconst 2, 42, [], .int (2)), (42, .aload_n 0, 43, [], .null), (43, .iload 4, 45, [], .null), (45, .invokevirtual 79, 48, [147, 2, 1, 1, 12, 1249, 0], .null), (48, .imul, 49, [], .null), (49, .iconst 2, 50, [], .int (2)), (50, .aload_n 0, 51, [], .null), (51, .iload 4, 53, [], .null), (53, .invokevirtual 83, 56, [148, 2, 1, 1, 12, 1253, 0], .null), (56, .imul, 57, [], .null), (57, .invokevirtual 320, 60, [223, 3, 1, 2, 12, 1567, 0], .null), (60, .ifCond .eq 10, 63, [70], .null), (63, .iconst 1, 64, [], .int (1)), (64, .iload 4, 66, [], .null), (66, .ishl, 67, [], .null), (67, .goto 4, 70, [71], .null), (70, .iconst 0, 71, [], .int (0)), (71, .ior, 72, [], .null), (72, .istore_n 3, 73, [], .null), (73, .iinc 4 1, 76, [], .int (1)), (76, .goto (-55), 79, [21], .null), (79, .iload_n 3, 80, [], .null), (80, .ireturn, 81, [], .null)])
noncomputable def kX12_isEmpty : zM := (6, some .boolean, 4, [(2, [0, 1, 2]), (14, [0, 1, 2, 3]), (27, [0, 1, 2, 3, 4]), (59, [0, 1, 2, 3, 4, 5])], [(0, .iconst 0, 1, [], .int (0)), (1, .istore_n 2, 2, [], .null), (2, .iload_n 2, 3, [], .null), (3, .aload_n 0, 4, [], .null), (4, .invokevirtual 67, 7, [146, 1, 1, 1, 12, 1237, 0], .null), (7, .if_icmp .ge 100, 10, [107], .null), (10, .iload_n 2, 11, [], .null), (11, .iconst 1, 12, [], .int (1)), (12, .iadd, 13, [], .null), (13, .istore_n 3, 14, [], .null), (14, .iload_n 3, 15, [], .null), (15, .aload_n 0, 16, [], .null), (16, .invokevirtual 67, 19, [146, 1, 1, 1, 12, 1237, 0], .null), (19, .if_icmp .ge 82, 22, [101], .null), (22, .iload_n 3, 23, [], .null), (23, .iconst 1, 24, [], .int (1)), (24, .iadd, 25, [], .null), (25, .istore 4, 27, [], .null), (27, .iload 4, 29, [], .null), (29, .aload_n 0, 30, [], .null), (30, .invokevirtual 67, 33, [146, 1, 1, 1, 12, 1237, 0], .null), (33, .if_icmp .ge 62, 36, [95], .null), (36, .iload_n 1, 37, [], .null), (37, .iload_n 2, 38, [], .null), (38, .ishr, 39, [], .null), (39, .iload_n 1, 40, [], .null), (40, .iload_n 3, 41, [], .null), (41, .ishr, 42, [], .null), (42, .iand, 43, [], .null), (43, .iload_n 1, 44, [], .null), (44, .iload 4, 46, [], .null), (46, .ishr, 47, [], .null), (47, .iand, 48, [], .null), (48, .iconst 1, 49, [], .int (1)), (49, .iand, 50, [], .null), (50, .ifCond .ne 6, 53, [56], .null), (53, .goto 36, 56, [89], .null), (56, .iconst 0, 57, [], .int (0)), (57, .istore 5, 59, [], .null), (59, .iload 5, 61, [], .null), (61, .aload_n 0, 62, [], .null), (62, .invokevirtual 67, 65, [146, 1, 1, 1, 12, 1237, 0], .null), (65, .if_icmp .ge 24, 68, [89], .null), (68, .aload_n 0, 69, [], .null), (69, .iload 5, 71, [], .null), (71, .iload_n 2, 72, [], .null), (72, .iload_n 3, 73, [], .null), (73, .iload 4, 75, [], .null), (75, .invokevirtual 107, 78, [154, 5, 1, 3, 12, 1310, 0], .null), (78, .ifCond .eq 5, 81, [83], .null), (81, .iconst 0, 82, [], .int (0)), (82, .ireturn, 83, [], .null), (83, .iinc 5 1, 86, [], .int (1)), (86, .goto (-27), 89, [59], .null), (89, .iinc 4 1, 92, [], .int (1)), (92, .goto (-65), 95, [27], .null), (95, .iinc 3 1, 98, [], .int (1)), (98, .goto (-84), 101, [14], .null), (101, .iinc 2 1, 104, [], .int (1)), (104, .goto (-102), 107, [2], .null), (107, .iconst 1, 108, [], .int (1)), (108, .ireturn, 109, [], .null)])
noncomputable def kX12_empty : zM := (4, some .int, 5, [(24, [0, 1, 2, 3])], [(0, .iload_n 1, 1, [], .null), (1, .i2l, 2, [], .null), (2, .ldc2_w 162, 5, [1301], .long (3)), (5, .ldc2_w 294, 8, [1478], .long (6)), (8, .invokestatic 71, 11, [145, 3, 1, 1, 0, 1229, 0], .null), (11, .ifCond .ne 9, 14, [20], .null), (14, .aload_n 0, 15, [], .null), (15, .iconst 0, 16, [], .int (0)), (16, .invokevirtual 142, 19, [143, 2, 1, 1, 12, 1232, 0], .null), (19, .ireturn, 20, [], .null), (20, .iconst 0, 21, [], .int (0)), (21, .istore_n 2, 22, [], .null), (22, .iconst 0, 23, [], .int (0)), (23, .istore_n 3, 24, [], .null), (24, .iload_n 3, 25, [], .null), (25, .iconst 1, 26, [], .int (1)), (26, .aload_n 0, 27, [], .null), (27, .invokevirtual 67, 30, [146, 1, 1, 1, 12, 1237, 0], .null), (30, .ishl, 31, [], .null), (31, .if_icmp .ge 33, 34, [64], .null), (34, .iload_n 2, 35, [], .null), (35, .iload_n 3, 36, [], .null), (36, .invokestatic 329, 39, [247, 1, 1, 1, 0, 1583, 0], .null), (39, .iload_n 1, 40, [], .null), (40, .if_icmp .ne 15, 43, [55], .null), (43, .aload_n 0, 44, [], .null), (44, .iload_n 3, 45, [], .null), (45, .invokevirtual 332, 48, [229, 2, 1, 4, 12, 1584, 0], .null), (48, .ifCond .eq 7, 51, [55], .null), (51, .iconst 1, 52, [], .int (1)), (52, .goto 4, 55, [56], .null), (55, .iconst 0, 56, [], .int (0)), (56, .iadd, 57, [], .null), (57, .istore_n 2, 58, [], .null), (58, .iinc 3 1, 61, [], .int (1)), (61, .goto (-37), 64, [24], .null), (64, .iload_n 2, 65, [], .null), (65, .ireturn, 66, [], .null)])
noncomputable def kX12_prove : zM := (2, some .int, 42, [(27, [0, 1])], [(0, .aload_n 0, 1, [], .null), (1, .iload_n 1, 2, [], .null), (2, .invokevirtual 207, 5, [183, 2, 1, 41, 12, 1379, 0], .null), (5, .ifCond .ne 9, 8, [14], .null), (8, .aload_n 0, 9, [], .null), (9, .iconst 3, 10, [], .int (3)), (10, .invokevirtual 142, 13, [143, 2, 1, 1, 12, 1232, 0], .null), (13, .ireturn, 14, [], .null), (14, .aload_n 0, 15, [], .null), (15, .aload_n 0, 16, [], .null), (16, .invokevirtual 247, 19, [197, 1, 1, 5, 12, 1445, 0], .null), (19, .putfield 232, 22, [12, 18, 1147], .null), (22, .aload_n 0, 23, [], .null), (23, .iconst 0, 24, [], .int (0)), (24, .putfield 335, 27, [12, 24, 1153], .null), (27, .aload_n 0, 28, [], .null), (28, .aload_n 0, 29, [], .null), (29, .getfield 35, 32, [12, 13, 1142], .null), (32, .iload_n 1, 33, [], .null), (33, .laload, 34, [], .null), (34, .invokevirtual 250, 37, [200, 2, 1, 6, 12, 1453, 0], .null), (37, .ifCond .eq 46, 40, [83], .null), (40, .aload_n 0, 41, [], .null), (41, .getfield 47, 44, [12, 25, 1154], .null), (44, .aload_n 0, 45, [], .null), (45, .getfield 335, 48, [12, 24, 1153], .null), (48, .aaload, 49, [], .null), (49, .iconst 0, 50, [], .int (0)), (50, .aload_n 0, 51, [], .null), (51, .getfield 238, 54, [12, 19, 1148], .null), (54, .iastore, 55, [], .null), (55, .aload_n 0, 56, [], .null), (56, .getfield 47, 59, [12, 25, 1154], .null), (59, .aload_n 0, 60, [], .null), (60, .getfield 335, 63, [12, 24, 1153], .null), (63, .aaload, 64, [], .null), (64, .iconst 1, 65, [], .int (1)), (65, .aload_n 0, 66, [], .null), (66, .getfield 241, 69, [12, 20, 1149], .null), (69, .iastore, 70, [], .null), (70, .aload_n 0, 71, [], .null), (71, .dup, 72, [], .null), (72, .getfield 335, 75, [12, 24, 1153], .null), (75, .iconst 1, 76, [], .int (1)), (76, .iadd, 77, [], .null), (77, .putfield 335, 80, [12, 24, 1153], .null), (80, .goto (-53), 83, [27], .null), (83, .aload_n 0, 84, [], .null), (84, .getfield 335, 87, [12, 24, 1153], .null), (87, .ireturn, 88, [], .null)])
noncomputable def kX12_isRow : zM := (3, some .boolean, 2, [], [(0, .iload_n 1, 1, [], .null), (1, .i2l, 2, [], .null), (2, .lconst 0, 3, [], .long (0)), (3, .aload_n 0, 4, [], .null), (4, .getfield 335, 7, [12, 24, 1153], .null), (7, .iconst 1, 8, [], .int (1)), (8, .isub, 9, [], .null), (9, .i2l, 10, [], .null), (10, .invokestatic 71, 13, [145, 3, 1, 1, 0, 1229, 0], .null), (13, .ifCond .eq 17, 16, [30], .null), (16, .iload_n 2, 17, [], .null), (17, .i2l, 18, [], .null), (18, .lconst 0, 19, [], .long (0)), (19, .lconst 1, 20, [], .long (1)), (20, .invokestatic 71, 23, [145, 3, 1, 1, 0, 1229, 0], .null), (23, .ifCond .eq 7, 26, [30], .null), (26, .iconst 1, 27, [], .int (1)), (27, .goto 4, 30, [31], .null), (30, .iconst 0, 31, [], .int (0)), (31, .ireturn, 32, [], .null)])
noncomputable def kX12_row : zM := (3, some .int, 3, [], [(0, .aload_n 0, 1, [], .null), (1, .iload_n 1, 2, [], .null), (2, .iload_n 2, 3, [], .null), (3, .invokevirtual 338, 6, [232, 3, 1, 2, 12, 1596, 0], .null), (6, .ifCond .eq 14, 9, [20], .null), (9, .aload_n 0, 10, [], .null), (10, .getfield 47, 13, [12, 25, 1154], .null), (13, .iload_n 1, 14, [], .null), (14, .aaload, 15, [], .null), (15, .iload_n 2, 16, [], .null), (16, .iaload, 17, [], .null), (17, .goto 8, 20, [25], .null), (20, .aload_n 0, 21, [], .null), (21, .iconst 0, 22, [], .int (0)), (22, .invokevirtual 142, 25, [143, 2, 1, 1, 12, 1232, 0], .null), (25, .ireturn, 26, [], .null)])
noncomputable def kX12_alter : zM := (5, some .int, 3, [], [(0, .aload_n 0, 1, [], .null), (1, .iload_n 1, 2, [], .null), (2, .iload_n 2, 3, [], .null), (3, .invokevirtual 338, 6, [232, 3, 1, 2, 12, 1596, 0], .null), (6, .ifCond .ne 9, 9, [15], .null), (9, .aload_n 0, 10, [], .null), (10, .iconst 0, 11, [], .int (0)), (11, .invokevirtual 142, 14, [143, 2, 1, 1, 12, 1232, 0], .null), (14, .ireturn, 15, [], .null), (15, .aload_n 0, 16, [], .null), (16, .getfield 47, 19, [12, 25, 1154], .null), (19, .iload_n 1, 20, [], .null), (20, .aaload, 21, [], .null), (21, .iload_n 2, 22, [], .null), (22, .iaload, 23, [], .null), (23, .istore 4, 25, [], .null), (25, .aload_n 0, 26, [], .null), (26, .getfield 47, 29, [12, 25, 1154], .null), (29, .iload_n 1, 30, [], .null), (30, .aaload, 31, [], .null), (31, .iload_n 2, 32, [], .null), (32, .iload_n 3, 33, [], .null), (33, .iastore, 34, [], .null), (34, .iload 4, 36, [], .null), (36, .ireturn, 37, [], .null)])
noncomputable def kX12_judge : zM := (3, some .int, 42, [(24, [0, 1, 2])], [(0, .aload_n 0, 1, [], .null), (1, .iload_n 1, 2, [], .null), (2, .invokevirtual 207, 5, [183, 2, 1, 41, 12, 1379, 0], .null), (5, .ifCond .ne 9, 8, [14], .null), (8, .aload_n 0, 9, [], .null), (9, .iconst 3, 10, [], .int (3)), (10, .invokevirtual 142, 13, [143, 2, 1, 1, 12, 1232, 0], .null), (13, .ireturn, 14, [], .null), (14, .aload_n 0, 15, [], .null), (15, .aload_n 0, 16, [], .null), (16, .invokevirtual 247, 19, [197, 1, 1, 5, 12, 1445, 0], .null), (19, .putfield 232, 22, [12, 18, 1147], .null), (22, .iconst 0, 23, [], .int (0)), (23, .istore_n 2, 24, [], .null), (24, .aload_n 0, 25, [], .null), (25, .aload_n 0, 26, [], .null), (26, .getfield 35, 29, [12, 13, 1142], .null), (29, .iload_n 1, 30, [], .null), (30, .laload, 31, [], .null), (31, .invokevirtual 250, 34, [200, 2, 1, 6, 12, 1453, 0], .null), (34, .ifCond .eq 51, 37, [85], .null), (37, .iload_n 2, 38, [], .null), (38, .aload_n 0, 39, [], .null), (39, .getfield 335, 42, [12, 24, 1153], .null), (42, .if_icmp .ge 33, 45, [75], .null), (45, .aload_n 0, 46, [], .null), (46, .getfield 47, 49, [12, 25, 1154], .null), (49, .iload_n 2, 50, [], .null), (50, .aaload, 51, [], .null), (51, .iconst 0, 52, [], .int (0)), (52, .iaload, 53, [], .null), (53, .aload_n 0, 54, [], .null), (54, .getfield 238, 57, [12, 19, 1148], .null), (57, .if_icmp .ne 18, 60, [75], .null), (60, .aload_n 0, 61, [], .null), (61, .getfield 47, 64, [12, 25, 1154], .null), (64, .iload_n 2, 65, [], .null), (65, .aaload, 66, [], .null), (66, .iconst 1, 67, [], .int (1)), (67, .iaload, 68, [], .null), (68, .aload_n 0, 69, [], .null), (69, .getfield 241, 72, [12, 20, 1149], .null), (72, .if_icmp .eq 7, 75, [79], .null), (75, .iconst 1, 76, [], .int (1)), (76, .iload_n 2, 77, [], .null), (77, .iadd, 78, [], .null), (78, .ireturn, 79, [], .null), (79, .iinc 2 1, 82, [], .int (1)), (82, .goto (-58), 85, [24], .null), (85, .aload_n 0, 86, [], .null), (86, .getfield 335, 89, [12, 24, 1153], .null), (89, .iload_n 2, 90, [], .null), (90, .if_icmp .le 9, 93, [99], .null), (93, .iconst 1, 94, [], .int (1)), (94, .iload_n 2, 95, [], .null), (95, .iadd, 96, [], .null), (96, .goto 4, 99, [100], .null), (99, .iconst 0, 100, [], .int (0)), (100, .ireturn, 101, [], .null)])
noncomputable def kX12_isSheet : zM := (1, some .boolean, 2, [], [(0, .iload_n 0, 1, [], .null), (1, .i2l, 2, [], .null), (2, .lconst 0, 3, [], .long (0)), (3, .ldc2_w 162, 6, [1301], .long (3)), (6, .invokestatic 71, 9, [145, 3, 1, 1, 0, 1229, 0], .null), (9, .ireturn, 10, [], .null)])
noncomputable def kX12_sheet : zM := (5, some .int, 3, [(42, [0, 1, 2, 3]), (58, [0, 1, 2, 3]), (83, [0, 1, 4])], [(0, .iload_n 1, 1, [], .null), (1, .invokestatic 311, 4, [236, 1, 1, 2, 0, 1543, 0], .null), (4, .ifCond .eq 17, 7, [21], .null), (7, .iload_n 2, 8, [], .null), (8, .i2l, 9, [], .null), (9, .ldc2_w 182, 12, [1371], .long (-1)), (12, .ldc2_w 170, 15, [1322], .long (2)), (15, .invokestatic 71, 18, [145, 3, 1, 1, 0, 1229, 0], .null), (18, .ifCond .ne 9, 21, [27], .null), (21, .aload_n 0, 22, [], .null), (22, .iconst 0, 23, [], .int (0)), (23, .invokevirtual 142, 26, [143, 2, 1, 1, 12, 1232, 0], .null), (26, .ireturn, 27, [], .null), (27, .iload_n 2, 28, [], .null), (28, .ifCond .lt 14, 31, [42], .null), (31, .iload_n 3, 32, [], .null), (32, .ifCond .ge 10, 35, [42], .null), (35, .aload_n 0, 36, [], .null), (36, .bipush 6, 38, [], .int (6)), (38, .invokevirtual 142, 41, [143, 2, 1, 1, 12, 1232, 0], .null), (41, .ireturn, 42, [], .null), (42, .iload_n 2, 43, [], .null), (43, .ifCond .lt 15, 46, [58], .null), (46, .iload_n 3, 47, [], .null), (47, .bipush 40, 49, [], .int (40)), (49, .if_icmp .le 9, 52, [58], .null), (52, .aload_n 0, 53, [], .null), (53, .iconst 0, 54, [], .int (0)), (54, .invokevirtual 142, 57, [143, 2, 1, 1, 12, 1232, 0], .null), (57, .ireturn, 58, [], .null), (58, .aload_n 0, 59, [], .null), (59, .getfield 50, 62, [12, 26, 1155], .null), (62, .iload_n 1, 63, [], .null), (63, .iload_n 2, 64, [], .null), (64, .iastore, 65, [], .null), (65, .aload_n 0, 66, [], .null), (66, .getfield 53, 69, [12, 27, 1156], .null), (69, .iload_n 1, 70, [], .null), (70, .iload_n 2, 71, [], .null), (71, .ifCond .ge 7, 74, [78], .null), (74, .iconst 0, 75, [], .int (0)), (75, .goto 4, 78, [79], .null), (78, .iload_n 3, 79, [], .null), (79, .iastore, 80, [], .null), (80, .iconst 0, 81, [], .int (0)), (81, .istore 4, 83, [], .null), (83, .iload 4, 85, [], .null), (85, .bipush 40, 87, [], .int (40)), (87, .if_icmp .ge 19, 90, [106], .null), (90, .aload_n 0, 91, [], .null), (91, .getfield 58, 94, [12, 28, 1157], .null), (94, .iload_n 1, 95, [], .null), (95, .aaload, 96, [], .null), (96, .iload 4, 98, [], .null), (98, .lconst 0, 99, [], .long (0)), (99, .lastore, 100, [], .null), (100, .iinc 4 1, 103, [], .int (1)), (103, .goto (-20), 106, [83], .null), (106, .aload_n 0, 107, [], .null), (107, .getfield 53, 110, [12, 27, 1156], .null), (110, .iload_n 1, 111, [], .null), (111, .iaload, 112, [], .null), (112, .ireturn, 113, [], .null)])
noncomputable def kX12_whyNot_ : zM := (3, some .int, 3, [], [(0, .iload_n 1, 1, [], .null), (1, .invokestatic 311, 4, [236, 1, 1, 2, 0, 1543, 0], .null), (4, .ifCond .ne 7, 7, [11], .null), (7, .iconst 0, 8, [], .int (0)), (8, .goto 39, 11, [47], .null), (11, .aload_n 0, 12, [], .null), (12, .getfield 50, 15, [12, 26, 1155], .null), (15, .iload_n 1, 16, [], .null), (16, .iaload, 17, [], .null), (17, .ifCond .ge 7, 20, [24], .null), (20, .iconst 5, 21, [], .int (5)), (21, .goto 26, 24, [47], .null), (24, .iload_n 2, 25, [], .null), (25, .i2l, 26, [], .null), (26, .lconst 0, 27, [], .long (0)), (27, .aload_n 0, 28, [], .null), (28, .getfield 53, 31, [12, 27, 1156], .null), (31, .iload_n 1, 32, [], .null), (32, .iaload, 33, [], .null), (33, .iconst 1, 34, [], .int (1)), (34, .isub, 35, [], .null), (35, .i2l, 36, [], .null), (36, .invokestatic 71, 39, [145, 3, 1, 1, 0, 1229, 0], .null), (39, .ifCond .ne 7, 42, [46], .null), (42, .iconst 0, 43, [], .int (0)), (43, .goto 4, 46, [47], .null), (46, .iconst (-1), 47, [], .int (-1)), (47, .ireturn, 48, [], .null)])
noncomputable def kX12_write : zM := (6, some .int, 4, [], [(0, .aload_n 0, 1, [], .null), (1, .iload_n 1, 2, [], .null), (2, .iload_n 2, 3, [], .null), (3, .invokevirtual 341, 6, [238, 3, 1, 3, 12, 1616, 0], .null), (6, .istore 5, 8, [], .null), (8, .iload 5, 10, [], .null), (10, .ifCond .lt 10, 13, [20], .null), (13, .aload_n 0, 14, [], .null), (14, .iload 5, 16, [], .null), (16, .invokevirtual 142, 19, [143, 2, 1, 1, 12, 1232, 0], .null), (19, .ireturn, 20, [], .null), (20, .aload_n 0, 21, [], .null), (21, .getfield 58, 24, [12, 28, 1157], .null), (24, .iload_n 1, 25, [], .null), (25, .aaload, 26, [], .null), (26, .iload_n 2, 27, [], .null), (27, .aload_n 0, 28, [], .null), (28, .getfield 50, 31, [12, 26, 1155], .null), (31, .iload_n 1, 32, [], .null), (32, .iaload, 33, [], .null), (33, .ifCond .ne 10, 36, [43], .null), (36, .lload_n 3, 37, [], .null), (37, .l2i, 38, [], .null), (38, .i2b, 39, [], .null), (39, .i2l, 40, [], .null), (40, .goto 20, 43, [60], .null), (43, .aload_n 0, 44, [], .null), (44, .getfield 50, 47, [12, 26, 1155], .null), (47, .iload_n 1, 48, [], .null), (48, .iaload, 49, [], .null), (49, .iconst 1, 50, [], .int (1)), (50, .if_icmp .ne 9, 53, [59], .null), (53, .lload_n 3, 54, [], .null), (54, .l2i, 55, [], .null), (55, .i2l, 56, [], .null), (56, .goto 4, 59, [60], .null), (59, .lload_n 3, 60, [], .null), (60, .lastore, 61, [], .null), (61, .iconst 1, 62, [], .int (1)), (62, .ireturn, 63, [], .null)])
noncomputable def kX12_item : zM := (4, some .long, 4, [], [(0, .aload_n 0, 1, [], .null), (1, .iload_n 1, 2, [], .null), (2, .iload_n 2, 3, [], .null), (3, .invokevirtual 341, 6, [238, 3, 1, 3, 12, 1616, 0], .null), (6, .istore_n 3, 7, [], .null), (7, .iload_n 3, 8, [], .null), (8, .ifCond .lt 11, 11, [19], .null), (11, .aload_n 0, 12, [], .null), (12, .iload_n 3, 13, [], .null), (13, .invokevirtual 210, 16, [144, 2, 2, 1, 12, 1383, 0], .null), (16, .goto 11, 19, [27], .null), (19, .aload_n 0, 20, [], .null), (20, .getfield 58, 23, [12, 28, 1157], .null), (23, .iload_n 1, 24, [], .null), (24, .aaload, 25, [], .null), (25, .iload_n 2, 26, [], .null), (26, .laload, 27, [], .null), (27, .lreturn, 28, [], .null)])
noncomputable def kX12_copy : zM := (7, some .int, 3, [(123, [0, 1, 2, 3, 4, 5, 6]), (157, [0, 3, 4, 5, 6])], [(0, .iload_n 1, 1, [], .null), (1, .invokestatic 311, 4, [236, 1, 1, 2, 0, 1543, 0], .null), (4, .ifCond .eq 10, 7, [14], .null), (7, .iload_n 3, 8, [], .null), (8, .invokestatic 311, 11, [236, 1, 1, 2, 0, 1543, 0], .null), (11, .ifCond .ne 9, 14, [20], .null), (14, .aload_n 0, 15, [], .null), (15, .iconst 0, 16, [], .int (0)), (16, .invokevirtual 142, 19, [143, 2, 1, 1, 12, 1232, 0], .null), (19, .ireturn, 20, [], .null), (20, .aload_n 0, 21, [], .null), (21, .getfield 50, 24, [12, 26, 1155], .null), (24, .iload_n 1, 25, [], .null), (25, .iaload, 26, [], .null), (26, .ifCond .lt 12, 29, [38], .null), (29, .aload_n 0, 30, [], .null), (30, .getfield 50, 33, [12, 26, 1155], .null), (33, .iload_n 3, 34, [], .null), (34, .iaload, 35, [], .null), (35, .ifCond .ge 9, 38, [44], .null), (38, .aload_n 0, 39, [], .null), (39, .iconst 5, 40, [], .int (5)), (40, .invokevirtual 142, 43, [143, 2, 1, 1, 12, 1232, 0], .null), (43, .ireturn, 44, [], .null), (44, .aload_n 0, 45, [], .null), (45, .getfield 50, 48, [12, 26, 1155], .null), (48, .iload_n 1, 49, [], .null), (49, .iaload, 50, [], .null), (50, .aload_n 0, 51, [], .null), (51, .getfield 50, 54, [12, 26, 1155], .null), (54, .iload_n 3, 55, [], .null), (55, .iaload, 56, [], .null), (56, .if_icmp .eq 9, 59, [65], .null), (59, .aload_n 0, 60, [], .null), (60, .iconst 2, 61, [], .int (2)), (61, .invokevirtual 142, 64, [143, 2, 1, 1, 12, 1232, 0], .null), (64, .ireturn, 65, [], .null), (65, .iload_n 2, 66, [], .null), (66, .ifCond .lt 48, 69, [114], .null), (69, .iload 4, 71, [], .null), (71, .ifCond .lt 43, 74, [114], .null), (74, .iload 5, 76, [], .null), (76, .ifCond .lt 38, 79, [114], .null), (79, .iload_n 2, 80, [], .null), (80, .i2l, 81, [], .null), (81, .iload 5, 83, [], .null), (83, .i2l, 84, [], .null), (84, .ladd, 85, [], .null), (85, .aload_n 0, 86, [], .null), (86, .getfield 53, 89, [12, 27, 1156], .null), (89, .iload_n 1, 90, [], .null), (90, .iaload, 91, [], .null), (91, .i2l, 92, [], .null), (92, .lcmp, 93, [], .null), (93, .ifCond .gt 21, 96, [114], .null), (96, .iload 4, 98, [], .null), (98, .i2l, 99, [], .null), (99, .iload 5, 101, [], .null), (101, .i2l, 102, [], .null), (102, .ladd, 103, [], .null), (103, .aload_n 0, 104, [], .null), (104, .getfield 53, 107, [12, 27, 1156], .null), (107, .iload_n 3, 108, [], .null), (108, .iaload, 109, [], .null), (109, .i2l, 110, [], .null), (110, .lcmp, 111, [], .null), (111, .ifCond .le 9, 114, [120], .null), (114, .aload_n 0, 115, [], .null), (115, .iconst 0, 116, [], .int (0)), (116, .invokevirtual 142, 119, [143, 2, 1, 1, 12, 1232, 0], .null), (119, .ireturn, 120, [], .null), (120, .iconst 0, 121, [], .int (0)), (121, .istore 6, 123, [], .null), (123, .iload 6, 125, [], .null), (125, .iload 5, 127, [], .null), (127, .if_icmp .ge 27, 130, [154], .null), (130, .aload_n 0, 131, [], .null), (131, .getfield 61, 134, [12, 29, 1158], .null), (134, .iload 6, 136, [], .null), (136, .aload_n 0, 137, [], .null), (137, .getfield 58, 140, [12, 28, 1157], .null), (140, .iload_n 1, 141, [], .null), (141, .aaload, 142, [], .null), (142, .iload_n 2, 143, [], .null), (143, .iload 6, 145, [], .null), (145, .iadd, 146, [], .null), (146, .laload, 147, [], .null), (147, .lastore, 148, [], .null), (148, .iinc 6 1, 151, [], .int (1)), (151, .goto (-28), 154, [123], .null), (154, .iconst 0, 155, [], .int (0)), (155, .istore 6, 157, [], .null), (157, .iload 6, 159, [], .null), (159, .iload 5, 161, [], .null), (161, .if_icmp .ge 28, 164, [189], .null), (164, .aload_n 0, 165, [], .null), (165, .getfield 58, 168, [12, 28, 1157], .null), (168, .iload_n 3, 169, [], .null), (169, .aaload, 170, [], .null), (170, .iload 4, 172, [], .null), (172, .iload 6, 174, [], .null), (174, .iadd, 175, [], .null), (175, .aload_n 0, 176, [], .null), (176, .getfield 61, 179, [12, 29, 1158], .null), (179, .iload 6, 181, [], .null), (181, .laload, 182, [], .null), (182, .lastore, 183, [], .null), (183, .iinc 6 1, 186, [], .int (1)), (186, .goto (-29), 189, [157], .null), (189, .iload 5, 191, [], .null), (191, .ireturn, 192, [], .null)])
noncomputable def kX12_undo : zM := (3, some .int, 2, [(38, [0, 1, 2])], [(0, .aload_n 0, 1, [], .null), (1, .getfield 122, 4, [12, 3, 1132], .null), (4, .ifCond .ne 9, 7, [13], .null), (7, .aload_n 0, 8, [], .null), (8, .iconst 3, 9, [], .int (3)), (9, .invokevirtual 142, 12, [143, 2, 1, 1, 12, 1232, 0], .null), (12, .ireturn, 13, [], .null), (13, .aload_n 0, 14, [], .null), (14, .dup, 15, [], .null), (15, .getfield 122, 18, [12, 3, 1132], .null), (18, .iconst 1, 19, [], .int (1)), (19, .isub, 20, [], .null), (20, .putfield 122, 23, [12, 3, 1132], .null), (23, .aload_n 0, 24, [], .null), (24, .getfield 120, 27, [12, 2, 1131], .null), (27, .aload_n 0, 28, [], .null), (28, .getfield 122, 31, [12, 3, 1132], .null), (31, .iadd, 32, [], .null), (32, .bipush 40, 34, [], .int (40)), (34, .irem, 35, [], .null), (35, .istore_n 1, 36, [], .null), (36, .iconst 0, 37, [], .int (0)), (37, .istore_n 2, 38, [], .null), (38, .iload_n 2, 39, [], .null), (39, .bipush 72, 41, [], .int (72)), (41, .if_icmp .ge 23, 44, [64], .null), (44, .aload_n 0, 45, [], .null), (45, .getfield 9, 48, [12, 0, 1129], .null), (48, .iload_n 2, 49, [], .null), (49, .aload_n 0, 50, [], .null), (50, .getfield 15, 53, [12, 1, 1130], .null), (53, .iload_n 1, 54, [], .null), (54, .aaload, 55, [], .null), (55, .iload_n 2, 56, [], .null), (56, .iaload, 57, [], .null), (57, .iastore, 58, [], .null), (58, .iinc 2 1, 61, [], .int (1)), (61, .goto (-23), 64, [38], .null), (64, .aload_n 0, 65, [], .null), (65, .iconst 0, 66, [], .int (0)), (66, .putfield 125, 69, [12, 15, 1144], .null), (69, .aload_n 0, 70, [], .null), (70, .getfield 122, 73, [12, 3, 1132], .null), (73, .ireturn, 74, [], .null)])
noncomputable def kX12_seed : zM := (3, some .int, 1, [], [(0, .aload_n 0, 1, [], .null), (1, .getfield 18, 4, [12, 4, 1133], .null), (4, .istore_n 2, 5, [], .null), (5, .aload_n 0, 6, [], .null), (6, .iload_n 1, 7, [], .null), (7, .putfield 18, 10, [12, 4, 1133], .null), (10, .iload_n 2, 11, [], .null), (11, .ireturn, 12, [], .null)])
noncomputable def kX12_marked : zM := (4, some .int, 1, [(4, [0, 1, 2, 3])], [(0, .iconst 0, 1, [], .int (0)), (1, .istore_n 2, 2, [], .null), (2, .iconst 0, 3, [], .int (0)), (3, .istore_n 3, 4, [], .null), (4, .iload_n 3, 5, [], .null), (5, .bipush 36, 7, [], .int (36)), (7, .if_icmp .ge 30, 10, [37], .null), (10, .iload_n 2, 11, [], .null), (11, .aload_n 0, 12, [], .null), (12, .getfield 9, 15, [12, 0, 1129], .null), (15, .bipush 20, 17, [], .int (20)), (17, .iload_n 3, 18, [], .null), (18, .iadd, 19, [], .null), (19, .iaload, 20, [], .null), (20, .iload_n 1, 21, [], .null), (21, .if_icmp .ne 7, 24, [28], .null), (24, .iconst 1, 25, [], .int (1)), (25, .goto 4, 28, [29], .null), (28, .iconst 0, 29, [], .int (0)), (29, .iadd, 30, [], .null), (30, .istore_n 2, 31, [], .null), (31, .iinc 3 1, 34, [], .int (1)), (34, .goto (-30), 37, [4], .null), (37, .iload_n 2, 38, [], .null), (38, .ireturn, 39, [], .null)])
noncomputable def kX12_count : zM := (2, some .int, 2, [], [(0, .iload_n 1, 1, [], .null), (1, .tableswitch 78 0 6 #[43, 48, 55, 60, 65, 70, 70], 44, [79, 44, 49, 56, 61, 66, 71, 71], .null), (44, .aload_n 0, 45, [], .null), (45, .invokevirtual 67, 48, [146, 1, 1, 1, 12, 1237, 0], .null), (48, .ireturn, 49, [], .null), (49, .aload_n 0, 50, [], .null), (50, .getfield 9, 53, [12, 0, 1129], .null), (53, .iconst 1, 54, [], .int (1)), (54, .iaload, 55, [], .null), (55, .ireturn, 56, [], .null), (56, .aload_n 0, 57, [], .null), (57, .getfield 122, 60, [12, 3, 1132], .null), (60, .ireturn, 61, [], .null), (61, .aload_n 0, 62, [], .null), (62, .getfield 18, 65, [12, 4, 1133], .null), (65, .ireturn, 66, [], .null), (66, .aload_n 0, 67, [], .null), (67, .getfield 335, 70, [12, 24, 1153], .null), (70, .ireturn, 71, [], .null), (71, .aload_n 0, 72, [], .null), (72, .iload_n 1, 73, [], .null), (73, .iconst 4, 74, [], .int (4)), (74, .isub, 75, [], .null), (75, .invokevirtual 343, 78, [244, 2, 1, 1, 12, 1640, 0], .null), (78, .ireturn, 79, [], .null), (79, .aload_n 0, 80, [], .null), (80, .iconst 0, 81, [], .int (0)), (81, .invokevirtual 142, 84, [143, 2, 1, 1, 12, 1232, 0], .null), (84, .ireturn, 85, [], .null)])
noncomputable def kX12_status : zM := (4, some .int, 2, [(24, [0, 1, 2, 3])], [(0, .iload_n 1, 1, [], .null), (1, .i2l, 2, [], .null), (2, .ldc2_w 182, 5, [1371], .long (-1)), (5, .ldc2_w 346, 8, [1648], .long (7)), (8, .invokestatic 71, 11, [145, 3, 1, 1, 0, 1229, 0], .null), (11, .ifCond .ne 9, 14, [20], .null), (14, .aload_n 0, 15, [], .null), (15, .iconst 0, 16, [], .int (0)), (16, .invokevirtual 142, 19, [143, 2, 1, 1, 12, 1232, 0], .null), (19, .ireturn, 20, [], .null), (20, .iconst 0, 21, [], .int (0)), (21, .istore_n 2, 22, [], .null), (22, .iconst 0, 23, [], .int (0)), (23, .istore_n 3, 24, [], .null), (24, .iload_n 3, 25, [], .null), (25, .bipush 8, 27, [], .int (8)), (27, .if_icmp .ge 31, 30, [58], .null), (30, .iload_n 2, 31, [], .null), (31, .iload_n 1, 32, [], .null), (32, .ifCond .lt 8, 35, [40], .null), (35, .iload_n 1, 36, [], .null), (36, .iload_n 3, 37, [], .null), (37, .if_icmp .ne 12, 40, [49], .null), (40, .aload_n 0, 41, [], .null), (41, .getfield 22, 44, [12, 5, 1134], .null), (44, .iload_n 3, 45, [], .null), (45, .iaload, 46, [], .null), (46, .goto 4, 49, [50], .null), (49, .iconst 0, 50, [], .int (0)), (50, .iadd, 51, [], .null), (51, .istore_n 2, 52, [], .null), (52, .iinc 3 1, 55, [], .int (1)), (55, .goto (-31), 58, [24], .null), (58, .iload_n 2, 59, [], .null), (59, .ireturn, 60, [], .null)])
noncomputable def kJ6_bitCount_0f7a4 : zM := (1, some .int, 1, [(10, [0]), (24, [0]), (34, [0]), (41, [0]), (48, [0])], [(0, .iload_n 0, 1, [], .null), (1, .iload_n 0, 2, [], .null), (2, .iconst 1, 3, [], .int (1)), (3, .iushr, 4, [], .null), (4, .ldc_w 265, 7, [1027], .int (1431655765)), (7, .iand, 8, [], .null), (8, .isub, 9, [], .null), (9, .istore_n 0, 10, [], .null), (10, .iload_n 0, 11, [], .null), (11, .ldc_w 266, 14, [1028], .int (858993459)), (14, .iand, 15, [], .null), (15, .iload_n 0, 16, [], .null), (16, .iconst 2, 17, [], .int (2)), (17, .iushr, 18, [], .null), (18, .ldc_w 266, 21, [1028], .int (858993459)), (21, .iand, 22, [], .null), (22, .iadd, 23, [], .null), (23, .istore_n 0, 24, [], .null), (24, .iload_n 0, 25, [], .null), (25, .iload_n 0, 26, [], .null), (26, .iconst 4, 27, [], .int (4)), (27, .iushr, 28, [], .null), (28, .iadd, 29, [], .null), (29, .ldc_w 267, 32, [1029], .int (252645135)), (32, .iand, 33, [], .null), (33, .istore_n 0, 34, [], .null), (34, .iload_n 0, 35, [], .null), (35, .iload_n 0, 36, [], .null), (36, .bipush 8, 38, [], .int (8)), (38, .iushr, 39, [], .null), (39, .iadd, 40, [], .null), (40, .istore_n 0, 41, [], .null), (41, .iload_n 0, 42, [], .null), (42, .iload_n 0, 43, [], .null), (43, .bipush 16, 45, [], .int (16)), (45, .iushr, 46, [], .null), (46, .iadd, 47, [], .null), (47, .istore_n 0, 48, [], .null), (48, .iload_n 0, 49, [], .null), (49, .bipush 63, 51, [], .int (63)), (51, .iand, 52, [], .null), (52, .ireturn, 53, [], .null)])
noncomputable def kJ13_bitCount_95d88 : zM := (2, some .int, 1, [(10, [0]), (24, [0]), (34, [0]), (41, [0]), (48, [0]), (55, [0])], [(0, .lload_n 0, 1, [], .null), (1, .lload_n 0, 2, [], .null), (2, .iconst 1, 3, [], .int (1)), (3, .lushr, 4, [], .null), (4, .ldc2_w 314, 7, [675], .long (6148914691236517205)), (7, .land, 8, [], .null), (8, .lsub, 9, [], .null), (9, .lstore_n 0, 10, [], .null), (10, .lload_n 0, 11, [], .null), (11, .ldc2_w 316, 14, [676], .long (3689348814741910323)), (14, .land, 15, [], .null), (15, .lload_n 0, 16, [], .null), (16, .iconst 2, 17, [], .int (2)), (17, .lushr, 18, [], .null), (18, .ldc2_w 316, 21, [676], .long (3689348814741910323)), (21, .land, 22, [], .null), (22, .ladd, 23, [], .null), (23, .lstore_n 0, 24, [], .null), (24, .lload_n 0, 25, [], .null), (25, .lload_n 0, 26, [], .null), (26, .iconst 4, 27, [], .int (4)), (27, .lushr, 28, [], .null), (28, .ladd, 29, [], .null), (29, .ldc2_w 318, 32, [677], .long (1085102592571150095)), (32, .land, 33, [], .null), (33, .lstore_n 0, 34, [], .null), (34, .lload_n 0, 35, [], .null), (35, .lload_n 0, 36, [], .null), (36, .bipush 8, 38, [], .int (8)), (38, .lushr, 39, [], .null), (39, .ladd, 40, [], .null), (40, .lstore_n 0, 41, [], .null), (41, .lload_n 0, 42, [], .null), (42, .lload_n 0, 43, [], .null), (43, .bipush 16, 45, [], .int (16)), (45, .lushr, 46, [], .null), (46, .ladd, 47, [], .null), (47, .lstore_n 0, 48, [], .null), (48, .lload_n 0, 49, [], .null), (49, .lload_n 0, 50, [], .null), (50, .bipush 32, 52, [], .int (32)), (52, .lushr, 53, [], .null), (53, .ladd, 54, [], .null), (54, .lstore_n 0, 55, [], .null), (55, .lload_n 0, 56, [], .null), (56, .l2i, 57, [], .null), (57, .bipush 127, 59, [], .int (127)), (59, .iand, 60, [], .null), (60, .ireturn, 61, [], .null)])
noncomputable def kJ7_fill_d0a16 : zM := (5, none, 1, [(6, [0, 1, 3, 4])], [(0, .iconst 0, 1, [], .int (0)), (1, .istore_n 3, 2, [], .null), (2, .aload_n 0, 3, [], .null), (3, .arraylength, 4, [], .null), (4, .istore 4, 6, [], .null), (6, .iload_n 3, 7, [], .null), (7, .iload 4, 9, [], .null), (9, .if_icmp .ge 13, 12, [22], .null), (12, .aload_n 0, 13, [], .null), (13, .iload_n 3, 14, [], .null), (14, .lload_n 1, 15, [], .null), (15, .lastore, 16, [], .null), (16, .iinc 3 1, 19, [], .int (1)), (19, .goto (-13), 22, [6], .null), (22, .return_, 23, [], .null)])
noncomputable def kJ7_fill_53178 : zM := (4, none, 1, [(5, [0, 1, 2, 3])], [(0, .iconst 0, 1, [], .int (0)), (1, .istore_n 2, 2, [], .null), (2, .aload_n 0, 3, [], .null), (3, .arraylength, 4, [], .null), (4, .istore_n 3, 5, [], .null), (5, .iload_n 2, 6, [], .null), (6, .iload_n 3, 7, [], .null), (7, .if_icmp .ge 13, 10, [20], .null), (10, .aload_n 0, 11, [], .null), (11, .iload_n 2, 12, [], .null), (12, .iload_n 1, 13, [], .null), (13, .iastore, 14, [], .null), (14, .iinc 2 1, 17, [], .int (1)), (17, .goto (-12), 20, [5], .null), (20, .return_, 21, [], .null)])
set_option maxRecDepth 100000 in
noncomputable def kL_law : zM := (4, some .boolean, 43, [(18, [0, 1, 2, 3])], [(18, .iload_n 3, 19, [], .null), (19, .aload_n 0, 20, [], .null), (20, .arraylength, 21, [], .null), (21, .bipush 6, 23, [], .int (6)), (23, .isub, 24, [], .null), (24, .if_icmp .gt 1672, 27, [1696], .null), (27, .aload_n 0, 28, [], .null), (28, .iload_n 3, 29, [], .null), (29, .iaload, 30, [], .null), (30, .bipush 63, 32, [], .int (63)), (32, .iand, 33, [], .null), (33, .tableswitch 1657 0 44 #[195, 228, 241, 284, 317, 360, 393, 436, 489, 512, 525, 549, 602, 635, 659, 672, 705, 729, 772, 805, 838, 881, 894, 927, 960, 973, 1027, 1071, 1115, 1148, 1171, 1194, 1217, 1240, 1263, 1296, 1339, 1362, 1405, 1478, 1512, 1575, 1588, 1611, 1634], 228, [1690, 228, 261, 274, 317, 350, 393, 426, 469, 522, 545, 558, 582, 635, 668, 692, 705, 738, 762, 805, 838, 871, 914, 927, 960, 993, 1006, 1060, 1104, 1148, 1181, 1204, 1227, 1250, 1273, 1296, 1329, 1372, 1395, 1438, 1511, 1545, 1608, 1621, 1644, 1667], .null), (228, .aload_n 1, 229, [], .null), (229, .aload_n 0, 230, [], .null), (230, .iload_n 3, 231, [], .null), (231, .iconst 1, 232, [], .int (1)), (232, .iadd, 233, [], .null), (233, .iaload, 234, [], .null), (234, .aload_n 0, 235, [], .null), (235, .iload_n 3, 236, [], .null), (236, .iconst 2, 237, [], .int (2)), (237, .iadd, 238, [], .null), (238, .iaload, 239, [], .null), (239, .invokevirtual 13, 242, [84, 3, 1, 3, 11, 473, 0], .null), (242, .aload_n 2, 243, [], .null), (243, .aload_n 0, 244, [], .null), (244, .iload_n 3, 245, [], .null), (245, .iconst 1, 246, [], .int (1)), (246, .iadd, 247, [], .null), (247, .iaload, 248, [], .null), (248, .aload_n 0, 249, [], .null), (249, .iload_n 3, 250, [], .null), (250, .iconst 2, 251, [], .int (2)), (251, .iadd, 252, [], .null), (252, .iaload, 253, [], .null), (253, .invokevirtual 17, 256, [168, 3, 1, 3, 12, 1220, 0], .null), (256, .if_icmp .eq 1434, 259, [1690], .null), (259, .iconst 0, 260, [], .int (0)), (260, .ireturn, 261, [], .null), (261, .aload_n 1, 262, [], .null), (262, .invokevirtual 18, 265, [85, 1, 1, 4, 11, 510, 0], .null), (265, .aload_n 2, 266, [], .null), (266, .invokevirtual 22, 269, [169, 1, 1, 2, 12, 1268, 0], .null), (269, .if_icmp .eq 1421, 272, [1690], .null), (272, .iconst 0, 273, [], .int (0)), (273, .ireturn, 274, [], .null), (274, .aload_n 1, 275, [], .null), (275, .aload_n 0, 276, [], .null), (276, .iload_n 3, 277, [], .null), (277, .iconst 1, 278, [], .int (1)), (278, .iadd, 279, [], .null), (279, .iaload, 280, [], .null), (280, .aload_n 0, 281, [], .null), (281, .iload_n 3, 282, [], .null), (282, .iconst 2, 283, [], .int (2)), (283, .iadd, 284, [], .null), (284, .iaload, 285, [], .null), (285, .aload_n 0, 286, [], .null), (286, .iload_n 3, 287, [], .null), (287, .iconst 3, 288, [], .int (3)), (288, .iadd, 289, [], .null), (289, .iaload, 290, [], .null), (290, .invokevirtual 23, 293, [86, 4, 1, 6, 11, 529, 0], .null), (293, .aload_n 2, 294, [], .null), (294, .aload_n 0, 295, [], .null), (295, .iload_n 3, 296, [], .null), (296, .iconst 1, 297, [], .int (1)), (297, .iadd, 298, [], .null), (298, .iaload, 299, [], .null), (299, .aload_n 0, 300, [], .null), (300, .iload_n 3, 301, [], .null), (301, .iconst 2, 302, [], .int (2)), (302, .iadd, 303, [], .null), (303, .iaload, 304, [], .null), (304, .aload_n 0, 305, [], .null), (305, .iload_n 3, 306, [], .null), (306, .iconst 3, 307, [], .int (3)), (307, .iadd, 308, [], .null), (308, .iaload, 309, [], .null), (309, .invokevirtual 27, 312, [170, 4, 1, 5, 12, 1277, 0], .null), (312, .if_icmp .eq 1378, 315, [1690], .null), (315, .iconst 0, 316, [], .int (0)), (316, .ireturn, 317, [], .null), (317, .aload_n 1, 318, [], .null), (318, .aload_n 0, 319, [], .null), (319, .iload_n 3, 320, [], .null), (320, .iconst 1, 321, [], .int (1)), (321, .iadd, 322, [], .null), (322, .iaload, 323, [], .null), (323, .aload_n 0, 324, [], .null), (324, .iload_n 3, 325, [], .null), (325, .iconst 2, 326, [], .int (2)), (326, .iadd, 327, [], .null), (327, .iaload, 328, [], .null), (328, .invokevirtual 28, 331, [87, 3, 1, 6, 11, 560, 0], .null), (331, .aload_n 2, 332, [], .null), (332, .aload_n 0, 333, [], .null), (333, .iload_n 3, 334, [], .null), (334, .iconst 1, 335, [], .int (1)), (335, .iadd, 336, [], .null), (336, .iaload, 337, [], .null), (337, .aload_n 0, 338, [], .null), (338, .iload_n 3, 339, [], .null), (339, .iconst 2, 340, [], .int (2)), (340, .iadd, 341, [], .null), (341, .iaload, 342, [], .null), (342, .invokevirtual 31, 345, [171, 3, 1, 5, 12, 1297, 0], .null), (345, .if_icmp .eq 1345, 348, [1690], .null), (348, .iconst 0, 349, [], .int (0)), (349, .ireturn, 350, [], .null), (350, .aload_n 1, 351, [], .null), (351, .aload_n 0, 352, [], .null), (352, .iload_n 3, 353, [], .null), (353, .iconst 1, 354, [], .int (1)), (354, .iadd, 355, [], .null), (355, .iaload, 356, [], .null), (356, .aload_n 0, 357, [], .null), (357, .iload_n 3, 358, [], .null), (358, .iconst 2, 359, [], .int (2)), (359, .iadd, 360, [], .null), (360, .iaload, 361, [], .null), (361, .aload_n 0, 362, [], .null), (362, .iload_n 3, 363, [], .null), (363, .iconst 3, 364, [], .int (3)), (364, .iadd, 365, [], .null), (365, .iaload, 366, [], .null), (366, .invokevirtual 32, 369, [88, 4, 1, 6, 11, 606, 0], .null), (369, .aload_n 2, 370, [], .null), (370, .aload_n 0, 371, [], .null), (371, .iload_n 3, 372, [], .null), (372, .iconst 1, 373, [], .int (1)), (373, .iadd, 374, [], .null), (374, .iaload, 375, [], .null), (375, .aload_n 0, 376, [], .null), (376, .iload_n 3, 377, [], .null), (377, .iconst 2, 378, [], .int (2)), (378, .iadd, 379, [], .null), (379, .iaload, 380, [], .null), (380, .aload_n 0, 381, [], .null), (381, .iload_n 3, 382, [], .null), (382, .iconst 3, 383, [], .int (3)), (383, .iadd, 384, [], .null), (384, .iaload, 385, [], .null), (385, .invokevirtual 35, 388, [172, 4, 1, 5, 12, 1314, 0], .null), (388, .if_icmp .eq 1302, 391, [1690], .null), (391, .iconst 0, 392, [], .int (0)), (392, .ireturn, 393, [], .null), (393, .aload_n 1, 394, [], .null), (394, .aload_n 0, 395, [], .null), (395, .iload_n 3, 396, [], .null), (396, .iconst 1, 397, [], .int (1)), (397, .iadd, 398, [], .null), (398, .iaload, 399, [], .null), (399, .aload_n 0, 400, [], .null), (400, .iload_n 3, 401, [], .null), (401, .iconst 2, 402, [], .int (2)), (402, .iadd, 403, [], .null), (403, .iaload, 404, [], .null), (404, .invokevirtual 36, 407, [89, 3, 1, 3, 11, 623, 0], .null), (407, .aload_n 2, 408, [], .null), (408, .aload_n 0, 409, [], .null), (409, .iload_n 3, 410, [], .null), (410, .iconst 1, 411, [], .int (1)), (411, .iadd, 412, [], .null), (412, .iaload, 413, [], .null), (413, .aload_n 0, 414, [], .null), (414, .iload_n 3, 415, [], .null), (415, .iconst 2, 416, [], .int (2)), (416, .iadd, 417, [], .null), (417, .iaload, 418, [], .null), (418, .invokevirtual 39, 421, [173, 3, 1, 4, 12, 1323, 0], .null), (421, .if_icmp .eq 1269, 424, [1690], .null), (424, .iconst 0, 425, [], .int (0)), (425, .ireturn, 426, [], .null), (426, .aload_n 1, 427, [], .null), (427, .aload_n 0, 428, [], .null), (428, .iload_n 3, 429, [], .null), (429, .iconst 1, 430, [], .int (1)), (430, .iadd, 431, [], .null), (431, .iaload, 432, [], .null), (432, .aload_n 0, 433, [], .null), (433, .iload_n 3, 434, [], .null), (434, .iconst 2, 435, [], .int (2)), (435, .iadd, 436, [], .null), (436, .iaload, 437, [], .null), (437, .aload_n 0, 438, [], .null), (438, .iload_n 3, 439, [], .null), (439, .iconst 3, 440, [], .int (3)), (440, .iadd, 441, [], .null), (441, .iaload, 442, [], .null), (442, .invokevirtual 40, 445, [90, 4, 1, 6, 11, 627, 0], .null), (445, .aload_n 2, 446, [], .null), (446, .aload_n 0, 447, [], .null), (447, .iload_n 3, 448, [], .null), (448, .iconst 1, 449, [], .int (1)), (449, .iadd, 450, [], .null), (450, .iaload, 451, [], .null), (451, .aload_n 0, 452, [], .null), (452, .iload_n 3, 453, [], .null), (453, .iconst 2, 454, [], .int (2)), (454, .iadd, 455, [], .null), (455, .iaload, 456, [], .null), (456, .aload_n 0, 457, [], .null), (457, .iload_n 3, 458, [], .null), (458, .iconst 3, 459, [], .int (3)), (459, .iadd, 460, [], .null), (460, .iaload, 461, [], .null), (461, .invokevirtual 43, 464, [174, 4, 1, 4, 12, 1327, 0], .null), (464, .if_icmp .eq 1226, 467, [1690], .null), (467, .iconst 0, 468, [], .int (0)), (468, .ireturn, 469, [], .null), (469, .aload_n 1, 470, [], .null), (470, .aload_n 0, 471, [], .null), (471, .iload_n 3, 472, [], .null), (472, .iconst 1, 473, [], .int (1)), (473, .iadd, 474, [], .null), (474, .iaload, 475, [], .null), (475, .aload_n 0, 476, [], .null), (476, .iload_n 3, 477, [], .null), (477, .iconst 2, 478, [], .int (2)), (478, .iadd, 479, [], .null), (479, .iaload, 480, [], .null), (480, .aload_n 0, 481, [], .null), (481, .iload_n 3, 482, [], .null), (482, .iconst 3, 483, [], .int (3)), (483, .iadd, 484, [], .null), (484, .iaload, 485, [], .null), (485, .aload_n 0, 486, [], .null), (486, .iload_n 3, 487, [], .null), (487, .iconst 4, 488, [], .int (4)), (488, .iadd, 489, [], .null), (489, .iaload, 490, [], .null), (490, .invokevirtual 44, 493, [91, 5, 1, 6, 11, 635, 0], .null), (493, .aload_n 2, 494, [], .null), (494, .aload_n 0, 495, [], .null), (495, .iload_n 3, 496, [], .null), (496, .iconst 1, 497, [], .int (1)), (497, .iadd, 498, [], .null), (498, .iaload, 499, [], .null), (499, .aload_n 0, 500, [], .null), (500, .iload_n 3, 501, [], .null), (501, .iconst 2, 502, [], .int (2)), (502, .iadd, 503, [], .null), (503, .iaload, 504, [], .null), (504, .aload_n 0, 505, [], .null), (505, .iload_n 3, 506, [], .null), (506, .iconst 3, 507, [], .int (3)), (507, .iadd, 508, [], .null), (508, .iaload, 509, [], .null), (509, .aload_n 0, 510, [], .null), (510, .iload_n 3, 511, [], .null), (511, .iconst 4, 512, [], .int (4)), (512, .iadd, 513, [], .null), (513, .iaload, 514, [], .null), (514, .invokevirtual 48, 517, [175, 5, 1, 4, 12, 1331, 0], .null), (517, .if_icmp .eq 1173, 520, [1690], .null), (520, .iconst 0, 521, [], .int (0)), (521, .ireturn, 522, [], .null), (522, .aload_n 1, 523, [], .null), (523, .aload_n 0, 524, [], .null), (524, .iload_n 3, 525, [], .null), (525, .iconst 1, 526, [], .int (1)), (526, .iadd, 527, [], .null), (527, .iaload, 528, [], .null), (528, .invokevirtual 49, 531, [92, 2, 1, 6, 11, 640, 0], .null), (531, .aload_n 2, 532, [], .null), (532, .aload_n 0, 533, [], .null), (533, .iload_n 3, 534, [], .null), (534, .iconst 1, 535, [], .int (1)), (535, .iadd, 536, [], .null), (536, .iaload, 537, [], .null), (537, .invokevirtual 53, 540, [176, 2, 1, 5, 12, 1335, 0], .null), (540, .if_icmp .eq 1150, 543, [1690], .null), (543, .iconst 0, 544, [], .int (0)), (544, .ireturn, 545, [], .null), (545, .aload_n 1, 546, [], .null), (546, .invokevirtual 54, 549, [93, 1, 1, 7, 11, 644, 0], .null), (549, .aload_n 2, 550, [], .null), (550, .invokevirtual 57, 553, [184, 1, 1, 41, 12, 1351, 0], .null), (553, .if_icmp .eq 1137, 556, [1690], .null), (556, .iconst 0, 557, [], .int (0)), (557, .ireturn, 558, [], .null), (558, .aload_n 1, 559, [], .null), (559, .aload_n 0, 560, [], .null), (560, .iload_n 3, 561, [], .null), (561, .iconst 1, 562, [], .int (1)), (562, .iadd, 563, [], .null), (563, .iaload, 564, [], .null), (564, .invokevirtual 58, 567, [94, 2, 2, 7, 11, 678, 0], .null), (567, .aload_n 2, 568, [], .null), (568, .aload_n 0, 569, [], .null), (569, .iload_n 3, 570, [], .null), (570, .iconst 1, 571, [], .int (1)), (571, .iadd, 572, [], .null), (572, .iaload, 573, [], .null), (573, .invokevirtual 62, 576, [185, 2, 2, 42, 12, 1375, 0], .null), (576, .lcmp, 577, [], .null), (577, .ifCond .eq 1113, 580, [1690], .null), (580, .iconst 0, 581, [], .int (0)), (581, .ireturn, 582, [], .null), (582, .aload_n 1, 583, [], .null), (583, .aload_n 0, 584, [], .null), (584, .iload_n 3, 585, [], .null), (585, .iconst 1, 586, [], .int (1)), (586, .iadd, 587, [], .null), (587, .iaload, 588, [], .null), (588, .i2l, 589, [], .null), (589, .bipush 32, 591, [], .int (32)), (591, .lshl, 592, [], .null), (592, .aload_n 0, 593, [], .null), (593, .iload_n 3, 594, [], .null), (594, .iconst 2, 595, [], .int (2)), (595, .iadd, 596, [], .null), (596, .iaload, 597, [], .null), (597, .i2l, 598, [], .null), (598, .ldc2_w 63, 601, [1649], .long (4294967295)), (601, .land, 602, [], .null), (602, .lor, 603, [], .null), (603, .invokevirtual 65, 606, [95, 2, 1, 7, 11, 691, 0], .null), (606, .aload_n 2, 607, [], .null), (607, .aload_n 0, 608, [], .null), (608, .iload_n 3, 609, [], .null), (609, .iconst 1, 610, [], .int (1)), (610, .iadd, 611, [], .null), (611, .iaload, 612, [], .null), (612, .i2l, 613, [], .null), (613, .bipush 32, 615, [], .int (32)), (615, .lshl, 616, [], .null), (616, .aload_n 0, 617, [], .null), (617, .iload_n 3, 618, [], .null), (618, .iconst 2, 619, [], .int (2)), (619, .iadd, 620, [], .null), (620, .iaload, 621, [], .null), (621, .i2l, 622, [], .null), (622, .ldc2_w 63, 625, [1649], .long (4294967295)), (625, .land, 626, [], .null), (626, .lor, 627, [], .null), (627, .invokevirtual 69, 630, [186, 2, 1, 41, 12, 1388, 0], .null), (630, .if_icmp .eq 1060, 633, [1690], .null), (633, .iconst 0, 634, [], .int (0)), (634, .ireturn, 635, [], .null), (635, .aload_n 1, 636, [], .null), (636, .aload_n 0, 637, [], .null), (637, .iload_n 3, 638, [], .null), (638, .iconst 1, 639, [], .int (1)), (639, .iadd, 640, [], .null), (640, .iaload, 641, [], .null), (641, .aload_n 0, 642, [], .null), (642, .iload_n 3, 643, [], .null), (643, .iconst 2, 644, [], .int (2)), (644, .iadd, 645, [], .null), (645, .iaload, 646, [], .null), (646, .invokevirtual 70, 649, [96, 3, 1, 7, 11, 699, 0], .null), (649, .aload_n 2, 650, [], .null), (650, .aload_n 0, 651, [], .null), (651, .iload_n 3, 652, [], .null), (652, .iconst 1, 653, [], .int (1)), (653, .iadd, 654, [], .null), (654, .iaload, 655, [], .null), (655, .aload_n 0, 656, [], .null), (656, .iload_n 3, 657, [], .null), (657, .iconst 2, 658, [], .int (2)), (658, .iadd, 659, [], .null), (659, .iaload, 660, [], .null), (660, .invokevirtual 73, 663, [187, 3, 1, 41, 12, 1396, 0], .null), (663, .if_icmp .eq 1027, 666, [1690], .null), (666, .iconst 0, 667, [], .int (0)), (667, .ireturn, 668, [], .null), (668, .aload_n 1, 669, [], .null), (669, .aload_n 0, 670, [], .null), (670, .iload_n 3, 671, [], .null), (671, .iconst 1, 672, [], .int (1)), (672, .iadd, 673, [], .null), (673, .iaload, 674, [], .null), (674, .invokevirtual 74, 677, [97, 2, 2, 7, 11, 708, 0], .null), (677, .aload_n 2, 678, [], .null), (678, .aload_n 0, 679, [], .null), (679, .iload_n 3, 680, [], .null), (680, .iconst 1, 681, [], .int (1)), (681, .iadd, 682, [], .null), (682, .iaload, 683, [], .null), (683, .invokevirtual 77, 686, [188, 2, 2, 41, 12, 1400, 0], .null), (686, .lcmp, 687, [], .null), (687, .ifCond .eq 1003, 690, [1690], .null), (690, .iconst 0, 691, [], .int (0)), (691, .ireturn, 692, [], .null), (692, .aload_n 1, 693, [], .null), (693, .invokevirtual 78, 696, [98, 1, 1, 7, 11, 721, 0], .null), (696, .aload_n 2, 697, [], .null), (697, .invokevirtual 81, 700, [190, 1, 1, 41, 12, 1404, 0], .null), (700, .if_icmp .eq 990, 703, [1690], .null), (703, .iconst 0, 704, [], .int (0)), (704, .ireturn, 705, [], .null), (705, .aload_n 1, 706, [], .null), (706, .aload_n 0, 707, [], .null), (707, .iload_n 3, 708, [], .null), (708, .iconst 1, 709, [], .int (1)), (709, .iadd, 710, [], .null), (710, .iaload, 711, [], .null), (711, .aload_n 0, 712, [], .null), (712, .iload_n 3, 713, [], .null), (713, .iconst 2, 714, [], .int (2)), (714, .iadd, 715, [], .null), (715, .iaload, 716, [], .null), (716, .invokevirtual 82, 719, [99, 3, 1, 7, 11, 726, 0], .null), (719, .aload_n 2, 720, [], .null), (720, .aload_n 0, 721, [], .null), (721, .iload_n 3, 722, [], .null), (722, .iconst 1, 723, [], .int (1)), (723, .iadd, 724, [], .null), (724, .iaload, 725, [], .null), (725, .aload_n 0, 726, [], .null), (726, .iload_n 3, 727, [], .null), (727, .iconst 2, 728, [], .int (2)), (728, .iadd, 729, [], .null), (729, .iaload, 730, [], .null), (730, .invokevirtual 85, 733, [192, 3, 1, 42, 12, 1413, 0], .null), (733, .if_icmp .eq 957, 736, [1690], .null), (736, .iconst 0, 737, [], .int (0)), (737, .ireturn, 738, [], .null), (738, .aload_n 1, 739, [], .null), (739, .aload_n 0, 740, [], .null), (740, .iload_n 3, 741, [], .null), (741, .iconst 1, 742, [], .int (1)), (742, .iadd, 743, [], .null), (743, .iaload, 744, [], .null), (744, .invokevirtual 86, 747, [100, 2, 2, 7, 11, 732, 0], .null), (747, .aload_n 2, 748, [], .null), (748, .aload_n 0, 749, [], .null), (749, .iload_n 3, 750, [], .null), (750, .iconst 1, 751, [], .int (1)), (751, .iadd, 752, [], .null), (752, .iaload, 753, [], .null), (753, .invokevirtual 89, 756, [194, 2, 2, 42, 12, 1421, 0], .null), (756, .lcmp, 757, [], .null), (757, .ifCond .eq 933, 760, [1690], .null), (760, .iconst 0, 761, [], .int (0)), (761, .ireturn, 762, [], .null), (762, .aload_n 1, 763, [], .null), (763, .aload_n 0, 764, [], .null), (764, .iload_n 3, 765, [], .null), (765, .iconst 1, 766, [], .int (1)), (766, .iadd, 767, [], .null), (767, .iaload, 768, [], .null), (768, .aload_n 0, 769, [], .null), (769, .iload_n 3, 770, [], .null), (770, .iconst 2, 771, [], .int (2)), (771, .iadd, 772, [], .null), (772, .iaload, 773, [], .null), (773, .aload_n 0, 774, [], .null), (774, .iload_n 3, 775, [], .null), (775, .iconst 3, 776, [], .int (3)), (776, .iadd, 777, [], .null), (777, .iaload, 778, [], .null), (778, .invokevirtual 90, 781, [101, 4, 1, 7, 11, 744, 0], .null), (781, .aload_n 2, 782, [], .null), (782, .aload_n 0, 783, [], .null), (783, .iload_n 3, 784, [], .null), (784, .iconst 1, 785, [], .int (1)), (785, .iadd, 786, [], .null), (786, .iaload, 787, [], .null), (787, .aload_n 0, 788, [], .null), (788, .iload_n 3, 789, [], .null), (789, .iconst 2, 790, [], .int (2)), (790, .iadd, 791, [], .null), (791, .iaload, 792, [], .null), (792, .aload_n 0, 793, [], .null), (793, .iload_n 3, 794, [], .null), (794, .iconst 3, 795, [], .int (3)), (795, .iadd, 796, [], .null), (796, .iaload, 797, [], .null), (797, .invokevirtual 93, 800, [195, 4, 1, 42, 12, 1429, 0], .null), (800, .if_icmp .eq 890, 803, [1690], .null), (803, .iconst 0, 804, [], .int (0)), (804, .ireturn, 805, [], .null), (805, .aload_n 1, 806, [], .null), (806, .aload_n 0, 807, [], .null), (807, .iload_n 3, 808, [], .null), (808, .iconst 1, 809, [], .int (1)), (809, .iadd, 810, [], .null), (810, .iaload, 811, [], .null), (811, .aload_n 0, 812, [], .null), (812, .iload_n 3, 813, [], .null), (813, .iconst 2, 814, [], .int (2)), (814, .iadd, 815, [], .null), (815, .iaload, 816, [], .null), (816, .invokevirtual 94, 819, [102, 3, 1, 7, 11, 753, 0], .null), (819, .aload_n 2, 820, [], .null), (820, .aload_n 0, 821, [], .null), (821, .iload_n 3, 822, [], .null), (822, .iconst 1, 823, [], .int (1)), (823, .iadd, 824, [], .null), (824, .iaload, 825, [], .null), (825, .aload_n 0, 826, [], .null), (826, .iload_n 3, 827, [], .null), (827, .iconst 2, 828, [], .int (2)), (828, .iadd, 829, [], .null), (829, .iaload, 830, [], .null), (830, .invokevirtual 97, 833, [196, 3, 1, 42, 12, 1433, 0], .null), (833, .if_icmp .eq 857, 836, [1690], .null), (836, .iconst 0, 837, [], .int (0)), (837, .ireturn, 838, [], .null), (838, .aload_n 1, 839, [], .null), (839, .aload_n 0, 840, [], .null), (840, .iload_n 3, 841, [], .null), (841, .iconst 1, 842, [], .int (1)), (842, .iadd, 843, [], .null), (843, .iaload, 844, [], .null), (844, .aload_n 0, 845, [], .null), (845, .iload_n 3, 846, [], .null), (846, .iconst 2, 847, [], .int (2)), (847, .iadd, 848, [], .null), (848, .iaload, 849, [], .null), (849, .invokevirtual 98, 852, [103, 3, 1, 7, 11, 772, 0], .null), (852, .aload_n 2, 853, [], .null), (853, .aload_n 0, 854, [], .null), (854, .iload_n 3, 855, [], .null), (855, .iconst 1, 856, [], .int (1)), (856, .iadd, 857, [], .null), (857, .iaload, 858, [], .null), (858, .aload_n 0, 859, [], .null), (859, .iload_n 3, 860, [], .null), (860, .iconst 2, 861, [], .int (2)), (861, .iadd, 862, [], .null), (862, .iaload, 863, [], .null), (863, .invokevirtual 101, 866, [202, 3, 1, 42, 12, 1437, 0], .null), (866, .if_icmp .eq 824, 869, [1690], .null), (869, .iconst 0, 870, [], .int (0)), (870, .ireturn, 871, [], .null), (871, .aload_n 1, 872, [], .null), (872, .aload_n 0, 873, [], .null), (873, .iload_n 3, 874, [], .null), (874, .iconst 1, 875, [], .int (1)), (875, .iadd, 876, [], .null), (876, .iaload, 877, [], .null), (877, .aload_n 0, 878, [], .null), (878, .iload_n 3, 879, [], .null), (879, .iconst 2, 880, [], .int (2)), (880, .iadd, 881, [], .null), (881, .iaload, 882, [], .null), (882, .aload_n 0, 883, [], .null), (883, .iload_n 3, 884, [], .null), (884, .iconst 3, 885, [], .int (3)), (885, .iadd, 886, [], .null), (886, .iaload, 887, [], .null), (887, .invokevirtual 102, 890, [104, 4, 1, 7, 11, 819, 0], .null), (890, .aload_n 2, 891, [], .null), (891, .aload_n 0, 892, [], .null), (892, .iload_n 3, 893, [], .null), (893, .iconst 1, 894, [], .int (1)), (894, .iadd, 895, [], .null), (895, .iaload, 896, [], .null), (896, .aload_n 0, 897, [], .null), (897, .iload_n 3, 898, [], .null), (898, .iconst 2, 899, [], .int (2)), (899, .iadd, 900, [], .null), (900, .iaload, 901, [], .null), (901, .aload_n 0, 902, [], .null), (902, .iload_n 3, 903, [], .null), (903, .iconst 3, 904, [], .int (3)), (904, .iadd, 905, [], .null), (905, .iaload, 906, [], .null), (906, .invokevirtual 105, 909, [203, 4, 1, 42, 12, 1465, 0], .null), (909, .if_icmp .eq 781, 912, [1690], .null), (912, .iconst 0, 913, [], .int (0)), (913, .ireturn, 914, [], .null), (914, .aload_n 1, 915, [], .null), (915, .invokevirtual 106, 918, [105, 1, 1, 6, 11, 823, 0], .null), (918, .aload_n 2, 919, [], .null), (919, .invokevirtual 109, 922, [204, 1, 1, 4, 12, 1470, 0], .null), (922, .if_icmp .eq 768, 925, [1690], .null), (925, .iconst 0, 926, [], .int (0)), (926, .ireturn, 927, [], .null), (927, .aload_n 1, 928, [], .null), (928, .aload_n 0, 929, [], .null), (929, .iload_n 3, 930, [], .null), (930, .iconst 1, 931, [], .int (1)), (931, .iadd, 932, [], .null), (932, .iaload, 933, [], .null), (933, .aload_n 0, 934, [], .null), (934, .iload_n 3, 935, [], .null), (935, .iconst 2, 936, [], .int (2)), (936, .iadd, 937, [], .null), (937, .iaload, 938, [], .null), (938, .invokevirtual 110, 941, [106, 3, 1, 3, 11, 833, 0], .null), (941, .aload_n 2, 942, [], .null), (942, .aload_n 0, 943, [], .null), (943, .iload_n 3, 944, [], .null), (944, .iconst 1, 945, [], .int (1)), (945, .iadd, 946, [], .null), (946, .iaload, 947, [], .null), (947, .aload_n 0, 948, [], .null), (948, .iload_n 3, 949, [], .null), (949, .iconst 2, 950, [], .int (2)), (950, .iadd, 951, [], .null), (951, .iaload, 952, [], .null), (952, .invokevirtual 113, 955, [212, 3, 1, 2, 12, 1474, 0], .null), (955, .if_icmp .eq 735, 958, [1690], .null), (958, .iconst 0, 959, [], .int (0)), (959, .ireturn, 960, [], .null), (960, .aload_n 1, 961, [], .null), (961, .aload_n 0, 962, [], .null), (962, .iload_n 3, 963, [], .null), (963, .iconst 1, 964, [], .int (1)), (964, .iadd, 965, [], .null), (965, .iaload, 966, [], .null), (966, .aload_n 0, 967, [], .null), (967, .iload_n 3, 968, [], .null), (968, .iconst 2, 969, [], .int (2)), (969, .iadd, 970, [], .null), (970, .iaload, 971, [], .null), (971, .invokevirtual 114, 974, [107, 3, 1, 2, 11, 841, 0], .null), (974, .aload_n 2, 975, [], .null), (975, .aload_n 0, 976, [], .null), (976, .iload_n 3, 977, [], .null), (977, .iconst 1, 978, [], .int (1)), (978, .iadd, 979, [], .null), (979, .iaload, 980, [], .null), (980, .aload_n 0, 981, [], .null), (981, .iload_n 3, 982, [], .null), (982, .iconst 2, 983, [], .int (2)), (983, .iadd, 984, [], .null), (984, .iaload, 985, [], .null), (985, .invokevirtual 117, 988, [213, 3, 1, 2, 12, 1479, 0], .null), (988, .if_icmp .eq 702, 991, [1690], .null), (991, .iconst 0, 992, [], .int (0)), (992, .ireturn, 993, [], .null), (993, .aload_n 1, 994, [], .null), (994, .invokevirtual 118, 997, [108, 1, 1, 3, 11, 845, 0], .null), (997, .aload_n 2, 998, [], .null), (998, .invokevirtual 121, 1001, [214, 1, 1, 2, 12, 1483, 0], .null), (1001, .if_icmp .eq 689, 1004, [1690], .null), (1004, .iconst 0, 1005, [], .int (0)), (1005, .ireturn, 1006, [], .null), (1006, .aload_n 1, 1007, [], .null), (1007, .aload_n 0, 1008, [], .null), (1008, .iload_n 3, 1009, [], .null), (1009, .iconst 1, 1010, [], .int (1)), (1010, .iadd, 1011, [], .null), (1011, .iaload, 1012, [], .null), (1012, .i2l, 1013, [], .null), (1013, .bipush 32, 1015, [], .int (32)), (1015, .lshl, 1016, [], .null), (1016, .aload_n 0, 1017, [], .null), (1017, .iload_n 3, 1018, [], .null), (1018, .iconst 2, 1019, [], .int (2)), (1019, .iadd, 1020, [], .null), (1020, .iaload, 1021, [], .null), (1021, .i2l, 1022, [], .null), (1022, .ldc2_w 63, 1025, [1649], .long (4294967295)), (1025, .land, 1026, [], .null), (1026, .lor, 1027, [], .null), (1027, .invokevirtual 122, 1030, [109, 2, 2, 4, 11, 849, 0], .null), (1030, .aload_n 2, 1031, [], .null), (1031, .aload_n 0, 1032, [], .null), (1032, .iload_n 3, 1033, [], .null), (1033, .iconst 1, 1034, [], .int (1)), (1034, .iadd, 1035, [], .null), (1035, .iaload, 1036, [], .null), (1036, .i2l, 1037, [], .null), (1037, .bipush 32, 1039, [], .int (32)), (1039, .lshl, 1040, [], .null), (1040, .aload_n 0, 1041, [], .null), (1041, .iload_n 3, 1042, [], .null), (1042, .iconst 2, 1043, [], .int (2)), (1043, .iadd, 1044, [], .null), (1044, .iaload, 1045, [], .null), (1045, .i2l, 1046, [], .null), (1046, .ldc2_w 63, 1049, [1649], .long (4294967295)), (1049, .land, 1050, [], .null), (1050, .lor, 1051, [], .null), (1051, .invokevirtual 126, 1054, [215, 2, 2, 4, 12, 1487, 0], .null), (1054, .lcmp, 1055, [], .null), (1055, .ifCond .eq 635, 1058, [1690], .null), (1058, .iconst 0, 1059, [], .int (0)), (1059, .ireturn, 1060, [], .null), (1060, .aload_n 1, 1061, [], .null), (1061, .aload_n 0, 1062, [], .null), (1062, .iload_n 3, 1063, [], .null), (1063, .iconst 1, 1064, [], .int (1)), (1064, .iadd, 1065, [], .null), (1065, .iaload, 1066, [], .null), (1066, .aload_n 0, 1067, [], .null), (1067, .iload_n 3, 1068, [], .null), (1068, .iconst 2, 1069, [], .int (2)), (1069, .iadd, 1070, [], .null), (1070, .iaload, 1071, [], .null), (1071, .aload_n 0, 1072, [], .null), (1072, .iload_n 3, 1073, [], .null), (1073, .iconst 3, 1074, [], .int (3)), (1074, .iadd, 1075, [], .null), (1075, .iaload, 1076, [], .null), (1076, .invokevirtual 127, 1079, [110, 4, 2, 5, 11, 891, 0], .null), (1079, .aload_n 2, 1080, [], .null), (1080, .aload_n 0, 1081, [], .null), (1081, .iload_n 3, 1082, [], .null), (1082, .iconst 1, 1083, [], .int (1)), (1083, .iadd, 1084, [], .null), (1084, .iaload, 1085, [], .null), (1085, .aload_n 0, 1086, [], .null), (1086, .iload_n 3, 1087, [], .null), (1087, .iconst 2, 1088, [], .int (2)), (1088, .iadd, 1089, [], .null), (1089, .iaload, 1090, [], .null), (1090, .aload_n 0, 1091, [], .null), (1091, .iload_n 3, 1092, [], .null), (1092, .iconst 3, 1093, [], .int (3)), (1093, .iadd, 1094, [], .null), (1094, .iaload, 1095, [], .null), (1095, .invokevirtual 131, 1098, [216, 4, 2, 4, 12, 1514, 0], .null), (1098, .lcmp, 1099, [], .null), (1099, .ifCond .eq 591, 1102, [1690], .null), (1102, .iconst 0, 1103, [], .int (0)), (1103, .ireturn, 1104, [], .null), (1104, .aload_n 1, 1105, [], .null), (1105, .aload_n 0, 1106, [], .null), (1106, .iload_n 3, 1107, [], .null), (1107, .iconst 1, 1108, [], .int (1)), (1108, .iadd, 1109, [], .null), (1109, .iaload, 1110, [], .null), (1110, .aload_n 0, 1111, [], .null), (1111, .iload_n 3, 1112, [], .null), (1112, .iconst 2, 1113, [], .int (2)), (1113, .iadd, 1114, [], .null), (1114, .iaload, 1115, [], .null), (1115, .aload_n 0, 1116, [], .null), (1116, .iload_n 3, 1117, [], .null), (1117, .iconst 3, 1118, [], .int (3)), (1118, .iadd, 1119, [], .null), (1119, .iaload, 1120, [], .null), (1120, .invokevirtual 132, 1123, [111, 4, 2, 7, 11, 912, 0], .null), (1123, .aload_n 2, 1124, [], .null), (1124, .aload_n 0, 1125, [], .null), (1125, .iload_n 3, 1126, [], .null), (1126, .iconst 1, 1127, [], .int (1)), (1127, .iadd, 1128, [], .null), (1128, .iaload, 1129, [], .null), (1129, .aload_n 0, 1130, [], .null), (1130, .iload_n 3, 1131, [], .null), (1131, .iconst 2, 1132, [], .int (2)), (1132, .iadd, 1133, [], .null), (1133, .iaload, 1134, [], .null), (1134, .aload_n 0, 1135, [], .null), (1135, .iload_n 3, 1136, [], .null), (1136, .iconst 3, 1137, [], .int (3)), (1137, .iadd, 1138, [], .null), (1138, .iaload, 1139, [], .null), (1139, .invokevirtual 135, 1142, [217, 4, 2, 42, 12, 1523, 0], .null), (1142, .lcmp, 1143, [], .null), (1143, .ifCond .eq 547, 1146, [1690], .null), (1146, .iconst 0, 1147, [], .int (0)), (1147, .ireturn, 1148, [], .null), (1148, .aload_n 1, 1149, [], .null), (1149, .aload_n 0, 1150, [], .null), (1150, .iload_n 3, 1151, [], .null), (1151, .iconst 1, 1152, [], .int (1)), (1152, .iadd, 1153, [], .null), (1153, .iaload, 1154, [], .null), (1154, .aload_n 0, 1155, [], .null), (1155, .iload_n 3, 1156, [], .null), (1156, .iconst 2, 1157, [], .int (2)), (1157, .iadd, 1158, [], .null), (1158, .iaload, 1159, [], .null), (1159, .invokevirtual 136, 1162, [112, 3, 1, 7, 11, 933, 0], .null), (1162, .aload_n 2, 1163, [], .null), (1163, .aload_n 0, 1164, [], .null), (1164, .iload_n 3, 1165, [], .null), (1165, .iconst 1, 1166, [], .int (1)), (1166, .iadd, 1167, [], .null), (1167, .iaload, 1168, [], .null), (1168, .aload_n 0, 1169, [], .null), (1169, .iload_n 3, 1170, [], .null), (1170, .iconst 2, 1171, [], .int (2)), (1171, .iadd, 1172, [], .null), (1172, .iaload, 1173, [], .null), (1173, .invokevirtual 139, 1176, [218, 3, 1, 41, 12, 1531, 0], .null), (1176, .if_icmp .eq 514, 1179, [1690], .null), (1179, .iconst 0, 1180, [], .int (0)), (1180, .ireturn, 1181, [], .null), (1181, .aload_n 1, 1182, [], .null), (1182, .aload_n 0, 1183, [], .null), (1183, .iload_n 3, 1184, [], .null), (1184, .iconst 1, 1185, [], .int (1)), (1185, .iadd, 1186, [], .null), (1186, .iaload, 1187, [], .null), (1187, .invokevirtual 140, 1190, [113, 2, 1, 7, 11, 942, 0], .null), (1190, .aload_n 2, 1191, [], .null), (1191, .aload_n 0, 1192, [], .null), (1192, .iload_n 3, 1193, [], .null), (1193, .iconst 1, 1194, [], .int (1)), (1194, .iadd, 1195, [], .null), (1195, .iaload, 1196, [], .null), (1196, .invokevirtual 143, 1199, [226, 2, 1, 40, 12, 1535, 0], .null), (1199, .if_icmp .eq 491, 1202, [1690], .null), (1202, .iconst 0, 1203, [], .int (0)), (1203, .ireturn, 1204, [], .null), (1204, .aload_n 1, 1205, [], .null), (1205, .aload_n 0, 1206, [], .null), (1206, .iload_n 3, 1207, [], .null), (1207, .iconst 1, 1208, [], .int (1)), (1208, .iadd, 1209, [], .null), (1209, .iaload, 1210, [], .null), (1210, .invokevirtual 144, 1213, [114, 2, 1, 7, 11, 1004, 0], .null), (1213, .aload_n 2, 1214, [], .null), (1214, .aload_n 0, 1215, [], .null), (1215, .iload_n 3, 1216, [], .null), (1216, .iconst 1, 1217, [], .int (1)), (1217, .iadd, 1218, [], .null), (1218, .iaload, 1219, [], .null), (1219, .invokevirtual 147, 1222, [227, 2, 1, 6, 12, 1571, 0], .null), (1222, .if_icmp .eq 468, 1225, [1690], .null), (1225, .iconst 0, 1226, [], .int (0)), (1226, .ireturn, 1227, [], .null), (1227, .aload_n 1, 1228, [], .null), (1228, .aload_n 0, 1229, [], .null), (1229, .iload_n 3, 1230, [], .null), (1230, .iconst 1, 1231, [], .int (1)), (1231, .iadd, 1232, [], .null), (1232, .iaload, 1233, [], .null), (1233, .invokevirtual 148, 1236, [115, 2, 1, 7, 11, 1008, 0], .null), (1236, .aload_n 2, 1237, [], .null), (1237, .aload_n 0, 1238, [], .null), (1238, .iload_n 3, 1239, [], .null), (1239, .iconst 1, 1240, [], .int (1)), (1240, .iadd, 1241, [], .null), (1241, .iaload, 1242, [], .null), (1242, .invokevirtual 151, 1245, [228, 2, 1, 6, 12, 1575, 0], .null), (1245, .if_icmp .eq 445, 1248, [1690], .null), (1248, .iconst 0, 1249, [], .int (0)), (1249, .ireturn, 1250, [], .null), (1250, .aload_n 1, 1251, [], .null), (1251, .aload_n 0, 1252, [], .null), (1252, .iload_n 3, 1253, [], .null), (1253, .iconst 1, 1254, [], .int (1)), (1254, .iadd, 1255, [], .null), (1255, .iaload, 1256, [], .null), (1256, .invokevirtual 152, 1259, [116, 2, 1, 6, 11, 1020, 0], .null), (1259, .aload_n 2, 1260, [], .null), (1260, .aload_n 0, 1261, [], .null), (1261, .iload_n 3, 1262, [], .null), (1262, .iconst 1, 1263, [], .int (1)), (1263, .iadd, 1264, [], .null), (1264, .iaload, 1265, [], .null), (1265, .invokevirtual 155, 1268, [230, 2, 1, 5, 12, 1579, 0], .null), (1268, .if_icmp .eq 422, 1271, [1690], .null), (1271, .iconst 0, 1272, [], .int (0)), (1272, .ireturn, 1273, [], .null), (1273, .aload_n 1, 1274, [], .null), (1274, .aload_n 0, 1275, [], .null), (1275, .iload_n 3, 1276, [], .null), (1276, .iconst 1, 1277, [], .int (1)), (1277, .iadd, 1278, [], .null), (1278, .iaload, 1279, [], .null), (1279, .invokevirtual 156, 1282, [117, 2, 1, 7, 11, 1035, 0], .null), (1282, .aload_n 2, 1283, [], .null), (1283, .aload_n 0, 1284, [], .null), (1284, .iload_n 3, 1285, [], .null), (1285, .iconst 1, 1286, [], .int (1)), (1286, .iadd, 1287, [], .null), (1287, .iaload, 1288, [], .null), (1288, .invokevirtual 159, 1291, [231, 2, 1, 42, 12, 1588, 0], .null), (1291, .if_icmp .eq 399, 1294, [1690], .null), (1294, .iconst 0, 1295, [], .int (0)), (1295, .ireturn, 1296, [], .null), (1296, .aload_n 1, 1297, [], .null), (1297, .aload_n 0, 1298, [], .null), (1298, .iload_n 3, 1299, [], .null), (1299, .iconst 1, 1300, [], .int (1)), (1300, .iadd, 1301, [], .null), (1301, .iaload, 1302, [], .null), (1302, .aload_n 0, 1303, [], .null), (1303, .iload_n 3, 1304, [], .null), (1304, .iconst 2, 1305, [], .int (2)), (1305, .iadd, 1306, [], .null), (1306, .iaload, 1307, [], .null), (1307, .invokevirtual 160, 1310, [118, 3, 1, 2, 11, 1044, 0], .null), (1310, .aload_n 2, 1311, [], .null), (1311, .aload_n 0, 1312, [], .null), (1312, .iload_n 3, 1313, [], .null), (1313, .iconst 1, 1314, [], .int (1)), (1314, .iadd, 1315, [], .null), (1315, .iaload, 1316, [], .null), (1316, .aload_n 0, 1317, [], .null), (1317, .iload_n 3, 1318, [], .null), (1318, .iconst 2, 1319, [], .int (2)), (1319, .iadd, 1320, [], .null), (1320, .iaload, 1321, [], .null), (1321, .invokevirtual 163, 1324, [233, 3, 1, 3, 12, 1592, 0], .null), (1324, .if_icmp .eq 366, 1327, [1690], .null), (1327, .iconst 0, 1328, [], .int (0)), (1328, .ireturn, 1329, [], .null), (1329, .aload_n 1, 1330, [], .null), (1330, .aload_n 0, 1331, [], .null), (1331, .iload_n 3, 1332, [], .null), (1332, .iconst 1, 1333, [], .int (1)), (1333, .iadd, 1334, [], .null), (1334, .iaload, 1335, [], .null), (1335, .aload_n 0, 1336, [], .null), (1336, .iload_n 3, 1337, [], .null), (1337, .iconst 2, 1338, [], .int (2)), (1338, .iadd, 1339, [], .null), (1339, .iaload, 1340, [], .null), (1340, .aload_n 0, 1341, [], .null), (1341, .iload_n 3, 1342, [], .null), (1342, .iconst 3, 1343, [], .int (3)), (1343, .iadd, 1344, [], .null), (1344, .iaload, 1345, [], .null), (1345, .invokevirtual 164, 1348, [119, 4, 1, 2, 11, 1052, 0], .null), (1348, .aload_n 2, 1349, [], .null), (1349, .aload_n 0, 1350, [], .null), (1350, .iload_n 3, 1351, [], .null), (1351, .iconst 1, 1352, [], .int (1)), (1352, .iadd, 1353, [], .null), (1353, .iaload, 1354, [], .null), (1354, .aload_n 0, 1355, [], .null), (1355, .iload_n 3, 1356, [], .null), (1356, .iconst 2, 1357, [], .int (2)), (1357, .iadd, 1358, [], .null), (1358, .iaload, 1359, [], .null), (1359, .aload_n 0, 1360, [], .null), (1360, .iload_n 3, 1361, [], .null), (1361, .iconst 3, 1362, [], .int (3)), (1362, .iadd, 1363, [], .null), (1363, .iaload, 1364, [], .null), (1364, .invokevirtual 167, 1367, [234, 4, 1, 3, 12, 1600, 0], .null), (1367, .if_icmp .eq 323, 1370, [1690], .null), (1370, .iconst 0, 1371, [], .int (0)), (1371, .ireturn, 1372, [], .null), (1372, .aload_n 1, 1373, [], .null), (1373, .aload_n 0, 1374, [], .null), (1374, .iload_n 3, 1375, [], .null), (1375, .iconst 1, 1376, [], .int (1)), (1376, .iadd, 1377, [], .null), (1377, .iaload, 1378, [], .null), (1378, .invokevirtual 168, 1381, [120, 2, 1, 7, 11, 1056, 0], .null), (1381, .aload_n 2, 1382, [], .null), (1382, .aload_n 0, 1383, [], .null), (1383, .iload_n 3, 1384, [], .null), (1384, .iconst 1, 1385, [], .int (1)), (1385, .iadd, 1386, [], .null), (1386, .iaload, 1387, [], .null), (1387, .invokevirtual 171, 1390, [235, 2, 1, 42, 12, 1604, 0], .null), (1390, .if_icmp .eq 300, 1393, [1690], .null), (1393, .iconst 0, 1394, [], .int (0)), (1394, .ireturn, 1395, [], .null), (1395, .aload_n 1, 1396, [], .null), (1396, .aload_n 0, 1397, [], .null), (1397, .iload_n 3, 1398, [], .null), (1398, .iconst 1, 1399, [], .int (1)), (1399, .iadd, 1400, [], .null), (1400, .iaload, 1401, [], .null), (1401, .aload_n 0, 1402, [], .null), (1402, .iload_n 3, 1403, [], .null), (1403, .iconst 2, 1404, [], .int (2)), (1404, .iadd, 1405, [], .null), (1405, .iaload, 1406, [], .null), (1406, .aload_n 0, 1407, [], .null), (1407, .iload_n 3, 1408, [], .null), (1408, .iconst 3, 1409, [], .int (3)), (1409, .iadd, 1410, [], .null), (1410, .iaload, 1411, [], .null), (1411, .invokevirtual 172, 1414, [121, 4, 1, 3, 11, 1065, 0], .null), (1414, .aload_n 2, 1415, [], .null), (1415, .aload_n 0, 1416, [], .null), (1416, .iload_n 3, 1417, [], .null), (1417, .iconst 1, 1418, [], .int (1)), (1418, .iadd, 1419, [], .null), (1419, .iaload, 1420, [], .null), (1420, .aload_n 0, 1421, [], .null), (1421, .iload_n 3, 1422, [], .null), (1422, .iconst 2, 1423, [], .int (2)), (1423, .iadd, 1424, [], .null), (1424, .iaload, 1425, [], .null), (1425, .aload_n 0, 1426, [], .null), (1426, .iload_n 3, 1427, [], .null), (1427, .iconst 3, 1428, [], .int (3)), (1428, .iadd, 1429, [], .null), (1429, .iaload, 1430, [], .null), (1430, .invokevirtual 175, 1433, [237, 4, 1, 3, 12, 1608, 0], .null), (1433, .if_icmp .eq 257, 1436, [1690], .null), (1436, .iconst 0, 1437, [], .int (0)), (1437, .ireturn, 1438, [], .null), (1438, .aload_n 1, 1439, [], .null), (1439, .aload_n 0, 1440, [], .null), (1440, .iload_n 3, 1441, [], .null), (1441, .iconst 1, 1442, [], .int (1)), (1442, .iadd, 1443, [], .null), (1443, .iaload, 1444, [], .null), (1444, .aload_n 0, 1445, [], .null), (1445, .iload_n 3, 1446, [], .null), (1446, .iconst 2, 1447, [], .int (2)), (1447, .iadd, 1448, [], .null), (1448, .iaload, 1449, [], .null), (1449, .aload_n 0, 1450, [], .null), (1450, .iload_n 3, 1451, [], .null), (1451, .iconst 3, 1452, [], .int (3)), (1452, .iadd, 1453, [], .null), (1453, .iaload, 1454, [], .null), (1454, .i2l, 1455, [], .null), (1455, .bipush 32, 1457, [], .int (32)), (1457, .lshl, 1458, [], .null), (1458, .aload_n 0, 1459, [], .null), (1459, .iload_n 3, 1460, [], .null), (1460, .iconst 4, 1461, [], .int (4)), (1461, .iadd, 1462, [], .null), (1462, .iaload, 1463, [], .null), (1463, .i2l, 1464, [], .null), (1464, .ldc2_w 63, 1467, [1649], .long (4294967295)), (1467, .land, 1468, [], .null), (1468, .lor, 1469, [], .null), (1469, .invokevirtual 176, 1472, [122, 4, 1, 3, 11, 1074, 0], .null), (1472, .aload_n 2, 1473, [], .null), (1473, .aload_n 0, 1474, [], .null), (1474, .iload_n 3, 1475, [], .null), (1475, .iconst 1, 1476, [], .int (1)), (1476, .iadd, 1477, [], .null), (1477, .iaload, 1478, [], .null), (1478, .aload_n 0, 1479, [], .null), (1479, .iload_n 3, 1480, [], .null), (1480, .iconst 2, 1481, [], .int (2)), (1481, .iadd, 1482, [], .null), (1482, .iaload, 1483, [], .null), (1483, .aload_n 0, 1484, [], .null), (1484, .iload_n 3, 1485, [], .null), (1485, .iconst 3, 1486, [], .int (3)), (1486, .iadd, 1487, [], .null), (1487, .iaload, 1488, [], .null), (1488, .i2l, 1489, [], .null), (1489, .bipush 32, 1491, [], .int (32)), (1491, .lshl, 1492, [], .null), (1492, .aload_n 0, 1493, [], .null), (1493, .iload_n 3, 1494, [], .null), (1494, .iconst 4, 1495, [], .int (4)), (1495, .iadd, 1496, [], .null), (1496, .iaload, 1497, [], .null), (1497, .i2l, 1498, [], .null), (1498, .ldc2_w 63, 1501, [1649], .long (4294967295)), (1501, .land, 1502, [], .null), (1502, .lor, 1503, [], .null), (1503, .invokevirtual 180, 1506, [239, 4, 1, 4, 12, 1612, 0], .null), (1506, .if_icmp .eq 184, 1509, [1690], .null), (1509, .iconst 0, 1510, [], .int (0)), (1510, .ireturn, 1511, [], .null), (1511, .aload_n 1, 1512, [], .null), (1512, .aload_n 0, 1513, [], .null), (1513, .iload_n 3, 1514, [], .null), (1514, .iconst 1, 1515, [], .int (1)), (1515, .iadd, 1516, [], .null), (1516, .iaload, 1517, [], .null), (1517, .aload_n 0, 1518, [], .null), (1518, .iload_n 3, 1519, [], .null), (1519, .iconst 2, 1520, [], .int (2)), (1520, .iadd, 1521, [], .null), (1521, .iaload, 1522, [], .null), (1522, .invokevirtual 181, 1525, [123, 3, 2, 3, 11, 1086, 0], .null), (1525, .aload_n 2, 1526, [], .null), (1526, .aload_n 0, 1527, [], .null), (1527, .iload_n 3, 1528, [], .null), (1528, .iconst 1, 1529, [], .int (1)), (1529, .iadd, 1530, [], .null), (1530, .iaload, 1531, [], .null), (1531, .aload_n 0, 1532, [], .null), (1532, .iload_n 3, 1533, [], .null), (1533, .iconst 2, 1534, [], .int (2)), (1534, .iadd, 1535, [], .null), (1535, .iaload, 1536, [], .null), (1536, .invokevirtual 185, 1539, [240, 3, 2, 4, 12, 1620, 0], .null), (1539, .lcmp, 1540, [], .null), (1540, .ifCond .eq 150, 1543, [1690], .null), (1543, .iconst 0, 1544, [], .int (0)), (1544, .ireturn, 1545, [], .null), (1545, .aload_n 1, 1546, [], .null), (1546, .aload_n 0, 1547, [], .null), (1547, .iload_n 3, 1548, [], .null), (1548, .iconst 1, 1549, [], .int (1)), (1549, .iadd, 1550, [], .null), (1550, .iaload, 1551, [], .null), (1551, .aload_n 0, 1552, [], .null), (1552, .iload_n 3, 1553, [], .null), (1553, .iconst 2, 1554, [], .int (2)), (1554, .iadd, 1555, [], .null), (1555, .iaload, 1556, [], .null), (1556, .aload_n 0, 1557, [], .null), (1557, .iload_n 3, 1558, [], .null), (1558, .iconst 3, 1559, [], .int (3)), (1559, .iadd, 1560, [], .null), (1560, .iaload, 1561, [], .null), (1561, .aload_n 0, 1562, [], .null), (1562, .iload_n 3, 1563, [], .null), (1563, .iconst 4, 1564, [], .int (4)), (1564, .iadd, 1565, [], .null), (1565, .iaload, 1566, [], .null), (1566, .aload_n 0, 1567, [], .null), (1567, .iload_n 3, 1568, [], .null), (1568, .iconst 5, 1569, [], .int (5)), (1569, .iadd, 1570, [], .null), (1570, .iaload, 1571, [], .null), (1571, .invokevirtual 186, 1574, [124, 6, 1, 2, 11, 1090, 0], .null), (1574, .aload_n 2, 1575, [], .null), (1575, .aload_n 0, 1576, [], .null), (1576, .iload_n 3, 1577, [], .null), (1577, .iconst 1, 1578, [], .int (1)), (1578, .iadd, 1579, [], .null), (1579, .iaload, 1580, [], .null), (1580, .aload_n 0, 1581, [], .null), (1581, .iload_n 3, 1582, [], .null), (1582, .iconst 2, 1583, [], .int (2)), (1583, .iadd, 1584, [], .null), (1584, .iaload, 1585, [], .null), (1585, .aload_n 0, 1586, [], .null), (1586, .iload_n 3, 1587, [], .null), (1587, .iconst 3, 1588, [], .int (3)), (1588, .iadd, 1589, [], .null), (1589, .iaload, 1590, [], .null), (1590, .aload_n 0, 1591, [], .null), (1591, .iload_n 3, 1592, [], .null), (1592, .iconst 4, 1593, [], .int (4)), (1593, .iadd, 1594, [], .null), (1594, .iaload, 1595, [], .null), (1595, .aload_n 0, 1596, [], .null), (1596, .iload_n 3, 1597, [], .null), (1597, .iconst 5, 1598, [], .int (5)), (1598, .iadd, 1599, [], .null), (1599, .iaload, 1600, [], .null), (1600, .invokevirtual 190, 1603, [241, 6, 1, 3, 12, 1624, 0], .null), (1603, .if_icmp .eq 87, 1606, [1690], .null), (1606, .iconst 0, 1607, [], .int (0)), (1607, .ireturn, 1608, [], .null), (1608, .aload_n 1, 1609, [], .null), (1609, .invokevirtual 191, 1612, [125, 1, 1, 3, 11, 1099, 0], .null), (1612, .aload_n 2, 1613, [], .null), (1613, .invokevirtual 194, 1616, [242, 1, 1, 2, 12, 1628, 0], .null), (1616, .if_icmp .eq 74, 1619, [1690], .null), (1619, .iconst 0, 1620, [], .int (0)), (1620, .ireturn, 1621, [], .null), (1621, .aload_n 1, 1622, [], .null), (1622, .aload_n 0, 1623, [], .null), (1623, .iload_n 3, 1624, [], .null), (1624, .iconst 1, 1625, [], .int (1)), (1625, .iadd, 1626, [], .null), (1626, .iaload, 1627, [], .null), (1627, .invokevirtual 195, 1630, [126, 2, 1, 1, 11, 1107, 0], .null), (1630, .aload_n 2, 1631, [], .null), (1631, .aload_n 0, 1632, [], .null), (1632, .iload_n 3, 1633, [], .null), (1633, .iconst 1, 1634, [], .int (1)), (1634, .iadd, 1635, [], .null), (1635, .iaload, 1636, [], .null), (1636, .invokevirtual 198, 1639, [243, 2, 1, 1, 12, 1632, 0], .null), (1639, .if_icmp .eq 51, 1642, [1690], .null), (1642, .iconst 0, 1643, [], .int (0)), (1643, .ireturn, 1644, [], .null), (1644, .aload_n 1, 1645, [], .null), (1645, .aload_n 0, 1646, [], .null), (1646, .iload_n 3, 1647, [], .null), (1647, .iconst 1, 1648, [], .int (1)), (1648, .iadd, 1649, [], .null), (1649, .iaload, 1650, [], .null), (1650, .invokevirtual 199, 1653, [127, 2, 1, 2, 11, 1111, 0], .null), (1653, .aload_n 2, 1654, [], .null), (1654, .aload_n 0, 1655, [], .null), (1655, .iload_n 3, 1656, [], .null), (1656, .iconst 1, 1657, [], .int (1)), (1657, .iadd, 1658, [], .null), (1658, .iaload, 1659, [], .null), (1659, .invokevirtual 202, 1662, [245, 2, 1, 2, 12, 1636, 0], .null), (1662, .if_icmp .eq 28, 1665, [1690], .null), (1665, .iconst 0, 1666, [], .int (0)), (1666, .ireturn, 1667, [], .null), (1667, .aload_n 1, 1668, [], .null), (1668, .aload_n 0, 1669, [], .null), (1669, .iload_n 3, 1670, [], .null), (1670, .iconst 1, 1671, [], .int (1)), (1671, .iadd, 1672, [], .null), (1672, .iaload, 1673, [], .null), (1673, .invokevirtual 203, 1676, [128, 2, 1, 2, 11, 1115, 0], .null), (1676, .aload_n 2, 1677, [], .null), (1677, .aload_n 0, 1678, [], .null), (1678, .iload_n 3, 1679, [], .null), (1679, .iconst 1, 1680, [], .int (1)), (1680, .iadd, 1681, [], .null), (1681, .iaload, 1682, [], .null), (1682, .invokevirtual 206, 1685, [246, 2, 1, 2, 12, 1644, 0], .null), (1685, .if_icmp .eq 5, 1688, [1690], .null), (1688, .iconst 0, 1689, [], .int (0)), (1689, .ireturn, 1690, [], .null), (1690, .iinc 3 6, 1693, [], .int (6)), (1693, .goto (-1675), 1696, [18], .null), (1696, .iconst 1, 1697, [], .int (1)), (1697, .ireturn, 1698, [], .null)])
noncomputable def zMs (k : Nat) : zM := cond (Nat.blt k 126) (cond (Nat.blt k 63) (cond (Nat.blt k 31) (cond (Nat.blt k 15) (cond (Nat.blt k 7) (cond (Nat.blt k 3) (cond (Nat.blt k 1) (kX0_become) (cond (Nat.blt k 2) (kX0_isPoint) (kX0_isPair))) (cond (Nat.blt k 5) (cond (Nat.blt k 4) (kX0_addPoint) (kX0_removeLastPoint)) (cond (Nat.blt k 6) (kX0_addStep) (kX0_markAt)))) (cond (Nat.blt k 11) (cond (Nat.blt k 9) (cond (Nat.blt k 8) (kX0_setMark) (kX0_isFree)) (cond (Nat.blt k 10) (kX0_wouldCross) (kX0_mustCross))) (cond (Nat.blt k 13) (cond (Nat.blt k 12) (kX0_doCross) (kX0_turnsLeft)) (cond (Nat.blt k 14) (kX1_fewest) (kX1_meetAround))))) (cond (Nat.blt k 23) (cond (Nat.blt k 19) (cond (Nat.blt k 17) (cond (Nat.blt k 16) (kX1_meet) (kX2_start)) (cond (Nat.blt k 18) (kX2_takeSteps) (kX2_takeStep))) (cond (Nat.blt k 21) (cond (Nat.blt k 20) (kX2_plus) (kX2_takenFrom)) (cond (Nat.blt k 22) (kX2_times) (kX2_square)))) (cond (Nat.blt k 27) (cond (Nat.blt k 25) (cond (Nat.blt k 24) (kX2_measureEdge) (kX2_byRule)) (cond (Nat.blt k 26) (kX2_measureEdges) (kX2_measureNet))) (cond (Nat.blt k 29) (cond (Nat.blt k 28) (kX2_foldIn) (kX2_leastOf)) (cond (Nat.blt k 30) (kX3_follow) (kX3_findWhole)))))) (cond (Nat.blt k 47) (cond (Nat.blt k 39) (cond (Nat.blt k 35) (cond (Nat.blt k 33) (cond (Nat.blt k 32) (kX3_greedyNet) (kX3_meet)) (cond (Nat.blt k 34) (kX3_spotIn) (kX3_find))) (cond (Nat.blt k 37) (cond (Nat.blt k 36) (kX3_holding) (kX3_inAll)) (cond (Nat.blt k 38) (kX3_inAny) (kX3_givenUpFor)))) (cond (Nat.blt k 43) (cond (Nat.blt k 41) (cond (Nat.blt k 40) (kX3_flippable) (kX3_flipped)) (cond (Nat.blt k 42) (kX4_keep) (kX4_bringBack))) (cond (Nat.blt k 45) (cond (Nat.blt k 44) (kX5_follow) (kX5_isOf)) (cond (Nat.blt k 46) (kX5_findOrder) (kX5_findSides))))) (cond (Nat.blt k 55) (cond (Nat.blt k 51) (cond (Nat.blt k 49) (cond (Nat.blt k 48) (kX5_setLeftTurn) (kX5_findCrossings)) (cond (Nat.blt k 50) (kX5_findHull) (kX5_behindOnHull))) (cond (Nat.blt k 53) (cond (Nat.blt k 52) (kX5_isLeft) (kX5_isBare)) (cond (Nat.blt k 54) (kX5_isHollow) (kX5_lowerPath)))) (cond (Nat.blt k 59) (cond (Nat.blt k 57) (cond (Nat.blt k 56) (kX6_read) (kX6_readCorners)) (cond (Nat.blt k 58) (kX6_readSides) (kX6_behind))) (cond (Nat.blt k 61) (cond (Nat.blt k 60) (kX6_ahead) (kX6_signedArea)) (cond (Nat.blt k 62) (kX6_turnRound) (kX6_splitCount))))))) (cond (Nat.blt k 94) (cond (Nat.blt k 78) (cond (Nat.blt k 70) (cond (Nat.blt k 66) (cond (Nat.blt k 64) (kX6_splitsBetween) (cond (Nat.blt k 65) (kX6_isJoined) (kX6_leavesInward))) (cond (Nat.blt k 68) (cond (Nat.blt k 67) (kX6_pointsInside) (kX6_isInside)) (cond (Nat.blt k 69) (kX7_take) (kX7_has)))) (cond (Nat.blt k 74) (cond (Nat.blt k 72) (cond (Nat.blt k 71) (kX7_firstUnlike) (kX8_lay)) (cond (Nat.blt k 73) (kX8_isMissing) (kX8_put))) (cond (Nat.blt k 76) (cond (Nat.blt k 75) (kX8_hasRun) (kX9_follow)) (cond (Nat.blt k 77) (kX9_goOn) (kX9_isOn))))) (cond (Nat.blt k 86) (cond (Nat.blt k 82) (cond (Nat.blt k 80) (cond (Nat.blt k 79) (kX9_nextOn) (kX9_comesBehind)) (cond (Nat.blt k 81) (kX9_goesBehind) (kX9_isTriangle))) (cond (Nat.blt k 84) (cond (Nat.blt k 83) (kX9_add) (kX10_total)) (cond (Nat.blt k 85) (kX11_place) (kX11_drop)))) (cond (Nat.blt k 90) (cond (Nat.blt k 88) (cond (Nat.blt k 87) (kX11_move) (kX11_at)) (cond (Nat.blt k 89) (kX11_mark) (kX11_markOf))) (cond (Nat.blt k 92) (cond (Nat.blt k 91) (kX11_turn) (kX11_crosses)) (cond (Nat.blt k 93) (kX11_hull) (kX11_nets)))))) (cond (Nat.blt k 110) (cond (Nat.blt k 102) (cond (Nat.blt k 98) (cond (Nat.blt k 96) (cond (Nat.blt k 95) (kX11_net) (kX11_rank)) (cond (Nat.blt k 97) (kX11_with) (kX11_always))) (cond (Nat.blt k 100) (cond (Nat.blt k 99) (kX11_draw) (kX11_fan)) (cond (Nat.blt k 101) (kX11_flips) (kX11_flip)))) (cond (Nat.blt k 106) (cond (Nat.blt k 104) (cond (Nat.blt k 103) (kX11_apart) (kX11_path)) (cond (Nat.blt k 105) (kX11_advance) (kX11_ways))) (cond (Nat.blt k 108) (cond (Nat.blt k 107) (kX11_step) (kX11_stepOf)) (cond (Nat.blt k 109) (kX11_clear) (kX11_chain))))) (cond (Nat.blt k 118) (cond (Nat.blt k 114) (cond (Nat.blt k 112) (cond (Nat.blt k 111) (kX11_ofEdge) (kX11_ofNet)) (cond (Nat.blt k 113) (kX11_best) (kX11_splits))) (cond (Nat.blt k 116) (cond (Nat.blt k 115) (kX11_area) (kX11_within)) (cond (Nat.blt k 117) (kX11_empty) (kX11_prove)))) (cond (Nat.blt k 122) (cond (Nat.blt k 120) (cond (Nat.blt k 119) (kX11_row) (kX11_alter)) (cond (Nat.blt k 121) (kX11_judge) (kX11_sheet))) (cond (Nat.blt k 124) (cond (Nat.blt k 123) (kX11_write) (kX11_item)) (cond (Nat.blt k 125) (kX11_copy) (kX11_undo)))))))) (cond (Nat.blt k 189) (cond (Nat.blt k 157) (cond (Nat.blt k 141) (cond (Nat.blt k 133) (cond (Nat.blt k 129) (cond (Nat.blt k 127) (kX11_seed) (cond (Nat.blt k 128) (kX11_count) (kX11_status))) (cond (Nat.blt k 131) (cond (Nat.blt k 130) (kX11_finding) (kX11_longFinding)) (cond (Nat.blt k 132) (kX11_followNets) (kX11_isNet)))) (cond (Nat.blt k 137) (cond (Nat.blt k 135) (cond (Nat.blt k 134) (kX11_refusedNumber) (kX11_refusedPolygon)) (cond (Nat.blt k 136) (kX11_isNear) (kX11_isRule))) (cond (Nat.blt k 139) (cond (Nat.blt k 138) (kX11_isFold) (kX11_isSheet)) (cond (Nat.blt k 140) (kX11_holds) (kX11_edgeOf))))) (cond (Nat.blt k 149) (cond (Nat.blt k 145) (cond (Nat.blt k 143) (cond (Nat.blt k 142) (kX11_edgesAt) (kX11_side)) (cond (Nat.blt k 144) (kX12_finds) (kX12_findsLong))) (cond (Nat.blt k 147) (cond (Nat.blt k 146) (kX12_in) (kX12_points)) (cond (Nat.blt k 148) (kX12_x) (kX12_y)))) (cond (Nat.blt k 153) (cond (Nat.blt k 151) (cond (Nat.blt k 150) (kX12_isPoint) (kX12_areTwo)) (cond (Nat.blt k 152) (kX12_side) (kX12_turnOf))) (cond (Nat.blt k 155) (cond (Nat.blt k 154) (kX12_isAhead) (kX12_isWithin)) (cond (Nat.blt k 156) (kX12_edge) (kX12_doCross)))))) (cond (Nat.blt k 173) (cond (Nat.blt k 165) (cond (Nat.blt k 161) (cond (Nat.blt k 159) (cond (Nat.blt k 158) (kX12_first) (kX12_last)) (cond (Nat.blt k 160) (kX12_isOfHull) (kX12_behind))) (cond (Nat.blt k 163) (cond (Nat.blt k 162) (kX12_findsHull) (kX12_laysAside)) (cond (Nat.blt k 164) (kX12_laysBack) (kX12_changes)))) (cond (Nat.blt k 169) (cond (Nat.blt k 167) (cond (Nat.blt k 166) (kX12_isFree) (kX12_doMustsCross)) (cond (Nat.blt k 168) (kX12_isPlace) (kX12_place))) (cond (Nat.blt k 171) (cond (Nat.blt k 170) (kX12_drop) (kX12_move)) (cond (Nat.blt k 172) (kX12_at) (kX12_mark))))) (cond (Nat.blt k 181) (cond (Nat.blt k 177) (cond (Nat.blt k 175) (cond (Nat.blt k 174) (kX12_markOf) (kX12_turn)) (cond (Nat.blt k 176) (kX12_crosses) (kX12_hull))) (cond (Nat.blt k 179) (cond (Nat.blt k 178) (kX12_has) (kX12_readsCrossings)) (cond (Nat.blt k 180) (kX12_mayEnd) (kX12_lists)))) (cond (Nat.blt k 185) (cond (Nat.blt k 183) (cond (Nat.blt k 182) (kX12_listsNets) (kX12_numberOf)) (cond (Nat.blt k 184) (kX12_isNet) (kX12_nets))) (cond (Nat.blt k 187) (cond (Nat.blt k 186) (kX12_net) (kX12_rank)) (cond (Nat.blt k 188) (kX12_with) (kX12_always))))))) (cond (Nat.blt k 220) (cond (Nat.blt k 204) (cond (Nat.blt k 196) (cond (Nat.blt k 192) (cond (Nat.blt k 190) (kX12_drawn) (cond (Nat.blt k 191) (kX12_draw) (kX12_isTriangle))) (cond (Nat.blt k 194) (cond (Nat.blt k 193) (kX12_fan) (kX12_flipped)) (cond (Nat.blt k 195) (kX12_flips) (kX12_flip)))) (cond (Nat.blt k 200) (cond (Nat.blt k 198) (cond (Nat.blt k 197) (kX12_apart) (kX12_firstPath)) (cond (Nat.blt k 199) (kX12_nextOn) (kX12_advances))) (cond (Nat.blt k 202) (cond (Nat.blt k 201) (kX12_advances_) (kX12_sweeps)) (cond (Nat.blt k 203) (kX12_path) (kX12_advance))))) (cond (Nat.blt k 212) (cond (Nat.blt k 208) (cond (Nat.blt k 206) (cond (Nat.blt k 205) (kX12_ways) (kX12_plus)) (cond (Nat.blt k 207) (kX12_minus) (kX12_times))) (cond (Nat.blt k 210) (cond (Nat.blt k 209) (kX12_byStep) (kX12_chained)) (cond (Nat.blt k 211) (kX12_byRule) (kX12_folded)))) (cond (Nat.blt k 216) (cond (Nat.blt k 214) (cond (Nat.blt k 213) (kX12_step) (kX12_stepOf)) (cond (Nat.blt k 215) (kX12_clear) (kX12_chain))) (cond (Nat.blt k 218) (cond (Nat.blt k 217) (kX12_ofEdge) (kX12_ofNet)) (cond (Nat.blt k 219) (kX12_best) (kX12_isCorner)))))) (cond (Nat.blt k 236) (cond (Nat.blt k 228) (cond (Nat.blt k 224) (cond (Nat.blt k 222) (cond (Nat.blt k 221) (kX12_cornerAt) (kX12_isPolygon)) (cond (Nat.blt k 223) (kX12_whyNot) (kX12_isInside))) (cond (Nat.blt k 226) (cond (Nat.blt k 225) (kX12_isSide) (kX12_runsInside)) (cond (Nat.blt k 227) (kX12_splits) (kX12_area)))) (cond (Nat.blt k 232) (cond (Nat.blt k 230) (cond (Nat.blt k 229) (kX12_within) (kX12_isEmpty)) (cond (Nat.blt k 231) (kX12_empty) (kX12_prove))) (cond (Nat.blt k 234) (cond (Nat.blt k 233) (kX12_isRow) (kX12_row)) (cond (Nat.blt k 235) (kX12_alter) (kX12_judge))))) (cond (Nat.blt k 244) (cond (Nat.blt k 240) (cond (Nat.blt k 238) (cond (Nat.blt k 237) (kX12_isSheet) (kX12_sheet)) (cond (Nat.blt k 239) (kX12_whyNot_) (kX12_write))) (cond (Nat.blt k 242) (cond (Nat.blt k 241) (kX12_item) (kX12_copy)) (cond (Nat.blt k 243) (kX12_undo) (kX12_seed)))) (cond (Nat.blt k 248) (cond (Nat.blt k 246) (cond (Nat.blt k 245) (kX12_marked) (kX12_count)) (cond (Nat.blt k 247) (kX12_status) (kJ6_bitCount_0f7a4))) (cond (Nat.blt k 250) (cond (Nat.blt k 249) (kJ13_bitCount_95d88) (kJ7_fill_d0a16)) (cond (Nat.blt k 251) (kJ7_fill_53178) (kL_law))))))))
noncomputable def zev (m pc : Nat) (vs : List Value) (h : zIJ) : Option zRes := zevM zMs m pc vs h
theorem zev_eq (m pc : Nat) (vs : List Value) (h : zIJ) : zev m pc vs h = zat (zMs m) (zlev m (zMs m).2.2.1 vs) (fun pc2 vs2 h2 => zev m pc2 vs2 h2) (fun m2 as h2 => zev m2 0 as h2) pc vs h := zevM_eq zMs m pc vs h
end
section
/-! What each block of each method comes to (by program). -/
set_option maxRecDepth 100000 in
theorem uX0_become_0 (g : zIJ) (t0 : Nat) (t1 : Nat) : zev mX0_become 0 [.ref t0, .ref t1] g = cond (Nat.beq (zC t1).1 0) (cond (Nat.beq (zC t0).1 0) (cond (Nat.beq (zC (zRf t1 0)).1 100 && Nat.beq (zC (zRf t0 0)).1 100 && zcpG (zC (zRf t1 0)).2 (zC (zRf t0 0)).2 0 0 9) (zev mX0_become 15 [.ref t0, .ref t1] (zcpI g (zRf t1 0) (0 : Int32).toNatClampNeg (zRf t0 0) (0 : Int32).toNatClampNeg (9 : Int32).toNatClampNeg)) none) none) none := by rw [zev_eq]; rfl
set_option maxRecDepth 100000 in
theorem uX0_become_15 (g : zIJ) (t0 : Nat) (t1 : Nat) : zev mX0_become 15 [.ref t0, .ref t1] g = cond (Nat.beq (zC t1).1 0) (cond (Nat.beq (zC t0).1 0) (cond (Nat.beq (zC (zRf t1 1)).1 100 && Nat.beq (zC (zRf t0 1)).1 100 && zcpG (zC (zRf t1 1)).2 (zC (zRf t0 1)).2 0 0 9) (zev mX0_become 30 [.ref t0, .ref t1] (zcpI g (zRf t1 1) (0 : Int32).toNatClampNeg (zRf t0 1) (0 : Int32).toNatClampNeg (9 : Int32).toNatClampNeg)) none) none) none := by rw [zev_eq]; rfl
set_option maxRecDepth 100000 in
theorem uX0_become_30 (g : zIJ) (t0 : Nat) (t1 : Nat) : zev mX0_become 30 [.ref t0, .ref t1] g = cond (Nat.beq (zC t1).1 0) (cond (Nat.beq (zC t0).1 0) (cond (Nat.beq (zC (zRf t1 2)).1 100 && Nat.beq (zC (zRf t0 2)).1 100 && zcpG (zC (zRf t1 2)).2 (zC (zRf t0 2)).2 0 0 8) (zev mX0_become 45 [.ref t0, .ref t1] (zcpI g (zRf t1 2) (0 : Int32).toNatClampNeg (zRf t0 2) (0 : Int32).toNatClampNeg (8 : Int32).toNatClampNeg)) none) none) none := by rw [zev_eq]; rfl
set_option maxRecDepth 100000 in
theorem uX0_become_45 (g : zIJ) (t0 : Nat) (t1 : Nat) : zev mX0_become 45 [.ref t0, .ref t1] g = cond (Nat.beq (zC t1).1 0) (cond (Nat.beq (zC t0).1 0) (cond (Nat.beq (zC (zRf t1 3)).1 100 && Nat.beq (zC (zRf t0 3)).1 100 && zcpG (zC (zRf t1 3)).2 (zC (zRf t0 3)).2 0 0 8) (zev mX0_become 60 [.ref t0, .ref t1] (zcpI g (zRf t1 3) (0 : Int32).toNatClampNeg (zRf t0 3) (0 : Int32).toNatClampNeg (8 : Int32).toNatClampNeg)) none) none) none := by rw [zev_eq]; rfl
set_option maxRecDepth 100000 in
theorem uX0_become_60 (g : zIJ) (t0 : Nat) (t1 : Nat) : zev mX0_become 60 [.ref t0, .ref t1] g = cond (Nat.beq (zC t1).1 0) (cond (Nat.beq (zC t0).1 0) (zev mX0_become 68 [.ref t0, .ref t1] (zsI g t0 4 (g.1 t1 4))) none) none := by rw [zev_eq]; rfl
set_option maxRecDepth 100000 in
theorem uX0_become_68 (g : zIJ) (t0 : Nat) (t1 : Nat) : zev mX0_become 68 [.ref t0, .ref t1] g = cond (Nat.beq (zC t1).1 0) (cond (Nat.beq (zC t0).1 0) (zev mX0_become 76 [.ref t0, .ref t1] (zsI g t0 5 (g.1 t1 5))) none) none := by rw [zev_eq]; rfl
set_option maxRecDepth 100000 in
theorem uX0_become_76 (g : zIJ) (t0 : Nat) (t1 : Nat) : zev mX0_become 76 [.ref t0, .ref t1] g = cond (Nat.beq (zC t1).1 0) (cond (Nat.beq (zC t0).1 0) (zev mX0_become 84 [.ref t0, .ref t1] (zsL g t0 6 (g.2 t1 6))) none) none := by rw [zev_eq]; rfl
set_option maxRecDepth 100000 in
theorem uX0_become_84 (g : zIJ) (t0 : Nat) (t1 : Nat) : zev mX0_become 84 [.ref t0, .ref t1] g = cond (Nat.beq (zC t1).1 0) (cond (Nat.beq (zC t0).1 0) (zev mX0_become 92 [] (zsL g t0 7 (g.2 t1 7))) none) none := by rw [zev_eq]; rfl
set_option maxRecDepth 100000 in
theorem uX0_become_92 (g : zIJ) : zev mX0_become 92 [] g = some (none, g) := by rw [zev_eq]; rfl
set_option maxRecDepth 100000 in
theorem uX0_isPoint_0 (g : zIJ) (a1 : Int32) : zev mX0_isPoint 0 [.ref 4, .int a1] g = cond (decide (a1 < 0)) (some (some (.int 0), g)) (cond (decide ((g.1 4 4) ≤ a1)) (some (some (.int 0), g)) (some (some (.int 1), g))) := by rw [zev_eq]; rfl
set_option maxRecDepth 100000 in
theorem uX0_isPair_0 (g : zIJ) (a1 : Int32) (a2 : Int32) : zev mX0_isPair 0 [.ref 4, .int a1, .int a2] g = zaI (zev mX0_isPoint 0 [.ref 4, .int a1] g) fun x2 g1 => cond (decide (x2 = 0)) (some (some (.int 0), g1)) (zaI (zev mX0_isPoint 0 [.ref 4, .int a2] g1) fun x4 g3 => cond (decide (x4 = 0)) (some (some (.int 0), g3)) (cond (decide (a1 = a2)) (some (some (.int 0), g3)) (some (some (.int 1), g3)))) := by rw [zev_eq]; rfl
set_option maxRecDepth 100000 in
theorem uX0_addPoint_0 (g : zIJ) (a1 : Int32) (a2 : Int32) : zev mX0_addPoint 0 [.ref 4, .int a1, .int a2] g = cond (decide (9 ≤ (g.1 4 4))) (some (none, g)) (cond (zin (g.1 4 4) 9) (cond (zin ((zsI g 5 ((g.1 4 4).toNatClampNeg) a1).1 4 4) 9) (some (none, zsI (zsI (zsI g 5 ((g.1 4 4).toNatClampNeg) a1) 6 (((zsI g 5 ((g.1 4 4).toNatClampNeg) a1).1 4 4).toNatClampNeg) a2) 4 4 (((zsI (zsI g 5 ((g.1 4 4).toNatClampNeg) a1) 6 (((zsI g 5 ((g.1 4 4).toNatClampNeg) a1).1 4 4).toNatClampNeg) a2).1 4 4) + 1))) none) none) := by rw [zev_eq]; rfl
set_option maxRecDepth 100000 in
theorem uX0_removeLastPoint_0 (g : zIJ) : zev mX0_removeLastPoint 0 [.ref 4] g = cond (decide ((g.1 4 4) ≤ 0)) (some (none, g)) (zaL (zev mX11_edgesAt 0 [.int ((zsI g 4 4 ((g.1 4 4) - 1)).1 4 4)] (zsI g 4 4 ((g.1 4 4) - 1))) fun x2 g1 => zaL (zev mX11_edgesAt 0 [.int ((zsL g1 4 6 (((zsI g 4 4 ((g.1 4 4) - 1)).2 4 6) &&& (x2 ^^^ (-1)))).1 4 4)] (zsL g1 4 6 (((zsI g 4 4 ((g.1 4 4) - 1)).2 4 6) &&& (x2 ^^^ (-1))))) fun x4 g3 => some (none, zsL g3 4 7 (((zsL g1 4 6 (((zsI g 4 4 ((g.1 4 4) - 1)).2 4 6) &&& (x2 ^^^ (-1)))).2 4 7) &&& (x4 ^^^ (-1))))) := by rw [zev_eq]; rfl
set_option maxRecDepth 100000 in
theorem uX0_addStep_0 (g : zIJ) (a1 : Int32) (a2 : Int32) : zev mX0_addStep 0 [.ref 4, .int a1, .int a2] g = cond (decide (8 ≤ (g.1 4 5))) (some (none, g)) (cond (zin (g.1 4 5) 8) (cond (zin ((zsI g 7 ((g.1 4 5).toNatClampNeg) a1).1 4 5) 8) (some (none, zsI (zsI (zsI g 7 ((g.1 4 5).toNatClampNeg) a1) 8 (((zsI g 7 ((g.1 4 5).toNatClampNeg) a1).1 4 5).toNatClampNeg) a2) 4 5 (((zsI (zsI g 7 ((g.1 4 5).toNatClampNeg) a1) 8 (((zsI g 7 ((g.1 4 5).toNatClampNeg) a1).1 4 5).toNatClampNeg) a2).1 4 5) + 1))) none) none) := by rw [zev_eq]; rfl
set_option maxRecDepth 100000 in
theorem uX0_markAt_0 (g : zIJ) (a1 : Int32) : zev mX0_markAt 0 [.ref 4, .int a1] g = zaI (zev mX11_holds 0 [.long (g.2 4 6), .int a1] g) fun x2 g1 => cond (decide (x2 = 0)) (zaI (zev mX11_holds 0 [.long (g1.2 4 7), .int a1] g1) fun x4 g3 => cond (decide (x4 = 0)) (some (some (.int 0), g3)) (some (some (.int 2), g3))) (some (some (.int 1), g1)) := by rw [zev_eq]; rfl
set_option maxRecDepth 100000 in
theorem uX0_setMark_0 (g : zIJ) (a1 : Int32) (a2 : Int32) : zev mX0_setMark 0 [.ref 4, .int a1, .int a2] g = cond (!decide (a2 = 1)) (cond (!decide (a2 = 2)) (some (none, zsL (zsL g 4 6 ((g.2 4 6) &&& (((1 : Int64) <<< (a1.toInt64 &&& 63)) ^^^ (-1)))) 4 7 (((zsL g 4 6 ((g.2 4 6) &&& (((1 : Int64) <<< (a1.toInt64 &&& 63)) ^^^ (-1)))).2 4 7) &&& (((1 : Int64) <<< (a1.toInt64 &&& 63)) ^^^ (-1))))) (some (none, zsL (zsL g 4 6 ((g.2 4 6) &&& (((1 : Int64) <<< (a1.toInt64 &&& 63)) ^^^ (-1)))) 4 7 (((zsL g 4 6 ((g.2 4 6) &&& (((1 : Int64) <<< (a1.toInt64 &&& 63)) ^^^ (-1)))).2 4 7) ||| ((1 : Int64) <<< (a1.toInt64 &&& 63)))))) (cond (!decide (a2 = 2)) (some (none, zsL (zsL g 4 6 ((g.2 4 6) ||| ((1 : Int64) <<< (a1.toInt64 &&& 63)))) 4 7 (((zsL g 4 6 ((g.2 4 6) ||| ((1 : Int64) <<< (a1.toInt64 &&& 63)))).2 4 7) &&& (((1 : Int64) <<< (a1.toInt64 &&& 63)) ^^^ (-1))))) (some (none, zsL (zsL g 4 6 ((g.2 4 6) ||| ((1 : Int64) <<< (a1.toInt64 &&& 63)))) 4 7 (((zsL g 4 6 ((g.2 4 6) ||| ((1 : Int64) <<< (a1.toInt64 &&& 63)))).2 4 7) ||| ((1 : Int64) <<< (a1.toInt64 &&& 63)))))) := by rw [zev_eq]; rfl
set_option maxRecDepth 100000 in
theorem uX0_isFree_0 (g : zIJ) (a1 : Int32) (a2 : Int32) (a3 : Int32) : zev mX0_isFree 0 [.ref 4, .int a1, .int a2, .int a3] g = zev mX0_isFree 3 [.ref 4, .int a1, .int a2, .int a3, .int 0] g := by rw [zev_eq]; rfl
set_option maxRecDepth 100000 in
theorem uX0_isFree_3 (g : zIJ) (a1 : Int32) (a2 : Int32) (a3 : Int32) (a4 : Int32) : zev mX0_isFree 3 [.ref 4, .int a1, .int a2, .int a3, .int a4] g = cond (decide ((g.1 4 4) ≤ a4)) (some (some (.int 1), g)) (cond (!decide (a4 = a3)) (cond (zin a4 9) (cond (!decide ((g.1 5 a4.toNatClampNeg) = a1)) (zev mX0_isFree 51 [.ref 4, .int a1, .int a2, .int a3, .int a4, .int (a4 + 1)] g) (cond (zin a4 9) (cond (!decide ((g.1 6 a4.toNatClampNeg) = a2)) (zev mX0_isFree 51 [.ref 4, .int a1, .int a2, .int a3, .int a4, .int (a4 + 1)] g) (some (some (.int 0), g))) none)) none) (zev mX0_isFree 3 [.ref 4, .int a1, .int a2, .int a3, .int (a4 + 1)] g)) := by rw [zev_eq]; rfl
set_option maxRecDepth 100000 in
theorem uX0_isFree_51 (g : zIJ) (a1 : Int32) (a2 : Int32) (a3 : Int32) (a4 : Int32) (a5 : Int32) : zev mX0_isFree 51 [.ref 4, .int a1, .int a2, .int a3, .int a4, .int a5] g = cond (decide ((g.1 4 4) ≤ a5)) (zev mX0_isFree 3 [.ref 4, .int a1, .int a2, .int a3, .int (a4 + 1)] g) (cond (decide (a5 = a3)) (zev mX0_isFree 51 [.ref 4, .int a1, .int a2, .int a3, .int a4, .int (a5 + 1)] g) (cond (zin a4 9) (cond (zin a4 9) (cond (zin a5 9) (cond (zin a5 9) (zaI (zev mX11_side 0 [.int (g.1 5 a4.toNatClampNeg), .int (g.1 6 a4.toNatClampNeg), .int (g.1 5 a5.toNatClampNeg), .int (g.1 6 a5.toNatClampNeg), .int a1, .int a2] g) fun x2 g1 => cond (!decide (x2 = 0)) (zev mX0_isFree 51 [.ref 4, .int a1, .int a2, .int a3, .int a4, .int (a5 + 1)] g1) (some (some (.int 0), g1))) none) none) none) none)) := by rw [zev_eq]; rfl
set_option maxRecDepth 100000 in
theorem uX0_wouldCross_0 (g : zIJ) (a1 : Int32) (a2 : Int32) (a3 : Int32) : zev mX0_wouldCross 0 [.ref 4, .int a1, .int a2, .int a3] g = cond (zin a1 9) (cond (zin a1 9) (cond (zin a1 9) (cond (zin a1 9) (zaI (zev mX0_mustCross 0 [.ref 4] (zsI (zsI g 5 a1.toNatClampNeg a2) 6 a1.toNatClampNeg a3)) fun x2 g1 => cond (zin a1 9) (cond (zin a1 9) (cond (zbit x2) (some (some (.int x2), zsI (zsI g1 5 a1.toNatClampNeg (g.1 5 a1.toNatClampNeg)) 6 a1.toNatClampNeg (g.1 6 a1.toNatClampNeg))) none) none) none) none) none) none) none := by rw [zev_eq]; rfl
set_option maxRecDepth 100000 in
theorem uX0_mustCross_0 (g : zIJ) : zev mX0_mustCross 0 [.ref 4] g = zev mX0_mustCross 2 [.ref 4, .int 0] g := by rw [zev_eq]; rfl
set_option maxRecDepth 100000 in
theorem uX0_mustCross_2 (g : zIJ) (a1 : Int32) : zev mX0_mustCross 2 [.ref 4, .int a1] g = cond (decide (36 ≤ a1)) (some (some (.int 0), g)) (zev mX0_mustCross 12 [.ref 4, .int a1, .int (a1 + 1)] g) := by rw [zev_eq]; rfl
set_option maxRecDepth 100000 in
theorem uX0_mustCross_12 (g : zIJ) (a1 : Int32) (a2 : Int32) : zev mX0_mustCross 12 [.ref 4, .int a1, .int a2] g = cond (decide (36 ≤ a2)) (zev mX0_mustCross 2 [.ref 4, .int (a1 + 1)] g) (zaI (zev mX11_holds 0 [.long (g.2 4 6), .int a1] g) fun x2 g1 => cond (decide (x2 = 0)) (zev mX0_mustCross 12 [.ref 4, .int a1, .int (a2 + 1)] g1) (zaI (zev mX11_holds 0 [.long (g1.2 4 6), .int a2] g1) fun x4 g3 => cond (decide (x4 = 0)) (zev mX0_mustCross 12 [.ref 4, .int a1, .int (a2 + 1)] g3) (zaI (zev mX0_doCross 0 [.ref 4, .int a1, .int a2] g3) fun x6 g5 => cond (decide (x6 = 0)) (zev mX0_mustCross 12 [.ref 4, .int a1, .int (a2 + 1)] g5) (some (some (.int 1), g5))))) := by rw [zev_eq]; rfl
set_option maxRecDepth 100000 in
theorem uX0_doCross_0 (g : zIJ) (a1 : Int32) (a2 : Int32) : zev mX0_doCross 0 [.ref 4, .int a1, .int a2] g = cond (zin a1 36) (cond (zin a1 36) (cond (zin a2 36) (cond (zin a2 36) (cond (decide ((zLE a1.toNatClampNeg) = (zLE a2.toNatClampNeg))) (zev mX0_doCross 53 [.ref 4, .int (zLE a1.toNatClampNeg), .int (zGE a1.toNatClampNeg), .int (zLE a2.toNatClampNeg), .int (zGE a2.toNatClampNeg)] g) (cond (decide ((zLE a1.toNatClampNeg) = (zGE a2.toNatClampNeg))) (zev mX0_doCross 53 [.ref 4, .int (zLE a1.toNatClampNeg), .int (zGE a1.toNatClampNeg), .int (zLE a2.toNatClampNeg), .int (zGE a2.toNatClampNeg)] g) (cond (decide ((zGE a1.toNatClampNeg) = (zLE a2.toNatClampNeg))) (zev mX0_doCross 53 [.ref 4, .int (zLE a1.toNatClampNeg), .int (zGE a1.toNatClampNeg), .int (zLE a2.toNatClampNeg), .int (zGE a2.toNatClampNeg)] g) (cond (!decide ((zGE a1.toNatClampNeg) = (zGE a2.toNatClampNeg))) (cond (!decide (0 = 0)) (some (some (.int 0), g)) (zaI (zev mX0_turnsLeft 0 [.ref 4, .int (zLE a1.toNatClampNeg), .int (zGE a1.toNatClampNeg), .int (zLE a2.toNatClampNeg)] g) fun x2 g1 => zaI (zev mX0_turnsLeft 0 [.ref 4, .int (zLE a1.toNatClampNeg), .int (zGE a1.toNatClampNeg), .int (zGE a2.toNatClampNeg)] g1) fun x4 g3 => cond (decide (x2 = x4)) (some (some (.int 0), g3)) (zaI (zev mX0_turnsLeft 0 [.ref 4, .int (zLE a2.toNatClampNeg), .int (zGE a2.toNatClampNeg), .int (zLE a1.toNatClampNeg)] g3) fun x6 g5 => zaI (zev mX0_turnsLeft 0 [.ref 4, .int (zLE a2.toNatClampNeg), .int (zGE a2.toNatClampNeg), .int (zGE a1.toNatClampNeg)] g5) fun x8 g7 => cond (decide (x6 = x8)) (some (some (.int 0), g7)) (some (some (.int 1), g7))))) (zev mX0_doCross 53 [.ref 4, .int (zLE a1.toNatClampNeg), .int (zGE a1.toNatClampNeg), .int (zLE a2.toNatClampNeg), .int (zGE a2.toNatClampNeg)] g))))) none) none) none) none := by rw [zev_eq]; rfl
set_option maxRecDepth 100000 in
theorem uX0_doCross_53 (g : zIJ) (a3 : Int32) (a4 : Int32) (a5 : Int32) (a6 : Int32) : zev mX0_doCross 53 [.ref 4, .int a3, .int a4, .int a5, .int a6] g = cond (!decide (1 = 0)) (some (some (.int 0), g)) (zaI (zev mX0_turnsLeft 0 [.ref 4, .int a3, .int a4, .int a5] g) fun x2 g1 => zaI (zev mX0_turnsLeft 0 [.ref 4, .int a3, .int a4, .int a6] g1) fun x4 g3 => cond (decide (x2 = x4)) (some (some (.int 0), g3)) (zaI (zev mX0_turnsLeft 0 [.ref 4, .int a5, .int a6, .int a3] g3) fun x6 g5 => zaI (zev mX0_turnsLeft 0 [.ref 4, .int a5, .int a6, .int a4] g5) fun x8 g7 => cond (decide (x6 = x8)) (some (some (.int 0), g7)) (some (some (.int 1), g7)))) := by rw [zev_eq]; rfl
set_option maxRecDepth 100000 in
theorem uX0_turnsLeft_0 (g : zIJ) (a1 : Int32) (a2 : Int32) (a3 : Int32) : zev mX0_turnsLeft 0 [.ref 4, .int a1, .int a2, .int a3] g = cond (zin a1 9) (cond (zin a1 9) (cond (zin a2 9) (cond (zin a2 9) (cond (zin a3 9) (cond (zin a3 9) (zaI (zev mX11_side 0 [.int (g.1 5 a1.toNatClampNeg), .int (g.1 6 a1.toNatClampNeg), .int (g.1 5 a2.toNatClampNeg), .int (g.1 6 a2.toNatClampNeg), .int (g.1 5 a3.toNatClampNeg), .int (g.1 6 a3.toNatClampNeg)] g) fun x2 g1 => cond (decide (x2 ≤ 0)) (some (some (.int 0), g1)) (some (some (.int 1), g1))) none) none) none) none) none) none := by rw [zev_eq]; rfl
set_option maxRecDepth 100000 in
theorem uX1_fewest_0 (g : zIJ) (a1 : Int32) (a2 : Int32) : zev mX1_fewest 0 [.ref 223, .int a1, .int a2, .ref 219, .ref 211] g = zaV (zev mJ7_fill_53178 0 [.ref 224, .int (-1)] g) fun g1 => zaV (zev mX1_meet 0 [.ref 223, .int a1, .int 0] (zsI g1 223 2 0)) fun g2 => zev mX1_fewest 22 [.ref 223, .int a2, .ref 219, .ref 211, .int 0] g2 := by rw [zev_eq]; rfl
set_option maxRecDepth 100000 in
theorem uX1_fewest_22 (g : zIJ) (a2 : Int32) (a5 : Int32) : zev mX1_fewest 22 [.ref 223, .int a2, .ref 219, .ref 211, .int a5] g = cond (decide ((g.1 223 2) ≤ a5)) (cond (zin a2 800) (some (some (.int (g.1 224 a2.toNatClampNeg)), g)) none) (cond (decide (800 ≤ a5)) (cond (zin a2 800) (some (some (.int (g.1 224 a2.toNatClampNeg)), g)) none) (cond (zin a2 800) (cond (decide (0 ≤ (g.1 224 a2.toNatClampNeg))) (cond (zin a2 800) (some (some (.int (g.1 224 a2.toNatClampNeg)), g)) none) (cond (zin a5 800) (zaV (zev mX1_meetAround 0 [.ref 223, .int (g.1 225 a5.toNatClampNeg), .ref 219, .ref 211] g) fun g1 => zev mX1_fewest 22 [.ref 223, .int a2, .ref 219, .ref 211, .int (a5 + 1)] g1) none)) none)) := by rw [zev_eq]; rfl
set_option maxRecDepth 100000 in
theorem uX1_meetAround_0 (g : zIJ) (a1 : Int32) : zev mX1_meetAround 0 [.ref 223, .int a1, .ref 219, .ref 211] g = cond (zin a1 800) (zev mX1_meetAround 11 [.ref 223, .int a1, .ref 219, .ref 211, .long (g.2 222 a1.toNatClampNeg), .int 0] g) none := by rw [zev_eq]; rfl
set_option maxRecDepth 100000 in
theorem uX1_meetAround_11 (g : zIJ) (a1 : Int32) (b4 : Int64) (a6 : Int32) : zev mX1_meetAround 11 [.ref 223, .int a1, .ref 219, .ref 211, .long b4, .int a6] g = cond (decide (36 ≤ a6)) (some (none, g)) (zaL (zev mX3_givenUpFor 0 [.ref 219, .int a6, .long b4, .ref 211] g) fun x2 g1 => cond (!decide ((lg_cmp x2 0) = 0)) (zaI (zev mX3_find 0 [.ref 219, .long ((b4 ^^^ x2) ^^^ ((1 : Int64) <<< (a6.toInt64 &&& 63)))] g1) fun x4 g3 => cond (decide (x4 < 0)) (zev mX1_meetAround 11 [.ref 223, .int a1, .ref 219, .ref 211, .long b4, .int (a6 + 1)] g3) (cond (zin a1 800) (zaV (zev mX1_meet 0 [.ref 223, .int x4, .int ((g3.1 224 a1.toNatClampNeg) + 1)] g3) fun g5 => zev mX1_meetAround 11 [.ref 223, .int a1, .ref 219, .ref 211, .long b4, .int (a6 + 1)] g5) none)) (cond (decide ((-1) < 0)) (zev mX1_meetAround 11 [.ref 223, .int a1, .ref 219, .ref 211, .long b4, .int (a6 + 1)] g1) (cond (zin a1 800) (zaV (zev mX1_meet 0 [.ref 223, .int (-1), .int ((g1.1 224 a1.toNatClampNeg) + 1)] g1) fun g6 => zev mX1_meetAround 11 [.ref 223, .int a1, .ref 219, .ref 211, .long b4, .int (a6 + 1)] g6) none))) := by rw [zev_eq]; rfl
set_option maxRecDepth 100000 in
theorem uX1_meet_0 (g : zIJ) (a1 : Int32) (a2 : Int32) : zev mX1_meet 0 [.ref 223, .int a1, .int a2] g = cond (zin a1 800) (cond (decide (0 ≤ (g.1 224 a1.toNatClampNeg))) (some (none, g)) (cond (decide (800 ≤ (g.1 223 2))) (some (none, g)) (cond (zin a1 800) (cond (zin ((zsI g 224 a1.toNatClampNeg a2).1 223 2) 800) (some (none, zsI (zsI (zsI g 224 a1.toNatClampNeg a2) 225 (((zsI g 224 a1.toNatClampNeg a2).1 223 2).toNatClampNeg) a1) 223 2 (((zsI (zsI g 224 a1.toNatClampNeg a2) 225 (((zsI g 224 a1.toNatClampNeg a2).1 223 2).toNatClampNeg) a1).1 223 2) + 1))) none) none))) none := by rw [zev_eq]; rfl
set_option maxRecDepth 100000 in
theorem uX2_start_0 (g : zIJ) (b1 : Int64) : zev mX2_start 0 [.ref 232, .long b1] g = some (none, zsI (zsL g 232 2 b1) 232 3 0) := by rw [zev_eq]; rfl
set_option maxRecDepth 100000 in
theorem uX2_takeSteps_0 (g : zIJ) : zev mX2_takeSteps 0 [.ref 232, .ref 4] g = zev mX2_takeSteps 2 [.ref 232, .ref 4, .int 0] g := by rw [zev_eq]; rfl
set_option maxRecDepth 100000 in
theorem uX2_takeSteps_2 (g : zIJ) (a2 : Int32) : zev mX2_takeSteps 2 [.ref 232, .ref 4, .int a2] g = cond (decide ((g.1 4 5) ≤ a2)) (some (none, g)) (cond (!decide ((g.1 232 3) = 0)) (some (none, g)) (cond (zin a2 8) (cond (zin a2 8) (zaV (zev mX2_takeStep 0 [.ref 232, .int (g.1 7 a2.toNatClampNeg), .int (g.1 8 a2.toNatClampNeg)] g) fun g1 => zev mX2_takeSteps 2 [.ref 232, .ref 4, .int (a2 + 1)] g1) none) none)) := by rw [zev_eq]; rfl
set_option maxRecDepth 100000 in
theorem uX2_takeStep_0 (g : zIJ) (a1 : Int32) (a2 : Int32) : zev mX2_takeStep 0 [.ref 232, .int a1, .int a2] g = cond (decide (a1.toInt = 0)) (zaV (zev mX2_plus 0 [.ref 232, .long a2.toInt64] g) fun g4 => some (none, g4)) (cond (decide (a1.toInt = 1)) (zaV (zev mX2_times 0 [.ref 232, .long a2.toInt64] g) fun g3 => some (none, g3)) (cond (decide (a1.toInt = 2)) (cond (!decide (a2 = 0)) (cond (!decide (a2.toInt64 = 0)) (some (none, zsL g 232 2 ((g.2 232 2) - (g.2 232 2) / a2.toInt64 * a2.toInt64))) none) (some (none, zsL g 232 2 (g.2 232 2)))) (cond (decide (a1.toInt = 3)) (some (none, zsL g 232 2 (zmxL (g.2 232 2) a2.toInt64))) (cond (decide (a1.toInt = 4)) (some (none, zsL g 232 2 (zmnL (g.2 232 2) a2.toInt64))) (cond (decide (a1.toInt = 5)) (zaV (zev mX2_takenFrom 0 [.ref 232, .long a2.toInt64] g) fun g2 => some (none, g2)) (zaV (zev mX2_square 0 [.ref 232] g) fun g1 => some (none, g1))))))) := by rw [zev_eq]; rfl
set_option maxRecDepth 100000 in
theorem uX2_plus_0 (g : zIJ) (b1 : Int64) : zev mX2_plus 0 [.ref 232, .long b1] g = cond (!decide ((g.1 232 3) = 0)) (some (none, zsL (zsI g 232 3 1) 232 2 ((g.2 232 2) + b1))) (cond (decide (0 ≤ (lg_cmp (((g.2 232 2) ^^^ ((g.2 232 2) + b1)) &&& (b1 ^^^ ((g.2 232 2) + b1))) 0))) (some (none, zsL (zsI g 232 3 0) 232 2 ((g.2 232 2) + b1))) (some (none, zsL (zsI g 232 3 1) 232 2 ((g.2 232 2) + b1)))) := by rw [zev_eq]; rfl
set_option maxRecDepth 100000 in
theorem uX2_takenFrom_0 (g : zIJ) (b1 : Int64) : zev mX2_takenFrom 0 [.ref 232, .long b1] g = cond (!decide ((g.1 232 3) = 0)) (some (none, zsL (zsI g 232 3 1) 232 2 (b1 - (g.2 232 2)))) (cond (decide (0 ≤ (lg_cmp ((b1 ^^^ (g.2 232 2)) &&& (b1 ^^^ (b1 - (g.2 232 2)))) 0))) (some (none, zsL (zsI g 232 3 0) 232 2 (b1 - (g.2 232 2)))) (some (none, zsL (zsI g 232 3 1) 232 2 (b1 - (g.2 232 2))))) := by rw [zev_eq]; rfl
set_option maxRecDepth 100000 in
theorem uX2_times_0 (g : zIJ) (b1 : Int64) : zev mX2_times 0 [.ref 232, .long b1] g = cond (!decide ((lg_cmp b1 0) = 0)) (cond (!decide ((lg_cmp (g.2 232 2) (-9223372036854775808)) = 0)) (zev mX2_times 31 [.ref 232, .long b1] g) (cond (decide ((lg_cmp b1 (-1)) = 0)) (zev mX2_times 47 [.ref 232, .long b1] g) (zev mX2_times 31 [.ref 232, .long b1] g))) (some (none, zsL g 232 2 0)) := by rw [zev_eq]; rfl
set_option maxRecDepth 100000 in
theorem uX2_times_31 (g : zIJ) (b1 : Int64) : zev mX2_times 31 [.ref 232, .long b1] g = cond (!decide (b1 = 0)) (cond (decide ((lg_cmp (((g.2 232 2) * b1) / b1) (g.2 232 2)) = 0)) (cond (!decide ((g.1 232 3) = 0)) (some (none, zsL (zsI g 232 3 1) 232 2 (((zsI g 232 3 1).2 232 2) * b1))) (cond (decide (0 = 0)) (some (none, zsL (zsI g 232 3 0) 232 2 (((zsI g 232 3 0).2 232 2) * b1))) (some (none, zsL (zsI g 232 3 1) 232 2 (((zsI g 232 3 1).2 232 2) * b1))))) (zev mX2_times 47 [.ref 232, .long b1] g)) none := by rw [zev_eq]; rfl
set_option maxRecDepth 100000 in
theorem uX2_times_47 (g : zIJ) (b1 : Int64) : zev mX2_times 47 [.ref 232, .long b1] g = cond (!decide ((g.1 232 3) = 0)) (some (none, zsL (zsI g 232 3 1) 232 2 (((zsI g 232 3 1).2 232 2) * b1))) (cond (decide (1 = 0)) (some (none, zsL (zsI g 232 3 0) 232 2 (((zsI g 232 3 0).2 232 2) * b1))) (some (none, zsL (zsI g 232 3 1) 232 2 (((zsI g 232 3 1).2 232 2) * b1)))) := by rw [zev_eq]; rfl
set_option maxRecDepth 100000 in
theorem uX2_square_0 (g : zIJ) : zev mX2_square 0 [.ref 232] g = cond (!decide ((g.1 232 3) = 0)) (some (none, zsL (zsI g 232 3 1) 232 2 (((zsI g 232 3 1).2 232 2) * ((zsI g 232 3 1).2 232 2)))) (cond (decide (0 < (lg_cmp (g.2 232 2) 3037000499))) (some (none, zsL (zsI g 232 3 1) 232 2 (((zsI g 232 3 1).2 232 2) * ((zsI g 232 3 1).2 232 2)))) (cond (decide (0 ≤ (lg_cmp (g.2 232 2) (-3037000499)))) (some (none, zsL (zsI g 232 3 0) 232 2 (((zsI g 232 3 0).2 232 2) * ((zsI g 232 3 0).2 232 2)))) (some (none, zsL (zsI g 232 3 1) 232 2 (((zsI g 232 3 1).2 232 2) * ((zsI g 232 3 1).2 232 2)))))) := by rw [zev_eq]; rfl
set_option maxRecDepth 100000 in
theorem uX2_measureEdge_0 (g : zIJ) (a2 : Int32) (a3 : Int32) : zev mX2_measureEdge 0 [.ref 232, .ref 4, .int a2, .int a3] g = zaL (zev mX2_byRule 0 [.ref 4, .int a2, .int a3] g) fun x2 g1 => zaV (zev mX2_start 0 [.ref 232, .long x2] g1) fun g3 => zaV (zev mX2_takeSteps 0 [.ref 232, .ref 4] g3) fun g4 => some (none, g4) := by rw [zev_eq]; rfl
set_option maxRecDepth 100000 in
theorem uX2_byRule_0 (g : zIJ) (a1 : Int32) (a2 : Int32) : zev mX2_byRule 0 [.ref 4, .int a1, .int a2] g = cond (zin a1 36) (cond (zin a1 36) (cond (zin (zLE a1.toNatClampNeg) 9) (cond (zin (zGE a1.toNatClampNeg) 9) (cond (zin (zLE a1.toNatClampNeg) 9) (cond (zin (zGE a1.toNatClampNeg) 9) (cond (decide (a2.toInt = 0)) (some (some (.long 1), g)) (cond (decide (a2.toInt = 1)) (some (some (.long ((((zabI ((g.1 5 ((zLE a1.toNatClampNeg).toNatClampNeg)) - (g.1 5 ((zGE a1.toNatClampNeg).toNatClampNeg)))).toInt64) * ((zabI ((g.1 5 ((zLE a1.toNatClampNeg).toNatClampNeg)) - (g.1 5 ((zGE a1.toNatClampNeg).toNatClampNeg)))).toInt64)) + (((zabI ((g.1 6 ((zLE a1.toNatClampNeg).toNatClampNeg)) - (g.1 6 ((zGE a1.toNatClampNeg).toNatClampNeg)))).toInt64) * ((zabI ((g.1 6 ((zLE a1.toNatClampNeg).toNatClampNeg)) - (g.1 6 ((zGE a1.toNatClampNeg).toNatClampNeg)))).toInt64)))), g)) (cond (decide (a2.toInt = 2)) (some (some (.long (((zabI ((g.1 5 ((zLE a1.toNatClampNeg).toNatClampNeg)) - (g.1 5 ((zGE a1.toNatClampNeg).toNatClampNeg)))).toInt64) + ((zabI ((g.1 6 ((zLE a1.toNatClampNeg).toNatClampNeg)) - (g.1 6 ((zGE a1.toNatClampNeg).toNatClampNeg)))).toInt64))), g)) (cond (decide (a2.toInt = 3)) (some (some (.long (zmxL ((zabI ((g.1 5 ((zLE a1.toNatClampNeg).toNatClampNeg)) - (g.1 5 ((zGE a1.toNatClampNeg).toNatClampNeg)))).toInt64) ((zabI ((g.1 6 ((zLE a1.toNatClampNeg).toNatClampNeg)) - (g.1 6 ((zGE a1.toNatClampNeg).toNatClampNeg)))).toInt64))), g)) (cond (decide (a2.toInt = 4)) (some (some (.long (zmnL ((zabI ((g.1 5 ((zLE a1.toNatClampNeg).toNatClampNeg)) - (g.1 5 ((zGE a1.toNatClampNeg).toNatClampNeg)))).toInt64) ((zabI ((g.1 6 ((zLE a1.toNatClampNeg).toNatClampNeg)) - (g.1 6 ((zGE a1.toNatClampNeg).toNatClampNeg)))).toInt64))), g)) (cond (decide (a2.toInt = 5)) (some (some (.long (((zLE a1.toNatClampNeg) + (zGE a1.toNatClampNeg)).toInt64)), g)) (some (some (.long ((((zLE a1.toNatClampNeg) + 1) * ((zGE a1.toNatClampNeg) + 1)).toInt64)), g)))))))) none) none) none) none) none) none := by rw [zev_eq]; rfl
set_option maxRecDepth 100000 in
theorem uX2_measureEdges_0 (g : zIJ) (a2 : Int32) : zev mX2_measureEdges 0 [.ref 232, .ref 4, .int a2] g = zev mX2_measureEdges 7 [.ref 232, .ref 4, .int a2, .int 0] (zsL g 232 1 0) := by rw [zev_eq]; rfl
set_option maxRecDepth 100000 in
theorem uX2_measureEdges_7 (g : zIJ) (a2 : Int32) (a3 : Int32) : zev mX2_measureEdges 7 [.ref 232, .ref 4, .int a2, .int a3] g = cond (decide (36 ≤ a3)) (some (none, g)) (cond (zin a3 36) (cond (decide ((g.1 4 4) ≤ (zGE a3.toNatClampNeg))) (zev mX2_measureEdges 7 [.ref 232, .ref 4, .int a2, .int (a3 + 1)] g) (zaV (zev mX2_measureEdge 0 [.ref 232, .ref 4, .int a3, .int a2] g) fun g1 => cond (zin a3 36) (cond (decide (((zsL g1 233 a3.toNatClampNeg (g1.2 232 2)).1 232 3) = 0)) (zev mX2_measureEdges 7 [.ref 232, .ref 4, .int a2, .int (a3 + 1)] (zsL (zsL g1 233 a3.toNatClampNeg (g1.2 232 2)) 232 1 (((zsL g1 233 a3.toNatClampNeg (g1.2 232 2)).2 232 1) ||| 0))) (zev mX2_measureEdges 7 [.ref 232, .ref 4, .int a2, .int (a3 + 1)] (zsL (zsL g1 233 a3.toNatClampNeg (g1.2 232 2)) 232 1 (((zsL g1 233 a3.toNatClampNeg (g1.2 232 2)).2 232 1) ||| ((1 : Int64) <<< (a3.toInt64 &&& 63)))))) none)) none) := by rw [zev_eq]; rfl
set_option maxRecDepth 100000 in
theorem uX2_measureNet_0 (g : zIJ) (b1 : Int64) (a3 : Int32) : zev mX2_measureNet 0 [.ref 232, .long b1, .int a3] g = zaV (zev mX2_start 0 [.ref 232, .long 0] g) fun g1 => cond (decide ((lg_cmp (b1 &&& (g1.2 232 1)) 0) = 0)) (zev mX2_measureNet 31 [.ref 232, .long b1, .int a3, .int 1, .int 0] (zsI g1 232 3 0)) (zev mX2_measureNet 31 [.ref 232, .long b1, .int a3, .int 1, .int 0] (zsI g1 232 3 1)) := by rw [zev_eq]; rfl
set_option maxRecDepth 100000 in
theorem uX2_measureNet_31 (g : zIJ) (b1 : Int64) (a3 : Int32) (a4 : Int32) (a5 : Int32) : zev mX2_measureNet 31 [.ref 232, .long b1, .int a3, .int a4, .int a5] g = cond (decide (36 ≤ a5)) (some (none, g)) (cond (!decide ((g.1 232 3) = 0)) (some (none, g)) (zaI (zev mX11_holds 0 [.long b1, .int a5] g) fun x2 g1 => cond (decide (x2 = 0)) (zev mX2_measureNet 31 [.ref 232, .long b1, .int a3, .int a4, .int (a5 + 1)] g1) (cond (decide (a4 = 0)) (cond (zin a5 36) (zaV (zev mX2_foldIn 0 [.ref 232, .long (g1.2 233 a5.toNatClampNeg), .int a3] g1) fun g3 => zev mX2_measureNet 31 [.ref 232, .long b1, .int a3, .int 0, .int (a5 + 1)] g3) none) (cond (zin a5 36) (zev mX2_measureNet 31 [.ref 232, .long b1, .int a3, .int 0, .int (a5 + 1)] (zsL g1 232 2 (g1.2 233 a5.toNatClampNeg))) none)))) := by rw [zev_eq]; rfl
set_option maxRecDepth 100000 in
theorem uX2_foldIn_0 (g : zIJ) (b1 : Int64) (a3 : Int32) : zev mX2_foldIn 0 [.ref 232, .long b1, .int a3] g = cond (decide (a3.toInt = 0)) (zaV (zev mX2_plus 0 [.ref 232, .long b1] g) fun g1 => some (none, g1)) (cond (decide (a3.toInt = 1)) (some (none, zsL g 232 2 (zmxL (g.2 232 2) b1))) (cond (decide (a3.toInt = 2)) (some (none, zsL g 232 2 (zmnL (g.2 232 2) b1))) (some (none, zsL g 232 2 ((g.2 232 2) ^^^ b1))))) := by rw [zev_eq]; rfl
set_option maxRecDepth 100000 in
theorem uX2_leastOf_0 (g : zIJ) (a2 : Int32) : zev mX2_leastOf 0 [.ref 232, .ref 219, .int a2] g = zev mX2_leastOf 8 [.ref 232, .ref 219, .int a2, .int (-1), .long 0, .int 0] g := by rw [zev_eq]; rfl
set_option maxRecDepth 100000 in
theorem uX2_leastOf_8 (g : zIJ) (a2 : Int32) (a3 : Int32) (b4 : Int64) (a6 : Int32) : zev mX2_leastOf 8 [.ref 232, .ref 219, .int a2, .int a3, .long b4, .int a6] g = cond (decide ((g.1 219 7) ≤ a6)) (some (some (.int a3), g)) (cond (zin a6 800) (zaV (zev mX2_measureNet 0 [.ref 232, .long (g.2 222 a6.toNatClampNeg), .int a2] g) fun g1 => cond (decide ((g1.1 232 3) = 0)) (cond (decide (a3 < 0)) (zev mX2_leastOf 8 [.ref 232, .ref 219, .int a2, .int a6, .long (g1.2 232 2), .int (a6 + 1)] g1) (cond (decide (0 ≤ (lg_cmp (g1.2 232 2) b4))) (zev mX2_leastOf 8 [.ref 232, .ref 219, .int a2, .int a3, .long b4, .int (a6 + 1)] g1) (zev mX2_leastOf 8 [.ref 232, .ref 219, .int a2, .int a6, .long (g1.2 232 2), .int (a6 + 1)] g1))) (some (some (.int (-1)), g1))) none) := by rw [zev_eq]; rfl
set_option maxRecDepth 100000 in
theorem uJ6_bitCount_0f7a4_0 (g : zIJ) (a0 : Int32) : zev mJ6_bitCount_0f7a4 0 [.int a0] g = zev mJ6_bitCount_0f7a4 10 [.int (a0 - (((a0.toUInt32 >>> ((1 : Int32).toUInt32 &&& Int32.toUInt32 31)).toInt32) &&& 1431655765))] g := by rw [zev_eq]; rfl
set_option maxRecDepth 100000 in
theorem uJ6_bitCount_0f7a4_10 (g : zIJ) (a0 : Int32) : zev mJ6_bitCount_0f7a4 10 [.int a0] g = zev mJ6_bitCount_0f7a4 24 [.int ((a0 &&& 858993459) + (((a0.toUInt32 >>> ((2 : Int32).toUInt32 &&& Int32.toUInt32 31)).toInt32) &&& 858993459))] g := by rw [zev_eq]; rfl
set_option maxRecDepth 100000 in
theorem uJ6_bitCount_0f7a4_24 (g : zIJ) (a0 : Int32) : zev mJ6_bitCount_0f7a4 24 [.int a0] g = zev mJ6_bitCount_0f7a4 34 [.int ((a0 + ((a0.toUInt32 >>> ((4 : Int32).toUInt32 &&& Int32.toUInt32 31)).toInt32)) &&& 252645135)] g := by rw [zev_eq]; rfl
set_option maxRecDepth 100000 in
theorem uJ6_bitCount_0f7a4_34 (g : zIJ) (a0 : Int32) : zev mJ6_bitCount_0f7a4 34 [.int a0] g = zev mJ6_bitCount_0f7a4 41 [.int (a0 + ((a0.toUInt32 >>> ((8 : Int32).toUInt32 &&& Int32.toUInt32 31)).toInt32))] g := by rw [zev_eq]; rfl
set_option maxRecDepth 100000 in
theorem uJ6_bitCount_0f7a4_41 (g : zIJ) (a0 : Int32) : zev mJ6_bitCount_0f7a4 41 [.int a0] g = zev mJ6_bitCount_0f7a4 48 [.int (a0 + ((a0.toUInt32 >>> ((16 : Int32).toUInt32 &&& Int32.toUInt32 31)).toInt32))] g := by rw [zev_eq]; rfl
set_option maxRecDepth 100000 in
theorem uJ6_bitCount_0f7a4_48 (g : zIJ) (a0 : Int32) : zev mJ6_bitCount_0f7a4 48 [.int a0] g = some (some (.int (a0 &&& 63)), g) := by rw [zev_eq]; rfl
set_option maxRecDepth 100000 in
theorem uJ13_bitCount_95d88_0 (g : zIJ) (b0 : Int64) : zev mJ13_bitCount_95d88 0 [.long b0] g = zev mJ13_bitCount_95d88 10 [.long (b0 - (((b0.toUInt64 >>> ((1 : Int32).toInt64.toUInt64 &&& Int64.toUInt64 63)).toInt64) &&& 6148914691236517205))] g := by rw [zev_eq]; rfl
set_option maxRecDepth 100000 in
theorem uJ13_bitCount_95d88_10 (g : zIJ) (b0 : Int64) : zev mJ13_bitCount_95d88 10 [.long b0] g = zev mJ13_bitCount_95d88 24 [.long ((b0 &&& 3689348814741910323) + (((b0.toUInt64 >>> ((2 : Int32).toInt64.toUInt64 &&& Int64.toUInt64 63)).toInt64) &&& 3689348814741910323))] g := by rw [zev_eq]; rfl
set_option maxRecDepth 100000 in
theorem uJ13_bitCount_95d88_24 (g : zIJ) (b0 : Int64) : zev mJ13_bitCount_95d88 24 [.long b0] g = zev mJ13_bitCount_95d88 34 [.long ((b0 + ((b0.toUInt64 >>> ((4 : Int32).toInt64.toUInt64 &&& Int64.toUInt64 63)).toInt64)) &&& 1085102592571150095)] g := by rw [zev_eq]; rfl
set_option maxRecDepth 100000 in
theorem uJ13_bitCount_95d88_34 (g : zIJ) (b0 : Int64) : zev mJ13_bitCount_95d88 34 [.long b0] g = zev mJ13_bitCount_95d88 41 [.long (b0 + ((b0.toUInt64 >>> ((8 : Int32).toInt64.toUInt64 &&& Int64.toUInt64 63)).toInt64))] g := by rw [zev_eq]; rfl
set_option maxRecDepth 100000 in
theorem uJ13_bitCount_95d88_41 (g : zIJ) (b0 : Int64) : zev mJ13_bitCount_95d88 41 [.long b0] g = zev mJ13_bitCount_95d88 48 [.long (b0 + ((b0.toUInt64 >>> ((16 : Int32).toInt64.toUInt64 &&& Int64.toUInt64 63)).toInt64))] g := by rw [zev_eq]; rfl
set_option maxRecDepth 100000 in
theorem uJ13_bitCount_95d88_48 (g : zIJ) (b0 : Int64) : zev mJ13_bitCount_95d88 48 [.long b0] g = zev mJ13_bitCount_95d88 55 [.long (b0 + ((b0.toUInt64 >>> ((32 : Int32).toInt64.toUInt64 &&& Int64.toUInt64 63)).toInt64))] g := by rw [zev_eq]; rfl
set_option maxRecDepth 100000 in
theorem uJ13_bitCount_95d88_55 (g : zIJ) (b0 : Int64) : zev mJ13_bitCount_95d88 55 [.long b0] g = some (some (.int (b0.toInt32 &&& 127)), g) := by rw [zev_eq]; rfl
set_option maxRecDepth 100000 in
theorem uJ7_fill_d0a16_0 (g : zIJ) (t0 : Nat) (b1 : Int64) : zev mJ7_fill_d0a16 0 [.ref t0, .long b1] g = cond (zisI (zC t0).1 || Nat.beq (zC t0).1 101) (zev mJ7_fill_d0a16 6 [.ref t0, .long b1, .int 0, .int (Int32.ofNat (zlen g t0))] g) none := by rw [zev_eq]; rfl
set_option maxRecDepth 100000 in
theorem uJ7_fill_d0a16_6 (g : zIJ) (t0 : Nat) (b1 : Int64) (a3 : Int32) (a4 : Int32) : zev mJ7_fill_d0a16 6 [.ref t0, .long b1, .int a3, .int a4] g = cond (decide (a4 ≤ a3)) (some (none, g)) (cond (Nat.beq (zC t0).1 101 && zin a3 (zC t0).2) (zev mJ7_fill_d0a16 6 [.ref t0, .long b1, .int (a3 + 1), .int a4] (zsL g t0 a3.toNatClampNeg b1)) none) := by rw [zev_eq]; rfl
set_option maxRecDepth 100000 in
theorem uJ7_fill_53178_0 (g : zIJ) (t0 : Nat) (a1 : Int32) : zev mJ7_fill_53178 0 [.ref t0, .int a1] g = cond (zisI (zC t0).1 || Nat.beq (zC t0).1 101) (zev mJ7_fill_53178 5 [.ref t0, .int a1, .int 0, .int (Int32.ofNat (zlen g t0))] g) none := by rw [zev_eq]; rfl
set_option maxRecDepth 100000 in
theorem uJ7_fill_53178_5 (g : zIJ) (t0 : Nat) (a1 : Int32) (a2 : Int32) (a3 : Int32) : zev mJ7_fill_53178 5 [.ref t0, .int a1, .int a2, .int a3] g = cond (decide (a3 ≤ a2)) (some (none, g)) (cond (Nat.beq (zC t0).1 100 && zin a2 (zC t0).2) (zev mJ7_fill_53178 5 [.ref t0, .int a1, .int (a2 + 1), .int a3] (zsI g t0 a2.toNatClampNeg a1)) none) := by rw [zev_eq]; rfl
end
section
/-! What each block of each method comes to (by program). -/
set_option maxRecDepth 100000 in
theorem uX3_follow_0 (g : zIJ) : zev mX3_follow 0 [.ref 219, .ref 211, .ref 4] g = cond (!decide ((lg_cmp (g.2 219 4) (g.2 4 6)) = 0)) (zev mX3_follow 28 [.ref 219, .ref 211, .ref 4] g) (cond (!decide ((lg_cmp (g.2 219 5) (g.2 4 7)) = 0)) (zev mX3_follow 28 [.ref 219, .ref 211, .ref 4] g) (cond (!decide ((g.1 219 3) = (g.1 211 10))) (zev mX3_follow 46 [.ref 219, .ref 211, .ref 4] g) (cond (decide (1 = 0)) (zev mX3_follow 46 [.ref 219, .ref 211, .ref 4] g) (some (none, g))))) := by rw [zev_eq]; rfl
set_option maxRecDepth 100000 in
theorem uX3_follow_28 (g : zIJ) : zev mX3_follow 28 [.ref 219, .ref 211, .ref 4] g = cond (!decide ((g.1 219 3) = (g.1 211 10))) (zev mX3_follow 46 [.ref 219, .ref 211, .ref 4] g) (cond (decide (0 = 0)) (zev mX3_follow 46 [.ref 219, .ref 211, .ref 4] g) (some (none, g))) := by rw [zev_eq]; rfl
set_option maxRecDepth 100000 in
theorem uX3_follow_46 (g : zIJ) : zev mX3_follow 46 [.ref 219, .ref 211, .ref 4] g = cond (decide ((g.1 219 3) = (g.1 211 10))) (zev mX3_follow 62 [.ref 219, .ref 211, .ref 4] g) (zaV (zev mX3_findWhole 0 [.ref 219, .ref 211] g) fun g1 => zev mX3_follow 62 [.ref 219, .ref 211, .ref 4] g1) := by rw [zev_eq]; rfl
set_option maxRecDepth 100000 in
theorem uX3_follow_62 (g : zIJ) : zev mX3_follow 62 [.ref 219, .ref 211, .ref 4] g = zev mX3_follow 94 [.ref 219, .int 0] (zsI (zsL (zsL (zsI g 219 3 (g.1 211 10)) 219 4 ((zsI g 219 3 (g.1 211 10)).2 4 6)) 219 5 ((zsL (zsI g 219 3 (g.1 211 10)) 219 4 ((zsI g 219 3 (g.1 211 10)).2 4 6)).2 4 7)) 219 7 0) := by rw [zev_eq]; rfl
set_option maxRecDepth 100000 in
theorem uX3_follow_94 (g : zIJ) (a4 : Int32) : zev mX3_follow 94 [.ref 219, .int a4] g = cond (decide ((g.1 219 2) ≤ a4)) (some (none, g)) (cond (zin a4 800) (cond (!decide ((lg_cmp ((g.2 220 a4.toNatClampNeg) &&& (g.2 219 4)) (g.2 219 4)) = 0)) (zev mX3_follow 94 [.ref 219, .int (a4 + 1)] g) (cond (zin a4 800) (cond (!decide ((lg_cmp ((g.2 220 a4.toNatClampNeg) &&& (g.2 219 5)) 0) = 0)) (zev mX3_follow 94 [.ref 219, .int (a4 + 1)] g) (cond (zin a4 800) (cond (zin (g.1 219 7) 800) (zev mX3_follow 94 [.ref 219, .int (a4 + 1)] (zsI (zsL g 222 ((g.1 219 7).toNatClampNeg) (g.2 220 a4.toNatClampNeg)) 219 7 (((zsL g 222 ((g.1 219 7).toNatClampNeg) (g.2 220 a4.toNatClampNeg)).1 219 7) + 1))) none) none)) none)) none) := by rw [zev_eq]; rfl
set_option maxRecDepth 100000 in
theorem uX3_findWhole_0 (g : zIJ) : zev mX3_findWhole 0 [.ref 219, .ref 211] g = cond (decide (3 ≤ ((zsI g 219 2 0).1 211 7))) (zaL (zev mX3_greedyNet 0 [.ref 211] (zsI g 219 2 0)) fun x2 g1 => zaV (zev mX3_meet 0 [.ref 219, .long x2] g1) fun g3 => zev mX3_findWhole 24 [.ref 219, .ref 211, .int 0] g3) (some (none, zsI g 219 2 0)) := by rw [zev_eq]; rfl
set_option maxRecDepth 100000 in
theorem uX3_findWhole_24 (g : zIJ) (a2 : Int32) : zev mX3_findWhole 24 [.ref 219, .ref 211, .int a2] g = cond (decide ((g.1 219 2) ≤ a2)) (some (none, g)) (cond (decide (800 ≤ a2)) (some (none, g)) (cond (zin a2 800) (zev mX3_findWhole 49 [.ref 219, .ref 211, .int a2, .long (g.2 221 a2.toNatClampNeg), .int 0] g) none)) := by rw [zev_eq]; rfl
set_option maxRecDepth 100000 in
theorem uX3_findWhole_49 (g : zIJ) (a2 : Int32) (b3 : Int64) (a5 : Int32) : zev mX3_findWhole 49 [.ref 219, .ref 211, .int a2, .long b3, .int a5] g = cond (decide (36 ≤ a5)) (zev mX3_findWhole 24 [.ref 219, .ref 211, .int (a2 + 1)] g) (cond (zin a5 36) (zaI (zev mJ13_bitCount_95d88 0 [.long ((g.2 217 a5.toNatClampNeg) &&& b3)] g) fun x2 g1 => cond (!decide (x2 = 1)) (zev mX3_findWhole 49 [.ref 219, .ref 211, .int a2, .long b3, .int (a5 + 1)] g1) (zaV (zev mX3_meet 0 [.ref 219, .long ((b3 ^^^ ((g.2 217 a5.toNatClampNeg) &&& b3)) ^^^ ((1 : Int64) <<< (a5.toInt64 &&& 63)))] g1) fun g3 => zev mX3_findWhole 49 [.ref 219, .ref 211, .int a2, .long b3, .int (a5 + 1)] g3)) none) := by rw [zev_eq]; rfl
set_option maxRecDepth 100000 in
theorem uX3_greedyNet_0 (g : zIJ) : zev mX3_greedyNet 0 [.ref 211] g = zev mX3_greedyNet 4 [.ref 211, .long 0, .int 0] g := by rw [zev_eq]; rfl
set_option maxRecDepth 100000 in
theorem uX3_greedyNet_4 (g : zIJ) (b1 : Int64) (a3 : Int32) : zev mX3_greedyNet 4 [.ref 211, .long b1, .int a3] g = cond (decide (36 ≤ a3)) (some (some (.long b1), g)) (cond (zin a3 36) (cond (decide ((g.1 211 7) ≤ (zGE a3.toNatClampNeg))) (zev mX3_greedyNet 4 [.ref 211, .long b1, .int (a3 + 1)] g) (cond (zin a3 36) (cond (!decide ((lg_cmp ((g.2 217 a3.toNatClampNeg) &&& b1) 0) = 0)) (zev mX3_greedyNet 4 [.ref 211, .long b1, .int (a3 + 1)] g) (zev mX3_greedyNet 4 [.ref 211, .long (b1 ||| ((1 : Int64) <<< (a3.toInt64 &&& 63))), .int (a3 + 1)] g)) none)) none) := by rw [zev_eq]; rfl
set_option maxRecDepth 100000 in
theorem uX3_meet_0 (g : zIJ) (b1 : Int64) : zev mX3_meet 0 [.ref 219, .long b1] g = zaI (zev mX3_spotIn 0 [.ref 220, .int (g.1 219 2), .long b1] g) fun x2 g1 => cond (decide ((g1.1 219 2) ≤ x2)) (zev mX3_meet 36 [.ref 219, .long b1, .int x2] g1) (cond (zin x2 800) (cond (!decide ((lg_cmp (g1.2 220 x2.toNatClampNeg) b1) = 0)) (zev mX3_meet 36 [.ref 219, .long b1, .int x2] g1) (cond (!decide (1 = 0)) (some (none, g1)) (cond (decide ((g1.1 219 2) < 800)) (cond (zcpG 800 800 x2 (x2 + 1) ((g1.1 219 2) - x2)) (cond (zin x2 800) (cond (zin ((zsL (zcpL g1 220 x2.toNatClampNeg 220 (x2 + 1).toNatClampNeg ((g1.1 219 2) - x2).toNatClampNeg) 220 x2.toNatClampNeg b1).1 219 2) 800) (some (none, zsI (zsL (zsL (zcpL g1 220 x2.toNatClampNeg 220 (x2 + 1).toNatClampNeg ((g1.1 219 2) - x2).toNatClampNeg) 220 x2.toNatClampNeg b1) 221 (((zsL (zcpL g1 220 x2.toNatClampNeg 220 (x2 + 1).toNatClampNeg ((g1.1 219 2) - x2).toNatClampNeg) 220 x2.toNatClampNeg b1).1 219 2).toNatClampNeg) b1) 219 2 (((zsL (zsL (zcpL g1 220 x2.toNatClampNeg 220 (x2 + 1).toNatClampNeg ((g1.1 219 2) - x2).toNatClampNeg) 220 x2.toNatClampNeg b1) 221 (((zsL (zcpL g1 220 x2.toNatClampNeg 220 (x2 + 1).toNatClampNeg ((g1.1 219 2) - x2).toNatClampNeg) 220 x2.toNatClampNeg b1).1 219 2).toNatClampNeg) b1).1 219 2) + 1))) none) none) none) (some (none, g1))))) none) := by rw [zev_eq]; rfl
set_option maxRecDepth 100000 in
theorem uX3_meet_36 (g : zIJ) (b1 : Int64) (a3 : Int32) : zev mX3_meet 36 [.ref 219, .long b1, .int a3] g = cond (!decide (0 = 0)) (some (none, g)) (cond (decide ((g.1 219 2) < 800)) (cond (zcpG 800 800 a3 (a3 + 1) ((g.1 219 2) - a3)) (cond (zin a3 800) (cond (zin ((zsL (zcpL g 220 a3.toNatClampNeg 220 (a3 + 1).toNatClampNeg ((g.1 219 2) - a3).toNatClampNeg) 220 a3.toNatClampNeg b1).1 219 2) 800) (some (none, zsI (zsL (zsL (zcpL g 220 a3.toNatClampNeg 220 (a3 + 1).toNatClampNeg ((g.1 219 2) - a3).toNatClampNeg) 220 a3.toNatClampNeg b1) 221 (((zsL (zcpL g 220 a3.toNatClampNeg 220 (a3 + 1).toNatClampNeg ((g.1 219 2) - a3).toNatClampNeg) 220 a3.toNatClampNeg b1).1 219 2).toNatClampNeg) b1) 219 2 (((zsL (zsL (zcpL g 220 a3.toNatClampNeg 220 (a3 + 1).toNatClampNeg ((g.1 219 2) - a3).toNatClampNeg) 220 a3.toNatClampNeg b1) 221 (((zsL (zcpL g 220 a3.toNatClampNeg 220 (a3 + 1).toNatClampNeg ((g.1 219 2) - a3).toNatClampNeg) 220 a3.toNatClampNeg b1).1 219 2).toNatClampNeg) b1).1 219 2) + 1))) none) none) none) (some (none, g))) := by rw [zev_eq]; rfl
set_option maxRecDepth 100000 in
theorem uX3_spotIn_0 (g : zIJ) (t0 : Nat) (a1 : Int32) (b2 : Int64) : zev mX3_spotIn 0 [.ref t0, .int a1, .long b2] g = zev mX3_spotIn 8 [.ref t0, .int a1, .long b2, .int 0, .int 1024] g := by rw [zev_eq]; rfl
set_option maxRecDepth 100000 in
theorem uX3_spotIn_8 (g : zIJ) (t0 : Nat) (a1 : Int32) (b2 : Int64) (a4 : Int32) (a5 : Int32) : zev mX3_spotIn 8 [.ref t0, .int a1, .long b2, .int a4, .int a5] g = cond (decide (a5 ≤ 0)) (some (some (.int a4), g)) (cond (decide (a1 < (a4 + a5))) (zev mX3_spotIn 8 [.ref t0, .int a1, .long b2, .int a4, .int (a5 >>> (1 &&& 31))] g) (cond (Nat.beq (zC t0).1 101 && zin ((a4 + a5) - 1) (zC t0).2) (cond (decide (0 ≤ (lg_cmp (g.2 t0 (((a4 + a5) - 1).toNatClampNeg)) b2))) (zev mX3_spotIn 8 [.ref t0, .int a1, .long b2, .int a4, .int (a5 >>> (1 &&& 31))] g) (zev mX3_spotIn 8 [.ref t0, .int a1, .long b2, .int (a4 + a5), .int (a5 >>> (1 &&& 31))] g)) none)) := by rw [zev_eq]; rfl
set_option maxRecDepth 100000 in
theorem uX3_find_0 (g : zIJ) (b1 : Int64) : zev mX3_find 0 [.ref 219, .long b1] g = zaI (zev mX3_spotIn 0 [.ref 222, .int (g.1 219 7), .long b1] g) fun x2 g1 => cond (decide ((g1.1 219 7) ≤ x2)) (some (some (.int (-1)), g1)) (cond (zin x2 800) (cond (!decide ((lg_cmp (g1.2 222 x2.toNatClampNeg) b1) = 0)) (some (some (.int (-1)), g1)) (some (some (.int x2), g1))) none) := by rw [zev_eq]; rfl
set_option maxRecDepth 100000 in
theorem uX3_holding_0 (g : zIJ) (a1 : Int32) : zev mX3_holding 0 [.ref 219, .int a1] g = zev mX3_holding 4 [.ref 219, .int a1, .int 0, .int 0] g := by rw [zev_eq]; rfl
set_option maxRecDepth 100000 in
theorem uX3_holding_4 (g : zIJ) (a1 : Int32) (a2 : Int32) (a3 : Int32) : zev mX3_holding 4 [.ref 219, .int a1, .int a2, .int a3] g = cond (decide ((g.1 219 7) ≤ a3)) (some (some (.int a2), g)) (cond (zin a3 800) (zaI (zev mX11_holds 0 [.long (g.2 222 a3.toNatClampNeg), .int a1] g) fun x2 g1 => cond (decide (x2 = 0)) (zev mX3_holding 4 [.ref 219, .int a1, .int a2, .int (a3 + 1)] g1) (zev mX3_holding 4 [.ref 219, .int a1, .int (a2 + 1), .int (a3 + 1)] g1)) none) := by rw [zev_eq]; rfl
set_option maxRecDepth 100000 in
theorem uX3_inAll_0 (g : zIJ) : zev mX3_inAll 0 [.ref 219] g = zev mX3_inAll 6 [.ref 219, .long (-1), .int 0] g := by rw [zev_eq]; rfl
set_option maxRecDepth 100000 in
theorem uX3_inAll_6 (g : zIJ) (b1 : Int64) (a3 : Int32) : zev mX3_inAll 6 [.ref 219, .long b1, .int a3] g = cond (decide ((g.1 219 7) ≤ a3)) (some (some (.long b1), g)) (cond (zin a3 800) (zev mX3_inAll 6 [.ref 219, .long (b1 &&& (g.2 222 a3.toNatClampNeg)), .int (a3 + 1)] g) none) := by rw [zev_eq]; rfl
set_option maxRecDepth 100000 in
theorem uX3_inAny_0 (g : zIJ) : zev mX3_inAny 0 [.ref 219] g = zev mX3_inAny 4 [.ref 219, .long 0, .int 0] g := by rw [zev_eq]; rfl
set_option maxRecDepth 100000 in
theorem uX3_inAny_4 (g : zIJ) (b1 : Int64) (a3 : Int32) : zev mX3_inAny 4 [.ref 219, .long b1, .int a3] g = cond (decide ((g.1 219 7) ≤ a3)) (some (some (.long b1), g)) (cond (zin a3 800) (zev mX3_inAny 4 [.ref 219, .long (b1 ||| (g.2 222 a3.toNatClampNeg)), .int (a3 + 1)] g) none) := by rw [zev_eq]; rfl
set_option maxRecDepth 100000 in
theorem uX3_givenUpFor_0 (g : zIJ) (a1 : Int32) (b2 : Int64) : zev mX3_givenUpFor 0 [.ref 219, .int a1, .long b2, .ref 211] g = cond (zin a1 36) (zaI (zev mJ13_bitCount_95d88 0 [.long ((g.2 217 a1.toNatClampNeg) &&& b2)] g) fun x2 g1 => cond (!decide (x2 = 1)) (cond (decide (0 = 0)) (some (some (.long 0), g1)) (cond (!decide ((lg_cmp (((g.2 217 a1.toNatClampNeg) &&& b2) &&& (g1.2 219 4)) 0) = 0)) (some (some (.long 0), g1)) (zaI (zev mX11_holds 0 [.long (g1.2 219 5), .int a1] g1) fun x4 g3 => cond (!decide (x4 = 0)) (some (some (.long 0), g3)) (some (some (.long ((g.2 217 a1.toNatClampNeg) &&& b2)), g3))))) (cond (decide (1 = 0)) (some (some (.long 0), g1)) (cond (!decide ((lg_cmp (((g.2 217 a1.toNatClampNeg) &&& b2) &&& (g1.2 219 4)) 0) = 0)) (some (some (.long 0), g1)) (zaI (zev mX11_holds 0 [.long (g1.2 219 5), .int a1] g1) fun x6 g5 => cond (!decide (x6 = 0)) (some (some (.long 0), g5)) (some (some (.long ((g.2 217 a1.toNatClampNeg) &&& b2)), g5)))))) none := by rw [zev_eq]; rfl
set_option maxRecDepth 100000 in
theorem uX3_flippable_0 (g : zIJ) (a1 : Int32) : zev mX3_flippable 0 [.ref 219, .int a1, .ref 211] g = zev mX3_flippable 5 [.ref 219, .int a1, .ref 211, .long 0, .int 0] g := by rw [zev_eq]; rfl
set_option maxRecDepth 100000 in
theorem uX3_flippable_5 (g : zIJ) (a1 : Int32) (b3 : Int64) (a5 : Int32) : zev mX3_flippable 5 [.ref 219, .int a1, .ref 211, .long b3, .int a5] g = cond (decide (36 ≤ a5)) (some (some (.long b3), g)) (cond (zin a1 800) (zaL (zev mX3_givenUpFor 0 [.ref 219, .int a5, .long (g.2 222 a1.toNatClampNeg), .ref 211] g) fun x2 g1 => zev mX3_flippable 5 [.ref 219, .int a1, .ref 211, .long (b3 ||| x2), .int (a5 + 1)] g1) none) := by rw [zev_eq]; rfl
set_option maxRecDepth 100000 in
theorem uX3_flipped_0 (g : zIJ) (a1 : Int32) (a2 : Int32) : zev mX3_flipped 0 [.ref 219, .int a1, .int a2, .ref 211] g = zev mX3_flipped 8 [.ref 219, .int a1, .ref 211, .long ((1 : Int64) <<< (a2.toInt64 &&& 63)), .int 0] g := by rw [zev_eq]; rfl
set_option maxRecDepth 100000 in
theorem uX3_flipped_8 (g : zIJ) (a1 : Int32) (b4 : Int64) (a6 : Int32) : zev mX3_flipped 8 [.ref 219, .int a1, .ref 211, .long b4, .int a6] g = cond (decide (36 ≤ a6)) (some (some (.int (-1)), g)) (cond (zin a1 800) (zaL (zev mX3_givenUpFor 0 [.ref 219, .int a6, .long (g.2 222 a1.toNatClampNeg), .ref 211] g) fun x2 g1 => cond (!decide ((lg_cmp x2 b4) = 0)) (zev mX3_flipped 8 [.ref 219, .int a1, .ref 211, .long b4, .int (a6 + 1)] g1) (cond (zin a1 800) (zaI (zev mX3_find 0 [.ref 219, .long (((g1.2 222 a1.toNatClampNeg) ^^^ b4) ^^^ ((1 : Int64) <<< (a6.toInt64 &&& 63)))] g1) fun x4 g3 => some (some (.int x4), g3)) none)) none) := by rw [zev_eq]; rfl
set_option maxRecDepth 100000 in
theorem uX4_keep_0 (g : zIJ) : zev mX4_keep 0 [.ref 9, .ref 4] g = cond (zin (g.1 9 1) 40) (cond (Nat.beq (zC (11 + 5 * (g.1 9 1).toNatClampNeg)).1 0) (zaV (zev mX0_become 0 [.ref (11 + 5 * (g.1 9 1).toNatClampNeg), .ref 4] g) fun g1 => some (none, zsI (zsI g1 9 1 (((g1.1 9 1) + 1) - ((g1.1 9 1) + 1) / 40 * 40)) 9 2 (zmnI (((zsI g1 9 1 (((g1.1 9 1) + 1) - ((g1.1 9 1) + 1) / 40 * 40)).1 9 2) + 1) 40))) none) none := by rw [zev_eq]; rfl
set_option maxRecDepth 100000 in
theorem uX4_bringBack_0 (g : zIJ) : zev mX4_bringBack 0 [.ref 9, .ref 4] g = cond (decide ((g.1 9 2) ≤ 0)) (some (none, g)) (cond (zin ((zsI g 9 1 ((((g.1 9 1) + 40) - 1) - (((g.1 9 1) + 40) - 1) / 40 * 40)).1 9 1) 40) (zaV (zev mX0_become 0 [.ref 4, .ref (11 + 5 * ((zsI g 9 1 ((((g.1 9 1) + 40) - 1) - (((g.1 9 1) + 40) - 1) / 40 * 40)).1 9 1).toNatClampNeg)] (zsI g 9 1 ((((g.1 9 1) + 40) - 1) - (((g.1 9 1) + 40) - 1) / 40 * 40))) fun g1 => some (none, zsI g1 9 2 ((g1.1 9 2) - 1))) none) := by rw [zev_eq]; rfl
set_option maxRecDepth 100000 in
theorem uX5_follow_0 (g : zIJ) : zev mX5_follow 0 [.ref 211, .ref 4] g = zaI (zev mX5_isOf 0 [.ref 211, .ref 4] g) fun x2 g1 => cond (decide (x2 = 0)) (cond (zcpG 9 9 0 0 9) (cond (zcpG 9 9 0 0 9) (zaV (zev mX5_findOrder 0 [.ref 211] (zcpI (zcpI (zsI g1 211 7 (g1.1 4 4)) 5 (0 : Int32).toNatClampNeg 212 (0 : Int32).toNatClampNeg (9 : Int32).toNatClampNeg) 6 (0 : Int32).toNatClampNeg 213 (0 : Int32).toNatClampNeg (9 : Int32).toNatClampNeg)) fun g3 => zaV (zev mX5_findSides 0 [.ref 211, .ref 4] g3) fun g4 => zaV (zev mX5_findCrossings 0 [.ref 211, .ref 4] g4) fun g5 => zaV (zev mX5_findHull 0 [.ref 211] g5) fun g6 => some (none, zsI g6 211 10 ((g6.1 211 10) + 1))) none) none) (some (none, g1)) := by rw [zev_eq]; rfl
set_option maxRecDepth 100000 in
theorem uX5_isOf_0 (g : zIJ) : zev mX5_isOf 0 [.ref 211, .ref 4] g = cond (decide ((g.1 211 7) = (g.1 4 4))) (zev mX5_isOf 15 [.ref 211, .ref 4, .int 0] g) (some (some (.int 0), g)) := by rw [zev_eq]; rfl
set_option maxRecDepth 100000 in
theorem uX5_isOf_15 (g : zIJ) (a2 : Int32) : zev mX5_isOf 15 [.ref 211, .ref 4, .int a2] g = cond (decide ((g.1 211 7) ≤ a2)) (some (some (.int 1), g)) (cond (zin a2 9) (cond (zin a2 9) (cond (!decide ((g.1 212 a2.toNatClampNeg) = (g.1 5 a2.toNatClampNeg))) (some (some (.int 0), g)) (cond (zin a2 9) (cond (zin a2 9) (cond (decide ((g.1 213 a2.toNatClampNeg) = (g.1 6 a2.toNatClampNeg))) (zev mX5_isOf 15 [.ref 211, .ref 4, .int (a2 + 1)] g) (some (some (.int 0), g))) none) none)) none) none) := by rw [zev_eq]; rfl
set_option maxRecDepth 100000 in
theorem uX5_findOrder_0 (g : zIJ) : zev mX5_findOrder 0 [.ref 211] g = zev mX5_findOrder 2 [.ref 211, .int 0] g := by rw [zev_eq]; rfl
set_option maxRecDepth 100000 in
theorem uX5_findOrder_2 (g : zIJ) (a1 : Int32) : zev mX5_findOrder 2 [.ref 211, .int a1] g = cond (decide ((g.1 211 7) ≤ a1)) (some (none, g)) (zev mX5_findOrder 14 [.ref 211, .int a1, .int 0, .int 0] g) := by rw [zev_eq]; rfl
set_option maxRecDepth 100000 in
theorem uX5_findOrder_14 (g : zIJ) (a1 : Int32) (a2 : Int32) (a3 : Int32) : zev mX5_findOrder 14 [.ref 211, .int a1, .int a2, .int a3] g = cond (decide ((g.1 211 7) ≤ a3)) (cond (zin a1 9) (cond (zin a2 9) (zev mX5_findOrder 2 [.ref 211, .int (a1 + 1)] (zsI (zsI g 215 a1.toNatClampNeg a2) 214 a2.toNatClampNeg a1)) none) none) (cond (zin a3 9) (cond (zin a1 9) (cond (decide ((g.1 212 a3.toNatClampNeg) < (g.1 212 a1.toNatClampNeg))) (zev mX5_findOrder 14 [.ref 211, .int a1, .int (a2 + 1), .int (a3 + 1)] g) (cond (zin a3 9) (cond (zin a1 9) (cond (!decide ((g.1 212 a3.toNatClampNeg) = (g.1 212 a1.toNatClampNeg))) (zev mX5_findOrder 14 [.ref 211, .int a1, .int a2, .int (a3 + 1)] g) (cond (zin a3 9) (cond (zin a1 9) (cond (decide ((g.1 213 a1.toNatClampNeg) ≤ (g.1 213 a3.toNatClampNeg))) (zev mX5_findOrder 14 [.ref 211, .int a1, .int a2, .int (a3 + 1)] g) (zev mX5_findOrder 14 [.ref 211, .int a1, .int (a2 + 1), .int (a3 + 1)] g)) none) none)) none) none)) none) none) := by rw [zev_eq]; rfl
set_option maxRecDepth 100000 in
theorem uX5_findSides_0 (g : zIJ) : zev mX5_findSides 0 [.ref 211, .ref 4] g = zaV (zev mJ7_fill_53178 0 [.ref 218, .int 0] g) fun g1 => zev mX5_findSides 10 [.ref 211, .ref 4, .int 0] g1 := by rw [zev_eq]; rfl
set_option maxRecDepth 100000 in
theorem uX5_findSides_10 (g : zIJ) (a2 : Int32) : zev mX5_findSides 10 [.ref 211, .ref 4, .int a2] g = cond (decide ((g.1 211 7) ≤ a2)) (some (none, g)) (zev mX5_findSides 22 [.ref 211, .ref 4, .int a2, .int (a2 + 1)] g) := by rw [zev_eq]; rfl
set_option maxRecDepth 100000 in
theorem uX5_findSides_22 (g : zIJ) (a2 : Int32) (a3 : Int32) : zev mX5_findSides 22 [.ref 211, .ref 4, .int a2, .int a3] g = cond (decide ((g.1 211 7) ≤ a3)) (zev mX5_findSides 10 [.ref 211, .ref 4, .int (a2 + 1)] g) (zev mX5_findSides 35 [.ref 211, .ref 4, .int a2, .int a3, .int (a3 + 1)] g) := by rw [zev_eq]; rfl
set_option maxRecDepth 100000 in
theorem uX5_findSides_35 (g : zIJ) (a2 : Int32) (a3 : Int32) (a4 : Int32) : zev mX5_findSides 35 [.ref 211, .ref 4, .int a2, .int a3, .int a4] g = cond (decide ((g.1 211 7) ≤ a4)) (zev mX5_findSides 22 [.ref 211, .ref 4, .int a2, .int (a3 + 1)] g) (zaI (zev mX0_turnsLeft 0 [.ref 4, .int a2, .int a3, .int a4] g) fun x2 g1 => cond (decide (x2 = 0)) (zaV (zev mX5_setLeftTurn 0 [.ref 211, .int a2, .int a4, .int a3] g1) fun g3 => zev mX5_findSides 35 [.ref 211, .ref 4, .int a2, .int a3, .int (a4 + 1)] g3) (zaV (zev mX5_setLeftTurn 0 [.ref 211, .int a2, .int a3, .int a4] g1) fun g4 => zev mX5_findSides 35 [.ref 211, .ref 4, .int a2, .int a3, .int (a4 + 1)] g4)) := by rw [zev_eq]; rfl
set_option maxRecDepth 100000 in
theorem uX5_setLeftTurn_0 (g : zIJ) (a1 : Int32) (a2 : Int32) (a3 : Int32) : zev mX5_setLeftTurn 0 [.ref 211, .int a1, .int a2, .int a3] g = cond (zin ((a1 * 9) + a2) 81) (cond (zin ((a1 * 9) + a2) 81) (cond (zin ((a2 * 9) + a3) 81) (cond (zin ((a2 * 9) + a3) 81) (cond (zin ((a3 * 9) + a1) 81) (cond (zin ((a3 * 9) + a1) 81) (some (none, zsI (zsI (zsI g 218 (((a1 * 9) + a2).toNatClampNeg) ((g.1 218 (((a1 * 9) + a2).toNatClampNeg)) ||| ((1 : Int32) <<< (a3 &&& 31)))) 218 (((a2 * 9) + a3).toNatClampNeg) (((zsI g 218 (((a1 * 9) + a2).toNatClampNeg) ((g.1 218 (((a1 * 9) + a2).toNatClampNeg)) ||| ((1 : Int32) <<< (a3 &&& 31)))).1 218 (((a2 * 9) + a3).toNatClampNeg)) ||| ((1 : Int32) <<< (a1 &&& 31)))) 218 (((a3 * 9) + a1).toNatClampNeg) (((zsI (zsI g 218 (((a1 * 9) + a2).toNatClampNeg) ((g.1 218 (((a1 * 9) + a2).toNatClampNeg)) ||| ((1 : Int32) <<< (a3 &&& 31)))) 218 (((a2 * 9) + a3).toNatClampNeg) (((zsI g 218 (((a1 * 9) + a2).toNatClampNeg) ((g.1 218 (((a1 * 9) + a2).toNatClampNeg)) ||| ((1 : Int32) <<< (a3 &&& 31)))).1 218 (((a2 * 9) + a3).toNatClampNeg)) ||| ((1 : Int32) <<< (a1 &&& 31)))).1 218 (((a3 * 9) + a1).toNatClampNeg)) ||| ((1 : Int32) <<< (a2 &&& 31))))) none) none) none) none) none) none := by rw [zev_eq]; rfl
set_option maxRecDepth 100000 in
theorem uX5_findCrossings_0 (g : zIJ) : zev mX5_findCrossings 0 [.ref 211, .ref 4] g = zaV (zev mJ7_fill_d0a16 0 [.ref 217, .long 0] g) fun g1 => zev mX5_findCrossings 10 [.ref 211, .ref 4, .int 0] g1 := by rw [zev_eq]; rfl
set_option maxRecDepth 100000 in
theorem uX5_findCrossings_10 (g : zIJ) (a2 : Int32) : zev mX5_findCrossings 10 [.ref 211, .ref 4, .int a2] g = cond (decide (36 ≤ a2)) (some (none, g)) (zev mX5_findCrossings 20 [.ref 211, .ref 4, .int a2, .int (a2 + 1)] g) := by rw [zev_eq]; rfl
set_option maxRecDepth 100000 in
theorem uX5_findCrossings_20 (g : zIJ) (a2 : Int32) (a3 : Int32) : zev mX5_findCrossings 20 [.ref 211, .ref 4, .int a2, .int a3] g = cond (decide (36 ≤ a3)) (zev mX5_findCrossings 10 [.ref 211, .ref 4, .int (a2 + 1)] g) (cond (zin a2 36) (cond (decide ((g.1 211 7) ≤ (zGE a2.toNatClampNeg))) (zev mX5_findCrossings 54 [.ref 211, .ref 4, .int a2, .int a3] g) (cond (zin a3 36) (cond (decide ((g.1 211 7) ≤ (zGE a3.toNatClampNeg))) (zev mX5_findCrossings 54 [.ref 211, .ref 4, .int a2, .int a3] g) (cond (decide (1 = 0)) (zev mX5_findCrossings 20 [.ref 211, .ref 4, .int a2, .int (a3 + 1)] g) (zaI (zev mX0_doCross 0 [.ref 4, .int a2, .int a3] g) fun x2 g1 => cond (decide (x2 = 0)) (zev mX5_findCrossings 20 [.ref 211, .ref 4, .int a2, .int (a3 + 1)] g1) (cond (zin a2 36) (cond (zin a2 36) (cond (zin a3 36) (cond (zin a3 36) (zev mX5_findCrossings 20 [.ref 211, .ref 4, .int a2, .int (a3 + 1)] (zsL (zsL g1 217 a2.toNatClampNeg ((g1.2 217 a2.toNatClampNeg) ||| ((1 : Int64) <<< (a3.toInt64 &&& 63)))) 217 a3.toNatClampNeg (((zsL g1 217 a2.toNatClampNeg ((g1.2 217 a2.toNatClampNeg) ||| ((1 : Int64) <<< (a3.toInt64 &&& 63)))).2 217 a3.toNatClampNeg) ||| ((1 : Int64) <<< (a2.toInt64 &&& 63))))) none) none) none) none)))) none)) none) := by rw [zev_eq]; rfl
set_option maxRecDepth 100000 in
theorem uX5_findCrossings_54 (g : zIJ) (a2 : Int32) (a3 : Int32) : zev mX5_findCrossings 54 [.ref 211, .ref 4, .int a2, .int a3] g = cond (decide (0 = 0)) (zev mX5_findCrossings 20 [.ref 211, .ref 4, .int a2, .int (a3 + 1)] g) (zaI (zev mX0_doCross 0 [.ref 4, .int a2, .int a3] g) fun x2 g1 => cond (decide (x2 = 0)) (zev mX5_findCrossings 20 [.ref 211, .ref 4, .int a2, .int (a3 + 1)] g1) (cond (zin a2 36) (cond (zin a2 36) (cond (zin a3 36) (cond (zin a3 36) (zev mX5_findCrossings 20 [.ref 211, .ref 4, .int a2, .int (a3 + 1)] (zsL (zsL g1 217 a2.toNatClampNeg ((g1.2 217 a2.toNatClampNeg) ||| ((1 : Int64) <<< (a3.toInt64 &&& 63)))) 217 a3.toNatClampNeg (((zsL g1 217 a2.toNatClampNeg ((g1.2 217 a2.toNatClampNeg) ||| ((1 : Int64) <<< (a3.toInt64 &&& 63)))).2 217 a3.toNatClampNeg) ||| ((1 : Int64) <<< (a2.toInt64 &&& 63))))) none) none) none) none)) := by rw [zev_eq]; rfl
set_option maxRecDepth 100000 in
theorem uX5_findHull_0 (g : zIJ) : zev mX5_findHull 0 [.ref 211] g = cond (decide (((zsI (zsI g 211 8 0) 211 9 0).1 211 7) ≤ 0)) (zev mX5_findHull 30 [.ref 211, .int (-1), .int 0] (zsI (zsI g 211 8 0) 211 9 0)) (cond (zin 0 9) (zev mX5_findHull 30 [.ref 211, .int ((zsI (zsI g 211 8 0) 211 9 0).1 214 ((0 : Int32).toNatClampNeg)), .int 0] (zsI (zsI g 211 8 0) 211 9 0)) none) := by rw [zev_eq]; rfl
set_option maxRecDepth 100000 in
theorem uX5_findHull_30 (g : zIJ) (a1 : Int32) (a2 : Int32) : zev mX5_findHull 30 [.ref 211, .int a1, .int a2] g = cond (decide ((g.1 211 7) ≤ a2)) (some (none, g)) (cond (decide (a1 < 0)) (some (none, g)) (cond (!decide ((((g.1 211 9) >>> (a1 &&& 31)) &&& 1) = 0)) (some (none, g)) (cond (zin a2 9) (zaI (zev mX5_behindOnHull 0 [.ref 211, .int a1] (zsI (zsI (zsI g 216 a2.toNatClampNeg a1) 211 9 (((zsI g 216 a2.toNatClampNeg a1).1 211 9) ||| ((1 : Int32) <<< (a1 &&& 31)))) 211 8 (((zsI (zsI g 216 a2.toNatClampNeg a1) 211 9 (((zsI g 216 a2.toNatClampNeg a1).1 211 9) ||| ((1 : Int32) <<< (a1 &&& 31)))).1 211 8) + 1))) fun x2 g1 => zev mX5_findHull 30 [.ref 211, .int x2, .int (a2 + 1)] g1) none))) := by rw [zev_eq]; rfl
set_option maxRecDepth 100000 in
theorem uX5_behindOnHull_0 (g : zIJ) (a1 : Int32) : zev mX5_behindOnHull 0 [.ref 211, .int a1] g = zev mX5_behindOnHull 11 [.ref 211, .int a1, .int (((1 : Int32) <<< ((g.1 211 7) &&& 31)) - 1), .int 0] g := by rw [zev_eq]; rfl
set_option maxRecDepth 100000 in
theorem uX5_behindOnHull_11 (g : zIJ) (a1 : Int32) (a2 : Int32) (a3 : Int32) : zev mX5_behindOnHull 11 [.ref 211, .int a1, .int a2, .int a3] g = cond (decide ((g.1 211 7) ≤ a3)) (some (some (.int (-1)), g)) (cond (decide (a3 = a1)) (zev mX5_behindOnHull 11 [.ref 211, .int a1, .int a2, .int (a3 + 1)] g) (cond (zin ((a1 * 9) + a3) 81) (cond (!decide ((g.1 218 (((a1 * 9) + a3).toNatClampNeg)) = ((a2 &&& (((1 : Int32) <<< (a1 &&& 31)) ^^^ (-1))) &&& (((1 : Int32) <<< (a3 &&& 31)) ^^^ (-1))))) (zev mX5_behindOnHull 11 [.ref 211, .int a1, .int a2, .int (a3 + 1)] g) (some (some (.int a3), g))) none)) := by rw [zev_eq]; rfl
set_option maxRecDepth 100000 in
theorem uX5_isLeft_0 (g : zIJ) (a1 : Int32) (a2 : Int32) (a3 : Int32) : zev mX5_isLeft 0 [.ref 211, .int a1, .int a2, .int a3] g = cond (zin ((a1 * 9) + a2) 81) (cond (decide ((((g.1 218 (((a1 * 9) + a2).toNatClampNeg)) >>> (a3 &&& 31)) &&& 1) = 0)) (some (some (.int 0), g)) (some (some (.int 1), g))) none := by rw [zev_eq]; rfl
set_option maxRecDepth 100000 in
theorem uX5_isBare_0 (g : zIJ) (a1 : Int32) (a2 : Int32) (a3 : Int32) : zev mX5_isBare 0 [.ref 211, .int a1, .int a2, .int a3] g = cond (zin ((a1 * 9) + a2) 81) (cond (zin ((a2 * 9) + a3) 81) (cond (zin ((a3 * 9) + a1) 81) (cond (zin ((a2 * 9) + a1) 81) (cond (zin ((a3 * 9) + a2) 81) (cond (zin ((a1 * 9) + a3) 81) (cond (!decide ((((g.1 218 (((a1 * 9) + a2).toNatClampNeg)) &&& (g.1 218 (((a2 * 9) + a3).toNatClampNeg))) &&& (g.1 218 (((a3 * 9) + a1).toNatClampNeg))) = 0)) (some (some (.int 0), g)) (cond (!decide ((((g.1 218 (((a2 * 9) + a1).toNatClampNeg)) &&& (g.1 218 (((a3 * 9) + a2).toNatClampNeg))) &&& (g.1 218 (((a1 * 9) + a3).toNatClampNeg))) = 0)) (some (some (.int 0), g)) (some (some (.int 1), g)))) none) none) none) none) none) none := by rw [zev_eq]; rfl
set_option maxRecDepth 100000 in
theorem uX5_isHollow_0 (g : zIJ) (a1 : Int32) : zev mX5_isHollow 0 [.ref 211, .int a1] g = zev mX5_isHollow 2 [.ref 211, .int a1, .int 0] g := by rw [zev_eq]; rfl
set_option maxRecDepth 100000 in
theorem uX5_isHollow_2 (g : zIJ) (a1 : Int32) (a2 : Int32) : zev mX5_isHollow 2 [.ref 211, .int a1, .int a2] g = cond (decide ((g.1 211 7) ≤ a2)) (some (some (.int 1), g)) (zev mX5_isHollow 14 [.ref 211, .int a1, .int a2, .int (a2 + 1)] g) := by rw [zev_eq]; rfl
set_option maxRecDepth 100000 in
theorem uX5_isHollow_14 (g : zIJ) (a1 : Int32) (a2 : Int32) (a3 : Int32) : zev mX5_isHollow 14 [.ref 211, .int a1, .int a2, .int a3] g = cond (decide ((g.1 211 7) ≤ a3)) (zev mX5_isHollow 2 [.ref 211, .int a1, .int (a2 + 1)] g) (zev mX5_isHollow 27 [.ref 211, .int a1, .int a2, .int a3, .int (a3 + 1)] g) := by rw [zev_eq]; rfl
set_option maxRecDepth 100000 in
theorem uX5_isHollow_27 (g : zIJ) (a1 : Int32) (a2 : Int32) (a3 : Int32) (a4 : Int32) : zev mX5_isHollow 27 [.ref 211, .int a1, .int a2, .int a3, .int a4] g = cond (decide ((g.1 211 7) ≤ a4)) (zev mX5_isHollow 14 [.ref 211, .int a1, .int a2, .int (a3 + 1)] g) (cond (!decide ((a1 &&& ((((1 : Int32) <<< (a2 &&& 31)) ||| ((1 : Int32) <<< (a3 &&& 31))) ||| ((1 : Int32) <<< (a4 &&& 31)))) = ((((1 : Int32) <<< (a2 &&& 31)) ||| ((1 : Int32) <<< (a3 &&& 31))) ||| ((1 : Int32) <<< (a4 &&& 31))))) (zev mX5_isHollow 27 [.ref 211, .int a1, .int a2, .int a3, .int (a4 + 1)] g) (zaI (zev mX5_isBare 0 [.ref 211, .int a2, .int a3, .int a4] g) fun x2 g1 => cond (!decide (x2 = 0)) (zev mX5_isHollow 27 [.ref 211, .int a1, .int a2, .int a3, .int (a4 + 1)] g1) (some (some (.int 0), g1)))) := by rw [zev_eq]; rfl
set_option maxRecDepth 100000 in
theorem uX5_lowerPath_0 (g : zIJ) : zev mX5_lowerPath 0 [.ref 211] g = zev mX5_lowerPath 4 [.ref 211, .int 0, .int 0] g := by rw [zev_eq]; rfl
set_option maxRecDepth 100000 in
theorem uX5_lowerPath_4 (g : zIJ) (a1 : Int32) (a2 : Int32) : zev mX5_lowerPath 4 [.ref 211, .int a1, .int a2] g = cond (decide ((g.1 211 8) ≤ a2)) (some (some (.int a1), g)) (cond (zin a2 9) (cond (zin a2 9) (cond (zin ((g.1 211 7) - 1) 9) (cond (!decide ((g.1 216 a2.toNatClampNeg) = (g.1 214 (((g.1 211 7) - 1).toNatClampNeg)))) (zev mX5_lowerPath 4 [.ref 211, .int (a1 ||| ((1 : Int32) <<< ((g.1 216 a2.toNatClampNeg) &&& 31))), .int (a2 + 1)] g) (some (some (.int (a1 ||| ((1 : Int32) <<< ((g.1 216 a2.toNatClampNeg) &&& 31)))), g))) none) none) none) := by rw [zev_eq]; rfl
end
section
/-! What each block of each method comes to (by program). -/
set_option maxRecDepth 100000 in
theorem uX6_read_0 (g : zIJ) (t1 : Nat) : zev mX6_read 0 [.ref 234, .ref t1, .ref 211] g = zaI (zev mX6_readCorners 0 [.ref 234, .ref t1, .ref 211] g) fun x2 g1 => cond (decide (x2 = 0)) (some (some (.int 0), g1)) (zaI (zev mX6_readSides 0 [.ref 234, .ref 211] g1) fun x4 g3 => cond (!decide (x4 = 0)) (zaI (zev mX6_signedArea 0 [.ref 234, .ref 211] g3) fun x6 g5 => cond (decide (0 ≤ ((zsI g5 234 5 x6).1 234 5))) (some (some (.int 1), zsI g5 234 5 x6)) (zaV (zev mX6_turnRound 0 [.ref 234] (zsI g5 234 5 x6)) fun g7 => some (some (.int 1), zsI g7 234 5 (-(g7.1 234 5))))) (some (some (.int 0), g3))) := by rw [zev_eq]; rfl
set_option maxRecDepth 100000 in
theorem uX6_readCorners_0 (g : zIJ) (t1 : Nat) : zev mX6_readCorners 0 [.ref 234, .ref t1, .ref 211] g = cond (Nat.beq (zC t1).1 8) (cond (decide (((zsI (zsI g 234 2 0) 234 3 0).1 t1 2) < 3)) (some (some (.int 0), zsI (zsI g 234 2 0) 234 3 0)) (cond (Nat.beq (zC t1).1 8) (cond (decide (((zsI (zsI g 234 2 0) 234 3 0).1 t1 2) ≤ ((zsI (zsI g 234 2 0) 234 3 0).1 211 7))) (zev mX6_readCorners 33 [.ref 234, .ref t1, .ref 211, .int 0] (zsI (zsI g 234 2 0) 234 3 0)) (some (some (.int 0), zsI (zsI g 234 2 0) 234 3 0))) none)) none := by rw [zev_eq]; rfl
set_option maxRecDepth 100000 in
theorem uX6_readCorners_33 (g : zIJ) (t1 : Nat) (a3 : Int32) : zev mX6_readCorners 33 [.ref 234, .ref t1, .ref 211, .int a3] g = cond (Nat.beq (zC t1).1 8) (cond (decide ((g.1 t1 2) ≤ a3)) (some (some (.int 1), g)) (cond (Nat.beq (zC t1).1 8) (cond (Nat.beq (zC (zRf t1 0)).1 101 && zin a3 (zC (zRf t1 0)).2) (cond (decide ((lg_cmp (g.2 (zRf t1 0) a3.toNatClampNeg) 0) < 0)) (some (some (.int 0), g)) (cond (decide ((lg_cmp (g.2 (zRf t1 0) a3.toNatClampNeg) ((g.1 211 7).toInt64)) < 0)) (cond (decide ((((g.1 234 3) >>> (((g.2 (zRf t1 0) a3.toNatClampNeg).toInt32) &&& 31)) &&& 1) = 0)) (cond (zin (g.1 234 2) 9) (zev mX6_readCorners 33 [.ref 234, .ref t1, .ref 211, .int (a3 + 1)] (zsI (zsI (zsI g 235 ((g.1 234 2).toNatClampNeg) ((g.2 (zRf t1 0) a3.toNatClampNeg).toInt32)) 234 3 (((zsI g 235 ((g.1 234 2).toNatClampNeg) ((g.2 (zRf t1 0) a3.toNatClampNeg).toInt32)).1 234 3) ||| ((1 : Int32) <<< (((g.2 (zRf t1 0) a3.toNatClampNeg).toInt32) &&& 31)))) 234 2 (((zsI (zsI g 235 ((g.1 234 2).toNatClampNeg) ((g.2 (zRf t1 0) a3.toNatClampNeg).toInt32)) 234 3 (((zsI g 235 ((g.1 234 2).toNatClampNeg) ((g.2 (zRf t1 0) a3.toNatClampNeg).toInt32)).1 234 3) ||| ((1 : Int32) <<< (((g.2 (zRf t1 0) a3.toNatClampNeg).toInt32) &&& 31)))).1 234 2) + 1))) none) (some (some (.int 0), g))) (some (some (.int 0), g)))) none) none)) none := by rw [zev_eq]; rfl
set_option maxRecDepth 100000 in
theorem uX6_readSides_0 (g : zIJ) : zev mX6_readSides 0 [.ref 234, .ref 211] g = zev mX6_readSides 7 [.ref 234, .ref 211, .int 0] (zsL g 234 4 0) := by rw [zev_eq]; rfl
set_option maxRecDepth 100000 in
theorem uX6_readSides_7 (g : zIJ) (a2 : Int32) : zev mX6_readSides 7 [.ref 234, .ref 211, .int a2] g = cond (decide ((g.1 234 2) ≤ a2)) (some (some (.int 1), g)) (cond (zin a2 9) (zaI (zev mX6_behind 0 [.ref 234, .int a2] g) fun x2 g1 => cond (zin x2 9) (zaI (zev mX11_edgeOf 0 [.int (g.1 235 a2.toNatClampNeg), .int (g1.1 235 x2.toNatClampNeg)] g1) fun x4 g3 => cond (zin x4 36) (cond (decide ((lg_cmp ((g3.2 217 x4.toNatClampNeg) &&& (g3.2 234 4)) 0) = 0)) (zev mX6_readSides 7 [.ref 234, .ref 211, .int (a2 + 1)] (zsL g3 234 4 ((g3.2 234 4) ||| ((1 : Int64) <<< (x4.toInt64 &&& 63))))) (some (some (.int 0), g3))) none) none) none) := by rw [zev_eq]; rfl
set_option maxRecDepth 100000 in
theorem uX6_behind_0 (g : zIJ) (a1 : Int32) : zev mX6_behind 0 [.ref 234, .int a1] g = cond (decide ((g.1 234 2) ≤ (a1 + 1))) (some (some (.int 0), g)) (some (some (.int (a1 + 1)), g)) := by rw [zev_eq]; rfl
set_option maxRecDepth 100000 in
theorem uX6_ahead_0 (g : zIJ) (a1 : Int32) : zev mX6_ahead 0 [.ref 234, .int a1] g = cond (decide (a1 ≤ 0)) (some (some (.int ((g.1 234 2) - 1)), g)) (some (some (.int (a1 - 1)), g)) := by rw [zev_eq]; rfl
set_option maxRecDepth 100000 in
theorem uX6_signedArea_0 (g : zIJ) : zev mX6_signedArea 0 [.ref 234, .ref 211] g = zev mX6_signedArea 4 [.ref 234, .ref 211, .int 0, .int 0] g := by rw [zev_eq]; rfl
set_option maxRecDepth 100000 in
theorem uX6_signedArea_4 (g : zIJ) (a2 : Int32) (a3 : Int32) : zev mX6_signedArea 4 [.ref 234, .ref 211, .int a2, .int a3] g = cond (decide ((g.1 234 2) ≤ a3)) (some (some (.int a2), g)) (cond (zin a3 9) (zaI (zev mX6_behind 0 [.ref 234, .int a3] g) fun x2 g1 => cond (zin x2 9) (cond (zin (g.1 235 a3.toNatClampNeg) 9) (cond (zin (g1.1 235 x2.toNatClampNeg) 9) (cond (zin (g1.1 235 x2.toNatClampNeg) 9) (cond (zin (g.1 235 a3.toNatClampNeg) 9) (zev mX6_signedArea 4 [.ref 234, .ref 211, .int (a2 + (((g1.1 212 ((g.1 235 a3.toNatClampNeg).toNatClampNeg)) * (g1.1 213 ((g1.1 235 x2.toNatClampNeg).toNatClampNeg))) - ((g1.1 212 ((g1.1 235 x2.toNatClampNeg).toNatClampNeg)) * (g1.1 213 ((g.1 235 a3.toNatClampNeg).toNatClampNeg))))), .int (a3 + 1)] g1) none) none) none) none) none) none) := by rw [zev_eq]; rfl
set_option maxRecDepth 100000 in
theorem uX6_turnRound_0 (g : zIJ) : zev mX6_turnRound 0 [.ref 234] g = zev mX6_turnRound 2 [.ref 234, .int 0] g := by rw [zev_eq]; rfl
set_option maxRecDepth 100000 in
theorem uX6_turnRound_2 (g : zIJ) (a1 : Int32) : zev mX6_turnRound 2 [.ref 234, .int a1] g = cond (decide (((g.1 234 2) / 2) ≤ a1)) (some (none, g)) (cond (zin a1 9) (cond (zin (((g.1 234 2) - 1) - a1) 9) (cond (zin a1 9) (cond (zin ((((zsI g 235 a1.toNatClampNeg (g.1 235 ((((g.1 234 2) - 1) - a1).toNatClampNeg))).1 234 2) - 1) - a1) 9) (zev mX6_turnRound 2 [.ref 234, .int (a1 + 1)] (zsI (zsI g 235 a1.toNatClampNeg (g.1 235 ((((g.1 234 2) - 1) - a1).toNatClampNeg))) 235 (((((zsI g 235 a1.toNatClampNeg (g.1 235 ((((g.1 234 2) - 1) - a1).toNatClampNeg))).1 234 2) - 1) - a1).toNatClampNeg) (g.1 235 a1.toNatClampNeg))) none) none) none) none) := by rw [zev_eq]; rfl
set_option maxRecDepth 100000 in
theorem uX6_splitCount_0 (g : zIJ) : zev mX6_splitCount 0 [.ref 234, .ref 211] g = zev mX6_splitCount 2 [.ref 234, .ref 211, .int 1] g := by rw [zev_eq]; rfl
set_option maxRecDepth 100000 in
theorem uX6_splitCount_2 (g : zIJ) (a2 : Int32) : zev mX6_splitCount 2 [.ref 234, .ref 211, .int a2] g = cond (decide ((g.1 234 2) ≤ a2)) (cond (decide (3 ≤ (g.1 234 2))) (cond (zin ((g.1 234 2) - 1) 81) (some (some (.int (g.1 236 (((g.1 234 2) - 1).toNatClampNeg))), g)) none) (some (some (.int 0), g))) (zev mX6_splitCount 12 [.ref 234, .ref 211, .int a2, .int 0] g) := by rw [zev_eq]; rfl
set_option maxRecDepth 100000 in
theorem uX6_splitCount_12 (g : zIJ) (a2 : Int32) (a3 : Int32) : zev mX6_splitCount 12 [.ref 234, .ref 211, .int a2, .int a3] g = cond (decide ((g.1 234 2) ≤ (a3 + a2))) (zev mX6_splitCount 2 [.ref 234, .ref 211, .int (a2 + 1)] g) (cond (!decide (a2 = 1)) (zaI (zev mX6_splitsBetween 0 [.ref 234, .int a3, .int (a3 + a2), .ref 211] g) fun x2 g1 => cond (zin ((a3 * 9) + (a3 + a2)) 81) (zev mX6_splitCount 12 [.ref 234, .ref 211, .int a2, .int (a3 + 1)] (zsI g1 236 (((a3 * 9) + (a3 + a2)).toNatClampNeg) x2)) none) (cond (zin ((a3 * 9) + (a3 + a2)) 81) (zev mX6_splitCount 12 [.ref 234, .ref 211, .int a2, .int (a3 + 1)] (zsI g 236 (((a3 * 9) + (a3 + a2)).toNatClampNeg) 1)) none)) := by rw [zev_eq]; rfl
set_option maxRecDepth 100000 in
theorem uX6_splitsBetween_0 (g : zIJ) (a1 : Int32) (a2 : Int32) : zev mX6_splitsBetween 0 [.ref 234, .int a1, .int a2, .ref 211] g = zaI (zev mX6_isJoined 0 [.ref 234, .int a1, .int a2, .ref 211] g) fun x2 g1 => cond (decide (x2 = 0)) (some (some (.int 0), g1)) (zev mX6_splitsBetween 18 [.ref 234, .int a1, .int a2, .int 0, .int (a1 + 1)] g1) := by rw [zev_eq]; rfl
set_option maxRecDepth 100000 in
theorem uX6_splitsBetween_18 (g : zIJ) (a1 : Int32) (a2 : Int32) (a4 : Int32) (a5 : Int32) : zev mX6_splitsBetween 18 [.ref 234, .int a1, .int a2, .int a4, .int a5] g = cond (decide (a2 ≤ a5)) (some (some (.int a4), g)) (cond (zin ((a1 * 9) + a5) 81) (cond (zin ((a5 * 9) + a2) 81) (zev mX6_splitsBetween 18 [.ref 234, .int a1, .int a2, .int (a4 + ((g.1 236 (((a1 * 9) + a5).toNatClampNeg)) * (g.1 236 (((a5 * 9) + a2).toNatClampNeg)))), .int (a5 + 1)] g) none) none) := by rw [zev_eq]; rfl
set_option maxRecDepth 100000 in
theorem uX6_isJoined_0 (g : zIJ) (a1 : Int32) (a2 : Int32) : zev mX6_isJoined 0 [.ref 234, .int a1, .int a2, .ref 211] g = cond (zin a1 9) (cond (zin a2 9) (zaI (zev mX11_edgeOf 0 [.int (g.1 235 a1.toNatClampNeg), .int (g.1 235 a2.toNatClampNeg)] g) fun x2 g1 => zaI (zev mX11_holds 0 [.long (g1.2 234 4), .int x2] g1) fun x4 g3 => cond (!decide (x4 = 0)) (some (some (.int 1), g3)) (cond (zin x2 36) (cond (!decide ((lg_cmp ((g3.2 217 x2.toNatClampNeg) &&& (g3.2 234 4)) 0) = 0)) (some (some (.int 0), g3)) (zaI (zev mX6_leavesInward 0 [.ref 234, .int a1, .int a2, .ref 211] g3) fun x6 g5 => cond (decide (x6 = 0)) (some (some (.int 0), g5)) (some (some (.int 1), g5)))) none)) none) none := by rw [zev_eq]; rfl
set_option maxRecDepth 100000 in
theorem uX6_leavesInward_0 (g : zIJ) (a1 : Int32) (a2 : Int32) : zev mX6_leavesInward 0 [.ref 234, .int a1, .int a2, .ref 211] g = cond (zin a1 9) (cond (zin a2 9) (zaI (zev mX6_ahead 0 [.ref 234, .int a1] g) fun x2 g1 => cond (zin x2 9) (zaI (zev mX6_behind 0 [.ref 234, .int a1] g1) fun x4 g3 => cond (zin x4 9) (zaI (zev mX5_isLeft 0 [.ref 211, .int (g1.1 235 x2.toNatClampNeg), .int (g.1 235 a1.toNatClampNeg), .int (g3.1 235 x4.toNatClampNeg)] g3) fun x6 g5 => cond (decide (x6 = 0)) (zaI (zev mX5_isLeft 0 [.ref 211, .int (g.1 235 a1.toNatClampNeg), .int (g.1 235 a2.toNatClampNeg), .int (g3.1 235 x4.toNatClampNeg)] g5) fun x8 g7 => cond (decide (x8 = 0)) (some (some (.int 1), g7)) (zaI (zev mX5_isLeft 0 [.ref 211, .int (g.1 235 a2.toNatClampNeg), .int (g.1 235 a1.toNatClampNeg), .int (g1.1 235 x2.toNatClampNeg)] g7) fun x10 g9 => cond (!decide (x10 = 0)) (some (some (.int 0), g9)) (some (some (.int 1), g9)))) (zaI (zev mX5_isLeft 0 [.ref 211, .int (g.1 235 a1.toNatClampNeg), .int (g.1 235 a2.toNatClampNeg), .int (g1.1 235 x2.toNatClampNeg)] g5) fun x12 g11 => cond (decide (x12 = 0)) (some (some (.int 0), g11)) (zaI (zev mX5_isLeft 0 [.ref 211, .int (g.1 235 a2.toNatClampNeg), .int (g.1 235 a1.toNatClampNeg), .int (g3.1 235 x4.toNatClampNeg)] g11) fun x14 g13 => cond (decide (x14 = 0)) (some (some (.int 0), g13)) (some (some (.int 1), g13))))) none) none) none) none := by rw [zev_eq]; rfl
set_option maxRecDepth 100000 in
theorem uX6_pointsInside_0 (g : zIJ) : zev mX6_pointsInside 0 [.ref 234, .ref 211] g = zev mX6_pointsInside 4 [.ref 234, .ref 211, .int 0, .int 0] g := by rw [zev_eq]; rfl
set_option maxRecDepth 100000 in
theorem uX6_pointsInside_4 (g : zIJ) (a2 : Int32) (a3 : Int32) : zev mX6_pointsInside 4 [.ref 234, .ref 211, .int a2, .int a3] g = cond (decide ((g.1 211 7) ≤ a3)) (some (some (.int a2), g)) (cond (!decide ((((g.1 234 3) >>> (a3 &&& 31)) &&& 1) = 0)) (zev mX6_pointsInside 4 [.ref 234, .ref 211, .int a2, .int (a3 + 1)] g) (zaI (zev mX6_isInside 0 [.ref 234, .int a3, .ref 211] g) fun x2 g1 => cond (decide (x2 = 0)) (zev mX6_pointsInside 4 [.ref 234, .ref 211, .int a2, .int (a3 + 1)] g1) (zev mX6_pointsInside 4 [.ref 234, .ref 211, .int (a2 ||| ((1 : Int32) <<< (a3 &&& 31))), .int (a3 + 1)] g1))) := by rw [zev_eq]; rfl
set_option maxRecDepth 100000 in
theorem uX6_isInside_0 (g : zIJ) (a1 : Int32) : zev mX6_isInside 0 [.ref 234, .int a1, .ref 211] g = cond (zin a1 9) (zev mX6_isInside 13 [.ref 234, .int a1, .ref 211, .int 0, .int (g.1 213 a1.toNatClampNeg), .int 0] g) none := by rw [zev_eq]; rfl
set_option maxRecDepth 100000 in
theorem uX6_isInside_13 (g : zIJ) (a1 : Int32) (a3 : Int32) (a4 : Int32) (a5 : Int32) : zev mX6_isInside 13 [.ref 234, .int a1, .ref 211, .int a3, .int a4, .int a5] g = cond (decide ((g.1 234 2) ≤ a5)) (cond (zbit a3) (some (some (.int a3), g)) none) (cond (zin a5 9) (zaI (zev mX6_behind 0 [.ref 234, .int a5] g) fun x2 g1 => cond (zin x2 9) (cond (zin (g1.1 235 x2.toNatClampNeg) 9) (cond (zin (g.1 235 a5.toNatClampNeg) 9) (cond (decide ((g1.1 213 ((g1.1 235 x2.toNatClampNeg).toNatClampNeg)) ≤ (g1.1 213 ((g.1 235 a5.toNatClampNeg).toNatClampNeg)))) (cond (zin (g.1 235 a5.toNatClampNeg) 9) (cond (decide ((g1.1 213 ((g.1 235 a5.toNatClampNeg).toNatClampNeg)) ≤ a4)) (cond (zin (g1.1 235 x2.toNatClampNeg) 9) (cond (decide ((g1.1 213 ((g1.1 235 x2.toNatClampNeg).toNatClampNeg)) ≤ a4)) (cond (decide (0 = 0)) (cond (decide (0 = 0)) (zev mX6_isInside 13 [.ref 234, .int a1, .ref 211, .int a3, .int a4, .int (a5 + 1)] g1) (zaI (zev mX5_isLeft 0 [.ref 211, .int (g.1 235 a5.toNatClampNeg), .int (g1.1 235 x2.toNatClampNeg), .int a1] g1) fun x4 g3 => cond (!decide (x4 = 0)) (zev mX6_isInside 13 [.ref 234, .int a1, .ref 211, .int a3, .int a4, .int (a5 + 1)] g3) (cond (!decide (a3 = 0)) (zev mX6_isInside 13 [.ref 234, .int a1, .ref 211, .int 0, .int a4, .int (a5 + 1)] g3) (zev mX6_isInside 13 [.ref 234, .int a1, .ref 211, .int 1, .int a4, .int (a5 + 1)] g3)))) (cond (decide (1 = 0)) (zev mX6_isInside 13 [.ref 234, .int a1, .ref 211, .int a3, .int a4, .int (a5 + 1)] g1) (zaI (zev mX5_isLeft 0 [.ref 211, .int (g.1 235 a5.toNatClampNeg), .int (g1.1 235 x2.toNatClampNeg), .int a1] g1) fun x6 g5 => cond (!decide (x6 = 0)) (zev mX6_isInside 13 [.ref 234, .int a1, .ref 211, .int a3, .int a4, .int (a5 + 1)] g5) (cond (!decide (a3 = 0)) (zev mX6_isInside 13 [.ref 234, .int a1, .ref 211, .int 0, .int a4, .int (a5 + 1)] g5) (zev mX6_isInside 13 [.ref 234, .int a1, .ref 211, .int 1, .int a4, .int (a5 + 1)] g5))))) (cond (decide (0 = 1)) (cond (decide (0 = 0)) (zev mX6_isInside 13 [.ref 234, .int a1, .ref 211, .int a3, .int a4, .int (a5 + 1)] g1) (zaI (zev mX5_isLeft 0 [.ref 211, .int (g.1 235 a5.toNatClampNeg), .int (g1.1 235 x2.toNatClampNeg), .int a1] g1) fun x8 g7 => cond (!decide (x8 = 0)) (zev mX6_isInside 13 [.ref 234, .int a1, .ref 211, .int a3, .int a4, .int (a5 + 1)] g7) (cond (!decide (a3 = 0)) (zev mX6_isInside 13 [.ref 234, .int a1, .ref 211, .int 0, .int a4, .int (a5 + 1)] g7) (zev mX6_isInside 13 [.ref 234, .int a1, .ref 211, .int 1, .int a4, .int (a5 + 1)] g7)))) (cond (decide (1 = 0)) (zev mX6_isInside 13 [.ref 234, .int a1, .ref 211, .int a3, .int a4, .int (a5 + 1)] g1) (zaI (zev mX5_isLeft 0 [.ref 211, .int (g.1 235 a5.toNatClampNeg), .int (g1.1 235 x2.toNatClampNeg), .int a1] g1) fun x10 g9 => cond (!decide (x10 = 0)) (zev mX6_isInside 13 [.ref 234, .int a1, .ref 211, .int a3, .int a4, .int (a5 + 1)] g9) (cond (!decide (a3 = 0)) (zev mX6_isInside 13 [.ref 234, .int a1, .ref 211, .int 0, .int a4, .int (a5 + 1)] g9) (zev mX6_isInside 13 [.ref 234, .int a1, .ref 211, .int 1, .int a4, .int (a5 + 1)] g9)))))) none) (cond (zin (g1.1 235 x2.toNatClampNeg) 9) (cond (decide ((g1.1 213 ((g1.1 235 x2.toNatClampNeg).toNatClampNeg)) ≤ a4)) (cond (decide (1 = 0)) (cond (decide (0 = 0)) (zev mX6_isInside 13 [.ref 234, .int a1, .ref 211, .int a3, .int a4, .int (a5 + 1)] g1) (zaI (zev mX5_isLeft 0 [.ref 211, .int (g.1 235 a5.toNatClampNeg), .int (g1.1 235 x2.toNatClampNeg), .int a1] g1) fun x12 g11 => cond (!decide (x12 = 0)) (zev mX6_isInside 13 [.ref 234, .int a1, .ref 211, .int a3, .int a4, .int (a5 + 1)] g11) (cond (!decide (a3 = 0)) (zev mX6_isInside 13 [.ref 234, .int a1, .ref 211, .int 0, .int a4, .int (a5 + 1)] g11) (zev mX6_isInside 13 [.ref 234, .int a1, .ref 211, .int 1, .int a4, .int (a5 + 1)] g11)))) (cond (decide (1 = 0)) (zev mX6_isInside 13 [.ref 234, .int a1, .ref 211, .int a3, .int a4, .int (a5 + 1)] g1) (zaI (zev mX5_isLeft 0 [.ref 211, .int (g.1 235 a5.toNatClampNeg), .int (g1.1 235 x2.toNatClampNeg), .int a1] g1) fun x14 g13 => cond (!decide (x14 = 0)) (zev mX6_isInside 13 [.ref 234, .int a1, .ref 211, .int a3, .int a4, .int (a5 + 1)] g13) (cond (!decide (a3 = 0)) (zev mX6_isInside 13 [.ref 234, .int a1, .ref 211, .int 0, .int a4, .int (a5 + 1)] g13) (zev mX6_isInside 13 [.ref 234, .int a1, .ref 211, .int 1, .int a4, .int (a5 + 1)] g13))))) (cond (decide (1 = 1)) (cond (decide (0 = 0)) (zev mX6_isInside 13 [.ref 234, .int a1, .ref 211, .int a3, .int a4, .int (a5 + 1)] g1) (zaI (zev mX5_isLeft 0 [.ref 211, .int (g.1 235 a5.toNatClampNeg), .int (g1.1 235 x2.toNatClampNeg), .int a1] g1) fun x16 g15 => cond (!decide (x16 = 0)) (zev mX6_isInside 13 [.ref 234, .int a1, .ref 211, .int a3, .int a4, .int (a5 + 1)] g15) (cond (!decide (a3 = 0)) (zev mX6_isInside 13 [.ref 234, .int a1, .ref 211, .int 0, .int a4, .int (a5 + 1)] g15) (zev mX6_isInside 13 [.ref 234, .int a1, .ref 211, .int 1, .int a4, .int (a5 + 1)] g15)))) (cond (decide (1 = 0)) (zev mX6_isInside 13 [.ref 234, .int a1, .ref 211, .int a3, .int a4, .int (a5 + 1)] g1) (zaI (zev mX5_isLeft 0 [.ref 211, .int (g.1 235 a5.toNatClampNeg), .int (g1.1 235 x2.toNatClampNeg), .int a1] g1) fun x18 g17 => cond (!decide (x18 = 0)) (zev mX6_isInside 13 [.ref 234, .int a1, .ref 211, .int a3, .int a4, .int (a5 + 1)] g17) (cond (!decide (a3 = 0)) (zev mX6_isInside 13 [.ref 234, .int a1, .ref 211, .int 0, .int a4, .int (a5 + 1)] g17) (zev mX6_isInside 13 [.ref 234, .int a1, .ref 211, .int 1, .int a4, .int (a5 + 1)] g17)))))) none)) none) (cond (zin (g.1 235 a5.toNatClampNeg) 9) (cond (decide ((g1.1 213 ((g.1 235 a5.toNatClampNeg).toNatClampNeg)) ≤ a4)) (cond (zin (g1.1 235 x2.toNatClampNeg) 9) (cond (decide ((g1.1 213 ((g1.1 235 x2.toNatClampNeg).toNatClampNeg)) ≤ a4)) (cond (decide (0 = 0)) (cond (decide (0 = 0)) (zev mX6_isInside 13 [.ref 234, .int a1, .ref 211, .int a3, .int a4, .int (a5 + 1)] g1) (zaI (zev mX5_isLeft 0 [.ref 211, .int (g.1 235 a5.toNatClampNeg), .int (g1.1 235 x2.toNatClampNeg), .int a1] g1) fun x20 g19 => cond (!decide (x20 = 1)) (zev mX6_isInside 13 [.ref 234, .int a1, .ref 211, .int a3, .int a4, .int (a5 + 1)] g19) (cond (!decide (a3 = 0)) (zev mX6_isInside 13 [.ref 234, .int a1, .ref 211, .int 0, .int a4, .int (a5 + 1)] g19) (zev mX6_isInside 13 [.ref 234, .int a1, .ref 211, .int 1, .int a4, .int (a5 + 1)] g19)))) (cond (decide (1 = 0)) (zev mX6_isInside 13 [.ref 234, .int a1, .ref 211, .int a3, .int a4, .int (a5 + 1)] g1) (zaI (zev mX5_isLeft 0 [.ref 211, .int (g.1 235 a5.toNatClampNeg), .int (g1.1 235 x2.toNatClampNeg), .int a1] g1) fun x22 g21 => cond (!decide (x22 = 1)) (zev mX6_isInside 13 [.ref 234, .int a1, .ref 211, .int a3, .int a4, .int (a5 + 1)] g21) (cond (!decide (a3 = 0)) (zev mX6_isInside 13 [.ref 234, .int a1, .ref 211, .int 0, .int a4, .int (a5 + 1)] g21) (zev mX6_isInside 13 [.ref 234, .int a1, .ref 211, .int 1, .int a4, .int (a5 + 1)] g21))))) (cond (decide (0 = 1)) (cond (decide (0 = 0)) (zev mX6_isInside 13 [.ref 234, .int a1, .ref 211, .int a3, .int a4, .int (a5 + 1)] g1) (zaI (zev mX5_isLeft 0 [.ref 211, .int (g.1 235 a5.toNatClampNeg), .int (g1.1 235 x2.toNatClampNeg), .int a1] g1) fun x24 g23 => cond (!decide (x24 = 1)) (zev mX6_isInside 13 [.ref 234, .int a1, .ref 211, .int a3, .int a4, .int (a5 + 1)] g23) (cond (!decide (a3 = 0)) (zev mX6_isInside 13 [.ref 234, .int a1, .ref 211, .int 0, .int a4, .int (a5 + 1)] g23) (zev mX6_isInside 13 [.ref 234, .int a1, .ref 211, .int 1, .int a4, .int (a5 + 1)] g23)))) (cond (decide (1 = 0)) (zev mX6_isInside 13 [.ref 234, .int a1, .ref 211, .int a3, .int a4, .int (a5 + 1)] g1) (zaI (zev mX5_isLeft 0 [.ref 211, .int (g.1 235 a5.toNatClampNeg), .int (g1.1 235 x2.toNatClampNeg), .int a1] g1) fun x26 g25 => cond (!decide (x26 = 1)) (zev mX6_isInside 13 [.ref 234, .int a1, .ref 211, .int a3, .int a4, .int (a5 + 1)] g25) (cond (!decide (a3 = 0)) (zev mX6_isInside 13 [.ref 234, .int a1, .ref 211, .int 0, .int a4, .int (a5 + 1)] g25) (zev mX6_isInside 13 [.ref 234, .int a1, .ref 211, .int 1, .int a4, .int (a5 + 1)] g25)))))) none) (cond (zin (g1.1 235 x2.toNatClampNeg) 9) (cond (decide ((g1.1 213 ((g1.1 235 x2.toNatClampNeg).toNatClampNeg)) ≤ a4)) (cond (decide (1 = 0)) (cond (decide (0 = 0)) (zev mX6_isInside 13 [.ref 234, .int a1, .ref 211, .int a3, .int a4, .int (a5 + 1)] g1) (zaI (zev mX5_isLeft 0 [.ref 211, .int (g.1 235 a5.toNatClampNeg), .int (g1.1 235 x2.toNatClampNeg), .int a1] g1) fun x28 g27 => cond (!decide (x28 = 1)) (zev mX6_isInside 13 [.ref 234, .int a1, .ref 211, .int a3, .int a4, .int (a5 + 1)] g27) (cond (!decide (a3 = 0)) (zev mX6_isInside 13 [.ref 234, .int a1, .ref 211, .int 0, .int a4, .int (a5 + 1)] g27) (zev mX6_isInside 13 [.ref 234, .int a1, .ref 211, .int 1, .int a4, .int (a5 + 1)] g27)))) (cond (decide (1 = 0)) (zev mX6_isInside 13 [.ref 234, .int a1, .ref 211, .int a3, .int a4, .int (a5 + 1)] g1) (zaI (zev mX5_isLeft 0 [.ref 211, .int (g.1 235 a5.toNatClampNeg), .int (g1.1 235 x2.toNatClampNeg), .int a1] g1) fun x30 g29 => cond (!decide (x30 = 1)) (zev mX6_isInside 13 [.ref 234, .int a1, .ref 211, .int a3, .int a4, .int (a5 + 1)] g29) (cond (!decide (a3 = 0)) (zev mX6_isInside 13 [.ref 234, .int a1, .ref 211, .int 0, .int a4, .int (a5 + 1)] g29) (zev mX6_isInside 13 [.ref 234, .int a1, .ref 211, .int 1, .int a4, .int (a5 + 1)] g29))))) (cond (decide (1 = 1)) (cond (decide (0 = 0)) (zev mX6_isInside 13 [.ref 234, .int a1, .ref 211, .int a3, .int a4, .int (a5 + 1)] g1) (zaI (zev mX5_isLeft 0 [.ref 211, .int (g.1 235 a5.toNatClampNeg), .int (g1.1 235 x2.toNatClampNeg), .int a1] g1) fun x32 g31 => cond (!decide (x32 = 1)) (zev mX6_isInside 13 [.ref 234, .int a1, .ref 211, .int a3, .int a4, .int (a5 + 1)] g31) (cond (!decide (a3 = 0)) (zev mX6_isInside 13 [.ref 234, .int a1, .ref 211, .int 0, .int a4, .int (a5 + 1)] g31) (zev mX6_isInside 13 [.ref 234, .int a1, .ref 211, .int 1, .int a4, .int (a5 + 1)] g31)))) (cond (decide (1 = 0)) (zev mX6_isInside 13 [.ref 234, .int a1, .ref 211, .int a3, .int a4, .int (a5 + 1)] g1) (zaI (zev mX5_isLeft 0 [.ref 211, .int (g.1 235 a5.toNatClampNeg), .int (g1.1 235 x2.toNatClampNeg), .int a1] g1) fun x34 g33 => cond (!decide (x34 = 1)) (zev mX6_isInside 13 [.ref 234, .int a1, .ref 211, .int a3, .int a4, .int (a5 + 1)] g33) (cond (!decide (a3 = 0)) (zev mX6_isInside 13 [.ref 234, .int a1, .ref 211, .int 0, .int a4, .int (a5 + 1)] g33) (zev mX6_isInside 13 [.ref 234, .int a1, .ref 211, .int 1, .int a4, .int (a5 + 1)] g33)))))) none)) none)) none) none) none) none) := by rw [zev_eq]; rfl
set_option maxRecDepth 100000 in
theorem uX7_take_0 (g : zIJ) : zev mX7_take 0 [.ref 237, .ref 226] g = cond (zcpG 13 13 0 0 ((zsI g 237 2 (g.1 226 3)).1 237 2)) (cond (zcpG 13 13 0 0 ((zcpI (zsI g 237 2 (g.1 226 3)) 228 (0 : Int32).toNatClampNeg 238 (0 : Int32).toNatClampNeg ((zsI g 237 2 (g.1 226 3)).1 237 2).toNatClampNeg).1 237 2)) (some (none, zcpI (zcpI (zsI g 237 2 (g.1 226 3)) 228 (0 : Int32).toNatClampNeg 238 (0 : Int32).toNatClampNeg ((zsI g 237 2 (g.1 226 3)).1 237 2).toNatClampNeg) 229 (0 : Int32).toNatClampNeg 239 (0 : Int32).toNatClampNeg ((zcpI (zsI g 237 2 (g.1 226 3)) 228 (0 : Int32).toNatClampNeg 238 (0 : Int32).toNatClampNeg ((zsI g 237 2 (g.1 226 3)).1 237 2).toNatClampNeg).1 237 2).toNatClampNeg)) none) none := by rw [zev_eq]; rfl
set_option maxRecDepth 100000 in
theorem uX7_has_0 (g : zIJ) (a1 : Int32) (a2 : Int32) : zev mX7_has 0 [.ref 237, .int a1, .int a2] g = cond (decide (a1 < 0)) (some (some (.int 0), g)) (cond (decide ((g.1 237 2) ≤ a1)) (some (some (.int 0), g)) (cond (decide (a2 < 0)) (some (some (.int 0), g)) (cond (decide (1 < a2)) (some (some (.int 0), g)) (some (some (.int 1), g))))) := by rw [zev_eq]; rfl
set_option maxRecDepth 100000 in
theorem uX7_firstUnlike_0 (g : zIJ) : zev mX7_firstUnlike 0 [.ref 237, .ref 226] g = zev mX7_firstUnlike 14 [.ref 237, .ref 226, .int (zmnI (g.1 237 2) (g.1 226 3)), .int 0] g := by rw [zev_eq]; rfl
set_option maxRecDepth 100000 in
theorem uX7_firstUnlike_14 (g : zIJ) (a2 : Int32) (a3 : Int32) : zev mX7_firstUnlike 14 [.ref 237, .ref 226, .int a2, .int a3] g = cond (decide (a2 ≤ a3)) (cond (!decide ((g.1 237 2) = (g.1 226 3))) (some (some (.int a2), g)) (some (some (.int (-1)), g))) (cond (zin a3 13) (cond (zin a3 13) (cond (!decide ((g.1 238 a3.toNatClampNeg) = (g.1 228 a3.toNatClampNeg))) (some (some (.int a3), g)) (cond (zin a3 13) (cond (zin a3 13) (cond (decide ((g.1 239 a3.toNatClampNeg) = (g.1 229 a3.toNatClampNeg))) (zev mX7_firstUnlike 14 [.ref 237, .ref 226, .int a2, .int (a3 + 1)] g) (some (some (.int a3), g))) none) none)) none) none) := by rw [zev_eq]; rfl
set_option maxRecDepth 100000 in
theorem uX8_lay_0 (g : zIJ) (t0 : Nat) (a1 : Int32) (a2 : Int32) : zev mX8_lay 0 [.ref t0, .int a1, .int a2] g = cond (Nat.beq (zC t0).1 8) (zaV (zev mJ7_fill_d0a16 0 [.ref (zRf t0 0), .long 0] g) fun g1 => cond (Nat.beq (zC t0).1 8) (cond (Nat.beq (zC t0).1 8) (some (none, zsI (zsI g1 t0 1 a1) t0 2 a2)) none) none) none := by rw [zev_eq]; rfl
set_option maxRecDepth 100000 in
theorem uX8_isMissing_0 (g : zIJ) (t0 : Nat) : zev mX8_isMissing 0 [.ref t0] g = cond (Nat.beq (zC t0).1 8) (cond (!decide ((g.1 t0 1) = (-1))) (some (some (.int 0), g)) (some (some (.int 1), g))) none := by rw [zev_eq]; rfl
set_option maxRecDepth 100000 in
theorem uX8_put_0 (g : zIJ) (t0 : Nat) (a1 : Int32) (b2 : Int64) : zev mX8_put 0 [.ref t0, .int a1, .long b2] g = cond (Nat.beq (zC t0).1 8) (cond (!decide ((g.1 t0 1) = 0)) (cond (Nat.beq (zC t0).1 8) (cond (!decide ((g.1 t0 1) = 1)) (cond (Nat.beq (zC t0).1 8) (cond (Nat.beq (zC (zRf t0 0)).1 101 && zin a1 (zC (zRf t0 0)).2) (some (none, zsL g (zRf t0 0) a1.toNatClampNeg b2)) none) none) (cond (Nat.beq (zC t0).1 8) (cond (Nat.beq (zC (zRf t0 0)).1 101 && zin a1 (zC (zRf t0 0)).2) (some (none, zsL g (zRf t0 0) a1.toNatClampNeg b2.toInt32.toInt64)) none) none)) none) (cond (Nat.beq (zC t0).1 8) (cond (Nat.beq (zC (zRf t0 0)).1 101 && zin a1 (zC (zRf t0 0)).2) (some (none, zsL g (zRf t0 0) a1.toNatClampNeg b2.toInt32.toInt8.toInt32.toInt64)) none) none)) none := by rw [zev_eq]; rfl
set_option maxRecDepth 100000 in
theorem uX8_hasRun_0 (g : zIJ) (t0 : Nat) (a1 : Int32) (a2 : Int32) : zev mX8_hasRun 0 [.ref t0, .int a1, .int a2] g = cond (decide (a1 < 0)) (some (some (.int 0), g)) (cond (decide (a2 < 0)) (some (some (.int 0), g)) (cond (Nat.beq (zC t0).1 8) (cond (decide (0 < (lg_cmp (a1.toInt64 + a2.toInt64) ((g.1 t0 2).toInt64)))) (some (some (.int 0), g)) (some (some (.int 1), g))) none)) := by rw [zev_eq]; rfl
set_option maxRecDepth 100000 in
theorem uX9_follow_0 (g : zIJ) (b1 : Int64) : zev mX9_follow 0 [.ref 226, .long b1, .ref 211] g = cond (!decide ((lg_cmp (g.2 226 4) b1) = 0)) (zev mX9_follow 21 [.ref 226, .long b1, .ref 211] g) (cond (!decide ((g.1 226 5) = (g.1 211 10))) (zev mX9_follow 21 [.ref 226, .long b1, .ref 211] g) (some (none, g))) := by rw [zev_eq]; rfl
set_option maxRecDepth 100000 in
theorem uX9_follow_21 (g : zIJ) (b1 : Int64) : zev mX9_follow 21 [.ref 226, .long b1, .ref 211] g = zaI (zev mX5_lowerPath 0 [.ref 211] (zsI (zsI (zsL g 226 4 b1) 226 5 ((zsL g 226 4 b1).1 211 10)) 226 3 0)) fun x2 g1 => cond (zin 0 14) (zev mX9_follow 55 [.ref 226, .ref 211, .int 1, .int 0] (zsI g1 227 ((0 : Int32).toNatClampNeg) x2)) none := by rw [zev_eq]; rfl
set_option maxRecDepth 100000 in
theorem uX9_follow_55 (g : zIJ) (a4 : Int32) (a5 : Int32) : zev mX9_follow 55 [.ref 226, .ref 211, .int a4, .int a5] g = cond (decide (13 ≤ a5)) (some (none, g)) (cond (decide (a4 = 0)) (some (none, g)) (zaI (zev mX9_goOn 0 [.ref 226, .ref 211] g) fun x2 g1 => zev mX9_follow 55 [.ref 226, .ref 211, .int x2, .int (a5 + 1)] g1)) := by rw [zev_eq]; rfl
set_option maxRecDepth 100000 in
theorem uX9_goOn_0 (g : zIJ) : zev mX9_goOn 0 [.ref 226, .ref 211] g = zev mX9_goOn 2 [.ref 226, .ref 211, .int 0] g := by rw [zev_eq]; rfl
set_option maxRecDepth 100000 in
theorem uX9_goOn_2 (g : zIJ) (a2 : Int32) : zev mX9_goOn 2 [.ref 226, .ref 211, .int a2] g = cond (decide ((g.1 211 7) ≤ a2)) (some (some (.int 0), g)) (zaI (zev mX9_isOn 0 [.ref 226, .int a2, .ref 211] g) fun x2 g1 => cond (decide (x2 = 0)) (zev mX9_goOn 2 [.ref 226, .ref 211, .int (a2 + 1)] g1) (zaI (zev mX9_comesBehind 0 [.ref 226, .int a2, .ref 211] g1) fun x4 g3 => cond (!decide (x4 = 0)) (some (some (.int 1), g3)) (zaI (zev mX9_goesBehind 0 [.ref 226, .int a2, .ref 211] g3) fun x6 g5 => cond (decide (x6 = 0)) (zev mX9_goOn 2 [.ref 226, .ref 211, .int (a2 + 1)] g5) (some (some (.int 1), g5))))) := by rw [zev_eq]; rfl
set_option maxRecDepth 100000 in
theorem uX9_isOn_0 (g : zIJ) (a1 : Int32) : zev mX9_isOn 0 [.ref 226, .int a1, .ref 211] g = cond (zin (g.1 226 3) 14) (cond (zin a1 9) (cond (decide ((((g.1 227 ((g.1 226 3).toNatClampNeg)) >>> ((g.1 214 a1.toNatClampNeg) &&& 31)) &&& 1) = 0)) (some (some (.int 0), g)) (some (some (.int 1), g))) none) none := by rw [zev_eq]; rfl
set_option maxRecDepth 100000 in
theorem uX9_nextOn_0 (g : zIJ) (a1 : Int32) : zev mX9_nextOn 0 [.ref 226, .int a1, .ref 211] g = zev mX9_nextOn 4 [.ref 226, .ref 211, .int (a1 + 1)] g := by rw [zev_eq]; rfl
set_option maxRecDepth 100000 in
theorem uX9_nextOn_4 (g : zIJ) (a3 : Int32) : zev mX9_nextOn 4 [.ref 226, .ref 211, .int a3] g = cond (decide ((g.1 211 7) ≤ a3)) (some (some (.int (g.1 211 7)), g)) (zaI (zev mX9_isOn 0 [.ref 226, .int a3, .ref 211] g) fun x2 g1 => cond (decide (x2 = 0)) (zev mX9_nextOn 4 [.ref 226, .ref 211, .int (a3 + 1)] g1) (some (some (.int a3), g1))) := by rw [zev_eq]; rfl
set_option maxRecDepth 100000 in
theorem uX9_comesBehind_0 (g : zIJ) (a1 : Int32) : zev mX9_comesBehind 0 [.ref 226, .int a1, .ref 211] g = zaI (zev mX9_nextOn 0 [.ref 226, .int a1, .ref 211] g) fun x2 g1 => cond (decide (x2 < (g1.1 211 7))) (cond (zin a1 9) (cond (zin x2 9) (zev mX9_comesBehind 38 [.ref 226, .ref 211, .int x2, .int (g1.1 214 a1.toNatClampNeg), .int (g1.1 214 x2.toNatClampNeg), .int (a1 + 1)] g1) none) none) (some (some (.int 0), g1)) := by rw [zev_eq]; rfl
set_option maxRecDepth 100000 in
theorem uX9_comesBehind_38 (g : zIJ) (a3 : Int32) (a4 : Int32) (a5 : Int32) (a6 : Int32) : zev mX9_comesBehind 38 [.ref 226, .ref 211, .int a3, .int a4, .int a5, .int a6] g = cond (decide (a3 ≤ a6)) (some (some (.int 0), g)) (cond (zin a6 9) (zaI (zev mX5_isLeft 0 [.ref 211, .int a4, .int a5, .int (g.1 214 a6.toNatClampNeg)] g) fun x2 g1 => cond (decide (x2 = 0)) (zev mX9_comesBehind 38 [.ref 226, .ref 211, .int a3, .int a4, .int a5, .int (a6 + 1)] g1) (zaI (zev mX9_isTriangle 0 [.ref 226, .int a4, .int a5, .int (g.1 214 a6.toNatClampNeg), .ref 211] g1) fun x4 g3 => cond (decide (x4 = 0)) (zev mX9_comesBehind 38 [.ref 226, .ref 211, .int a3, .int a4, .int a5, .int (a6 + 1)] g3) (zaV (zev mX9_add 0 [.ref 226, .int a4, .int a5, .int (g.1 214 a6.toNatClampNeg), .int 0] g3) fun g5 => some (some (.int 1), g5)))) none) := by rw [zev_eq]; rfl
set_option maxRecDepth 100000 in
theorem uX9_goesBehind_0 (g : zIJ) (a1 : Int32) : zev mX9_goesBehind 0 [.ref 226, .int a1, .ref 211] g = zaI (zev mX9_nextOn 0 [.ref 226, .int a1, .ref 211] g) fun x2 g1 => zaI (zev mX9_nextOn 0 [.ref 226, .int x2, .ref 211] g1) fun x4 g3 => cond (decide ((g3.1 211 7) ≤ x2)) (some (some (.int 0), g3)) (cond (decide (x4 < (g3.1 211 7))) (cond (zin a1 9) (cond (zin x2 9) (cond (zin x4 9) (zaI (zev mX5_isLeft 0 [.ref 211, .int (g3.1 214 a1.toNatClampNeg), .int (g3.1 214 x2.toNatClampNeg), .int (g3.1 214 x4.toNatClampNeg)] g3) fun x6 g5 => cond (decide (x6 = 0)) (zev mX9_goesBehind 90 [.ref 226, .int (g3.1 214 a1.toNatClampNeg), .int (g3.1 214 x2.toNatClampNeg), .int (g3.1 214 x4.toNatClampNeg)] g5) (zaI (zev mX9_isTriangle 0 [.ref 226, .int (g3.1 214 a1.toNatClampNeg), .int (g3.1 214 x4.toNatClampNeg), .int (g3.1 214 x2.toNatClampNeg), .ref 211] g5) fun x8 g7 => cond (decide (x8 = 0)) (zev mX9_goesBehind 90 [.ref 226, .int (g3.1 214 a1.toNatClampNeg), .int (g3.1 214 x2.toNatClampNeg), .int (g3.1 214 x4.toNatClampNeg)] g7) (cond (decide (1 = 0)) (some (some (.int 1), g7)) (zaV (zev mX9_add 0 [.ref 226, .int (g3.1 214 a1.toNatClampNeg), .int (g3.1 214 x4.toNatClampNeg), .int (g3.1 214 x2.toNatClampNeg), .int 1] g7) fun g9 => some (some (.int 1), g9))))) none) none) none) (some (some (.int 0), g3))) := by rw [zev_eq]; rfl
set_option maxRecDepth 100000 in
theorem uX9_goesBehind_90 (g : zIJ) (a5 : Int32) (a6 : Int32) (a7 : Int32) : zev mX9_goesBehind 90 [.ref 226, .int a5, .int a6, .int a7] g = cond (decide (0 = 0)) (some (some (.int 0), g)) (zaV (zev mX9_add 0 [.ref 226, .int a5, .int a7, .int a6, .int 1] g) fun g1 => some (some (.int 0), g1)) := by rw [zev_eq]; rfl
set_option maxRecDepth 100000 in
theorem uX9_isTriangle_0 (g : zIJ) (a1 : Int32) (a2 : Int32) (a3 : Int32) : zev mX9_isTriangle 0 [.ref 226, .int a1, .int a2, .int a3, .ref 211] g = zaI (zev mX11_edgeOf 0 [.int a1, .int a2] g) fun x2 g1 => zaI (zev mX11_holds 0 [.long (g.2 226 4), .int x2] g1) fun x4 g3 => cond (decide (x4 = 0)) (some (some (.int 0), g3)) (zaI (zev mX11_edgeOf 0 [.int a2, .int a3] g3) fun x6 g5 => zaI (zev mX11_holds 0 [.long (g3.2 226 4), .int x6] g5) fun x8 g7 => cond (decide (x8 = 0)) (some (some (.int 0), g7)) (zaI (zev mX11_edgeOf 0 [.int a1, .int a3] g7) fun x10 g9 => zaI (zev mX11_holds 0 [.long (g7.2 226 4), .int x10] g9) fun x12 g11 => cond (decide (x12 = 0)) (some (some (.int 0), g11)) (zaI (zev mX5_isBare 0 [.ref 211, .int a1, .int a2, .int a3] g11) fun x14 g13 => cond (decide (x14 = 0)) (some (some (.int 0), g13)) (some (some (.int 1), g13))))) := by rw [zev_eq]; rfl
set_option maxRecDepth 100000 in
theorem uX9_add_0 (g : zIJ) (a1 : Int32) (a2 : Int32) (a3 : Int32) (a4 : Int32) : zev mX9_add 0 [.ref 226, .int a1, .int a2, .int a3, .int a4] g = cond (decide (13 ≤ (g.1 226 3))) (some (none, g)) (cond (zin (g.1 226 3) 13) (cond (zin ((zsI g 228 ((g.1 226 3).toNatClampNeg) ((((1 : Int32) <<< (a1 &&& 31)) ||| ((1 : Int32) <<< (a2 &&& 31))) ||| ((1 : Int32) <<< (a3 &&& 31)))).1 226 3) 13) (cond (zin ((zsI (zsI g 228 ((g.1 226 3).toNatClampNeg) ((((1 : Int32) <<< (a1 &&& 31)) ||| ((1 : Int32) <<< (a2 &&& 31))) ||| ((1 : Int32) <<< (a3 &&& 31)))) 229 (((zsI g 228 ((g.1 226 3).toNatClampNeg) ((((1 : Int32) <<< (a1 &&& 31)) ||| ((1 : Int32) <<< (a2 &&& 31))) ||| ((1 : Int32) <<< (a3 &&& 31)))).1 226 3).toNatClampNeg) a4).1 226 3) 14) (cond (zin (((zsI (zsI g 228 ((g.1 226 3).toNatClampNeg) ((((1 : Int32) <<< (a1 &&& 31)) ||| ((1 : Int32) <<< (a2 &&& 31))) ||| ((1 : Int32) <<< (a3 &&& 31)))) 229 (((zsI g 228 ((g.1 226 3).toNatClampNeg) ((((1 : Int32) <<< (a1 &&& 31)) ||| ((1 : Int32) <<< (a2 &&& 31))) ||| ((1 : Int32) <<< (a3 &&& 31)))).1 226 3).toNatClampNeg) a4).1 226 3) + 1) 14) (some (none, zsI (zsI (zsI (zsI g 228 ((g.1 226 3).toNatClampNeg) ((((1 : Int32) <<< (a1 &&& 31)) ||| ((1 : Int32) <<< (a2 &&& 31))) ||| ((1 : Int32) <<< (a3 &&& 31)))) 229 (((zsI g 228 ((g.1 226 3).toNatClampNeg) ((((1 : Int32) <<< (a1 &&& 31)) ||| ((1 : Int32) <<< (a2 &&& 31))) ||| ((1 : Int32) <<< (a3 &&& 31)))).1 226 3).toNatClampNeg) a4) 227 ((((zsI (zsI g 228 ((g.1 226 3).toNatClampNeg) ((((1 : Int32) <<< (a1 &&& 31)) ||| ((1 : Int32) <<< (a2 &&& 31))) ||| ((1 : Int32) <<< (a3 &&& 31)))) 229 (((zsI g 228 ((g.1 226 3).toNatClampNeg) ((((1 : Int32) <<< (a1 &&& 31)) ||| ((1 : Int32) <<< (a2 &&& 31))) ||| ((1 : Int32) <<< (a3 &&& 31)))).1 226 3).toNatClampNeg) a4).1 226 3) + 1).toNatClampNeg) (((zsI (zsI g 228 ((g.1 226 3).toNatClampNeg) ((((1 : Int32) <<< (a1 &&& 31)) ||| ((1 : Int32) <<< (a2 &&& 31))) ||| ((1 : Int32) <<< (a3 &&& 31)))) 229 (((zsI g 228 ((g.1 226 3).toNatClampNeg) ((((1 : Int32) <<< (a1 &&& 31)) ||| ((1 : Int32) <<< (a2 &&& 31))) ||| ((1 : Int32) <<< (a3 &&& 31)))).1 226 3).toNatClampNeg) a4).1 227 (((zsI (zsI g 228 ((g.1 226 3).toNatClampNeg) ((((1 : Int32) <<< (a1 &&& 31)) ||| ((1 : Int32) <<< (a2 &&& 31))) ||| ((1 : Int32) <<< (a3 &&& 31)))) 229 (((zsI g 228 ((g.1 226 3).toNatClampNeg) ((((1 : Int32) <<< (a1 &&& 31)) ||| ((1 : Int32) <<< (a2 &&& 31))) ||| ((1 : Int32) <<< (a3 &&& 31)))).1 226 3).toNatClampNeg) a4).1 226 3).toNatClampNeg)) ^^^ ((1 : Int32) <<< (a3 &&& 31)))) 226 3 (((zsI (zsI (zsI g 228 ((g.1 226 3).toNatClampNeg) ((((1 : Int32) <<< (a1 &&& 31)) ||| ((1 : Int32) <<< (a2 &&& 31))) ||| ((1 : Int32) <<< (a3 &&& 31)))) 229 (((zsI g 228 ((g.1 226 3).toNatClampNeg) ((((1 : Int32) <<< (a1 &&& 31)) ||| ((1 : Int32) <<< (a2 &&& 31))) ||| ((1 : Int32) <<< (a3 &&& 31)))).1 226 3).toNatClampNeg) a4) 227 ((((zsI (zsI g 228 ((g.1 226 3).toNatClampNeg) ((((1 : Int32) <<< (a1 &&& 31)) ||| ((1 : Int32) <<< (a2 &&& 31))) ||| ((1 : Int32) <<< (a3 &&& 31)))) 229 (((zsI g 228 ((g.1 226 3).toNatClampNeg) ((((1 : Int32) <<< (a1 &&& 31)) ||| ((1 : Int32) <<< (a2 &&& 31))) ||| ((1 : Int32) <<< (a3 &&& 31)))).1 226 3).toNatClampNeg) a4).1 226 3) + 1).toNatClampNeg) (((zsI (zsI g 228 ((g.1 226 3).toNatClampNeg) ((((1 : Int32) <<< (a1 &&& 31)) ||| ((1 : Int32) <<< (a2 &&& 31))) ||| ((1 : Int32) <<< (a3 &&& 31)))) 229 (((zsI g 228 ((g.1 226 3).toNatClampNeg) ((((1 : Int32) <<< (a1 &&& 31)) ||| ((1 : Int32) <<< (a2 &&& 31))) ||| ((1 : Int32) <<< (a3 &&& 31)))).1 226 3).toNatClampNeg) a4).1 227 (((zsI (zsI g 228 ((g.1 226 3).toNatClampNeg) ((((1 : Int32) <<< (a1 &&& 31)) ||| ((1 : Int32) <<< (a2 &&& 31))) ||| ((1 : Int32) <<< (a3 &&& 31)))) 229 (((zsI g 228 ((g.1 226 3).toNatClampNeg) ((((1 : Int32) <<< (a1 &&& 31)) ||| ((1 : Int32) <<< (a2 &&& 31))) ||| ((1 : Int32) <<< (a3 &&& 31)))).1 226 3).toNatClampNeg) a4).1 226 3).toNatClampNeg)) ^^^ ((1 : Int32) <<< (a3 &&& 31)))).1 226 3) + 1))) none) none) none) none) := by rw [zev_eq]; rfl
set_option maxRecDepth 100000 in
theorem uX10_total_0 (g : zIJ) (b2 : Int64) : zev mX10_total 0 [.ref 230, .ref 211, .long b2] g = cond (decide (2 ≤ (g.1 211 7))) (cond (zin 0 9) (zev mX10_total 20 [.ref 230, .ref 211, .long b2, .int 1] (zsI g 231 ((0 : Int32).toNatClampNeg) 1)) none) (some (some (.int 0), g)) := by rw [zev_eq]; rfl
set_option maxRecDepth 100000 in
theorem uX10_total_20 (g : zIJ) (b2 : Int64) (a4 : Int32) : zev mX10_total 20 [.ref 230, .ref 211, .long b2, .int a4] g = cond (decide ((g.1 211 7) ≤ a4)) (cond (zin ((g.1 211 7) - 1) 9) (some (some (.int (g.1 231 (((g.1 211 7) - 1).toNatClampNeg))), g)) none) (cond (zin a4 9) (zev mX10_total 40 [.ref 230, .ref 211, .long b2, .int a4, .int 0] (zsI g 231 a4.toNatClampNeg 0)) none) := by rw [zev_eq]; rfl
set_option maxRecDepth 100000 in
theorem uX10_total_40 (g : zIJ) (b2 : Int64) (a4 : Int32) (a5 : Int32) : zev mX10_total 40 [.ref 230, .ref 211, .long b2, .int a4, .int a5] g = cond (decide (a4 ≤ a5)) (zev mX10_total 20 [.ref 230, .ref 211, .long b2, .int (a4 + 1)] g) (cond (zin a5 9) (cond (zin a4 9) (zaI (zev mX11_edgeOf 0 [.int (g.1 214 a5.toNatClampNeg), .int (g.1 214 a4.toNatClampNeg)] g) fun x2 g1 => zaI (zev mX11_holds 0 [.long b2, .int x2] g1) fun x4 g3 => cond (!decide (x4 = 0)) (zev mX10_total 40 [.ref 230, .ref 211, .long b2, .int a4, .int (a5 + 1)] g3) (cond (zin a4 9) (cond (zin a5 9) (cond (zin a4 9) (zev mX10_total 40 [.ref 230, .ref 211, .long b2, .int a4, .int (a5 + 1)] (zsI g3 231 a4.toNatClampNeg ((g3.1 231 a4.toNatClampNeg) + (g3.1 231 a5.toNatClampNeg)))) none) none) none)) none) none) := by rw [zev_eq]; rfl
end
section
/-! What each block of each method comes to (by program). -/
set_option maxRecDepth 100000 in
theorem uX11_place_0 (g : zIJ) (a1 : Int32) (a2 : Int32) : zev mX11_place 0 [.ref 3, .int a1, .int a2] g = zaI (zev mX11_isNear 0 [.int a1] g) fun x2 g1 => cond (decide (x2 = 0)) (zaI (zev mX11_finding 0 [.ref 3, .int 0] g1) fun x4 g3 => some (some (.int x4), g3)) (zaI (zev mX11_isNear 0 [.int a2] g1) fun x6 g5 => cond (!decide (x6 = 0)) (cond (decide ((g5.1 4 4) < 9)) (zaI (zev mX0_isFree 0 [.ref 4, .int a1, .int a2, .int (-1)] g5) fun x8 g7 => cond (!decide (x8 = 0)) (zaV (zev mX4_keep 0 [.ref 9, .ref 4] g7) fun g9 => zaV (zev mX0_addPoint 0 [.ref 4, .int a1, .int a2] g9) fun g10 => some (some (.int ((g10.1 4 4) - 1)), g10)) (zaI (zev mX11_finding 0 [.ref 3, .int 4] g7) fun x12 g11 => some (some (.int x12), g11))) (zaI (zev mX11_finding 0 [.ref 3, .int 1] g5) fun x14 g13 => some (some (.int x14), g13))) (zaI (zev mX11_finding 0 [.ref 3, .int 0] g5) fun x16 g15 => some (some (.int x16), g15))) := by rw [zev_eq]; rfl
set_option maxRecDepth 100000 in
theorem uX11_drop_0 (g : zIJ) : zev mX11_drop 0 [.ref 3] g = cond (!decide ((g.1 4 4) = 0)) (zaV (zev mX4_keep 0 [.ref 9, .ref 4] g) fun g1 => zaV (zev mX0_removeLastPoint 0 [.ref 4] g1) fun g2 => some (some (.int (g2.1 4 4)), g2)) (zaI (zev mX11_finding 0 [.ref 3, .int 3] g) fun x4 g3 => some (some (.int x4), g3)) := by rw [zev_eq]; rfl
set_option maxRecDepth 100000 in
theorem uX11_move_0 (g : zIJ) (a1 : Int32) (a2 : Int32) (a3 : Int32) : zev mX11_move 0 [.ref 3, .int a1, .int a2, .int a3] g = zaI (zev mX0_isPoint 0 [.ref 4, .int a1] g) fun x2 g1 => cond (decide (x2 = 0)) (zaI (zev mX11_finding 0 [.ref 3, .int 0] g1) fun x4 g3 => some (some (.int x4), g3)) (zaI (zev mX11_isNear 0 [.int a2] g1) fun x6 g5 => cond (decide (x6 = 0)) (zaI (zev mX11_finding 0 [.ref 3, .int 0] g5) fun x8 g7 => some (some (.int x8), g7)) (zaI (zev mX11_isNear 0 [.int a3] g5) fun x10 g9 => cond (!decide (x10 = 0)) (zaI (zev mX0_isFree 0 [.ref 4, .int a2, .int a3, .int a1] g9) fun x12 g11 => cond (decide (x12 = 0)) (zaI (zev mX11_finding 0 [.ref 3, .int 4] g11) fun x14 g13 => some (some (.int x14), g13)) (zaI (zev mX0_wouldCross 0 [.ref 4, .int a1, .int a2, .int a3] g11) fun x16 g15 => cond (decide (x16 = 0)) (zaV (zev mX4_keep 0 [.ref 9, .ref 4] g15) fun g17 => cond (zin a1 9) (cond (zin a1 9) (some (some (.int 1), zsI (zsI g17 5 a1.toNatClampNeg a2) 6 a1.toNatClampNeg a3)) none) none) (zaI (zev mX11_finding 0 [.ref 3, .int 4] g15) fun x19 g18 => some (some (.int x19), g18)))) (zaI (zev mX11_finding 0 [.ref 3, .int 0] g9) fun x21 g20 => some (some (.int x21), g20)))) := by rw [zev_eq]; rfl
set_option maxRecDepth 100000 in
theorem uX11_at_0 (g : zIJ) (a1 : Int32) (a2 : Int32) : zev mX11_at 0 [.ref 3, .int a1, .int a2] g = zaI (zev mX0_isPoint 0 [.ref 4, .int a1] g) fun x2 g1 => cond (decide (x2 = 0)) (zaI (zev mX11_finding 0 [.ref 3, .int 0] g1) fun x4 g3 => some (some (.int x4), g3)) (cond (decide (a2 < 0)) (zaI (zev mX11_finding 0 [.ref 3, .int 0] g1) fun x6 g5 => some (some (.int x6), g5)) (cond (decide (a2 ≤ 3)) (zaV (zev mX5_follow 0 [.ref 211, .ref 4] g1) fun g7 => cond (decide (a2.toInt = 0)) (cond (zin a1 9) (some (some (.int (g7.1 5 a1.toNatClampNeg)), g7)) none) (cond (decide (a2.toInt = 1)) (cond (zin a1 9) (some (some (.int (g7.1 6 a1.toNatClampNeg)), g7)) none) (cond (decide (a2.toInt = 2)) (cond (zin a1 9) (some (some (.int (g7.1 215 a1.toNatClampNeg)), g7)) none) (some (some (.int (((g7.1 211 9) >>> (a1 &&& 31)) &&& 1)), g7))))) (zaI (zev mX11_finding 0 [.ref 3, .int 0] g1) fun x9 g8 => some (some (.int x9), g8)))) := by rw [zev_eq]; rfl
set_option maxRecDepth 100000 in
theorem uX11_mark_0 (g : zIJ) (a1 : Int32) (a2 : Int32) (a3 : Int32) : zev mX11_mark 0 [.ref 3, .int a1, .int a2, .int a3] g = zaI (zev mX0_isPair 0 [.ref 4, .int a1, .int a2] g) fun x2 g1 => cond (decide (x2 = 0)) (zaI (zev mX11_finding 0 [.ref 3, .int 0] g1) fun x4 g3 => some (some (.int x4), g3)) (cond (decide (a3 < 0)) (zaI (zev mX11_finding 0 [.ref 3, .int 0] g1) fun x6 g5 => some (some (.int x6), g5)) (cond (decide (a3 ≤ 2)) (zaV (zev mX5_follow 0 [.ref 211, .ref 4] g1) fun g7 => zaI (zev mX11_edgeOf 0 [.int a1, .int a2] g7) fun x9 g8 => cond (!decide (a3 = 1)) (zev mX11_mark 79 [.ref 3, .int a3, .int x9] g8) (cond (zin x9 36) (cond (decide ((lg_cmp ((g8.2 217 x9.toNatClampNeg) &&& (g8.2 4 6)) 0) = 0)) (zev mX11_mark 79 [.ref 3, .int a3, .int x9] g8) (zaI (zev mX11_finding 0 [.ref 3, .int 4] g8) fun x11 g10 => some (some (.int x11), g10))) none)) (zaI (zev mX11_finding 0 [.ref 3, .int 0] g1) fun x13 g12 => some (some (.int x13), g12)))) := by rw [zev_eq]; rfl
set_option maxRecDepth 100000 in
theorem uX11_mark_79 (g : zIJ) (a3 : Int32) (a4 : Int32) : zev mX11_mark 79 [.ref 3, .int a3, .int a4] g = zaV (zev mX4_keep 0 [.ref 9, .ref 4] g) fun g1 => zaI (zev mX0_markAt 0 [.ref 4, .int a4] g1) fun x3 g2 => zaV (zev mX0_setMark 0 [.ref 4, .int a4, .int a3] g2) fun g4 => some (some (.int x3), g4) := by rw [zev_eq]; rfl
set_option maxRecDepth 100000 in
theorem uX11_markOf_0 (g : zIJ) (a1 : Int32) (a2 : Int32) : zev mX11_markOf 0 [.ref 3, .int a1, .int a2] g = zaI (zev mX0_isPair 0 [.ref 4, .int a1, .int a2] g) fun x2 g1 => cond (!decide (x2 = 0)) (zaI (zev mX11_edgeOf 0 [.int a1, .int a2] g1) fun x4 g3 => zaI (zev mX0_markAt 0 [.ref 4, .int x4] g3) fun x6 g5 => some (some (.int x6), g5)) (zaI (zev mX11_finding 0 [.ref 3, .int 0] g1) fun x8 g7 => some (some (.int x8), g7)) := by rw [zev_eq]; rfl
set_option maxRecDepth 100000 in
theorem uX11_turn_0 (g : zIJ) (a1 : Int32) (a2 : Int32) (a3 : Int32) : zev mX11_turn 0 [.ref 3, .int a1, .int a2, .int a3] g = zaI (zev mX0_isPair 0 [.ref 4, .int a1, .int a2] g) fun x2 g1 => cond (decide (x2 = 0)) (zaI (zev mX11_finding 0 [.ref 3, .int 0] g1) fun x4 g3 => some (some (.int x4), g3)) (zaI (zev mX0_isPair 0 [.ref 4, .int a2, .int a3] g1) fun x6 g5 => cond (decide (x6 = 0)) (zaI (zev mX11_finding 0 [.ref 3, .int 0] g5) fun x8 g7 => some (some (.int x8), g7)) (cond (!decide (a1 = a3)) (zaV (zev mX5_follow 0 [.ref 211, .ref 4] g5) fun g9 => zaI (zev mX5_isLeft 0 [.ref 211, .int a1, .int a2, .int a3] g9) fun x11 g10 => cond (decide (x11 = 0)) (some (some (.int (-1)), g10)) (some (some (.int 1), g10))) (zaI (zev mX11_finding 0 [.ref 3, .int 0] g5) fun x13 g12 => some (some (.int x13), g12)))) := by rw [zev_eq]; rfl
set_option maxRecDepth 100000 in
theorem uX11_crosses_0 (g : zIJ) (a1 : Int32) (a2 : Int32) (a3 : Int32) (a4 : Int32) : zev mX11_crosses 0 [.ref 3, .int a1, .int a2, .int a3, .int a4] g = zaI (zev mX0_isPair 0 [.ref 4, .int a1, .int a2] g) fun x2 g1 => cond (decide (x2 = 0)) (zaI (zev mX11_finding 0 [.ref 3, .int 0] g1) fun x4 g3 => some (some (.int x4), g3)) (zaI (zev mX0_isPair 0 [.ref 4, .int a3, .int a4] g1) fun x6 g5 => cond (!decide (x6 = 0)) (zaV (zev mX5_follow 0 [.ref 211, .ref 4] g5) fun g7 => zaI (zev mX11_edgeOf 0 [.int a1, .int a2] g7) fun x9 g8 => cond (zin x9 36) (zaI (zev mX11_edgeOf 0 [.int a3, .int a4] g8) fun x11 g10 => zaI (zev mX11_holds 0 [.long (g8.2 217 x9.toNatClampNeg), .int x11] g10) fun x13 g12 => cond (decide (x13 = 0)) (some (some (.int 0), g12)) (some (some (.int 1), g12))) none) (zaI (zev mX11_finding 0 [.ref 3, .int 0] g5) fun x15 g14 => some (some (.int x15), g14))) := by rw [zev_eq]; rfl
set_option maxRecDepth 100000 in
theorem uX11_hull_0 (g : zIJ) (a1 : Int32) : zev mX11_hull 0 [.ref 3, .int a1] g = zaV (zev mX5_follow 0 [.ref 211, .ref 4] g) fun g1 => cond (!decide (a1 = (-1))) (cond (decide (a1 < 0)) (zaI (zev mX11_finding 0 [.ref 3, .int 3] g1) fun x3 g2 => some (some (.int x3), g2)) (cond (decide (a1 < (g1.1 211 8))) (cond (zin a1 9) (some (some (.int (g1.1 216 a1.toNatClampNeg)), g1)) none) (zaI (zev mX11_finding 0 [.ref 3, .int 3] g1) fun x5 g4 => some (some (.int x5), g4)))) (some (some (.int (g1.1 211 8)), g1)) := by rw [zev_eq]; rfl
set_option maxRecDepth 100000 in
theorem uX11_nets_0 (g : zIJ) : zev mX11_nets 0 [.ref 3] g = zaV (zev mX11_followNets 0 [.ref 3] g) fun g1 => some (some (.int (g1.1 219 7)), g1) := by rw [zev_eq]; rfl
set_option maxRecDepth 100000 in
theorem uX11_net_0 (g : zIJ) (a1 : Int32) : zev mX11_net 0 [.ref 3, .int a1] g = zaI (zev mX11_isNet 0 [.ref 3, .int a1] g) fun x2 g1 => cond (!decide (x2 = 0)) (cond (zin a1 800) (some (some (.long (g1.2 222 a1.toNatClampNeg)), g1)) none) (zaL (zev mX11_longFinding 0 [.ref 3, .int 3] g1) fun x4 g3 => some (some (.long x4), g3)) := by rw [zev_eq]; rfl
set_option maxRecDepth 100000 in
theorem uX11_rank_0 (g : zIJ) (b1 : Int64) : zev mX11_rank 0 [.ref 3, .long b1] g = zaV (zev mX11_followNets 0 [.ref 3] g) fun g1 => zaI (zev mX3_find 0 [.ref 219, .long b1] g1) fun x3 g2 => cond (decide (0 ≤ x3)) (some (some (.int x3), g2)) (zaI (zev mX11_finding 0 [.ref 3, .int 3] g2) fun x5 g4 => some (some (.int x5), g4)) := by rw [zev_eq]; rfl
set_option maxRecDepth 100000 in
theorem uX11_with_0 (g : zIJ) (a1 : Int32) (a2 : Int32) : zev mX11_with 0 [.ref 3, .int a1, .int a2] g = zaI (zev mX0_isPair 0 [.ref 4, .int a1, .int a2] g) fun x2 g1 => cond (!decide (x2 = 0)) (zaV (zev mX11_followNets 0 [.ref 3] g1) fun g3 => zaI (zev mX11_edgeOf 0 [.int a1, .int a2] g3) fun x5 g4 => zaI (zev mX3_holding 0 [.ref 219, .int x5] g4) fun x7 g6 => some (some (.int x7), g6)) (zaI (zev mX11_finding 0 [.ref 3, .int 0] g1) fun x9 g8 => some (some (.int x9), g8)) := by rw [zev_eq]; rfl
set_option maxRecDepth 100000 in
theorem uX11_always_0 (g : zIJ) (a1 : Int32) : zev mX11_always 0 [.ref 3, .int a1] g = cond (decide (a1 < 0)) (zaL (zev mX11_longFinding 0 [.ref 3, .int 0] g) fun x2 g1 => some (some (.long x2), g1)) (cond (decide (a1 ≤ 1)) (zaV (zev mX11_followNets 0 [.ref 3] g) fun g3 => cond (!decide ((g3.1 219 7) = 0)) (cond (!decide (a1 = 0)) (zaL (zev mX3_inAny 0 [.ref 219] g3) fun x5 g4 => some (some (.long x5), g4)) (zaL (zev mX3_inAll 0 [.ref 219] g3) fun x7 g6 => some (some (.long x7), g6))) (zaL (zev mX11_longFinding 0 [.ref 3, .int 3] g3) fun x9 g8 => some (some (.long x9), g8))) (zaL (zev mX11_longFinding 0 [.ref 3, .int 0] g) fun x11 g10 => some (some (.long x11), g10))) := by rw [zev_eq]; rfl
set_option maxRecDepth 100000 in
theorem uX11_draw_0 (g : zIJ) : zev mX11_draw 0 [.ref 3] g = zaV (zev mX11_followNets 0 [.ref 3] g) fun g1 => cond (!decide ((g1.1 219 7) = 0)) (cond (!decide (g1.1 219 7 = 0)) (some (some (.int (((((zsI g1 3 12 (((g1.1 3 12) * 1103515245) + 12345)).1 3 12).toUInt32 >>> ((8 : Int32).toUInt32 &&& Int32.toUInt32 31)).toInt32) - ((((zsI g1 3 12 (((g1.1 3 12) * 1103515245) + 12345)).1 3 12).toUInt32 >>> ((8 : Int32).toUInt32 &&& Int32.toUInt32 31)).toInt32) / (g1.1 219 7) * (g1.1 219 7))), zsI g1 3 12 (((g1.1 3 12) * 1103515245) + 12345))) none) (zaI (zev mX11_finding 0 [.ref 3, .int 3] g1) fun x3 g2 => some (some (.int x3), g2)) := by rw [zev_eq]; rfl
set_option maxRecDepth 100000 in
theorem uX11_fan_0 (g : zIJ) (a1 : Int32) (a2 : Int32) : zev mX11_fan 0 [.ref 3, .int a1, .int a2] g = zaI (zev mX0_isPoint 0 [.ref 4, .int a2] g) fun x2 g1 => cond (!decide (x2 = 0)) (zaI (zev mX11_isNet 0 [.ref 3, .int a1] g1) fun x4 g3 => cond (!decide (x4 = 0)) (cond (zin a1 800) (zaL (zev mX11_edgesAt 0 [.int a2] g3) fun x6 g5 => zaI (zev mJ13_bitCount_95d88 0 [.long ((g3.2 222 a1.toNatClampNeg) &&& x6)] g5) fun x8 g7 => some (some (.int (x8 - (((g3.1 211 9) >>> (a2 &&& 31)) &&& 1))), g7)) none) (zaI (zev mX11_finding 0 [.ref 3, .int 3] g3) fun x10 g9 => some (some (.int x10), g9))) (zaI (zev mX11_finding 0 [.ref 3, .int 0] g1) fun x12 g11 => some (some (.int x12), g11)) := by rw [zev_eq]; rfl
set_option maxRecDepth 100000 in
theorem uX11_flips_0 (g : zIJ) (a1 : Int32) : zev mX11_flips 0 [.ref 3, .int a1] g = zaI (zev mX11_isNet 0 [.ref 3, .int a1] g) fun x2 g1 => cond (!decide (x2 = 0)) (zaL (zev mX3_flippable 0 [.ref 219, .int a1, .ref 211] g1) fun x4 g3 => some (some (.long x4), g3)) (zaL (zev mX11_longFinding 0 [.ref 3, .int 3] g1) fun x6 g5 => some (some (.long x6), g5)) := by rw [zev_eq]; rfl
set_option maxRecDepth 100000 in
theorem uX11_flip_0 (g : zIJ) (a1 : Int32) (a2 : Int32) (a3 : Int32) : zev mX11_flip 0 [.ref 3, .int a1, .int a2, .int a3] g = zaI (zev mX0_isPair 0 [.ref 4, .int a2, .int a3] g) fun x2 g1 => cond (!decide (x2 = 0)) (zaI (zev mX11_isNet 0 [.ref 3, .int a1] g1) fun x4 g3 => cond (!decide (x4 = 0)) (zaI (zev mX11_edgeOf 0 [.int a2, .int a3] g3) fun x6 g5 => zaI (zev mX3_flipped 0 [.ref 219, .int a1, .int x6, .ref 211] g5) fun x8 g7 => cond (decide (0 ≤ x8)) (some (some (.int x8), g7)) (zaI (zev mX11_finding 0 [.ref 3, .int 3] g7) fun x10 g9 => some (some (.int x10), g9))) (zaI (zev mX11_finding 0 [.ref 3, .int 3] g3) fun x12 g11 => some (some (.int x12), g11))) (zaI (zev mX11_finding 0 [.ref 3, .int 0] g1) fun x14 g13 => some (some (.int x14), g13)) := by rw [zev_eq]; rfl
set_option maxRecDepth 100000 in
theorem uX11_apart_0 (g : zIJ) (a1 : Int32) (a2 : Int32) : zev mX11_apart 0 [.ref 3, .int a1, .int a2] g = zaI (zev mX11_isNet 0 [.ref 3, .int a1] g) fun x2 g1 => cond (decide (x2 = 0)) (zaI (zev mX11_finding 0 [.ref 3, .int 3] g1) fun x4 g3 => some (some (.int x4), g3)) (zaI (zev mX11_isNet 0 [.ref 3, .int a2] g1) fun x6 g5 => cond (!decide (x6 = 0)) (zaI (zev mX1_fewest 0 [.ref 223, .int a1, .int a2, .ref 219, .ref 211] g5) fun x8 g7 => cond (decide (0 ≤ x8)) (some (some (.int x8), g7)) (zaI (zev mX11_finding 0 [.ref 3, .int 3] g7) fun x10 g9 => some (some (.int x10), g9))) (zaI (zev mX11_finding 0 [.ref 3, .int 3] g5) fun x12 g11 => some (some (.int x12), g11))) := by rw [zev_eq]; rfl
set_option maxRecDepth 100000 in
theorem uX11_path_0 (g : zIJ) (a1 : Int32) (a2 : Int32) : zev mX11_path 0 [.ref 3, .int a1, .int a2] g = zaI (zev mX11_isNet 0 [.ref 3, .int a1] g) fun x2 g1 => cond (!decide (x2 = 0)) (cond (zin a1 800) (zaV (zev mX9_follow 0 [.ref 226, .long (g1.2 222 a1.toNatClampNeg), .ref 211] g1) fun g3 => cond (decide (a2 < 0)) (zaI (zev mX11_finding 0 [.ref 3, .int 3] g3) fun x5 g4 => some (some (.int x5), g4)) (cond (decide (a2 ≤ (g3.1 226 3))) (cond (zin a2 14) (some (some (.int (g3.1 227 a2.toNatClampNeg)), g3)) none) (zaI (zev mX11_finding 0 [.ref 3, .int 3] g3) fun x7 g6 => some (some (.int x7), g6)))) none) (zaI (zev mX11_finding 0 [.ref 3, .int 3] g1) fun x9 g8 => some (some (.int x9), g8)) := by rw [zev_eq]; rfl
set_option maxRecDepth 100000 in
theorem uX11_advance_0 (g : zIJ) (a1 : Int32) (a2 : Int32) (a3 : Int32) : zev mX11_advance 0 [.ref 3, .int a1, .int a2, .int a3] g = cond (decide (a3 < 0)) (zaI (zev mX11_finding 0 [.ref 3, .int 0] g) fun x2 g1 => some (some (.int x2), g1)) (cond (decide (a3 ≤ 1)) (zaI (zev mX11_isNet 0 [.ref 3, .int a1] g) fun x4 g3 => cond (!decide (x4 = 0)) (cond (zin a1 800) (zaV (zev mX9_follow 0 [.ref 226, .long (g3.2 222 a1.toNatClampNeg), .ref 211] g3) fun g5 => cond (decide (a2 < 0)) (zaI (zev mX11_finding 0 [.ref 3, .int 3] g5) fun x7 g6 => some (some (.int x7), g6)) (cond (decide (a2 < (g5.1 226 3))) (cond (!decide (a3 = 0)) (cond (zin a2 13) (some (some (.int (g5.1 229 a2.toNatClampNeg)), g5)) none) (cond (zin a2 13) (some (some (.int (g5.1 228 a2.toNatClampNeg)), g5)) none)) (zaI (zev mX11_finding 0 [.ref 3, .int 3] g5) fun x9 g8 => some (some (.int x9), g8)))) none) (zaI (zev mX11_finding 0 [.ref 3, .int 3] g3) fun x11 g10 => some (some (.int x11), g10))) (zaI (zev mX11_finding 0 [.ref 3, .int 0] g) fun x13 g12 => some (some (.int x13), g12))) := by rw [zev_eq]; rfl
set_option maxRecDepth 100000 in
theorem uX11_ways_0 (g : zIJ) : zev mX11_ways 0 [.ref 3] g = zaV (zev mX5_follow 0 [.ref 211, .ref 4] g) fun g1 => zaI (zev mX10_total 0 [.ref 230, .ref 211, .long (g1.2 4 7)] g1) fun x3 g2 => some (some (.int x3), g2) := by rw [zev_eq]; rfl
set_option maxRecDepth 100000 in
theorem uX11_step_0 (g : zIJ) (a1 : Int32) (a2 : Int32) : zev mX11_step 0 [.ref 3, .int a1, .int a2] g = cond (decide (a1 < 0)) (zaI (zev mX11_finding 0 [.ref 3, .int 0] g) fun x2 g1 => some (some (.int x2), g1)) (cond (decide (6 < a1)) (zaI (zev mX11_finding 0 [.ref 3, .int 0] g) fun x4 g3 => some (some (.int x4), g3)) (zaI (zev mX11_isNear 0 [.int a2] g) fun x6 g5 => cond (!decide (x6 = 0)) (cond (decide ((g5.1 4 5) < 8)) (zaV (zev mX4_keep 0 [.ref 9, .ref 4] g5) fun g7 => zaV (zev mX0_addStep 0 [.ref 4, .int a1, .int a2] g7) fun g8 => some (some (.int (g8.1 4 5)), g8)) (zaI (zev mX11_finding 0 [.ref 3, .int 1] g5) fun x10 g9 => some (some (.int x10), g9))) (zaI (zev mX11_finding 0 [.ref 3, .int 0] g5) fun x12 g11 => some (some (.int x12), g11)))) := by rw [zev_eq]; rfl
set_option maxRecDepth 100000 in
theorem uX11_stepOf_0 (g : zIJ) (a1 : Int32) (a2 : Int32) : zev mX11_stepOf 0 [.ref 3, .int a1, .int a2] g = cond (decide (a1 < 0)) (zaI (zev mX11_finding 0 [.ref 3, .int 0] g) fun x2 g1 => some (some (.int x2), g1)) (cond (decide ((g.1 4 5) ≤ a1)) (zaI (zev mX11_finding 0 [.ref 3, .int 0] g) fun x4 g3 => some (some (.int x4), g3)) (cond (decide (a2 < 0)) (zaI (zev mX11_finding 0 [.ref 3, .int 0] g) fun x6 g5 => some (some (.int x6), g5)) (cond (decide (a2 ≤ 1)) (cond (!decide (a2 = 0)) (cond (zin a1 8) (some (some (.int (g.1 8 a1.toNatClampNeg)), g)) none) (cond (zin a1 8) (some (some (.int (g.1 7 a1.toNatClampNeg)), g)) none)) (zaI (zev mX11_finding 0 [.ref 3, .int 0] g) fun x8 g7 => some (some (.int x8), g7))))) := by rw [zev_eq]; rfl
set_option maxRecDepth 100000 in
theorem uX11_clear_0 (g : zIJ) : zev mX11_clear 0 [.ref 3] g = zaV (zev mX4_keep 0 [.ref 9, .ref 4] g) fun g1 => some (some (.int (g1.1 4 5)), zsI g1 4 5 0) := by rw [zev_eq]; rfl
set_option maxRecDepth 100000 in
theorem uX11_chain_0 (g : zIJ) (b1 : Int64) : zev mX11_chain 0 [.ref 3, .long b1] g = zaV (zev mX2_start 0 [.ref 232, .long b1] g) fun g1 => zaV (zev mX2_takeSteps 0 [.ref 232, .ref 4] g1) fun g2 => cond (decide ((g2.1 232 3) = 0)) (some (some (.long (g2.2 232 2)), g2)) (zaL (zev mX11_longFinding 0 [.ref 3, .int 7] g2) fun x4 g3 => some (some (.long x4), g3)) := by rw [zev_eq]; rfl
set_option maxRecDepth 100000 in
theorem uX11_ofEdge_0 (g : zIJ) (a1 : Int32) (a2 : Int32) (a3 : Int32) : zev mX11_ofEdge 0 [.ref 3, .int a1, .int a2, .int a3] g = zaI (zev mX0_isPair 0 [.ref 4, .int a1, .int a2] g) fun x2 g1 => cond (decide (x2 = 0)) (zaL (zev mX11_longFinding 0 [.ref 3, .int 0] g1) fun x4 g3 => some (some (.long x4), g3)) (zaI (zev mX11_isRule 0 [.int a3] g1) fun x6 g5 => cond (!decide (x6 = 0)) (zaI (zev mX11_edgeOf 0 [.int a1, .int a2] g5) fun x8 g7 => zaV (zev mX2_measureEdge 0 [.ref 232, .ref 4, .int x8, .int a3] g7) fun g9 => cond (decide ((g9.1 232 3) = 0)) (some (some (.long (g9.2 232 2)), g9)) (zaL (zev mX11_longFinding 0 [.ref 3, .int 7] g9) fun x11 g10 => some (some (.long x11), g10))) (zaL (zev mX11_longFinding 0 [.ref 3, .int 0] g5) fun x13 g12 => some (some (.long x13), g12))) := by rw [zev_eq]; rfl
set_option maxRecDepth 100000 in
theorem uX11_ofNet_0 (g : zIJ) (a1 : Int32) (a2 : Int32) (a3 : Int32) : zev mX11_ofNet 0 [.ref 3, .int a1, .int a2, .int a3] g = zaI (zev mX11_isRule 0 [.int a2] g) fun x2 g1 => cond (decide (x2 = 0)) (zaL (zev mX11_longFinding 0 [.ref 3, .int 0] g1) fun x4 g3 => some (some (.long x4), g3)) (zaI (zev mX11_isFold 0 [.int a3] g1) fun x6 g5 => cond (!decide (x6 = 0)) (zaI (zev mX11_isNet 0 [.ref 3, .int a1] g5) fun x8 g7 => cond (!decide (x8 = 0)) (zaV (zev mX2_measureEdges 0 [.ref 232, .ref 4, .int a2] g7) fun g9 => cond (zin a1 800) (zaV (zev mX2_measureNet 0 [.ref 232, .long (g9.2 222 a1.toNatClampNeg), .int a3] g9) fun g10 => cond (decide ((g10.1 232 3) = 0)) (some (some (.long (g10.2 232 2)), g10)) (zaL (zev mX11_longFinding 0 [.ref 3, .int 7] g10) fun x12 g11 => some (some (.long x12), g11))) none) (zaL (zev mX11_longFinding 0 [.ref 3, .int 3] g7) fun x14 g13 => some (some (.long x14), g13))) (zaL (zev mX11_longFinding 0 [.ref 3, .int 0] g5) fun x16 g15 => some (some (.long x16), g15))) := by rw [zev_eq]; rfl
set_option maxRecDepth 100000 in
theorem uX11_best_0 (g : zIJ) (a1 : Int32) (a2 : Int32) : zev mX11_best 0 [.ref 3, .int a1, .int a2] g = zaI (zev mX11_isRule 0 [.int a1] g) fun x2 g1 => cond (decide (x2 = 0)) (zaI (zev mX11_finding 0 [.ref 3, .int 0] g1) fun x4 g3 => some (some (.int x4), g3)) (zaI (zev mX11_isFold 0 [.int a2] g1) fun x6 g5 => cond (!decide (x6 = 0)) (zaV (zev mX11_followNets 0 [.ref 3] g5) fun g7 => cond (!decide ((g7.1 219 7) = 0)) (zaV (zev mX2_measureEdges 0 [.ref 232, .ref 4, .int a1] g7) fun g8 => zaI (zev mX2_leastOf 0 [.ref 232, .ref 219, .int a2] g8) fun x10 g9 => cond (decide (0 ≤ x10)) (some (some (.int x10), g9)) (zaI (zev mX11_finding 0 [.ref 3, .int 7] g9) fun x12 g11 => some (some (.int x12), g11))) (zaI (zev mX11_finding 0 [.ref 3, .int 3] g7) fun x14 g13 => some (some (.int x14), g13))) (zaI (zev mX11_finding 0 [.ref 3, .int 0] g5) fun x16 g15 => some (some (.int x16), g15))) := by rw [zev_eq]; rfl
set_option maxRecDepth 100000 in
theorem uX11_splits_0 (g : zIJ) (a1 : Int32) : zev mX11_splits 0 [.ref 3, .int a1] g = zaI (zev mX11_refusedPolygon 0 [.ref 3, .int a1] g) fun x2 g1 => cond (decide (0 ≤ x2)) (zaI (zev mX11_finding 0 [.ref 3, .int x2] g1) fun x4 g3 => some (some (.int x4), g3)) (zaI (zev mX6_splitCount 0 [.ref 234, .ref 211] g1) fun x6 g5 => some (some (.int x6), g5)) := by rw [zev_eq]; rfl
set_option maxRecDepth 100000 in
theorem uX11_area_0 (g : zIJ) (a1 : Int32) : zev mX11_area 0 [.ref 3, .int a1] g = zaI (zev mX11_refusedPolygon 0 [.ref 3, .int a1] g) fun x2 g1 => cond (decide (0 ≤ x2)) (zaI (zev mX11_finding 0 [.ref 3, .int x2] g1) fun x4 g3 => some (some (.int x4), g3)) (some (some (.int (g1.1 234 5)), g1)) := by rw [zev_eq]; rfl
set_option maxRecDepth 100000 in
theorem uX11_within_0 (g : zIJ) (a1 : Int32) : zev mX11_within 0 [.ref 3, .int a1] g = zaI (zev mX11_refusedPolygon 0 [.ref 3, .int a1] g) fun x2 g1 => cond (decide (0 ≤ x2)) (zaI (zev mX11_finding 0 [.ref 3, .int x2] g1) fun x4 g3 => some (some (.int x4), g3)) (zaI (zev mX6_pointsInside 0 [.ref 234, .ref 211] g1) fun x6 g5 => some (some (.int x6), g5)) := by rw [zev_eq]; rfl
set_option maxRecDepth 100000 in
theorem uX11_empty_0 (g : zIJ) (a1 : Int32) : zev mX11_empty 0 [.ref 3, .int a1] g = cond (decide (a1 < 3)) (zaI (zev mX11_finding 0 [.ref 3, .int 0] g) fun x2 g1 => some (some (.int x2), g1)) (cond (decide (a1 ≤ 6)) (zaV (zev mX5_follow 0 [.ref 211, .ref 4] g) fun g3 => zev mX11_empty 32 [.ref 3, .int a1, .int 0, .int 0] g3) (zaI (zev mX11_finding 0 [.ref 3, .int 0] g) fun x5 g4 => some (some (.int x5), g4))) := by rw [zev_eq]; rfl
set_option maxRecDepth 100000 in
theorem uX11_empty_32 (g : zIJ) (a1 : Int32) (a2 : Int32) (a3 : Int32) : zev mX11_empty 32 [.ref 3, .int a1, .int a2, .int a3] g = cond (decide (((1 : Int32) <<< ((g.1 211 7) &&& 31)) ≤ a3)) (some (some (.int a2), g)) (zaI (zev mJ6_bitCount_0f7a4 0 [.int a3] g) fun x2 g1 => cond (!decide (x2 = a1)) (zev mX11_empty 32 [.ref 3, .int a1, .int a2, .int (a3 + 1)] g1) (zaI (zev mX5_isHollow 0 [.ref 211, .int a3] g1) fun x4 g3 => cond (decide (x4 = 0)) (zev mX11_empty 32 [.ref 3, .int a1, .int a2, .int (a3 + 1)] g3) (zev mX11_empty 32 [.ref 3, .int a1, .int (a2 + 1), .int (a3 + 1)] g3))) := by rw [zev_eq]; rfl
set_option maxRecDepth 100000 in
theorem uX11_prove_0 (g : zIJ) (a1 : Int32) : zev mX11_prove 0 [.ref 3, .int a1] g = zaI (zev mX11_isNet 0 [.ref 3, .int a1] g) fun x2 g1 => cond (!decide (x2 = 0)) (cond (zin a1 800) (zaV (zev mX9_follow 0 [.ref 226, .long (g1.2 222 a1.toNatClampNeg), .ref 211] g1) fun g3 => zaV (zev mX7_take 0 [.ref 237, .ref 226] g3) fun g4 => some (some (.int (g4.1 237 2)), g4)) none) (zaI (zev mX11_finding 0 [.ref 3, .int 3] g1) fun x6 g5 => some (some (.int x6), g5)) := by rw [zev_eq]; rfl
set_option maxRecDepth 100000 in
theorem uX11_row_0 (g : zIJ) (a1 : Int32) (a2 : Int32) : zev mX11_row 0 [.ref 3, .int a1, .int a2] g = zaI (zev mX7_has 0 [.ref 237, .int a1, .int a2] g) fun x2 g1 => cond (!decide (x2 = 0)) (cond (!decide (a2 = 0)) (cond (zin a1 13) (some (some (.int (g1.1 239 a1.toNatClampNeg)), g1)) none) (cond (zin a1 13) (some (some (.int (g1.1 238 a1.toNatClampNeg)), g1)) none)) (zaI (zev mX11_finding 0 [.ref 3, .int 0] g1) fun x4 g3 => some (some (.int x4), g3)) := by rw [zev_eq]; rfl
set_option maxRecDepth 100000 in
theorem uX11_alter_0 (g : zIJ) (a1 : Int32) (a2 : Int32) (a3 : Int32) : zev mX11_alter 0 [.ref 3, .int a1, .int a2, .int a3] g = zaI (zev mX7_has 0 [.ref 237, .int a1, .int a2] g) fun x2 g1 => cond (!decide (x2 = 0)) (cond (!decide (a2 = 0)) (cond (zin a1 13) (cond (zin a1 13) (some (some (.int (g1.1 239 a1.toNatClampNeg)), zsI g1 239 a1.toNatClampNeg a3)) none) none) (cond (zin a1 13) (cond (zin a1 13) (some (some (.int (g1.1 238 a1.toNatClampNeg)), zsI g1 238 a1.toNatClampNeg a3)) none) none)) (zaI (zev mX11_finding 0 [.ref 3, .int 0] g1) fun x4 g3 => some (some (.int x4), g3)) := by rw [zev_eq]; rfl
set_option maxRecDepth 100000 in
theorem uX11_judge_0 (g : zIJ) (a1 : Int32) : zev mX11_judge 0 [.ref 3, .int a1] g = zaI (zev mX11_isNet 0 [.ref 3, .int a1] g) fun x2 g1 => cond (!decide (x2 = 0)) (cond (zin a1 800) (zaV (zev mX9_follow 0 [.ref 226, .long (g1.2 222 a1.toNatClampNeg), .ref 211] g1) fun g3 => zaI (zev mX7_firstUnlike 0 [.ref 237, .ref 226] g3) fun x5 g4 => some (some (.int (x5 + 1)), g4)) none) (zaI (zev mX11_finding 0 [.ref 3, .int 3] g1) fun x7 g6 => some (some (.int x7), g6)) := by rw [zev_eq]; rfl
set_option maxRecDepth 100000 in
theorem uX11_sheet_0 (g : zIJ) (a1 : Int32) (a2 : Int32) (a3 : Int32) : zev mX11_sheet 0 [.ref 3, .int a1, .int a2, .int a3] g = zaI (zev mX11_isSheet 0 [.int a1] g) fun x2 g1 => cond (decide (x2 = 0)) (zaI (zev mX11_finding 0 [.ref 3, .int 0] g1) fun x4 g3 => some (some (.int x4), g3)) (cond (decide (a2 < (-1))) (zaI (zev mX11_finding 0 [.ref 3, .int 0] g1) fun x6 g5 => some (some (.int x6), g5)) (cond (decide (a2 ≤ 2)) (cond (!decide (a2 = (-1))) (cond (decide (0 ≤ a3)) (cond (decide (a3 ≤ 40)) (cond (zin a1 4) (cond (Nat.beq (zC (242 + 2 * a1.toNatClampNeg)).1 8) (zaV (zev mX8_lay 0 [.ref (242 + 2 * a1.toNatClampNeg), .int a2, .int a3] g1) fun g7 => some (some (.int a3), g7)) none) none) (zaI (zev mX11_finding 0 [.ref 3, .int 0] g1) fun x9 g8 => some (some (.int x9), g8))) (zaI (zev mX11_finding 0 [.ref 3, .int 6] g1) fun x11 g10 => some (some (.int x11), g10))) (cond (zin a1 4) (cond (Nat.beq (zC (242 + 2 * a1.toNatClampNeg)).1 8) (zaV (zev mX8_lay 0 [.ref (242 + 2 * a1.toNatClampNeg), .int (-1), .int 0] g1) fun g12 => some (some (.int 0), g12)) none) none)) (zaI (zev mX11_finding 0 [.ref 3, .int 0] g1) fun x14 g13 => some (some (.int x14), g13)))) := by rw [zev_eq]; rfl
set_option maxRecDepth 100000 in
theorem uX11_write_0 (g : zIJ) (a1 : Int32) (a2 : Int32) (b3 : Int64) : zev mX11_write 0 [.ref 3, .int a1, .int a2, .long b3] g = zaI (zev mX11_refusedNumber 0 [.ref 3, .int a1, .int a2] g) fun x2 g1 => cond (decide (x2 < 0)) (cond (zin a1 4) (cond (Nat.beq (zC (242 + 2 * a1.toNatClampNeg)).1 8) (zaV (zev mX8_put 0 [.ref (242 + 2 * a1.toNatClampNeg), .int a2, .long b3] g1) fun g3 => some (some (.int 1), g3)) none) none) (zaI (zev mX11_finding 0 [.ref 3, .int x2] g1) fun x5 g4 => some (some (.int x5), g4)) := by rw [zev_eq]; rfl
set_option maxRecDepth 100000 in
theorem uX11_item_0 (g : zIJ) (a1 : Int32) (a2 : Int32) : zev mX11_item 0 [.ref 3, .int a1, .int a2] g = zaI (zev mX11_refusedNumber 0 [.ref 3, .int a1, .int a2] g) fun x2 g1 => cond (decide (0 ≤ x2)) (zaL (zev mX11_longFinding 0 [.ref 3, .int x2] g1) fun x4 g3 => some (some (.long x4), g3)) (cond (zin a1 4) (cond (Nat.beq (zC (242 + 2 * a1.toNatClampNeg)).1 8) (cond (Nat.beq (zC (zRf (242 + 2 * a1.toNatClampNeg) 0)).1 101 && zin a2 (zC (zRf (242 + 2 * a1.toNatClampNeg) 0)).2) (some (some (.long (g1.2 (zRf (242 + 2 * a1.toNatClampNeg) 0) a2.toNatClampNeg)), g1)) none) none) none) := by rw [zev_eq]; rfl
set_option maxRecDepth 100000 in
theorem uX11_copy_0 (g : zIJ) (a1 : Int32) (a2 : Int32) (a3 : Int32) (a4 : Int32) (a5 : Int32) : zev mX11_copy 0 [.ref 3, .int a1, .int a2, .int a3, .int a4, .int a5] g = zaI (zev mX11_isSheet 0 [.int a1] g) fun x2 g1 => cond (decide (x2 = 0)) (zaI (zev mX11_finding 0 [.ref 3, .int 0] g1) fun x4 g3 => some (some (.int x4), g3)) (zaI (zev mX11_isSheet 0 [.int a3] g1) fun x6 g5 => cond (!decide (x6 = 0)) (cond (zin a1 4) (cond (zin a3 4) (cond (Nat.beq (zC (242 + 2 * a1.toNatClampNeg)).1 8) (zaI (zev mX8_isMissing 0 [.ref (242 + 2 * a1.toNatClampNeg)] g5) fun x8 g7 => cond (!decide (x8 = 0)) (zaI (zev mX11_finding 0 [.ref 3, .int 5] g7) fun x10 g9 => some (some (.int x10), g9)) (cond (Nat.beq (zC (242 + 2 * a3.toNatClampNeg)).1 8) (zaI (zev mX8_isMissing 0 [.ref (242 + 2 * a3.toNatClampNeg)] g7) fun x12 g11 => cond (decide (x12 = 0)) (cond (Nat.beq (zC (242 + 2 * a1.toNatClampNeg)).1 8) (cond (Nat.beq (zC (242 + 2 * a3.toNatClampNeg)).1 8) (cond (decide ((g11.1 (242 + 2 * a1.toNatClampNeg) 1) = (g11.1 (242 + 2 * a3.toNatClampNeg) 1))) (cond (Nat.beq (zC (242 + 2 * a1.toNatClampNeg)).1 8) (zaI (zev mX8_hasRun 0 [.ref (242 + 2 * a1.toNatClampNeg), .int a2, .int a5] g11) fun x14 g13 => cond (decide (x14 = 0)) (zaI (zev mX11_finding 0 [.ref 3, .int 0] g13) fun x16 g15 => some (some (.int x16), g15)) (cond (Nat.beq (zC (242 + 2 * a3.toNatClampNeg)).1 8) (zaI (zev mX8_hasRun 0 [.ref (242 + 2 * a3.toNatClampNeg), .int a4, .int a5] g13) fun x18 g17 => cond (!decide (x18 = 0)) (cond (Nat.beq (zC (242 + 2 * a1.toNatClampNeg)).1 8) (cond (Nat.beq (zC (242 + 2 * a3.toNatClampNeg)).1 8) (cond (Nat.beq (zC (zRf (242 + 2 * a1.toNatClampNeg) 0)).1 101 && Nat.beq (zC (zRf (242 + 2 * a3.toNatClampNeg) 0)).1 101 && zcpG (zC (zRf (242 + 2 * a1.toNatClampNeg) 0)).2 (zC (zRf (242 + 2 * a3.toNatClampNeg) 0)).2 a2 a4 a5) (some (some (.int a5), zcpL g17 (zRf (242 + 2 * a1.toNatClampNeg) 0) a2.toNatClampNeg (zRf (242 + 2 * a3.toNatClampNeg) 0) a4.toNatClampNeg a5.toNatClampNeg)) none) none) none) (zaI (zev mX11_finding 0 [.ref 3, .int 0] g17) fun x20 g19 => some (some (.int x20), g19))) none)) none) (zaI (zev mX11_finding 0 [.ref 3, .int 2] g11) fun x22 g21 => some (some (.int x22), g21))) none) none) (zaI (zev mX11_finding 0 [.ref 3, .int 5] g11) fun x24 g23 => some (some (.int x24), g23))) none)) none) none) none) (zaI (zev mX11_finding 0 [.ref 3, .int 0] g5) fun x26 g25 => some (some (.int x26), g25))) := by rw [zev_eq]; rfl
set_option maxRecDepth 100000 in
theorem uX11_undo_0 (g : zIJ) : zev mX11_undo 0 [.ref 3] g = cond (!decide ((g.1 9 2) = 0)) (zaV (zev mX4_bringBack 0 [.ref 9, .ref 4] g) fun g1 => some (some (.int (g1.1 9 2)), g1)) (zaI (zev mX11_finding 0 [.ref 3, .int 3] g) fun x3 g2 => some (some (.int x3), g2)) := by rw [zev_eq]; rfl
set_option maxRecDepth 100000 in
theorem uX11_seed_0 (g : zIJ) (a1 : Int32) : zev mX11_seed 0 [.ref 3, .int a1] g = some (some (.int (g.1 3 12)), zsI g 3 12 a1) := by rw [zev_eq]; rfl
set_option maxRecDepth 100000 in
theorem uX11_count_0 (g : zIJ) (a1 : Int32) : zev mX11_count 0 [.ref 3, .int a1] g = cond (decide (a1.toInt = 0)) (some (some (.int (g.1 4 4)), g)) (cond (decide (a1.toInt = 1)) (some (some (.int (g.1 4 5)), g)) (cond (decide (a1.toInt = 2)) (some (some (.int (g.1 9 2)), g)) (cond (decide (a1.toInt = 3)) (some (some (.int (g.1 3 12)), g)) (cond (decide (a1.toInt = 4)) (some (some (.int (g.1 237 2)), g)) (cond (decide (a1.toInt = 5)) (zaI (zev mJ13_bitCount_95d88 0 [.long (g.2 4 6)] g) fun x6 g5 => some (some (.int x6), g5)) (cond (decide (a1.toInt = 6)) (zaI (zev mJ13_bitCount_95d88 0 [.long (g.2 4 7)] g) fun x4 g3 => some (some (.int x4), g3)) (zaI (zev mX11_finding 0 [.ref 3, .int 0] g) fun x2 g1 => some (some (.int x2), g1)))))))) := by rw [zev_eq]; rfl
set_option maxRecDepth 100000 in
theorem uX11_status_0 (g : zIJ) (a1 : Int32) : zev mX11_status 0 [.ref 3, .int a1] g = cond (decide (a1 < (-1))) (zaI (zev mX11_finding 0 [.ref 3, .int 0] g) fun x2 g1 => some (some (.int x2), g1)) (cond (decide (a1 < 8)) (cond (decide (a1 < 0)) (zev mX11_status 32 [.ref 3, .int 0, .int 0] g) (cond (zin a1 8) (some (some (.int (g.1 241 a1.toNatClampNeg)), g)) none)) (zaI (zev mX11_finding 0 [.ref 3, .int 0] g) fun x4 g3 => some (some (.int x4), g3))) := by rw [zev_eq]; rfl
set_option maxRecDepth 100000 in
theorem uX11_status_32 (g : zIJ) (a2 : Int32) (a3 : Int32) : zev mX11_status 32 [.ref 3, .int a2, .int a3] g = cond (decide (8 ≤ a3)) (some (some (.int a2), g)) (cond (zin a3 8) (zev mX11_status 32 [.ref 3, .int (a2 + (g.1 241 a3.toNatClampNeg)), .int (a3 + 1)] g) none) := by rw [zev_eq]; rfl
set_option maxRecDepth 100000 in
theorem uX11_finding_0 (g : zIJ) (a1 : Int32) : zev mX11_finding 0 [.ref 3, .int a1] g = cond (zin a1 8) (cond (zin a1 8) (some (some (.int ((-1000001) - a1)), zsI g 241 a1.toNatClampNeg ((g.1 241 a1.toNatClampNeg) + 1))) none) none := by rw [zev_eq]; rfl
set_option maxRecDepth 100000 in
theorem uX11_longFinding_0 (g : zIJ) (a1 : Int32) : zev mX11_longFinding 0 [.ref 3, .int a1] g = cond (zin a1 8) (cond (zin a1 8) (some (some (.long ((-1000000000000000001) - a1.toInt64)), zsI g 241 a1.toNatClampNeg ((g.1 241 a1.toNatClampNeg) + 1))) none) none := by rw [zev_eq]; rfl
set_option maxRecDepth 100000 in
theorem uX11_followNets_0 (g : zIJ) : zev mX11_followNets 0 [.ref 3] g = zaV (zev mX5_follow 0 [.ref 211, .ref 4] g) fun g1 => zaV (zev mX3_follow 0 [.ref 219, .ref 211, .ref 4] g1) fun g2 => some (none, g2) := by rw [zev_eq]; rfl
set_option maxRecDepth 100000 in
theorem uX11_isNet_0 (g : zIJ) (a1 : Int32) : zev mX11_isNet 0 [.ref 3, .int a1] g = zaV (zev mX5_follow 0 [.ref 211, .ref 4] g) fun g1 => zaV (zev mX3_follow 0 [.ref 219, .ref 211, .ref 4] g1) fun g2 => cond (decide (a1 < 0)) (some (some (.int 0), g2)) (cond (decide ((g2.1 219 7) ≤ a1)) (some (some (.int 0), g2)) (some (some (.int 1), g2))) := by rw [zev_eq]; rfl
set_option maxRecDepth 100000 in
theorem uX11_refusedNumber_0 (g : zIJ) (a1 : Int32) (a2 : Int32) : zev mX11_refusedNumber 0 [.ref 3, .int a1, .int a2] g = zaI (zev mX11_isSheet 0 [.int a1] g) fun x2 g1 => cond (!decide (x2 = 0)) (cond (zin a1 4) (cond (Nat.beq (zC (242 + 2 * a1.toNatClampNeg)).1 8) (zaI (zev mX8_isMissing 0 [.ref (242 + 2 * a1.toNatClampNeg)] g1) fun x4 g3 => cond (decide (x4 = 0)) (cond (decide (a2 < 0)) (some (some (.int 0), g3)) (cond (zin a1 4) (cond (Nat.beq (zC (242 + 2 * a1.toNatClampNeg)).1 8) (cond (decide (a2 < (g3.1 (242 + 2 * a1.toNatClampNeg) 2))) (some (some (.int (-1)), g3)) (some (some (.int 0), g3))) none) none)) (some (some (.int 5), g3))) none) none) (some (some (.int 0), g1)) := by rw [zev_eq]; rfl
set_option maxRecDepth 100000 in
theorem uX11_refusedPolygon_0 (g : zIJ) (a1 : Int32) : zev mX11_refusedPolygon 0 [.ref 3, .int a1] g = zaI (zev mX11_isSheet 0 [.int a1] g) fun x2 g1 => cond (!decide (x2 = 0)) (cond (zin a1 4) (cond (Nat.beq (zC (242 + 2 * a1.toNatClampNeg)).1 8) (zaI (zev mX8_isMissing 0 [.ref (242 + 2 * a1.toNatClampNeg)] g1) fun x4 g3 => cond (decide (x4 = 0)) (zaV (zev mX5_follow 0 [.ref 211, .ref 4] g3) fun g5 => cond (zin a1 4) (zaI (zev mX6_read 0 [.ref 234, .ref (242 + 2 * a1.toNatClampNeg), .ref 211] g5) fun x7 g6 => cond (decide (x7 = 0)) (some (some (.int 4), g6)) (some (some (.int (-1)), g6))) none) (some (some (.int 5), g3))) none) none) (some (some (.int 0), g1)) := by rw [zev_eq]; rfl
set_option maxRecDepth 100000 in
theorem uX11_isNear_0 (g : zIJ) (a0 : Int32) : zev mX11_isNear 0 [.int a0] g = cond (decide (a0 < (-99))) (some (some (.int 0), g)) (cond (decide (99 < a0)) (some (some (.int 0), g)) (some (some (.int 1), g))) := by rw [zev_eq]; rfl
set_option maxRecDepth 100000 in
theorem uX11_isRule_0 (g : zIJ) (a0 : Int32) : zev mX11_isRule 0 [.int a0] g = cond (decide (a0 < 0)) (some (some (.int 0), g)) (cond (decide (6 < a0)) (some (some (.int 0), g)) (some (some (.int 1), g))) := by rw [zev_eq]; rfl
set_option maxRecDepth 100000 in
theorem uX11_isFold_0 (g : zIJ) (a0 : Int32) : zev mX11_isFold 0 [.int a0] g = cond (decide (a0 < 0)) (some (some (.int 0), g)) (cond (decide (3 < a0)) (some (some (.int 0), g)) (some (some (.int 1), g))) := by rw [zev_eq]; rfl
set_option maxRecDepth 100000 in
theorem uX11_isSheet_0 (g : zIJ) (a0 : Int32) : zev mX11_isSheet 0 [.int a0] g = cond (decide (a0 < 0)) (some (some (.int 0), g)) (cond (decide (4 ≤ a0)) (some (some (.int 0), g)) (some (some (.int 1), g))) := by rw [zev_eq]; rfl
set_option maxRecDepth 100000 in
theorem uX11_holds_0 (g : zIJ) (b0 : Int64) (a2 : Int32) : zev mX11_holds 0 [.long b0, .int a2] g = cond (decide ((lg_cmp (((b0.toUInt64 >>> (a2.toInt64.toUInt64 &&& Int64.toUInt64 63)).toInt64) &&& 1) 0) = 0)) (some (some (.int 0), g)) (some (some (.int 1), g)) := by rw [zev_eq]; rfl
set_option maxRecDepth 100000 in
theorem uX11_edgeOf_0 (g : zIJ) (a0 : Int32) (a1 : Int32) : zev mX11_edgeOf 0 [.int a0, .int a1] g = some (some (.int ((((((zmnI a0 a1) * (17 - (zmnI a0 a1))) / 2) + (zmxI a0 a1)) - (zmnI a0 a1)) - 1)), g) := by rw [zev_eq]; rfl
set_option maxRecDepth 100000 in
theorem uX11_edgesAt_0 (g : zIJ) (a0 : Int32) : zev mX11_edgesAt 0 [.int a0] g = zev mX11_edgesAt 4 [.int a0, .long 0, .int 0] g := by rw [zev_eq]; rfl
set_option maxRecDepth 100000 in
theorem uX11_edgesAt_4 (g : zIJ) (a0 : Int32) (b1 : Int64) (a3 : Int32) : zev mX11_edgesAt 4 [.int a0, .long b1, .int a3] g = cond (decide (9 ≤ a3)) (some (some (.long b1), g)) (cond (decide (a3 = a0)) (zev mX11_edgesAt 4 [.int a0, .long b1, .int (a3 + 1)] g) (zaI (zev mX11_edgeOf 0 [.int a0, .int a3] g) fun x2 g1 => zev mX11_edgesAt 4 [.int a0, .long (b1 ||| ((1 : Int64) <<< (x2.toInt64 &&& 63))), .int (a3 + 1)] g1)) := by rw [zev_eq]; rfl
set_option maxRecDepth 100000 in
theorem uX11_side_0 (g : zIJ) (a0 : Int32) (a1 : Int32) (a2 : Int32) (a3 : Int32) (a4 : Int32) (a5 : Int32) : zev mX11_side 0 [.int a0, .int a1, .int a2, .int a3, .int a4, .int a5] g = some (some (.int (((a2 - a0) * (a5 - a1)) - ((a3 - a1) * (a4 - a0)))), g) := by rw [zev_eq]; rfl
end
section
/-! What each block of each method comes to (by program). -/
set_option maxRecDepth 100000 in
theorem uX12_finds_0 (g : zIJ) (a1 : Int32) : zev mX12_finds 0 [.ref 250, .int a1] g = cond (zin a1 8) (cond (zin a1 8) (some (some (.int ((-1000001) - a1)), zsI g 293 a1.toNatClampNeg ((g.1 293 a1.toNatClampNeg) + 1))) none) none := by rw [zev_eq]; rfl
set_option maxRecDepth 100000 in
theorem uX12_findsLong_0 (g : zIJ) (a1 : Int32) : zev mX12_findsLong 0 [.ref 250, .int a1] g = cond (zin a1 8) (cond (zin a1 8) (some (some (.long ((-1000000000000000001) - a1.toInt64)), zsI g 293 a1.toNatClampNeg ((g.1 293 a1.toNatClampNeg) + 1))) none) none := by rw [zev_eq]; rfl
set_option maxRecDepth 100000 in
theorem uX12_in_0 (g : zIJ) (b0 : Int64) (b2 : Int64) (b4 : Int64) : zev mX12_in 0 [.long b0, .long b2, .long b4] g = cond (decide ((lg_cmp b0 b2) < 0)) (some (some (.int 0), g)) (cond (decide (0 < (lg_cmp b0 b4))) (some (some (.int 0), g)) (some (some (.int 1), g))) := by rw [zev_eq]; rfl
set_option maxRecDepth 100000 in
theorem uX12_points_0 (g : zIJ) : zev mX12_points 0 [.ref 250] g = cond (zin 0 72) (some (some (.int (g.1 251 ((0 : Int32).toNatClampNeg))), g)) none := by rw [zev_eq]; rfl
set_option maxRecDepth 100000 in
theorem uX12_x_0 (g : zIJ) (a1 : Int32) : zev mX12_x 0 [.ref 250, .int a1] g = cond (zin (2 + (2 * a1)) 72) (some (some (.int (g.1 251 ((2 + (2 * a1)).toNatClampNeg))), g)) none := by rw [zev_eq]; rfl
set_option maxRecDepth 100000 in
theorem uX12_y_0 (g : zIJ) (a1 : Int32) : zev mX12_y 0 [.ref 250, .int a1] g = cond (zin ((2 + (2 * a1)) + 1) 72) (some (some (.int (g.1 251 (((2 + (2 * a1)) + 1).toNatClampNeg))), g)) none := by rw [zev_eq]; rfl
set_option maxRecDepth 100000 in
theorem uX12_isPoint_0 (g : zIJ) (b1 : Int64) : zev mX12_isPoint 0 [.ref 250, .long b1] g = zaI (zev mX12_points 0 [.ref 250] g) fun x2 g1 => zaI (zev mX12_in 0 [.long b1, .long 0, .long ((x2 - 1).toInt64)] g1) fun x4 g3 => cond (zbit x4) (some (some (.int x4), g3)) none := by rw [zev_eq]; rfl
set_option maxRecDepth 100000 in
theorem uX12_areTwo_0 (g : zIJ) (a1 : Int32) (a2 : Int32) : zev mX12_areTwo 0 [.ref 250, .int a1, .int a2] g = zaI (zev mX12_isPoint 0 [.ref 250, .long a1.toInt64] g) fun x2 g1 => cond (decide (x2 = 0)) (some (some (.int 0), g1)) (zaI (zev mX12_isPoint 0 [.ref 250, .long a2.toInt64] g1) fun x4 g3 => cond (decide (x4 = 0)) (some (some (.int 0), g3)) (cond (decide (a1 = a2)) (some (some (.int 0), g3)) (some (some (.int 1), g3)))) := by rw [zev_eq]; rfl
set_option maxRecDepth 100000 in
theorem uX12_side_0 (g : zIJ) (a0 : Int32) (a1 : Int32) (a2 : Int32) (a3 : Int32) (a4 : Int32) (a5 : Int32) : zev mX12_side 0 [.int a0, .int a1, .int a2, .int a3, .int a4, .int a5] g = some (some (.int (((a2 - a0) * (a5 - a1)) - ((a3 - a1) * (a4 - a0)))), g) := by rw [zev_eq]; rfl
set_option maxRecDepth 100000 in
theorem uX12_turnOf_0 (g : zIJ) (a1 : Int32) (a2 : Int32) (a3 : Int32) : zev mX12_turnOf 0 [.ref 250, .int a1, .int a2, .int a3] g = zaI (zev mX12_x 0 [.ref 250, .int a1] g) fun x2 g1 => zaI (zev mX12_y 0 [.ref 250, .int a1] g1) fun x4 g3 => zaI (zev mX12_x 0 [.ref 250, .int a2] g3) fun x6 g5 => zaI (zev mX12_y 0 [.ref 250, .int a2] g5) fun x8 g7 => zaI (zev mX12_x 0 [.ref 250, .int a3] g7) fun x10 g9 => zaI (zev mX12_y 0 [.ref 250, .int a3] g9) fun x12 g11 => zaI (zev mX12_side 0 [.int x2, .int x4, .int x6, .int x8, .int x10, .int x12] g11) fun x14 g13 => cond (decide (x14 ≤ 0)) (some (some (.int (-1)), g13)) (some (some (.int 1), g13)) := by rw [zev_eq]; rfl
set_option maxRecDepth 100000 in
theorem uX12_isAhead_0 (g : zIJ) (a1 : Int32) (a2 : Int32) : zev mX12_isAhead 0 [.ref 250, .int a1, .int a2] g = zaI (zev mX12_x 0 [.ref 250, .int a1] g) fun x2 g1 => zaI (zev mX12_x 0 [.ref 250, .int a2] g1) fun x4 g3 => cond (decide (x2 < x4)) (some (some (.int 1), g3)) (zaI (zev mX12_x 0 [.ref 250, .int a1] g3) fun x6 g5 => zaI (zev mX12_x 0 [.ref 250, .int a2] g5) fun x8 g7 => cond (!decide (x6 = x8)) (some (some (.int 0), g7)) (zaI (zev mX12_y 0 [.ref 250, .int a1] g7) fun x10 g9 => zaI (zev mX12_y 0 [.ref 250, .int a2] g9) fun x12 g11 => cond (decide (x12 ≤ x10)) (some (some (.int 0), g11)) (some (some (.int 1), g11)))) := by rw [zev_eq]; rfl
set_option maxRecDepth 100000 in
theorem uX12_isWithin_0 (g : zIJ) (a1 : Int32) (a2 : Int32) (a3 : Int32) (a4 : Int32) : zev mX12_isWithin 0 [.ref 250, .int a1, .int a2, .int a3, .int a4] g = cond (decide (a1 = a2)) (some (some (.int 0), g)) (cond (decide (a1 = a3)) (some (some (.int 0), g)) (cond (!decide (a1 = a4)) (zaI (zev mX12_turnOf 0 [.ref 250, .int a2, .int a3, .int a4] g) fun x2 g1 => zaI (zev mX12_turnOf 0 [.ref 250, .int a2, .int a3, .int a1] g1) fun x4 g3 => cond (!decide (x4 = x2)) (some (some (.int 0), g3)) (zaI (zev mX12_turnOf 0 [.ref 250, .int a3, .int a4, .int a1] g3) fun x6 g5 => cond (!decide (x6 = x2)) (some (some (.int 0), g5)) (zaI (zev mX12_turnOf 0 [.ref 250, .int a4, .int a2, .int a1] g5) fun x8 g7 => cond (!decide (x8 = x2)) (some (some (.int 0), g7)) (some (some (.int 1), g7))))) (some (some (.int 0), g)))) := by rw [zev_eq]; rfl
set_option maxRecDepth 100000 in
theorem uX12_edge_0 (g : zIJ) (a0 : Int32) (a1 : Int32) : zev mX12_edge 0 [.int a0, .int a1] g = some (some (.int ((((((zmnI a0 a1) * (17 - (zmnI a0 a1))) / 2) + (zmxI a0 a1)) - (zmnI a0 a1)) - 1)), g) := by rw [zev_eq]; rfl
set_option maxRecDepth 100000 in
theorem uX12_doCross_0 (g : zIJ) (a1 : Int32) (a2 : Int32) (a3 : Int32) (a4 : Int32) : zev mX12_doCross 0 [.ref 250, .int a1, .int a2, .int a3, .int a4] g = cond (decide (a1 = a3)) (some (some (.int 0), g)) (cond (decide (a1 = a4)) (some (some (.int 0), g)) (cond (decide (a2 = a3)) (some (some (.int 0), g)) (cond (!decide (a2 = a4)) (zaI (zev mX12_turnOf 0 [.ref 250, .int a1, .int a2, .int a3] g) fun x2 g1 => zaI (zev mX12_turnOf 0 [.ref 250, .int a1, .int a2, .int a4] g1) fun x4 g3 => cond (decide (x2 = x4)) (some (some (.int 0), g3)) (zaI (zev mX12_turnOf 0 [.ref 250, .int a3, .int a4, .int a1] g3) fun x6 g5 => zaI (zev mX12_turnOf 0 [.ref 250, .int a3, .int a4, .int a2] g5) fun x8 g7 => cond (decide (x6 = x8)) (some (some (.int 0), g7)) (some (some (.int 1), g7)))) (some (some (.int 0), g))))) := by rw [zev_eq]; rfl
set_option maxRecDepth 100000 in
theorem uX12_first_0 (g : zIJ) : zev mX12_first 0 [.ref 250] g = zev mX12_first 4 [.ref 250, .int 0, .int 1] g := by rw [zev_eq]; rfl
set_option maxRecDepth 100000 in
theorem uX12_first_4 (g : zIJ) (a1 : Int32) (a2 : Int32) : zev mX12_first 4 [.ref 250, .int a1, .int a2] g = zaI (zev mX12_points 0 [.ref 250] g) fun x2 g1 => cond (decide (x2 ≤ a2)) (some (some (.int a1), g1)) (zaI (zev mX12_isAhead 0 [.ref 250, .int a2, .int a1] g1) fun x4 g3 => cond (decide (x4 = 0)) (zev mX12_first 4 [.ref 250, .int a1, .int (a2 + 1)] g3) (zev mX12_first 4 [.ref 250, .int a2, .int (a2 + 1)] g3)) := by rw [zev_eq]; rfl
set_option maxRecDepth 100000 in
theorem uX12_last_0 (g : zIJ) : zev mX12_last 0 [.ref 250] g = zev mX12_last 4 [.ref 250, .int 0, .int 1] g := by rw [zev_eq]; rfl
set_option maxRecDepth 100000 in
theorem uX12_last_4 (g : zIJ) (a1 : Int32) (a2 : Int32) : zev mX12_last 4 [.ref 250, .int a1, .int a2] g = zaI (zev mX12_points 0 [.ref 250] g) fun x2 g1 => cond (decide (x2 ≤ a2)) (some (some (.int a1), g1)) (zaI (zev mX12_isAhead 0 [.ref 250, .int a1, .int a2] g1) fun x4 g3 => cond (decide (x4 = 0)) (zev mX12_last 4 [.ref 250, .int a1, .int (a2 + 1)] g3) (zev mX12_last 4 [.ref 250, .int a2, .int (a2 + 1)] g3)) := by rw [zev_eq]; rfl
set_option maxRecDepth 100000 in
theorem uX12_isOfHull_0 (g : zIJ) (a1 : Int32) : zev mX12_isOfHull 0 [.ref 250, .int a1] g = zev mX12_isOfHull 2 [.ref 250, .int a1, .int 0] g := by rw [zev_eq]; rfl
set_option maxRecDepth 100000 in
theorem uX12_isOfHull_2 (g : zIJ) (a1 : Int32) (a2 : Int32) : zev mX12_isOfHull 2 [.ref 250, .int a1, .int a2] g = zaI (zev mX12_points 0 [.ref 250] g) fun x2 g1 => cond (decide (x2 ≤ a2)) (some (some (.int 1), g1)) (zev mX12_isOfHull 14 [.ref 250, .int a1, .int a2, .int (a2 + 1)] g1) := by rw [zev_eq]; rfl
set_option maxRecDepth 100000 in
theorem uX12_isOfHull_14 (g : zIJ) (a1 : Int32) (a2 : Int32) (a3 : Int32) : zev mX12_isOfHull 14 [.ref 250, .int a1, .int a2, .int a3] g = zaI (zev mX12_points 0 [.ref 250] g) fun x2 g1 => cond (decide (x2 ≤ a3)) (zev mX12_isOfHull 2 [.ref 250, .int a1, .int (a2 + 1)] g1) (zev mX12_isOfHull 27 [.ref 250, .int a1, .int a2, .int a3, .int (a3 + 1)] g1) := by rw [zev_eq]; rfl
set_option maxRecDepth 100000 in
theorem uX12_isOfHull_27 (g : zIJ) (a1 : Int32) (a2 : Int32) (a3 : Int32) (a4 : Int32) : zev mX12_isOfHull 27 [.ref 250, .int a1, .int a2, .int a3, .int a4] g = zaI (zev mX12_points 0 [.ref 250] g) fun x2 g1 => cond (decide (x2 ≤ a4)) (zev mX12_isOfHull 14 [.ref 250, .int a1, .int a2, .int (a3 + 1)] g1) (zaI (zev mX12_isWithin 0 [.ref 250, .int a1, .int a2, .int a3, .int a4] g1) fun x4 g3 => cond (decide (x4 = 0)) (zev mX12_isOfHull 27 [.ref 250, .int a1, .int a2, .int a3, .int (a4 + 1)] g3) (some (some (.int 0), g3))) := by rw [zev_eq]; rfl
set_option maxRecDepth 100000 in
theorem uX12_behind_0 (g : zIJ) (a1 : Int32) : zev mX12_behind 0 [.ref 250, .int a1] g = zev mX12_behind 2 [.ref 250, .int a1, .int 0] g := by rw [zev_eq]; rfl
set_option maxRecDepth 100000 in
theorem uX12_behind_2 (g : zIJ) (a1 : Int32) (a2 : Int32) : zev mX12_behind 2 [.ref 250, .int a1, .int a2] g = zaI (zev mX12_points 0 [.ref 250] g) fun x2 g1 => cond (decide (x2 ≤ a2)) (some (some (.int a1), g1)) (cond (decide (a2 = a1)) (zev mX12_behind 24 [.ref 250, .int a1, .int a2, .int 0, .int 0] g1) (zev mX12_behind 24 [.ref 250, .int a1, .int a2, .int 1, .int 0] g1)) := by rw [zev_eq]; rfl
set_option maxRecDepth 100000 in
theorem uX12_behind_24 (g : zIJ) (a1 : Int32) (a2 : Int32) (a3 : Int32) (a4 : Int32) : zev mX12_behind 24 [.ref 250, .int a1, .int a2, .int a3, .int a4] g = zaI (zev mX12_points 0 [.ref 250] g) fun x2 g1 => cond (decide (x2 ≤ a4)) (zev mX12_behind 73 [.ref 250, .int a1, .int a2, .int a3] g1) (cond (decide (a3 = 0)) (zev mX12_behind 73 [.ref 250, .int a1, .int a2, .int a3] g1) (cond (decide (a4 = a1)) (zev mX12_behind 24 [.ref 250, .int a1, .int a2, .int 1, .int (a4 + 1)] g1) (cond (decide (a4 = a2)) (zev mX12_behind 24 [.ref 250, .int a1, .int a2, .int 1, .int (a4 + 1)] g1) (zaI (zev mX12_turnOf 0 [.ref 250, .int a1, .int a2, .int a4] g1) fun x4 g3 => cond (!decide (x4 = 1)) (zev mX12_behind 24 [.ref 250, .int a1, .int a2, .int 0, .int (a4 + 1)] g3) (zev mX12_behind 24 [.ref 250, .int a1, .int a2, .int 1, .int (a4 + 1)] g3))))) := by rw [zev_eq]; rfl
set_option maxRecDepth 100000 in
theorem uX12_behind_73 (g : zIJ) (a1 : Int32) (a2 : Int32) (a3 : Int32) : zev mX12_behind 73 [.ref 250, .int a1, .int a2, .int a3] g = cond (decide (a3 = 0)) (zev mX12_behind 2 [.ref 250, .int a1, .int (a2 + 1)] g) (zaI (zev mX12_points 0 [.ref 250] g) fun x2 g1 => cond (decide (2 < x2)) (some (some (.int a2), g1)) (cond (decide (a2 = a1)) (zev mX12_behind 2 [.ref 250, .int a1, .int (a2 + 1)] g1) (some (some (.int a2), g1)))) := by rw [zev_eq]; rfl
set_option maxRecDepth 100000 in
theorem uX12_findsHull_0 (g : zIJ) : zev mX12_findsHull 0 [.ref 250] g = zaI (zev mX12_points 0 [.ref 250] (zsI g 250 6 0)) fun x2 g1 => cond (!decide (x2 = 0)) (zaI (zev mX12_first 0 [.ref 250] g1) fun x4 g3 => zev mX12_findsHull 18 [.ref 250, .int x4] g3) (some (none, g1)) := by rw [zev_eq]; rfl
set_option maxRecDepth 100000 in
theorem uX12_findsHull_18 (g : zIJ) (a1 : Int32) : zev mX12_findsHull 18 [.ref 250, .int a1] g = cond (zin (g.1 250 6) 9) (zaI (zev mX12_behind 0 [.ref 250, .int a1] (zsI (zsI g 294 ((g.1 250 6).toNatClampNeg) a1) 250 6 (((zsI g 294 ((g.1 250 6).toNatClampNeg) a1).1 250 6) + 1))) fun x2 g1 => zaI (zev mX12_first 0 [.ref 250] g1) fun x4 g3 => cond (decide (x2 = x4)) (some (none, g3)) (zaI (zev mX12_points 0 [.ref 250] g3) fun x6 g5 => cond (decide ((g3.1 250 6) < x6)) (zev mX12_findsHull 18 [.ref 250, .int x2] g5) (some (none, g5)))) none := by rw [zev_eq]; rfl
set_option maxRecDepth 100000 in
theorem uX12_laysAside_0 (g : zIJ) : zev mX12_laysAside 0 [.ref 250] g = zev mX12_laysAside 2 [.ref 250, .int 0] g := by rw [zev_eq]; rfl
set_option maxRecDepth 100000 in
theorem uX12_laysAside_2 (g : zIJ) (a1 : Int32) : zev mX12_laysAside 2 [.ref 250, .int a1] g = cond (decide (72 ≤ a1)) (some (none, g)) (cond (zin a1 72) (cond (zin a1 72) (zev mX12_laysAside 2 [.ref 250, .int (a1 + 1)] (zsI g 295 a1.toNatClampNeg (g.1 251 a1.toNatClampNeg))) none) none) := by rw [zev_eq]; rfl
set_option maxRecDepth 100000 in
theorem uX12_laysBack_0 (g : zIJ) : zev mX12_laysBack 0 [.ref 250] g = zev mX12_laysBack 2 [.ref 250, .int 0] g := by rw [zev_eq]; rfl
set_option maxRecDepth 100000 in
theorem uX12_laysBack_2 (g : zIJ) (a1 : Int32) : zev mX12_laysBack 2 [.ref 250, .int a1] g = cond (decide (72 ≤ a1)) (some (none, g)) (cond (zin a1 72) (cond (zin a1 72) (zev mX12_laysBack 2 [.ref 250, .int (a1 + 1)] (zsI g 251 a1.toNatClampNeg (g.1 295 a1.toNatClampNeg))) none) none) := by rw [zev_eq]; rfl
set_option maxRecDepth 100000 in
theorem uX12_changes_0 (g : zIJ) : zev mX12_changes 0 [.ref 250] g = cond (!decide ((g.1 250 3) = 40)) (zev mX12_changes 50 [.ref 250, .int (((g.1 250 2) + (g.1 250 3)) - ((g.1 250 2) + (g.1 250 3)) / 40 * 40), .int 0] (zsI g 250 3 ((g.1 250 3) + 1))) (zev mX12_changes 50 [.ref 250, .int (((g.1 250 2) + (g.1 250 3)) - ((g.1 250 2) + (g.1 250 3)) / 40 * 40), .int 0] (zsI g 250 2 (((g.1 250 2) + 1) - ((g.1 250 2) + 1) / 40 * 40))) := by rw [zev_eq]; rfl
set_option maxRecDepth 100000 in
theorem uX12_changes_50 (g : zIJ) (a1 : Int32) (a2 : Int32) : zev mX12_changes 50 [.ref 250, .int a1, .int a2] g = cond (decide (72 ≤ a2)) (some (none, zsI g 250 15 0)) (cond (zin a1 40) (cond (zin a2 72) (cond (Nat.beq (zC (253 + a1.toNatClampNeg)).1 100 && zin a2 (zC (253 + a1.toNatClampNeg)).2) (zev mX12_changes 50 [.ref 250, .int a1, .int (a2 + 1)] (zsI g (253 + a1.toNatClampNeg) a2.toNatClampNeg (g.1 295 a2.toNatClampNeg))) none) none) none) := by rw [zev_eq]; rfl
set_option maxRecDepth 100000 in
theorem uX12_isFree_0 (g : zIJ) (a1 : Int32) : zev mX12_isFree 0 [.ref 250, .int a1] g = zev mX12_isFree 2 [.ref 250, .int a1, .int 0] g := by rw [zev_eq]; rfl
set_option maxRecDepth 100000 in
theorem uX12_isFree_2 (g : zIJ) (a1 : Int32) (a2 : Int32) : zev mX12_isFree 2 [.ref 250, .int a1, .int a2] g = zaI (zev mX12_points 0 [.ref 250] g) fun x2 g1 => cond (decide (x2 ≤ a2)) (some (some (.int 1), g1)) (cond (decide (a2 = a1)) (zev mX12_isFree 47 [.ref 250, .int a1, .int a2, .int (a2 + 1)] g1) (zaI (zev mX12_x 0 [.ref 250, .int a2] g1) fun x4 g3 => zaI (zev mX12_x 0 [.ref 250, .int a1] g3) fun x6 g5 => cond (!decide (x4 = x6)) (zev mX12_isFree 47 [.ref 250, .int a1, .int a2, .int (a2 + 1)] g5) (zaI (zev mX12_y 0 [.ref 250, .int a2] g5) fun x8 g7 => zaI (zev mX12_y 0 [.ref 250, .int a1] g7) fun x10 g9 => cond (!decide (x8 = x10)) (zev mX12_isFree 47 [.ref 250, .int a1, .int a2, .int (a2 + 1)] g9) (some (some (.int 0), g9))))) := by rw [zev_eq]; rfl
set_option maxRecDepth 100000 in
theorem uX12_isFree_47 (g : zIJ) (a1 : Int32) (a2 : Int32) (a3 : Int32) : zev mX12_isFree 47 [.ref 250, .int a1, .int a2, .int a3] g = zaI (zev mX12_points 0 [.ref 250] g) fun x2 g1 => cond (decide (x2 ≤ a3)) (zev mX12_isFree 2 [.ref 250, .int a1, .int (a2 + 1)] g1) (cond (decide (a2 = a1)) (zev mX12_isFree 47 [.ref 250, .int a1, .int a2, .int (a3 + 1)] g1) (cond (decide (a3 = a1)) (zev mX12_isFree 47 [.ref 250, .int a1, .int a2, .int (a3 + 1)] g1) (zaI (zev mX12_x 0 [.ref 250, .int a2] g1) fun x4 g3 => zaI (zev mX12_y 0 [.ref 250, .int a2] g3) fun x6 g5 => zaI (zev mX12_x 0 [.ref 250, .int a3] g5) fun x8 g7 => zaI (zev mX12_y 0 [.ref 250, .int a3] g7) fun x10 g9 => zaI (zev mX12_x 0 [.ref 250, .int a1] g9) fun x12 g11 => zaI (zev mX12_y 0 [.ref 250, .int a1] g11) fun x14 g13 => zaI (zev mX12_side 0 [.int x4, .int x6, .int x8, .int x10, .int x12, .int x14] g13) fun x16 g15 => cond (!decide (x16 = 0)) (zev mX12_isFree 47 [.ref 250, .int a1, .int a2, .int (a3 + 1)] g15) (some (some (.int 0), g15))))) := by rw [zev_eq]; rfl
set_option maxRecDepth 100000 in
theorem uX12_doMustsCross_0 (g : zIJ) : zev mX12_doMustsCross 0 [.ref 250] g = zev mX12_doMustsCross 2 [.ref 250, .int 0] g := by rw [zev_eq]; rfl
set_option maxRecDepth 100000 in
theorem uX12_doMustsCross_2 (g : zIJ) (a1 : Int32) : zev mX12_doMustsCross 2 [.ref 250, .int a1] g = zaI (zev mX12_points 0 [.ref 250] g) fun x2 g1 => cond (decide (x2 ≤ a1)) (some (some (.int 0), g1)) (zev mX12_doMustsCross 14 [.ref 250, .int a1, .int (a1 + 1)] g1) := by rw [zev_eq]; rfl
set_option maxRecDepth 100000 in
theorem uX12_doMustsCross_14 (g : zIJ) (a1 : Int32) (a2 : Int32) : zev mX12_doMustsCross 14 [.ref 250, .int a1, .int a2] g = zaI (zev mX12_points 0 [.ref 250] g) fun x2 g1 => cond (decide (x2 ≤ a2)) (zev mX12_doMustsCross 2 [.ref 250, .int (a1 + 1)] g1) (zev mX12_doMustsCross 24 [.ref 250, .int a1, .int a2, .int 0] g1) := by rw [zev_eq]; rfl
set_option maxRecDepth 100000 in
theorem uX12_doMustsCross_24 (g : zIJ) (a1 : Int32) (a2 : Int32) (a3 : Int32) : zev mX12_doMustsCross 24 [.ref 250, .int a1, .int a2, .int a3] g = zaI (zev mX12_points 0 [.ref 250] g) fun x2 g1 => cond (decide (x2 ≤ a3)) (zev mX12_doMustsCross 14 [.ref 250, .int a1, .int (a2 + 1)] g1) (zev mX12_doMustsCross 37 [.ref 250, .int a1, .int a2, .int a3, .int (a3 + 1)] g1) := by rw [zev_eq]; rfl
set_option maxRecDepth 100000 in
theorem uX12_doMustsCross_37 (g : zIJ) (a1 : Int32) (a2 : Int32) (a3 : Int32) (a4 : Int32) : zev mX12_doMustsCross 37 [.ref 250, .int a1, .int a2, .int a3, .int a4] g = zaI (zev mX12_points 0 [.ref 250] g) fun x2 g1 => cond (decide (x2 ≤ a4)) (zev mX12_doMustsCross 24 [.ref 250, .int a1, .int a2, .int (a3 + 1)] g1) (zaI (zev mX12_edge 0 [.int a1, .int a2] g1) fun x4 g3 => cond (zin (20 + x4) 72) (cond (!decide ((g3.1 251 ((20 + x4).toNatClampNeg)) = 1)) (zev mX12_doMustsCross 37 [.ref 250, .int a1, .int a2, .int a3, .int (a4 + 1)] g3) (zaI (zev mX12_edge 0 [.int a3, .int a4] g3) fun x6 g5 => cond (zin (20 + x6) 72) (cond (!decide ((g5.1 251 ((20 + x6).toNatClampNeg)) = 1)) (zev mX12_doMustsCross 37 [.ref 250, .int a1, .int a2, .int a3, .int (a4 + 1)] g5) (zaI (zev mX12_doCross 0 [.ref 250, .int a1, .int a2, .int a3, .int a4] g5) fun x8 g7 => cond (decide (x8 = 0)) (zev mX12_doMustsCross 37 [.ref 250, .int a1, .int a2, .int a3, .int (a4 + 1)] g7) (some (some (.int 1), g7)))) none)) none) := by rw [zev_eq]; rfl
set_option maxRecDepth 100000 in
theorem uX12_isPlace_0 (g : zIJ) (a0 : Int32) (a1 : Int32) : zev mX12_isPlace 0 [.int a0, .int a1] g = zaI (zev mX12_in 0 [.long a0.toInt64, .long (-99), .long 99] g) fun x2 g1 => cond (decide (x2 = 0)) (some (some (.int 0), g1)) (zaI (zev mX12_in 0 [.long a1.toInt64, .long (-99), .long 99] g1) fun x4 g3 => cond (decide (x4 = 0)) (some (some (.int 0), g3)) (some (some (.int 1), g3))) := by rw [zev_eq]; rfl
set_option maxRecDepth 100000 in
theorem uX12_place_0 (g : zIJ) (a1 : Int32) (a2 : Int32) : zev mX12_place 0 [.ref 250, .int a1, .int a2] g = zaI (zev mX12_isPlace 0 [.int a1, .int a2] g) fun x2 g1 => cond (!decide (x2 = 0)) (zaI (zev mX12_points 0 [.ref 250] g1) fun x4 g3 => cond (!decide (x4 = 9)) (zaV (zev mX12_laysAside 0 [.ref 250] g3) fun g5 => zaI (zev mX12_points 0 [.ref 250] g5) fun x7 g6 => cond (zin (2 + (2 * x7)) 72) (zaI (zev mX12_points 0 [.ref 250] (zsI g6 251 ((2 + (2 * x7)).toNatClampNeg) a1)) fun x9 g8 => cond (zin ((2 + (2 * x9)) + 1) 72) (cond (zin 0 72) (cond (zin 0 72) (zaI (zev mX12_points 0 [.ref 250] (zsI (zsI g8 251 (((2 + (2 * x9)) + 1).toNatClampNeg) a2) 251 ((0 : Int32).toNatClampNeg) (((zsI g8 251 (((2 + (2 * x9)) + 1).toNatClampNeg) a2).1 251 ((0 : Int32).toNatClampNeg)) + 1))) fun x11 g10 => zaI (zev mX12_isFree 0 [.ref 250, .int (x11 - 1)] g10) fun x13 g12 => cond (!decide (x13 = 0)) (zaV (zev mX12_changes 0 [.ref 250] g12) fun g14 => zaI (zev mX12_points 0 [.ref 250] g14) fun x16 g15 => some (some (.int (x16 - 1)), g15)) (zaV (zev mX12_laysBack 0 [.ref 250] g12) fun g17 => zaI (zev mX12_finds 0 [.ref 250, .int 4] g17) fun x19 g18 => some (some (.int x19), g18))) none) none) none) none) (zaI (zev mX12_finds 0 [.ref 250, .int 1] g3) fun x21 g20 => some (some (.int x21), g20))) (zaI (zev mX12_finds 0 [.ref 250, .int 0] g1) fun x23 g22 => some (some (.int x23), g22)) := by rw [zev_eq]; rfl
set_option maxRecDepth 100000 in
theorem uX12_drop_0 (g : zIJ) : zev mX12_drop 0 [.ref 250] g = zaI (zev mX12_points 0 [.ref 250] g) fun x2 g1 => cond (!decide (x2 = 0)) (zaV (zev mX12_laysAside 0 [.ref 250] g1) fun g3 => cond (zin 0 72) (cond (zin 0 72) (zev mX12_drop 29 [.ref 250, .int 0] (zsI g3 251 ((0 : Int32).toNatClampNeg) ((g3.1 251 ((0 : Int32).toNatClampNeg)) - 1))) none) none) (zaI (zev mX12_finds 0 [.ref 250, .int 3] g1) fun x5 g4 => some (some (.int x5), g4)) := by rw [zev_eq]; rfl
set_option maxRecDepth 100000 in
theorem uX12_drop_29 (g : zIJ) (a1 : Int32) : zev mX12_drop 29 [.ref 250, .int a1] g = zaI (zev mX12_points 0 [.ref 250] g) fun x2 g1 => cond (decide (x2 ≤ a1)) (zaV (zev mX12_changes 0 [.ref 250] g1) fun g3 => zaI (zev mX12_points 0 [.ref 250] g3) fun x5 g4 => some (some (.int x5), g4)) (zaI (zev mX12_points 0 [.ref 250] g1) fun x7 g6 => zaI (zev mX12_edge 0 [.int a1, .int x7] g6) fun x9 g8 => cond (zin (20 + x9) 72) (zev mX12_drop 29 [.ref 250, .int (a1 + 1)] (zsI g8 251 ((20 + x9).toNatClampNeg) 0)) none) := by rw [zev_eq]; rfl
set_option maxRecDepth 100000 in
theorem uX12_move_0 (g : zIJ) (a1 : Int32) (a2 : Int32) (a3 : Int32) : zev mX12_move 0 [.ref 250, .int a1, .int a2, .int a3] g = zaI (zev mX12_isPoint 0 [.ref 250, .long a1.toInt64] g) fun x2 g1 => cond (decide (x2 = 0)) (zaI (zev mX12_finds 0 [.ref 250, .int 0] g1) fun x4 g3 => some (some (.int x4), g3)) (zaI (zev mX12_isPlace 0 [.int a2, .int a3] g1) fun x6 g5 => cond (!decide (x6 = 0)) (zaV (zev mX12_laysAside 0 [.ref 250] g5) fun g7 => cond (zin (2 + (2 * a1)) 72) (cond (zin ((2 + (2 * a1)) + 1) 72) (zaI (zev mX12_isFree 0 [.ref 250, .int a1] (zsI (zsI g7 251 ((2 + (2 * a1)).toNatClampNeg) a2) 251 (((2 + (2 * a1)) + 1).toNatClampNeg) a3)) fun x9 g8 => cond (decide (x9 = 0)) (zaV (zev mX12_laysBack 0 [.ref 250] g8) fun g10 => zaI (zev mX12_finds 0 [.ref 250, .int 4] g10) fun x12 g11 => some (some (.int x12), g11)) (zaI (zev mX12_doMustsCross 0 [.ref 250] g8) fun x14 g13 => cond (decide (x14 = 0)) (zaV (zev mX12_changes 0 [.ref 250] g13) fun g15 => some (some (.int 1), g15)) (zaV (zev mX12_laysBack 0 [.ref 250] g13) fun g16 => zaI (zev mX12_finds 0 [.ref 250, .int 4] g16) fun x18 g17 => some (some (.int x18), g17)))) none) none) (zaI (zev mX12_finds 0 [.ref 250, .int 0] g5) fun x20 g19 => some (some (.int x20), g19))) := by rw [zev_eq]; rfl
set_option maxRecDepth 100000 in
theorem uX12_at_0 (g : zIJ) (a1 : Int32) (a2 : Int32) : zev mX12_at 0 [.ref 250, .int a1, .int a2] g = zaI (zev mX12_isPoint 0 [.ref 250, .long a1.toInt64] g) fun x2 g1 => cond (decide (x2 = 0)) (zaI (zev mX12_finds 0 [.ref 250, .int 0] g1) fun x4 g3 => some (some (.int x4), g3)) (zaI (zev mX12_in 0 [.long a2.toInt64, .long 0, .long 3] g1) fun x6 g5 => cond (!decide (x6 = 0)) (zev mX12_at 32 [.ref 250, .int a1, .int a2, .int 0, .int 0] g5) (zaI (zev mX12_finds 0 [.ref 250, .int 0] g5) fun x8 g7 => some (some (.int x8), g7))) := by rw [zev_eq]; rfl
set_option maxRecDepth 100000 in
theorem uX12_at_32 (g : zIJ) (a1 : Int32) (a2 : Int32) (a3 : Int32) (a4 : Int32) : zev mX12_at 32 [.ref 250, .int a1, .int a2, .int a3, .int a4] g = zaI (zev mX12_points 0 [.ref 250] g) fun x2 g1 => cond (decide (x2 ≤ a4)) (cond (!decide (a2 = 0)) (cond (!decide (a2 = 1)) (cond (!decide (a2 = 2)) (zaI (zev mX12_isOfHull 0 [.ref 250, .int a1] g1) fun x4 g3 => cond (decide (x4 = 0)) (some (some (.int 0), g3)) (some (some (.int 1), g3))) (some (some (.int a3), g1))) (zaI (zev mX12_y 0 [.ref 250, .int a1] g1) fun x6 g5 => some (some (.int x6), g5))) (zaI (zev mX12_x 0 [.ref 250, .int a1] g1) fun x8 g7 => some (some (.int x8), g7))) (cond (decide (a4 = a1)) (zev mX12_at 32 [.ref 250, .int a1, .int a2, .int (a3 + 0), .int (a4 + 1)] g1) (zaI (zev mX12_isAhead 0 [.ref 250, .int a4, .int a1] g1) fun x10 g9 => cond (decide (x10 = 0)) (zev mX12_at 32 [.ref 250, .int a1, .int a2, .int (a3 + 0), .int (a4 + 1)] g9) (zev mX12_at 32 [.ref 250, .int a1, .int a2, .int (a3 + 1), .int (a4 + 1)] g9))) := by rw [zev_eq]; rfl
set_option maxRecDepth 100000 in
theorem uX12_mark_0 (g : zIJ) (a1 : Int32) (a2 : Int32) (a3 : Int32) : zev mX12_mark 0 [.ref 250, .int a1, .int a2, .int a3] g = zaI (zev mX12_areTwo 0 [.ref 250, .int a1, .int a2] g) fun x2 g1 => cond (decide (x2 = 0)) (zaI (zev mX12_finds 0 [.ref 250, .int 0] g1) fun x4 g3 => some (some (.int x4), g3)) (zaI (zev mX12_in 0 [.long a3.toInt64, .long 0, .long 2] g1) fun x6 g5 => cond (!decide (x6 = 0)) (zaV (zev mX12_laysAside 0 [.ref 250] g5) fun g7 => zaI (zev mX12_edge 0 [.int a1, .int a2] g7) fun x9 g8 => cond (zin (20 + x9) 72) (zaI (zev mX12_edge 0 [.int a1, .int a2] g8) fun x11 g10 => cond (zin (20 + x11) 72) (cond (!decide (a3 = 1)) (zaV (zev mX12_changes 0 [.ref 250] (zsI g10 251 ((20 + x11).toNatClampNeg) a3)) fun g12 => some (some (.int (g8.1 251 ((20 + x9).toNatClampNeg))), g12)) (zaI (zev mX12_doMustsCross 0 [.ref 250] (zsI g10 251 ((20 + x11).toNatClampNeg) a3)) fun x14 g13 => cond (decide (x14 = 0)) (zaV (zev mX12_changes 0 [.ref 250] g13) fun g15 => some (some (.int (g8.1 251 ((20 + x9).toNatClampNeg))), g15)) (zaV (zev mX12_laysBack 0 [.ref 250] g13) fun g16 => zaI (zev mX12_finds 0 [.ref 250, .int 4] g16) fun x18 g17 => some (some (.int x18), g17)))) none) none) (zaI (zev mX12_finds 0 [.ref 250, .int 0] g5) fun x20 g19 => some (some (.int x20), g19))) := by rw [zev_eq]; rfl
set_option maxRecDepth 100000 in
theorem uX12_markOf_0 (g : zIJ) (a1 : Int32) (a2 : Int32) : zev mX12_markOf 0 [.ref 250, .int a1, .int a2] g = zaI (zev mX12_areTwo 0 [.ref 250, .int a1, .int a2] g) fun x2 g1 => cond (decide (x2 = 0)) (zaI (zev mX12_finds 0 [.ref 250, .int 0] g1) fun x4 g3 => some (some (.int x4), g3)) (zaI (zev mX12_edge 0 [.int a1, .int a2] g1) fun x6 g5 => cond (zin (20 + x6) 72) (some (some (.int (g5.1 251 ((20 + x6).toNatClampNeg))), g5)) none) := by rw [zev_eq]; rfl
set_option maxRecDepth 100000 in
theorem uX12_turn_0 (g : zIJ) (a1 : Int32) (a2 : Int32) (a3 : Int32) : zev mX12_turn 0 [.ref 250, .int a1, .int a2, .int a3] g = zaI (zev mX12_areTwo 0 [.ref 250, .int a1, .int a2] g) fun x2 g1 => cond (decide (x2 = 0)) (zaI (zev mX12_finds 0 [.ref 250, .int 0] g1) fun x4 g3 => some (some (.int x4), g3)) (zaI (zev mX12_areTwo 0 [.ref 250, .int a1, .int a3] g1) fun x6 g5 => cond (decide (x6 = 0)) (zaI (zev mX12_finds 0 [.ref 250, .int 0] g5) fun x8 g7 => some (some (.int x8), g7)) (cond (decide (a2 = a3)) (zaI (zev mX12_finds 0 [.ref 250, .int 0] g5) fun x10 g9 => some (some (.int x10), g9)) (zaI (zev mX12_turnOf 0 [.ref 250, .int a1, .int a2, .int a3] g5) fun x12 g11 => some (some (.int x12), g11)))) := by rw [zev_eq]; rfl
set_option maxRecDepth 100000 in
theorem uX12_crosses_0 (g : zIJ) (a1 : Int32) (a2 : Int32) (a3 : Int32) (a4 : Int32) : zev mX12_crosses 0 [.ref 250, .int a1, .int a2, .int a3, .int a4] g = zaI (zev mX12_areTwo 0 [.ref 250, .int a1, .int a2] g) fun x2 g1 => cond (decide (x2 = 0)) (zaI (zev mX12_finds 0 [.ref 250, .int 0] g1) fun x4 g3 => some (some (.int x4), g3)) (zaI (zev mX12_areTwo 0 [.ref 250, .int a3, .int a4] g1) fun x6 g5 => cond (!decide (x6 = 0)) (zaI (zev mX12_doCross 0 [.ref 250, .int a1, .int a2, .int a3, .int a4] g5) fun x8 g7 => cond (decide (x8 = 0)) (some (some (.int 0), g7)) (some (some (.int 1), g7))) (zaI (zev mX12_finds 0 [.ref 250, .int 0] g5) fun x10 g9 => some (some (.int x10), g9))) := by rw [zev_eq]; rfl
set_option maxRecDepth 100000 in
theorem uX12_hull_0 (g : zIJ) (a1 : Int32) : zev mX12_hull 0 [.ref 250, .int a1] g = zaV (zev mX12_findsHull 0 [.ref 250] g) fun g1 => cond (!decide (a1 = (-1))) (zaI (zev mX12_in 0 [.long a1.toInt64, .long 0, .long (((g1.1 250 6) - 1).toInt64)] g1) fun x3 g2 => cond (decide (x3 = 0)) (zaI (zev mX12_finds 0 [.ref 250, .int 3] g2) fun x5 g4 => some (some (.int x5), g4)) (cond (zin a1 9) (some (some (.int (g2.1 294 a1.toNatClampNeg)), g2)) none)) (some (some (.int (g1.1 250 6)), g1)) := by rw [zev_eq]; rfl
set_option maxRecDepth 100000 in
theorem uX12_has_0 (g : zIJ) (b0 : Int64) (a2 : Int32) : zev mX12_has 0 [.long b0, .int a2] g = cond (!decide ((lg_cmp ((b0 >>> (a2.toInt64 &&& 63)) &&& 1) 1) = 0)) (some (some (.int 0), g)) (some (some (.int 1), g)) := by rw [zev_eq]; rfl
set_option maxRecDepth 100000 in
theorem uX12_readsCrossings_0 (g : zIJ) : zev mX12_readsCrossings 0 [.ref 250] g = zev mX12_readsCrossings 2 [.ref 250, .int 0] g := by rw [zev_eq]; rfl
set_option maxRecDepth 100000 in
theorem uX12_readsCrossings_2 (g : zIJ) (a1 : Int32) : zev mX12_readsCrossings 2 [.ref 250, .int a1] g = zaI (zev mX12_points 0 [.ref 250] g) fun x2 g1 => cond (decide (x2 ≤ a1)) (some (none, g1)) (zev mX12_readsCrossings 14 [.ref 250, .int a1, .int (a1 + 1)] g1) := by rw [zev_eq]; rfl
set_option maxRecDepth 100000 in
theorem uX12_readsCrossings_14 (g : zIJ) (a1 : Int32) (a2 : Int32) : zev mX12_readsCrossings 14 [.ref 250, .int a1, .int a2] g = zaI (zev mX12_points 0 [.ref 250] g) fun x2 g1 => cond (decide (x2 ≤ a2)) (zev mX12_readsCrossings 2 [.ref 250, .int (a1 + 1)] g1) (zev mX12_readsCrossings 27 [.ref 250, .int a1, .int a2, .long 0, .int 0] g1) := by rw [zev_eq]; rfl
set_option maxRecDepth 100000 in
theorem uX12_readsCrossings_27 (g : zIJ) (a1 : Int32) (a2 : Int32) (b3 : Int64) (a5 : Int32) : zev mX12_readsCrossings 27 [.ref 250, .int a1, .int a2, .long b3, .int a5] g = zaI (zev mX12_points 0 [.ref 250] g) fun x2 g1 => cond (decide (x2 ≤ a5)) (zaI (zev mX12_edge 0 [.int a1, .int a2] g1) fun x4 g3 => cond (zin x4 36) (zev mX12_readsCrossings 14 [.ref 250, .int a1, .int (a2 + 1)] (zsL g3 296 x4.toNatClampNeg b3)) none) (zev mX12_readsCrossings 42 [.ref 250, .int a1, .int a2, .long b3, .int a5, .int (a5 + 1)] g1) := by rw [zev_eq]; rfl
set_option maxRecDepth 100000 in
theorem uX12_readsCrossings_42 (g : zIJ) (a1 : Int32) (a2 : Int32) (b3 : Int64) (a5 : Int32) (a6 : Int32) : zev mX12_readsCrossings 42 [.ref 250, .int a1, .int a2, .long b3, .int a5, .int a6] g = zaI (zev mX12_points 0 [.ref 250] g) fun x2 g1 => cond (decide (x2 ≤ a6)) (zev mX12_readsCrossings 27 [.ref 250, .int a1, .int a2, .long b3, .int (a5 + 1)] g1) (zaI (zev mX12_doCross 0 [.ref 250, .int a1, .int a2, .int a5, .int a6] g1) fun x4 g3 => cond (decide (x4 = 0)) (zev mX12_readsCrossings 42 [.ref 250, .int a1, .int a2, .long (b3 ||| 0), .int a5, .int (a6 + 1)] g3) (zaI (zev mX12_edge 0 [.int a5, .int a6] g3) fun x6 g5 => zev mX12_readsCrossings 42 [.ref 250, .int a1, .int a2, .long (b3 ||| ((1 : Int64) <<< (x6.toInt64 &&& 63))), .int a5, .int (a6 + 1)] g5)) := by rw [zev_eq]; rfl
set_option maxRecDepth 100000 in
theorem uX12_mayEnd_0 (g : zIJ) (b1 : Int64) (a3 : Int32) : zev mX12_mayEnd 0 [.ref 250, .long b1, .int a3] g = zev mX12_mayEnd 6 [.ref 250, .long b1, .int a3, .long 0, .int 0] g := by rw [zev_eq]; rfl
set_option maxRecDepth 100000 in
theorem uX12_mayEnd_6 (g : zIJ) (b1 : Int64) (a3 : Int32) (b4 : Int64) (a6 : Int32) : zev mX12_mayEnd 6 [.ref 250, .long b1, .int a3, .long b4, .int a6] g = cond (decide (a3 ≤ a6)) (zev mX12_mayEnd 69 [.ref 250, .long b1, .long b4, .int a3] g) (zaI (zev mX12_has 0 [.long ((g.2 250 10) &&& ((g.2 250 12) ^^^ (-1))), .int a6] g) fun x2 g1 => cond (decide (x2 = 0)) (zev mX12_mayEnd 6 [.ref 250, .long b1, .int a3, .long (b4 ||| 0), .int (a6 + 1)] g1) (cond (zin a6 36) (cond (!decide ((lg_cmp ((g1.2 296 a6.toNatClampNeg) &&& b1) 0) = 0)) (zev mX12_mayEnd 6 [.ref 250, .long b1, .int a3, .long (b4 ||| 0), .int (a6 + 1)] g1) (zev mX12_mayEnd 6 [.ref 250, .long b1, .int a3, .long (b4 ||| ((1 : Int64) <<< (a6.toInt64 &&& 63))), .int (a6 + 1)] g1)) none)) := by rw [zev_eq]; rfl
set_option maxRecDepth 100000 in
theorem uX12_mayEnd_69 (g : zIJ) (b1 : Int64) (b4 : Int64) (a6 : Int32) : zev mX12_mayEnd 69 [.ref 250, .long b1, .long b4, .int a6] g = cond (decide (36 ≤ a6)) (some (some (.int 1), g)) (zaI (zev mX12_has 0 [.long ((g.2 250 10) &&& (b1 ^^^ (-1))), .int a6] g) fun x2 g1 => cond (decide (x2 = 0)) (zev mX12_mayEnd 69 [.ref 250, .long b1, .long b4, .int (a6 + 1)] g1) (cond (zin a6 36) (cond (!decide ((lg_cmp ((g1.2 296 a6.toNatClampNeg) &&& (b1 ||| b4)) 0) = 0)) (zev mX12_mayEnd 69 [.ref 250, .long b1, .long b4, .int (a6 + 1)] g1) (some (some (.int 0), g1))) none)) := by rw [zev_eq]; rfl
set_option maxRecDepth 100000 in
theorem uX12_lists_0 (g : zIJ) (b1 : Int64) (a3 : Int32) : zev mX12_lists 0 [.ref 250, .long b1, .int a3] g = zaI (zev mX12_mayEnd 0 [.ref 250, .long b1, .int a3] g) fun x2 g1 => cond (!decide (x2 = 0)) (cond (!decide (a3 = 0)) (zaI (zev mX12_has 0 [.long (g1.2 250 10), .int (a3 - 1)] g1) fun x4 g3 => cond (!decide (x4 = 0)) (zaI (zev mX12_has 0 [.long (g3.2 250 11), .int (a3 - 1)] g3) fun x6 g5 => cond (!decide (x6 = 0)) (zaI (zev mX12_has 0 [.long (g5.2 250 12), .int (a3 - 1)] g5) fun x8 g7 => cond (!decide (x8 = 0)) (some (none, g7)) (cond (zin (a3 - 1) 36) (cond (!decide ((lg_cmp ((g7.2 296 ((a3 - 1).toNatClampNeg)) &&& b1) 0) = 0)) (some (none, g7)) (cond (Nat.blt ((a3 - 1).toNatClampNeg + 3) (a3.toNatClampNeg + 3)) (zaV (zev mX12_lists 0 [.ref 250, .long (b1 ||| ((1 : Int64) <<< ((a3 - 1).toInt64 &&& 63))), .int (a3 - 1)] g7) fun g9 => some (none, g9)) none)) none)) (cond (Nat.blt ((a3 - 1).toNatClampNeg + 3) (a3.toNatClampNeg + 3)) (zaV (zev mX12_lists 0 [.ref 250, .long b1, .int (a3 - 1)] g5) fun g10 => zaI (zev mX12_has 0 [.long (g10.2 250 12), .int (a3 - 1)] g10) fun x12 g11 => cond (!decide (x12 = 0)) (some (none, g11)) (cond (zin (a3 - 1) 36) (cond (!decide ((lg_cmp ((g11.2 296 ((a3 - 1).toNatClampNeg)) &&& b1) 0) = 0)) (some (none, g11)) (cond (Nat.blt ((a3 - 1).toNatClampNeg + 3) (a3.toNatClampNeg + 3)) (zaV (zev mX12_lists 0 [.ref 250, .long (b1 ||| ((1 : Int64) <<< ((a3 - 1).toInt64 &&& 63))), .int (a3 - 1)] g11) fun g13 => some (none, g13)) none)) none)) none)) (cond (Nat.blt ((a3 - 1).toNatClampNeg + 3) (a3.toNatClampNeg + 3)) (zaV (zev mX12_lists 0 [.ref 250, .long b1, .int (a3 - 1)] g3) fun g14 => some (none, g14)) none)) (cond (zin (g1.1 250 14) 5000) (some (none, zsI (zsL g1 297 ((g1.1 250 14).toNatClampNeg) b1) 250 14 (((zsL g1 297 ((g1.1 250 14).toNatClampNeg) b1).1 250 14) + 1))) none)) (some (none, g1)) := by rw [zev_eq]; rfl
set_option maxRecDepth 100000 in
theorem uX12_listsNets_0 (g : zIJ) : zev mX12_listsNets 0 [.ref 250] g = cond (decide ((g.1 250 15) = 0)) (zaI (zev mX12_points 0 [.ref 250] (zsI (zsI g 250 15 1) 250 14 0)) fun x2 g1 => cond (decide (3 ≤ x2)) (zaV (zev mX12_readsCrossings 0 [.ref 250] g1) fun g3 => zev mX12_listsNets 48 [.ref 250, .int 0] (zsL (zsL (zsL g3 250 10 0) 250 11 0) 250 12 0)) (some (none, g1))) (some (none, g)) := by rw [zev_eq]; rfl
set_option maxRecDepth 100000 in
theorem uX12_listsNets_48 (g : zIJ) (a1 : Int32) : zev mX12_listsNets 48 [.ref 250, .int a1] g = zaI (zev mX12_points 0 [.ref 250] g) fun x2 g1 => cond (decide (x2 ≤ a1)) (zaV (zev mX12_lists 0 [.ref 250, .long 0, .int 36] g1) fun g3 => some (none, g3)) (zev mX12_listsNets 60 [.ref 250, .int a1, .int (a1 + 1)] g1) := by rw [zev_eq]; rfl
set_option maxRecDepth 100000 in
theorem uX12_listsNets_60 (g : zIJ) (a1 : Int32) (a2 : Int32) : zev mX12_listsNets 60 [.ref 250, .int a1, .int a2] g = zaI (zev mX12_points 0 [.ref 250] g) fun x2 g1 => cond (decide (x2 ≤ a2)) (zev mX12_listsNets 48 [.ref 250, .int (a1 + 1)] g1) (zaI (zev mX12_edge 0 [.int a1, .int a2] g1) fun x4 g3 => zaI (zev mX12_edge 0 [.int a1, .int a2] (zsL g3 250 10 ((g1.2 250 10) ||| ((1 : Int64) <<< (x4.toInt64 &&& 63))))) fun x6 g5 => cond (zin (20 + x6) 72) (cond (!decide ((g5.1 251 ((20 + x6).toNatClampNeg)) = 1)) (zaI (zev mX12_edge 0 [.int a1, .int a2] (zsL g5 250 11 (((zsL g3 250 10 ((g1.2 250 10) ||| ((1 : Int64) <<< (x4.toInt64 &&& 63)))).2 250 11) ||| 0))) fun x8 g7 => cond (zin (20 + x8) 72) (cond (!decide ((g7.1 251 ((20 + x8).toNatClampNeg)) = 2)) (zev mX12_listsNets 60 [.ref 250, .int a1, .int (a2 + 1)] (zsL g7 250 12 (((zsL g5 250 11 (((zsL g3 250 10 ((g1.2 250 10) ||| ((1 : Int64) <<< (x4.toInt64 &&& 63)))).2 250 11) ||| 0)).2 250 12) ||| 0))) (zaI (zev mX12_edge 0 [.int a1, .int a2] g7) fun x10 g9 => zev mX12_listsNets 60 [.ref 250, .int a1, .int (a2 + 1)] (zsL g9 250 12 (((zsL g5 250 11 (((zsL g3 250 10 ((g1.2 250 10) ||| ((1 : Int64) <<< (x4.toInt64 &&& 63)))).2 250 11) ||| 0)).2 250 12) ||| ((1 : Int64) <<< (x10.toInt64 &&& 63)))))) none) (zaI (zev mX12_edge 0 [.int a1, .int a2] g5) fun x12 g11 => zaI (zev mX12_edge 0 [.int a1, .int a2] (zsL g11 250 11 (((zsL g3 250 10 ((g1.2 250 10) ||| ((1 : Int64) <<< (x4.toInt64 &&& 63)))).2 250 11) ||| ((1 : Int64) <<< (x12.toInt64 &&& 63))))) fun x14 g13 => cond (zin (20 + x14) 72) (cond (!decide ((g13.1 251 ((20 + x14).toNatClampNeg)) = 2)) (zev mX12_listsNets 60 [.ref 250, .int a1, .int (a2 + 1)] (zsL g13 250 12 (((zsL g11 250 11 (((zsL g3 250 10 ((g1.2 250 10) ||| ((1 : Int64) <<< (x4.toInt64 &&& 63)))).2 250 11) ||| ((1 : Int64) <<< (x12.toInt64 &&& 63)))).2 250 12) ||| 0))) (zaI (zev mX12_edge 0 [.int a1, .int a2] g13) fun x16 g15 => zev mX12_listsNets 60 [.ref 250, .int a1, .int (a2 + 1)] (zsL g15 250 12 (((zsL g11 250 11 (((zsL g3 250 10 ((g1.2 250 10) ||| ((1 : Int64) <<< (x4.toInt64 &&& 63)))).2 250 11) ||| ((1 : Int64) <<< (x12.toInt64 &&& 63)))).2 250 12) ||| ((1 : Int64) <<< (x16.toInt64 &&& 63)))))) none)) none) := by rw [zev_eq]; rfl
set_option maxRecDepth 100000 in
theorem uX12_numberOf_0 (g : zIJ) (b1 : Int64) : zev mX12_numberOf 0 [.ref 250, .long b1] g = zev mX12_numberOf 10 [.ref 250, .long b1, .int 0, .int ((g.1 250 14) - 1)] g := by rw [zev_eq]; rfl
set_option maxRecDepth 100000 in
theorem uX12_numberOf_10 (g : zIJ) (b1 : Int64) (a3 : Int32) (a4 : Int32) : zev mX12_numberOf 10 [.ref 250, .long b1, .int a3, .int a4] g = cond (decide (a4 ≤ a3)) (cond (decide ((g.1 250 14) ≤ 0)) (some (some (.int (-1)), g)) (cond (zin a3 5000) (cond (!decide ((lg_cmp (g.2 297 a3.toNatClampNeg) b1) = 0)) (some (some (.int (-1)), g)) (some (some (.int a3), g))) none)) (cond (zin ((a3 + a4) / 2) 5000) (cond (decide (0 ≤ (lg_cmp (g.2 297 (((a3 + a4) / 2).toNatClampNeg)) b1))) (zev mX12_numberOf 10 [.ref 250, .long b1, .int a3, .int ((a3 + a4) / 2)] g) (zev mX12_numberOf 10 [.ref 250, .long b1, .int (((a3 + a4) / 2) + 1), .int a4] g)) none) := by rw [zev_eq]; rfl
set_option maxRecDepth 100000 in
theorem uX12_isNet_0 (g : zIJ) (a1 : Int32) : zev mX12_isNet 0 [.ref 250, .int a1] g = zaV (zev mX12_listsNets 0 [.ref 250] g) fun g1 => zaI (zev mX12_in 0 [.long a1.toInt64, .long 0, .long (((g1.1 250 14) - 1).toInt64)] g1) fun x3 g2 => cond (zbit x3) (some (some (.int x3), g2)) none := by rw [zev_eq]; rfl
set_option maxRecDepth 100000 in
theorem uX12_nets_0 (g : zIJ) : zev mX12_nets 0 [.ref 250] g = zaV (zev mX12_listsNets 0 [.ref 250] g) fun g1 => some (some (.int (g1.1 250 14)), g1) := by rw [zev_eq]; rfl
set_option maxRecDepth 100000 in
theorem uX12_net_0 (g : zIJ) (a1 : Int32) : zev mX12_net 0 [.ref 250, .int a1] g = zaI (zev mX12_isNet 0 [.ref 250, .int a1] g) fun x2 g1 => cond (decide (x2 = 0)) (zaL (zev mX12_findsLong 0 [.ref 250, .int 3] g1) fun x4 g3 => some (some (.long x4), g3)) (cond (zin a1 5000) (some (some (.long (g1.2 297 a1.toNatClampNeg)), g1)) none) := by rw [zev_eq]; rfl
set_option maxRecDepth 100000 in
theorem uX12_rank_0 (g : zIJ) (b1 : Int64) : zev mX12_rank 0 [.ref 250, .long b1] g = zaV (zev mX12_listsNets 0 [.ref 250] g) fun g1 => zaI (zev mX12_numberOf 0 [.ref 250, .long b1] g1) fun x3 g2 => cond (decide (0 ≤ x3)) (some (some (.int x3), g2)) (zaI (zev mX12_finds 0 [.ref 250, .int 3] g2) fun x5 g4 => some (some (.int x5), g4)) := by rw [zev_eq]; rfl
set_option maxRecDepth 100000 in
theorem uX12_with_0 (g : zIJ) (a1 : Int32) (a2 : Int32) : zev mX12_with 0 [.ref 250, .int a1, .int a2] g = zaI (zev mX12_areTwo 0 [.ref 250, .int a1, .int a2] g) fun x2 g1 => cond (!decide (x2 = 0)) (zaV (zev mX12_listsNets 0 [.ref 250] g1) fun g3 => zev mX12_with 24 [.ref 250, .int a1, .int a2, .int 0, .int 0] g3) (zaI (zev mX12_finds 0 [.ref 250, .int 0] g1) fun x5 g4 => some (some (.int x5), g4)) := by rw [zev_eq]; rfl
set_option maxRecDepth 100000 in
theorem uX12_with_24 (g : zIJ) (a1 : Int32) (a2 : Int32) (a3 : Int32) (a4 : Int32) : zev mX12_with 24 [.ref 250, .int a1, .int a2, .int a3, .int a4] g = cond (decide ((g.1 250 14) ≤ a4)) (some (some (.int a3), g)) (cond (zin a4 5000) (zaI (zev mX12_edge 0 [.int a1, .int a2] g) fun x2 g1 => zaI (zev mX12_has 0 [.long (g.2 297 a4.toNatClampNeg), .int x2] g1) fun x4 g3 => cond (decide (x4 = 0)) (zev mX12_with 24 [.ref 250, .int a1, .int a2, .int (a3 + 0), .int (a4 + 1)] g3) (zev mX12_with 24 [.ref 250, .int a1, .int a2, .int (a3 + 1), .int (a4 + 1)] g3)) none) := by rw [zev_eq]; rfl
set_option maxRecDepth 100000 in
theorem uX12_always_0 (g : zIJ) (a1 : Int32) : zev mX12_always 0 [.ref 250, .int a1] g = zaI (zev mX12_in 0 [.long a1.toInt64, .long 0, .long 1] g) fun x2 g1 => cond (!decide (x2 = 0)) (zaV (zev mX12_listsNets 0 [.ref 250] g1) fun g3 => cond (!decide ((g3.1 250 14) = 0)) (cond (zin 0 5000) (zev mX12_always 43 [.ref 250, .int a1, .long (g3.2 297 ((0 : Int32).toNatClampNeg)), .int 1] g3) none) (zaL (zev mX12_findsLong 0 [.ref 250, .int 3] g3) fun x5 g4 => some (some (.long x5), g4))) (zaL (zev mX12_findsLong 0 [.ref 250, .int 0] g1) fun x7 g6 => some (some (.long x7), g6)) := by rw [zev_eq]; rfl
set_option maxRecDepth 100000 in
theorem uX12_always_43 (g : zIJ) (a1 : Int32) (b2 : Int64) (a4 : Int32) : zev mX12_always 43 [.ref 250, .int a1, .long b2, .int a4] g = cond (decide ((g.1 250 14) ≤ a4)) (some (some (.long b2), g)) (cond (!decide (a1 = 0)) (cond (zin a4 5000) (zev mX12_always 43 [.ref 250, .int a1, .long (b2 ||| (g.2 297 a4.toNatClampNeg)), .int (a4 + 1)] g) none) (cond (zin a4 5000) (zev mX12_always 43 [.ref 250, .int a1, .long (b2 &&& (g.2 297 a4.toNatClampNeg)), .int (a4 + 1)] g) none)) := by rw [zev_eq]; rfl
set_option maxRecDepth 100000 in
theorem uX12_drawn_0 (g : zIJ) : zev mX12_drawn 0 [.ref 250] g = some (some (.int ((((zsI g 250 4 (((g.1 250 4) * 1103515245) + 12345)).1 250 4).toUInt32 >>> ((8 : Int32).toUInt32 &&& Int32.toUInt32 31)).toInt32)), zsI g 250 4 (((g.1 250 4) * 1103515245) + 12345)) := by rw [zev_eq]; rfl
set_option maxRecDepth 100000 in
theorem uX12_draw_0 (g : zIJ) : zev mX12_draw 0 [.ref 250] g = zaV (zev mX12_listsNets 0 [.ref 250] g) fun g1 => cond (!decide ((g1.1 250 14) = 0)) (zaI (zev mX12_drawn 0 [.ref 250] g1) fun x3 g2 => cond (!decide (g2.1 250 14 = 0)) (some (some (.int (x3 - x3 / (g2.1 250 14) * (g2.1 250 14))), g2)) none) (zaI (zev mX12_finds 0 [.ref 250, .int 3] g1) fun x5 g4 => some (some (.int x5), g4)) := by rw [zev_eq]; rfl
set_option maxRecDepth 100000 in
theorem uX12_isTriangle_0 (g : zIJ) (b1 : Int64) (a3 : Int32) (a4 : Int32) (a5 : Int32) : zev mX12_isTriangle 0 [.ref 250, .long b1, .int a3, .int a4, .int a5] g = zaI (zev mX12_edge 0 [.int a3, .int a4] g) fun x2 g1 => zaI (zev mX12_has 0 [.long b1, .int x2] g1) fun x4 g3 => cond (decide (x4 = 0)) (some (some (.int 0), g3)) (zaI (zev mX12_edge 0 [.int a3, .int a5] g3) fun x6 g5 => zaI (zev mX12_has 0 [.long b1, .int x6] g5) fun x8 g7 => cond (decide (x8 = 0)) (some (some (.int 0), g7)) (zaI (zev mX12_edge 0 [.int a4, .int a5] g7) fun x10 g9 => zaI (zev mX12_has 0 [.long b1, .int x10] g9) fun x12 g11 => cond (!decide (x12 = 0)) (zev mX12_isTriangle 45 [.ref 250, .int a3, .int a4, .int a5, .int 0] g11) (some (some (.int 0), g11)))) := by rw [zev_eq]; rfl
set_option maxRecDepth 100000 in
theorem uX12_isTriangle_45 (g : zIJ) (a3 : Int32) (a4 : Int32) (a5 : Int32) (a6 : Int32) : zev mX12_isTriangle 45 [.ref 250, .int a3, .int a4, .int a5, .int a6] g = zaI (zev mX12_points 0 [.ref 250] g) fun x2 g1 => cond (decide (x2 ≤ a6)) (some (some (.int 1), g1)) (zaI (zev mX12_isWithin 0 [.ref 250, .int a6, .int a3, .int a4, .int a5] g1) fun x4 g3 => cond (decide (x4 = 0)) (zev mX12_isTriangle 45 [.ref 250, .int a3, .int a4, .int a5, .int (a6 + 1)] g3) (some (some (.int 0), g3))) := by rw [zev_eq]; rfl
set_option maxRecDepth 100000 in
theorem uX12_fan_0 (g : zIJ) (a1 : Int32) (a2 : Int32) : zev mX12_fan 0 [.ref 250, .int a1, .int a2] g = zaI (zev mX12_isPoint 0 [.ref 250, .long a2.toInt64] g) fun x2 g1 => cond (!decide (x2 = 0)) (zaI (zev mX12_isNet 0 [.ref 250, .int a1] g1) fun x4 g3 => cond (!decide (x4 = 0)) (zev mX12_fan 34 [.ref 250, .int a1, .int a2, .int 0, .int 0] g3) (zaI (zev mX12_finds 0 [.ref 250, .int 3] g3) fun x6 g5 => some (some (.int x6), g5))) (zaI (zev mX12_finds 0 [.ref 250, .int 0] g1) fun x8 g7 => some (some (.int x8), g7)) := by rw [zev_eq]; rfl
set_option maxRecDepth 100000 in
theorem uX12_fan_34 (g : zIJ) (a1 : Int32) (a2 : Int32) (a3 : Int32) (a4 : Int32) : zev mX12_fan 34 [.ref 250, .int a1, .int a2, .int a3, .int a4] g = zaI (zev mX12_points 0 [.ref 250] g) fun x2 g1 => cond (decide (x2 ≤ a4)) (some (some (.int a3), g1)) (zev mX12_fan 49 [.ref 250, .int a1, .int a2, .int a3, .int a4, .int (a4 + 1)] g1) := by rw [zev_eq]; rfl
set_option maxRecDepth 100000 in
theorem uX12_fan_49 (g : zIJ) (a1 : Int32) (a2 : Int32) (a3 : Int32) (a4 : Int32) (a5 : Int32) : zev mX12_fan 49 [.ref 250, .int a1, .int a2, .int a3, .int a4, .int a5] g = zaI (zev mX12_points 0 [.ref 250] g) fun x2 g1 => cond (decide (x2 ≤ a5)) (zev mX12_fan 34 [.ref 250, .int a1, .int a2, .int a3, .int (a4 + 1)] g1) (cond (decide (a4 = a2)) (zev mX12_fan 49 [.ref 250, .int a1, .int a2, .int (a3 + 0), .int a4, .int (a5 + 1)] g1) (cond (decide (a5 = a2)) (zev mX12_fan 49 [.ref 250, .int a1, .int a2, .int (a3 + 0), .int a4, .int (a5 + 1)] g1) (cond (zin a1 5000) (zaI (zev mX12_isTriangle 0 [.ref 250, .long (g1.2 297 a1.toNatClampNeg), .int a2, .int a4, .int a5] g1) fun x4 g3 => cond (decide (x4 = 0)) (zev mX12_fan 49 [.ref 250, .int a1, .int a2, .int (a3 + 0), .int a4, .int (a5 + 1)] g3) (zev mX12_fan 49 [.ref 250, .int a1, .int a2, .int (a3 + 1), .int a4, .int (a5 + 1)] g3)) none))) := by rw [zev_eq]; rfl
set_option maxRecDepth 100000 in
theorem uX12_flipped_0 (g : zIJ) (a1 : Int32) (a2 : Int32) (a3 : Int32) : zev mX12_flipped 0 [.ref 250, .int a1, .int a2, .int a3] g = cond (zin a1 5000) (zaI (zev mX12_edge 0 [.int a2, .int a3] g) fun x2 g1 => zaI (zev mX12_has 0 [.long (g.2 297 a1.toNatClampNeg), .int x2] g1) fun x4 g3 => cond (!decide (x4 = 0)) (zev mX12_flipped 22 [.ref 250, .int a1, .int a2, .int a3, .int 0] g3) (some (some (.int (-1)), g3))) none := by rw [zev_eq]; rfl
set_option maxRecDepth 100000 in
theorem uX12_flipped_22 (g : zIJ) (a1 : Int32) (a2 : Int32) (a3 : Int32) (a4 : Int32) : zev mX12_flipped 22 [.ref 250, .int a1, .int a2, .int a3, .int a4] g = zaI (zev mX12_points 0 [.ref 250] g) fun x2 g1 => cond (decide (x2 ≤ a4)) (some (some (.int (-1)), g1)) (cond (decide (a4 = a2)) (zev mX12_flipped 22 [.ref 250, .int a1, .int a2, .int a3, .int (a4 + 1)] g1) (cond (decide (a4 = a3)) (zev mX12_flipped 22 [.ref 250, .int a1, .int a2, .int a3, .int (a4 + 1)] g1) (cond (zin a1 5000) (zaI (zev mX12_isTriangle 0 [.ref 250, .long (g1.2 297 a1.toNatClampNeg), .int a2, .int a3, .int a4] g1) fun x4 g3 => cond (!decide (x4 = 0)) (zev mX12_flipped 69 [.ref 250, .int a1, .int a2, .int a3, .int a4, .int (a4 + 1)] g3) (zev mX12_flipped 22 [.ref 250, .int a1, .int a2, .int a3, .int (a4 + 1)] g3)) none))) := by rw [zev_eq]; rfl
set_option maxRecDepth 100000 in
theorem uX12_flipped_69 (g : zIJ) (a1 : Int32) (a2 : Int32) (a3 : Int32) (a4 : Int32) (a5 : Int32) : zev mX12_flipped 69 [.ref 250, .int a1, .int a2, .int a3, .int a4, .int a5] g = zaI (zev mX12_points 0 [.ref 250] g) fun x2 g1 => cond (decide (x2 ≤ a5)) (zev mX12_flipped 22 [.ref 250, .int a1, .int a2, .int a3, .int (a4 + 1)] g1) (cond (decide (a5 = a2)) (zev mX12_flipped 69 [.ref 250, .int a1, .int a2, .int a3, .int a4, .int (a5 + 1)] g1) (cond (decide (a5 = a3)) (zev mX12_flipped 69 [.ref 250, .int a1, .int a2, .int a3, .int a4, .int (a5 + 1)] g1) (cond (zin a1 5000) (zaI (zev mX12_isTriangle 0 [.ref 250, .long (g1.2 297 a1.toNatClampNeg), .int a2, .int a3, .int a5] g1) fun x4 g3 => cond (decide (x4 = 0)) (zev mX12_flipped 69 [.ref 250, .int a1, .int a2, .int a3, .int a4, .int (a5 + 1)] g3) (zaI (zev mX12_doCross 0 [.ref 250, .int a2, .int a3, .int a4, .int a5] g3) fun x6 g5 => cond (!decide (x6 = 0)) (cond (zin a1 5000) (zaI (zev mX12_edge 0 [.int a2, .int a3] g5) fun x8 g7 => zaI (zev mX12_edge 0 [.int a4, .int a5] g7) fun x10 g9 => zaI (zev mX12_numberOf 0 [.ref 250, .long (((g5.2 297 a1.toNatClampNeg) &&& (((1 : Int64) <<< (x8.toInt64 &&& 63)) ^^^ (-1))) ||| ((1 : Int64) <<< (x10.toInt64 &&& 63)))] g9) fun x12 g11 => some (some (.int x12), g11)) none) (zev mX12_flipped 69 [.ref 250, .int a1, .int a2, .int a3, .int a4, .int (a5 + 1)] g5))) none))) := by rw [zev_eq]; rfl
set_option maxRecDepth 100000 in
theorem uX12_flips_0 (g : zIJ) (a1 : Int32) : zev mX12_flips 0 [.ref 250, .int a1] g = zaI (zev mX12_isNet 0 [.ref 250, .int a1] g) fun x2 g1 => cond (!decide (x2 = 0)) (zev mX12_flips 19 [.ref 250, .int a1, .long 0, .int 0] g1) (zaL (zev mX12_findsLong 0 [.ref 250, .int 3] g1) fun x4 g3 => some (some (.long x4), g3)) := by rw [zev_eq]; rfl
set_option maxRecDepth 100000 in
theorem uX12_flips_19 (g : zIJ) (a1 : Int32) (b2 : Int64) (a4 : Int32) : zev mX12_flips 19 [.ref 250, .int a1, .long b2, .int a4] g = zaI (zev mX12_points 0 [.ref 250] g) fun x2 g1 => cond (decide (x2 ≤ a4)) (some (some (.long b2), g1)) (zev mX12_flips 34 [.ref 250, .int a1, .long b2, .int a4, .int (a4 + 1)] g1) := by rw [zev_eq]; rfl
set_option maxRecDepth 100000 in
theorem uX12_flips_34 (g : zIJ) (a1 : Int32) (b2 : Int64) (a4 : Int32) (a5 : Int32) : zev mX12_flips 34 [.ref 250, .int a1, .long b2, .int a4, .int a5] g = zaI (zev mX12_points 0 [.ref 250] g) fun x2 g1 => cond (decide (x2 ≤ a5)) (zev mX12_flips 19 [.ref 250, .int a1, .long b2, .int (a4 + 1)] g1) (zaI (zev mX12_flipped 0 [.ref 250, .int a1, .int a4, .int a5] g1) fun x4 g3 => cond (decide (x4 < 0)) (zev mX12_flips 34 [.ref 250, .int a1, .long (b2 ||| 0), .int a4, .int (a5 + 1)] g3) (zaI (zev mX12_edge 0 [.int a4, .int a5] g3) fun x6 g5 => zev mX12_flips 34 [.ref 250, .int a1, .long (b2 ||| ((1 : Int64) <<< (x6.toInt64 &&& 63))), .int a4, .int (a5 + 1)] g5)) := by rw [zev_eq]; rfl
set_option maxRecDepth 100000 in
theorem uX12_flip_0 (g : zIJ) (a1 : Int32) (a2 : Int32) (a3 : Int32) : zev mX12_flip 0 [.ref 250, .int a1, .int a2, .int a3] g = zaI (zev mX12_areTwo 0 [.ref 250, .int a2, .int a3] g) fun x2 g1 => cond (!decide (x2 = 0)) (zaI (zev mX12_isNet 0 [.ref 250, .int a1] g1) fun x4 g3 => cond (decide (x4 = 0)) (cond (decide (0 ≤ (-1))) (some (some (.int (-1)), g3)) (zaI (zev mX12_finds 0 [.ref 250, .int 3] g3) fun x6 g5 => some (some (.int x6), g5))) (zaI (zev mX12_flipped 0 [.ref 250, .int a1, .int a2, .int a3] g3) fun x8 g7 => cond (decide (0 ≤ x8)) (some (some (.int x8), g7)) (zaI (zev mX12_finds 0 [.ref 250, .int 3] g7) fun x10 g9 => some (some (.int x10), g9)))) (zaI (zev mX12_finds 0 [.ref 250, .int 0] g1) fun x12 g11 => some (some (.int x12), g11)) := by rw [zev_eq]; rfl
set_option maxRecDepth 100000 in
theorem uX12_apart_0 (g : zIJ) (a1 : Int32) (a2 : Int32) : zev mX12_apart 0 [.ref 250, .int a1, .int a2] g = zaI (zev mX12_isNet 0 [.ref 250, .int a1] g) fun x2 g1 => cond (decide (x2 = 0)) (zaI (zev mX12_finds 0 [.ref 250, .int 3] g1) fun x4 g3 => some (some (.int x4), g3)) (zaI (zev mX12_isNet 0 [.ref 250, .int a2] g1) fun x6 g5 => cond (!decide (x6 = 0)) (zev mX12_apart 24 [.ref 250, .int a1, .int a2, .int 0] g5) (zaI (zev mX12_finds 0 [.ref 250, .int 3] g5) fun x8 g7 => some (some (.int x8), g7))) := by rw [zev_eq]; rfl
set_option maxRecDepth 100000 in
theorem uX12_apart_24 (g : zIJ) (a1 : Int32) (a2 : Int32) (a3 : Int32) : zev mX12_apart 24 [.ref 250, .int a1, .int a2, .int a3] g = cond (decide ((g.1 250 14) ≤ a3)) (cond (zin a1 5000) (cond (zin 0 5000) (zev mX12_apart 64 [.ref 250, .int a2, .int 1, .int 0] (zsI (zsI g 298 a1.toNatClampNeg 0) 299 ((0 : Int32).toNatClampNeg) a1)) none) none) (cond (zin a3 5000) (zev mX12_apart 24 [.ref 250, .int a1, .int a2, .int (a3 + 1)] (zsI g 298 a3.toNatClampNeg (-1))) none) := by rw [zev_eq]; rfl
set_option maxRecDepth 100000 in
theorem uX12_apart_64 (g : zIJ) (a2 : Int32) (a3 : Int32) (a4 : Int32) : zev mX12_apart 64 [.ref 250, .int a2, .int a3, .int a4] g = cond (decide (a3 ≤ a4)) (zev mX12_apart 191 [.ref 250, .int a2] g) (cond (zin a2 5000) (cond (decide (0 ≤ (g.1 298 a2.toNatClampNeg))) (zev mX12_apart 191 [.ref 250, .int a2] g) (zev mX12_apart 82 [.ref 250, .int a2, .int a3, .int a4, .int 0] g)) none) := by rw [zev_eq]; rfl
set_option maxRecDepth 100000 in
theorem uX12_apart_82 (g : zIJ) (a2 : Int32) (a3 : Int32) (a4 : Int32) (a5 : Int32) : zev mX12_apart 82 [.ref 250, .int a2, .int a3, .int a4, .int a5] g = zaI (zev mX12_points 0 [.ref 250] g) fun x2 g1 => cond (decide (x2 ≤ a5)) (zev mX12_apart 64 [.ref 250, .int a2, .int a3, .int (a4 + 1)] g1) (zev mX12_apart 97 [.ref 250, .int a2, .int a3, .int a4, .int a5, .int (a5 + 1)] g1) := by rw [zev_eq]; rfl
set_option maxRecDepth 100000 in
theorem uX12_apart_97 (g : zIJ) (a2 : Int32) (a3 : Int32) (a4 : Int32) (a5 : Int32) (a6 : Int32) : zev mX12_apart 97 [.ref 250, .int a2, .int a3, .int a4, .int a5, .int a6] g = zaI (zev mX12_points 0 [.ref 250] g) fun x2 g1 => cond (decide (x2 ≤ a6)) (zev mX12_apart 82 [.ref 250, .int a2, .int a3, .int a4, .int (a5 + 1)] g1) (cond (zin a4 5000) (zaI (zev mX12_flipped 0 [.ref 250, .int (g1.1 299 a4.toNatClampNeg), .int a5, .int a6] g1) fun x4 g3 => cond (decide (x4 < 0)) (zev mX12_apart 97 [.ref 250, .int a2, .int a3, .int a4, .int a5, .int (a6 + 1)] g3) (cond (zin x4 5000) (cond (decide ((g3.1 298 x4.toNatClampNeg) < 0)) (cond (zin a4 5000) (cond (zin (g3.1 299 a4.toNatClampNeg) 5000) (cond (zin x4 5000) (cond (zin a3 5000) (zev mX12_apart 97 [.ref 250, .int a2, .int (a3 + 1), .int a4, .int a5, .int (a6 + 1)] (zsI (zsI g3 298 x4.toNatClampNeg ((g3.1 298 ((g3.1 299 a4.toNatClampNeg).toNatClampNeg)) + 1)) 299 a3.toNatClampNeg x4)) none) none) none) none) (zev mX12_apart 97 [.ref 250, .int a2, .int a3, .int a4, .int a5, .int (a6 + 1)] g3)) none)) none) := by rw [zev_eq]; rfl
set_option maxRecDepth 100000 in
theorem uX12_apart_191 (g : zIJ) (a2 : Int32) : zev mX12_apart 191 [.ref 250, .int a2] g = cond (zin a2 5000) (cond (decide (0 ≤ (g.1 298 a2.toNatClampNeg))) (cond (zin a2 5000) (some (some (.int (g.1 298 a2.toNatClampNeg)), g)) none) (zaI (zev mX12_finds 0 [.ref 250, .int 3] g) fun x2 g1 => some (some (.int x2), g1))) none := by rw [zev_eq]; rfl
set_option maxRecDepth 100000 in
theorem uX12_firstPath_0 (g : zIJ) : zev mX12_firstPath 0 [.ref 250] g = zaV (zev mX12_findsHull 0 [.ref 250] g) fun g1 => zev mX12_firstPath 8 [.ref 250, .int 0, .int 0] g1 := by rw [zev_eq]; rfl
set_option maxRecDepth 100000 in
theorem uX12_firstPath_8 (g : zIJ) (a1 : Int32) (a2 : Int32) : zev mX12_firstPath 8 [.ref 250, .int a1, .int a2] g = cond (decide ((g.1 250 6) ≤ a2)) (some (some (.int a1), g)) (cond (zin a2 9) (cond (zin a2 9) (zaI (zev mX12_last 0 [.ref 250] g) fun x2 g1 => cond (!decide ((g.1 294 a2.toNatClampNeg) = x2)) (zev mX12_firstPath 8 [.ref 250, .int (a1 ||| ((1 : Int32) <<< ((g.1 294 a2.toNatClampNeg) &&& 31))), .int (a2 + 1)] g1) (some (some (.int (a1 ||| ((1 : Int32) <<< ((g.1 294 a2.toNatClampNeg) &&& 31)))), g1))) none) none) := by rw [zev_eq]; rfl
set_option maxRecDepth 100000 in
theorem uX12_nextOn_0 (g : zIJ) (a1 : Int32) : zev mX12_nextOn 0 [.ref 250, .int a1] g = zev mX12_nextOn 4 [.ref 250, .int a1, .int (-1), .int 0] g := by rw [zev_eq]; rfl
set_option maxRecDepth 100000 in
theorem uX12_nextOn_4 (g : zIJ) (a1 : Int32) (a2 : Int32) (a3 : Int32) : zev mX12_nextOn 4 [.ref 250, .int a1, .int a2, .int a3] g = zaI (zev mX12_points 0 [.ref 250] g) fun x2 g1 => cond (decide (x2 ≤ a3)) (some (some (.int a2), g1)) (cond (!decide ((((g1.1 250 18) >>> (a3 &&& 31)) &&& 1) = 1)) (zev mX12_nextOn 4 [.ref 250, .int a1, .int a2, .int (a3 + 1)] g1) (zaI (zev mX12_isAhead 0 [.ref 250, .int a1, .int a3] g1) fun x4 g3 => cond (decide (x4 = 0)) (zev mX12_nextOn 4 [.ref 250, .int a1, .int a2, .int (a3 + 1)] g3) (cond (decide (a2 < 0)) (zev mX12_nextOn 4 [.ref 250, .int a1, .int a3, .int (a3 + 1)] g3) (zaI (zev mX12_isAhead 0 [.ref 250, .int a3, .int a2] g3) fun x6 g5 => cond (decide (x6 = 0)) (zev mX12_nextOn 4 [.ref 250, .int a1, .int a2, .int (a3 + 1)] g5) (zev mX12_nextOn 4 [.ref 250, .int a1, .int a3, .int (a3 + 1)] g5))))) := by rw [zev_eq]; rfl
set_option maxRecDepth 100000 in
theorem uX12_advances_0 (g : zIJ) (b1 : Int64) (a3 : Int32) : zev mX12_advances 0 [.ref 250, .long b1, .int a3] g = zaI (zev mX12_nextOn 0 [.ref 250, .int a3] g) fun x2 g1 => cond (decide (0 ≤ x2)) (zev mX12_advances 17 [.ref 250, .long b1, .int a3, .int x2, .int 0] g1) (some (some (.int 0), g1)) := by rw [zev_eq]; rfl
set_option maxRecDepth 100000 in
theorem uX12_advances_17 (g : zIJ) (b1 : Int64) (a3 : Int32) (a4 : Int32) (a5 : Int32) : zev mX12_advances 17 [.ref 250, .long b1, .int a3, .int a4, .int a5] g = zaI (zev mX12_points 0 [.ref 250] g) fun x2 g1 => cond (decide (x2 ≤ a5)) (zaI (zev mX12_nextOn 0 [.ref 250, .int a4] g1) fun x4 g3 => cond (decide (x4 < 0)) (some (some (.int 0), g3)) (zaI (zev mX12_turnOf 0 [.ref 250, .int a3, .int a4, .int x4] g3) fun x6 g5 => cond (!decide (x6 = 1)) (some (some (.int 0), g5)) (zaI (zev mX12_isTriangle 0 [.ref 250, .long b1, .int a3, .int a4, .int x4] g5) fun x8 g7 => cond (!decide (x8 = 0)) (some (some (.int 1), zsI (zsI (zsI g7 250 18 ((g7.1 250 18) &&& (((1 : Int32) <<< (a4 &&& 31)) ^^^ (-1)))) 250 19 ((((1 : Int32) <<< (a3 &&& 31)) ||| ((1 : Int32) <<< (a4 &&& 31))) ||| ((1 : Int32) <<< (x4 &&& 31)))) 250 20 1)) (some (some (.int 0), g7))))) (cond (decide (a5 = a3)) (zev mX12_advances 17 [.ref 250, .long b1, .int a3, .int a4, .int (a5 + 1)] g1) (cond (decide (a5 = a4)) (zev mX12_advances 17 [.ref 250, .long b1, .int a3, .int a4, .int (a5 + 1)] g1) (zaI (zev mX12_isAhead 0 [.ref 250, .int a3, .int a5] g1) fun x10 g9 => cond (decide (x10 = 0)) (zev mX12_advances 17 [.ref 250, .long b1, .int a3, .int a4, .int (a5 + 1)] g9) (zaI (zev mX12_isAhead 0 [.ref 250, .int a5, .int a4] g9) fun x12 g11 => cond (decide (x12 = 0)) (zev mX12_advances 17 [.ref 250, .long b1, .int a3, .int a4, .int (a5 + 1)] g11) (zaI (zev mX12_turnOf 0 [.ref 250, .int a3, .int a4, .int a5] g11) fun x14 g13 => cond (!decide (x14 = 1)) (zev mX12_advances 17 [.ref 250, .long b1, .int a3, .int a4, .int (a5 + 1)] g13) (zaI (zev mX12_isTriangle 0 [.ref 250, .long b1, .int a3, .int a4, .int a5] g13) fun x16 g15 => cond (!decide (x16 = 0)) (some (some (.int 1), zsI (zsI (zsI g15 250 18 ((g15.1 250 18) ||| ((1 : Int32) <<< (a5 &&& 31)))) 250 19 ((((1 : Int32) <<< (a3 &&& 31)) ||| ((1 : Int32) <<< (a4 &&& 31))) ||| ((1 : Int32) <<< (a5 &&& 31)))) 250 20 0)) (zev mX12_advances 17 [.ref 250, .long b1, .int a3, .int a4, .int (a5 + 1)] g15))))))) := by rw [zev_eq]; rfl
set_option maxRecDepth 100000 in
theorem uX12_advances__0 (g : zIJ) (b1 : Int64) : zev mX12_advances_ 0 [.ref 250, .long b1] g = zaI (zev mX12_first 0 [.ref 250] g) fun x2 g1 => zev mX12_advances_ 5 [.ref 250, .long b1, .int x2] g1 := by rw [zev_eq]; rfl
set_option maxRecDepth 100000 in
theorem uX12_advances__5 (g : zIJ) (b1 : Int64) (a3 : Int32) : zev mX12_advances_ 5 [.ref 250, .long b1, .int a3] g = cond (decide (a3 < 0)) (some (some (.int 0), g)) (zaI (zev mX12_advances 0 [.ref 250, .long b1, .int a3] g) fun x2 g1 => cond (decide (x2 = 0)) (zaI (zev mX12_nextOn 0 [.ref 250, .int a3] g1) fun x4 g3 => zev mX12_advances_ 5 [.ref 250, .long b1, .int x4] g3) (some (some (.int 1), g1))) := by rw [zev_eq]; rfl
set_option maxRecDepth 100000 in
theorem uX12_sweeps_0 (g : zIJ) (a1 : Int32) (a2 : Int32) : zev mX12_sweeps 0 [.ref 250, .int a1, .int a2] g = zaI (zev mX12_firstPath 0 [.ref 250] g) fun x2 g1 => zev mX12_sweeps 10 [.ref 250, .int a1, .int a2, .int 0] (zsI g1 250 18 x2) := by rw [zev_eq]; rfl
set_option maxRecDepth 100000 in
theorem uX12_sweeps_10 (g : zIJ) (a1 : Int32) (a2 : Int32) (a3 : Int32) : zev mX12_sweeps 10 [.ref 250, .int a1, .int a2, .int a3] g = cond (decide (a2 ≤ a3)) (zev mX12_sweeps 34 [.int a2, .int a3] g) (cond (zin a1 5000) (zaI (zev mX12_advances_ 0 [.ref 250, .long (g.2 297 a1.toNatClampNeg)] g) fun x2 g1 => cond (decide (x2 = 0)) (zev mX12_sweeps 34 [.int a2, .int a3] g1) (zev mX12_sweeps 10 [.ref 250, .int a1, .int a2, .int (a3 + 1)] g1)) none) := by rw [zev_eq]; rfl
set_option maxRecDepth 100000 in
theorem uX12_sweeps_34 (g : zIJ) (a2 : Int32) (a3 : Int32) : zev mX12_sweeps 34 [.int a2, .int a3] g = cond (decide (a2 < 0)) (some (some (.int 0), g)) (cond (!decide (a3 = a2)) (some (some (.int 0), g)) (some (some (.int 1), g))) := by rw [zev_eq]; rfl
set_option maxRecDepth 100000 in
theorem uX12_path_0 (g : zIJ) (a1 : Int32) (a2 : Int32) : zev mX12_path 0 [.ref 250, .int a1, .int a2] g = zaI (zev mX12_isNet 0 [.ref 250, .int a1] g) fun x2 g1 => cond (decide (x2 = 0)) (zaI (zev mX12_finds 0 [.ref 250, .int 3] g1) fun x4 g3 => some (some (.int x4), g3)) (zaI (zev mX12_sweeps 0 [.ref 250, .int a1, .int a2] g1) fun x6 g5 => cond (decide (x6 = 0)) (zaI (zev mX12_finds 0 [.ref 250, .int 3] g5) fun x8 g7 => some (some (.int x8), g7)) (some (some (.int (g5.1 250 18)), g5))) := by rw [zev_eq]; rfl
set_option maxRecDepth 100000 in
theorem uX12_advance_0 (g : zIJ) (a1 : Int32) (a2 : Int32) (a3 : Int32) : zev mX12_advance 0 [.ref 250, .int a1, .int a2, .int a3] g = zaI (zev mX12_in 0 [.long a3.toInt64, .long 0, .long 1] g) fun x2 g1 => cond (!decide (x2 = 0)) (zaI (zev mX12_isNet 0 [.ref 250, .int a1] g1) fun x4 g3 => cond (decide (x4 = 0)) (zaI (zev mX12_finds 0 [.ref 250, .int 3] g3) fun x6 g5 => some (some (.int x6), g5)) (cond (decide (a2 < 0)) (zaI (zev mX12_finds 0 [.ref 250, .int 3] g3) fun x8 g7 => some (some (.int x8), g7)) (cond (decide (a2 = 2147483647)) (zaI (zev mX12_finds 0 [.ref 250, .int 3] g3) fun x10 g9 => some (some (.int x10), g9)) (zaI (zev mX12_sweeps 0 [.ref 250, .int a1, .int (a2 + 1)] g3) fun x12 g11 => cond (!decide (x12 = 0)) (cond (!decide (a3 = 0)) (some (some (.int (g11.1 250 20)), g11)) (some (some (.int (g11.1 250 19)), g11))) (zaI (zev mX12_finds 0 [.ref 250, .int 3] g11) fun x14 g13 => some (some (.int x14), g13)))))) (zaI (zev mX12_finds 0 [.ref 250, .int 0] g1) fun x16 g15 => some (some (.int x16), g15)) := by rw [zev_eq]; rfl
set_option maxRecDepth 100000 in
theorem uX12_ways_0 (g : zIJ) : zev mX12_ways 0 [.ref 250] g = zaI (zev mX12_points 0 [.ref 250] g) fun x2 g1 => cond (decide (2 ≤ x2)) (zev mX12_ways 14 [.ref 250, .int 0, .int 0] g1) (some (some (.int 0), g1)) := by rw [zev_eq]; rfl
set_option maxRecDepth 100000 in
theorem uX12_ways_14 (g : zIJ) (a1 : Int32) (a2 : Int32) : zev mX12_ways 14 [.ref 250, .int a1, .int a2] g = zaI (zev mX12_points 0 [.ref 250] g) fun x2 g1 => cond (decide (((1 : Int32) <<< (x2 &&& 31)) ≤ a2)) (some (some (.int a1), g1)) (zaI (zev mX12_first 0 [.ref 250] (zsI g1 250 18 a2)) fun x4 g3 => cond (!decide (((a2 >>> (x4 &&& 31)) &&& 1) = 1)) (zaI (zev mX12_first 0 [.ref 250] g3) fun x6 g5 => zev mX12_ways 65 [.ref 250, .int a1, .int a2, .int 0, .int x6] g5) (zaI (zev mX12_last 0 [.ref 250] g3) fun x8 g7 => cond (!decide (((a2 >>> (x8 &&& 31)) &&& 1) = 1)) (zaI (zev mX12_first 0 [.ref 250] g7) fun x10 g9 => zev mX12_ways 65 [.ref 250, .int a1, .int a2, .int 0, .int x10] g9) (zaI (zev mX12_first 0 [.ref 250] g7) fun x12 g11 => zev mX12_ways 65 [.ref 250, .int a1, .int a2, .int 1, .int x12] g11))) := by rw [zev_eq]; rfl
set_option maxRecDepth 100000 in
theorem uX12_ways_65 (g : zIJ) (a1 : Int32) (a2 : Int32) (a3 : Int32) (a4 : Int32) : zev mX12_ways 65 [.ref 250, .int a1, .int a2, .int a3, .int a4] g = cond (decide (a3 = 0)) (zev mX12_ways 118 [.ref 250, .int a1, .int a2, .int a3] g) (zaI (zev mX12_last 0 [.ref 250] g) fun x2 g1 => cond (decide (a4 = x2)) (zev mX12_ways 118 [.ref 250, .int a1, .int a2, .int a3] g1) (zaI (zev mX12_nextOn 0 [.ref 250, .int a4] g1) fun x4 g3 => zaI (zev mX12_edge 0 [.int a4, .int x4] g3) fun x6 g5 => cond (zin (20 + x6) 72) (cond (decide ((g5.1 251 ((20 + x6).toNatClampNeg)) = 2)) (zev mX12_ways 65 [.ref 250, .int a1, .int a2, .int 0, .int x4] g5) (zev mX12_ways 65 [.ref 250, .int a1, .int a2, .int 1, .int x4] g5)) none)) := by rw [zev_eq]; rfl
set_option maxRecDepth 100000 in
theorem uX12_ways_118 (g : zIJ) (a1 : Int32) (a2 : Int32) (a3 : Int32) : zev mX12_ways 118 [.ref 250, .int a1, .int a2, .int a3] g = cond (decide (a3 = 0)) (zev mX12_ways 14 [.ref 250, .int (a1 + 0), .int (a2 + 1)] g) (zev mX12_ways 14 [.ref 250, .int (a1 + 1), .int (a2 + 1)] g) := by rw [zev_eq]; rfl
set_option maxRecDepth 100000 in
theorem uX12_plus_0 (g : zIJ) (b1 : Int64) (b3 : Int64) : zev mX12_plus 0 [.ref 250, .long b1, .long b3] g = cond (decide (0 ≤ (lg_cmp ((b1 ^^^ (b1 + b3)) &&& (b3 ^^^ (b1 + b3))) 0))) (cond (zbit ((g.1 250 21) ||| 0)) (some (some (.long (b1 + b3)), zsI g 250 21 ((g.1 250 21) ||| 0))) none) (cond (zbit ((g.1 250 21) ||| 1)) (some (some (.long (b1 + b3)), zsI g 250 21 ((g.1 250 21) ||| 1))) none) := by rw [zev_eq]; rfl
set_option maxRecDepth 100000 in
theorem uX12_minus_0 (g : zIJ) (b1 : Int64) (b3 : Int64) : zev mX12_minus 0 [.ref 250, .long b1, .long b3] g = cond (decide (0 ≤ (lg_cmp ((b1 ^^^ b3) &&& (b1 ^^^ (b1 - b3))) 0))) (cond (zbit ((g.1 250 21) ||| 0)) (some (some (.long (b1 - b3)), zsI g 250 21 ((g.1 250 21) ||| 0))) none) (cond (zbit ((g.1 250 21) ||| 1)) (some (some (.long (b1 - b3)), zsI g 250 21 ((g.1 250 21) ||| 1))) none) := by rw [zev_eq]; rfl
set_option maxRecDepth 100000 in
theorem uX12_times_0 (g : zIJ) (b1 : Int64) (b3 : Int64) : zev mX12_times 0 [.ref 250, .long b1, .long b3] g = cond (decide ((lg_cmp b1 0) = 0)) (cond (zbit ((g.1 250 21) ||| 0)) (some (some (.long (b1 * b3)), zsI g 250 21 ((g.1 250 21) ||| 0))) none) (cond (!decide ((lg_cmp b1 (-1)) = 0)) (cond (!decide (b1 = 0)) (cond (decide ((lg_cmp ((b1 * b3) / b1) b3) = 0)) (cond (zbit ((g.1 250 21) ||| 0)) (some (some (.long (b1 * b3)), zsI g 250 21 ((g.1 250 21) ||| 0))) none) (cond (zbit ((g.1 250 21) ||| 1)) (some (some (.long (b1 * b3)), zsI g 250 21 ((g.1 250 21) ||| 1))) none)) none) (cond (decide ((lg_cmp b3 (-9223372036854775808)) = 0)) (cond (zbit ((g.1 250 21) ||| 1)) (some (some (.long (b1 * b3)), zsI g 250 21 ((g.1 250 21) ||| 1))) none) (cond (!decide (b1 = 0)) (cond (decide ((lg_cmp ((b1 * b3) / b1) b3) = 0)) (cond (zbit ((g.1 250 21) ||| 0)) (some (some (.long (b1 * b3)), zsI g 250 21 ((g.1 250 21) ||| 0))) none) (cond (zbit ((g.1 250 21) ||| 1)) (some (some (.long (b1 * b3)), zsI g 250 21 ((g.1 250 21) ||| 1))) none)) none))) := by rw [zev_eq]; rfl
set_option maxRecDepth 100000 in
theorem uX12_byStep_0 (g : zIJ) (b1 : Int64) (a3 : Int32) : zev mX12_byStep 0 [.ref 250, .long b1, .int a3] g = cond (zin ((56 + (2 * a3)) + 1) 72) (cond (zin (56 + (2 * a3)) 72) (cond (decide ((g.1 251 ((56 + (2 * a3)).toNatClampNeg)).toInt = 0)) (zaL (zev mX12_plus 0 [.ref 250, .long b1, .long ((g.1 251 (((56 + (2 * a3)) + 1).toNatClampNeg)).toInt64)] g) fun x8 g7 => some (some (.long x8), g7)) (cond (decide ((g.1 251 ((56 + (2 * a3)).toNatClampNeg)).toInt = 1)) (zaL (zev mX12_times 0 [.ref 250, .long b1, .long ((g.1 251 (((56 + (2 * a3)) + 1).toNatClampNeg)).toInt64)] g) fun x6 g5 => some (some (.long x6), g5)) (cond (decide ((g.1 251 ((56 + (2 * a3)).toNatClampNeg)).toInt = 2)) (cond (!decide ((lg_cmp ((g.1 251 (((56 + (2 * a3)) + 1).toNatClampNeg)).toInt64) 0) = 0)) (cond (!decide ((g.1 251 (((56 + (2 * a3)) + 1).toNatClampNeg)).toInt64 = 0)) (some (some (.long (b1 - b1 / ((g.1 251 (((56 + (2 * a3)) + 1).toNatClampNeg)).toInt64) * ((g.1 251 (((56 + (2 * a3)) + 1).toNatClampNeg)).toInt64))), g)) none) (some (some (.long b1), g))) (cond (decide ((g.1 251 ((56 + (2 * a3)).toNatClampNeg)).toInt = 3)) (some (some (.long (zmxL b1 ((g.1 251 (((56 + (2 * a3)) + 1).toNatClampNeg)).toInt64))), g)) (cond (decide ((g.1 251 ((56 + (2 * a3)).toNatClampNeg)).toInt = 4)) (some (some (.long (zmnL b1 ((g.1 251 (((56 + (2 * a3)) + 1).toNatClampNeg)).toInt64))), g)) (cond (decide ((g.1 251 ((56 + (2 * a3)).toNatClampNeg)).toInt = 5)) (zaL (zev mX12_minus 0 [.ref 250, .long ((g.1 251 (((56 + (2 * a3)) + 1).toNatClampNeg)).toInt64), .long b1] g) fun x4 g3 => some (some (.long x4), g3)) (zaL (zev mX12_times 0 [.ref 250, .long b1, .long b1] g) fun x2 g1 => some (some (.long x2), g1)))))))) none) none := by rw [zev_eq]; rfl
set_option maxRecDepth 100000 in
theorem uX12_chained_0 (g : zIJ) (b1 : Int64) : zev mX12_chained 0 [.ref 250, .long b1] g = zev mX12_chained 5 [.ref 250, .long b1, .int 0] g := by rw [zev_eq]; rfl
set_option maxRecDepth 100000 in
theorem uX12_chained_5 (g : zIJ) (b3 : Int64) (a5 : Int32) : zev mX12_chained 5 [.ref 250, .long b3, .int a5] g = cond (zin 1 72) (cond (decide ((g.1 251 ((1 : Int32).toNatClampNeg)) ≤ a5)) (some (some (.long b3), g)) (cond (!decide ((g.1 250 21) = 0)) (some (some (.long b3), g)) (zaL (zev mX12_byStep 0 [.ref 250, .long b3, .int a5] g) fun x2 g1 => zev mX12_chained 5 [.ref 250, .long x2, .int (a5 + 1)] g1))) none := by rw [zev_eq]; rfl
set_option maxRecDepth 100000 in
theorem uX12_byRule_0 (g : zIJ) (a1 : Int32) (a2 : Int32) (a3 : Int32) : zev mX12_byRule 0 [.ref 250, .int a1, .int a2, .int a3] g = zaI (zev mX12_x 0 [.ref 250, .int a1] g) fun x2 g1 => zaI (zev mX12_x 0 [.ref 250, .int a2] g1) fun x4 g3 => zaI (zev mX12_y 0 [.ref 250, .int a1] g3) fun x6 g5 => zaI (zev mX12_y 0 [.ref 250, .int a2] g5) fun x8 g7 => cond (decide (a3.toInt = 0)) (some (some (.long 1), g7)) (cond (decide (a3.toInt = 1)) (some (some (.long ((((zabI (x2 - x4)) * (zabI (x2 - x4))) + ((zabI (x6 - x8)) * (zabI (x6 - x8)))).toInt64)), g7)) (cond (decide (a3.toInt = 2)) (some (some (.long (((zabI (x2 - x4)) + (zabI (x6 - x8))).toInt64)), g7)) (cond (decide (a3.toInt = 3)) (some (some (.long ((zmxI (zabI (x2 - x4)) (zabI (x6 - x8))).toInt64)), g7)) (cond (decide (a3.toInt = 4)) (some (some (.long ((zmnI (zabI (x2 - x4)) (zabI (x6 - x8))).toInt64)), g7)) (cond (decide (a3.toInt = 5)) (some (some (.long ((a1 + a2).toInt64)), g7)) (some (some (.long (((a1 + 1) * (a2 + 1)).toInt64)), g7))))))) := by rw [zev_eq]; rfl
set_option maxRecDepth 100000 in
theorem uX12_folded_0 (g : zIJ) (b1 : Int64) (a3 : Int32) (a4 : Int32) : zev mX12_folded 0 [.ref 250, .long b1, .int a3, .int a4] g = zev mX12_folded 9 [.ref 250, .long b1, .int a3, .int a4, .int 1, .long 0, .int 0] g := by rw [zev_eq]; rfl
set_option maxRecDepth 100000 in
theorem uX12_folded_9 (g : zIJ) (b1 : Int64) (a3 : Int32) (a4 : Int32) (a5 : Int32) (b6 : Int64) (a8 : Int32) : zev mX12_folded 9 [.ref 250, .long b1, .int a3, .int a4, .int a5, .long b6, .int a8] g = zaI (zev mX12_points 0 [.ref 250] g) fun x2 g1 => cond (decide (x2 ≤ a8)) (some (some (.long b6), g1)) (zev mX12_folded 24 [.ref 250, .long b1, .int a3, .int a4, .int a5, .long b6, .int a8, .int (a8 + 1)] g1) := by rw [zev_eq]; rfl
set_option maxRecDepth 100000 in
theorem uX12_folded_24 (g : zIJ) (b1 : Int64) (a3 : Int32) (a4 : Int32) (a5 : Int32) (b6 : Int64) (a8 : Int32) (a9 : Int32) : zev mX12_folded 24 [.ref 250, .long b1, .int a3, .int a4, .int a5, .long b6, .int a8, .int a9] g = zaI (zev mX12_points 0 [.ref 250] g) fun x2 g1 => cond (decide (x2 ≤ a9)) (zev mX12_folded 9 [.ref 250, .long b1, .int a3, .int a4, .int a5, .long b6, .int (a8 + 1)] g1) (zaI (zev mX12_edge 0 [.int a8, .int a9] g1) fun x4 g3 => zaI (zev mX12_has 0 [.long b1, .int x4] g3) fun x6 g5 => cond (!decide (x6 = 0)) (zaL (zev mX12_byRule 0 [.ref 250, .int a8, .int a9, .int a3] g5) fun x8 g7 => zaL (zev mX12_chained 0 [.ref 250, .long x8] g7) fun x10 g9 => cond (decide (a5 = 0)) (cond (!decide (a4 = 0)) (cond (!decide (a4 = 1)) (cond (!decide (a4 = 2)) (zev mX12_folded 24 [.ref 250, .long b1, .int a3, .int a4, .int 0, .long (b6 ^^^ x10), .int a8, .int (a9 + 1)] g9) (zev mX12_folded 24 [.ref 250, .long b1, .int a3, .int a4, .int 0, .long (zmnL b6 x10), .int a8, .int (a9 + 1)] g9)) (zev mX12_folded 24 [.ref 250, .long b1, .int a3, .int a4, .int 0, .long (zmxL b6 x10), .int a8, .int (a9 + 1)] g9)) (zaL (zev mX12_plus 0 [.ref 250, .long b6, .long x10] g9) fun x12 g11 => zev mX12_folded 24 [.ref 250, .long b1, .int a3, .int a4, .int 0, .long x12, .int a8, .int (a9 + 1)] g11)) (zev mX12_folded 24 [.ref 250, .long b1, .int a3, .int a4, .int 0, .long x10, .int a8, .int (a9 + 1)] g9)) (zev mX12_folded 24 [.ref 250, .long b1, .int a3, .int a4, .int a5, .long b6, .int a8, .int (a9 + 1)] g5)) := by rw [zev_eq]; rfl
set_option maxRecDepth 100000 in
theorem uX12_step_0 (g : zIJ) (a1 : Int32) (a2 : Int32) : zev mX12_step 0 [.ref 250, .int a1, .int a2] g = zaI (zev mX12_in 0 [.long a1.toInt64, .long 0, .long 6] g) fun x2 g1 => cond (decide (x2 = 0)) (zaI (zev mX12_finds 0 [.ref 250, .int 0] g1) fun x4 g3 => some (some (.int x4), g3)) (zaI (zev mX12_in 0 [.long a2.toInt64, .long (-99), .long 99] g1) fun x6 g5 => cond (!decide (x6 = 0)) (cond (zin 1 72) (cond (!decide ((g5.1 251 ((1 : Int32).toNatClampNeg)) = 8)) (zaV (zev mX12_laysAside 0 [.ref 250] g5) fun g7 => cond (zin 1 72) (cond (zin (56 + (2 * (g7.1 251 ((1 : Int32).toNatClampNeg)))) 72) (cond (zin 1 72) (cond (zin ((56 + (2 * ((zsI g7 251 ((56 + (2 * (g7.1 251 ((1 : Int32).toNatClampNeg)))).toNatClampNeg) a1).1 251 ((1 : Int32).toNatClampNeg)))) + 1) 72) (cond (zin 1 72) (cond (zin 1 72) (zaV (zev mX12_changes 0 [.ref 250] (zsI (zsI (zsI g7 251 ((56 + (2 * (g7.1 251 ((1 : Int32).toNatClampNeg)))).toNatClampNeg) a1) 251 (((56 + (2 * ((zsI g7 251 ((56 + (2 * (g7.1 251 ((1 : Int32).toNatClampNeg)))).toNatClampNeg) a1).1 251 ((1 : Int32).toNatClampNeg)))) + 1).toNatClampNeg) a2) 251 ((1 : Int32).toNatClampNeg) (((zsI (zsI g7 251 ((56 + (2 * (g7.1 251 ((1 : Int32).toNatClampNeg)))).toNatClampNeg) a1) 251 (((56 + (2 * ((zsI g7 251 ((56 + (2 * (g7.1 251 ((1 : Int32).toNatClampNeg)))).toNatClampNeg) a1).1 251 ((1 : Int32).toNatClampNeg)))) + 1).toNatClampNeg) a2).1 251 ((1 : Int32).toNatClampNeg)) + 1))) fun g8 => cond (zin 1 72) (some (some (.int (g8.1 251 ((1 : Int32).toNatClampNeg))), g8)) none) none) none) none) none) none) none) (zaI (zev mX12_finds 0 [.ref 250, .int 1] g5) fun x10 g9 => some (some (.int x10), g9))) none) (zaI (zev mX12_finds 0 [.ref 250, .int 0] g5) fun x12 g11 => some (some (.int x12), g11))) := by rw [zev_eq]; rfl
set_option maxRecDepth 100000 in
theorem uX12_stepOf_0 (g : zIJ) (a1 : Int32) (a2 : Int32) : zev mX12_stepOf 0 [.ref 250, .int a1, .int a2] g = cond (zin 1 72) (zaI (zev mX12_in 0 [.long a1.toInt64, .long 0, .long (((g.1 251 ((1 : Int32).toNatClampNeg)) - 1).toInt64)] g) fun x2 g1 => cond (decide (x2 = 0)) (zaI (zev mX12_finds 0 [.ref 250, .int 0] g1) fun x4 g3 => some (some (.int x4), g3)) (zaI (zev mX12_in 0 [.long a2.toInt64, .long 0, .long 1] g1) fun x6 g5 => cond (decide (x6 = 0)) (zaI (zev mX12_finds 0 [.ref 250, .int 0] g5) fun x8 g7 => some (some (.int x8), g7)) (cond (zin ((56 + (2 * a1)) + a2) 72) (some (some (.int (g5.1 251 (((56 + (2 * a1)) + a2).toNatClampNeg))), g5)) none))) none := by rw [zev_eq]; rfl
set_option maxRecDepth 100000 in
theorem uX12_clear_0 (g : zIJ) : zev mX12_clear 0 [.ref 250] g = zaV (zev mX12_laysAside 0 [.ref 250] g) fun g1 => cond (zin 1 72) (cond (zin 1 72) (zaV (zev mX12_changes 0 [.ref 250] (zsI g1 251 ((1 : Int32).toNatClampNeg) 0)) fun g2 => some (some (.int (g1.1 251 ((1 : Int32).toNatClampNeg))), g2)) none) none := by rw [zev_eq]; rfl
set_option maxRecDepth 100000 in
theorem uX12_chain_0 (g : zIJ) (b1 : Int64) : zev mX12_chain 0 [.ref 250, .long b1] g = zaL (zev mX12_chained 0 [.ref 250, .long b1] (zsI g 250 21 0)) fun x2 g1 => cond (decide ((g1.1 250 21) = 0)) (some (some (.long x2), g1)) (zaL (zev mX12_findsLong 0 [.ref 250, .int 7] g1) fun x4 g3 => some (some (.long x4), g3)) := by rw [zev_eq]; rfl
set_option maxRecDepth 100000 in
theorem uX12_ofEdge_0 (g : zIJ) (a1 : Int32) (a2 : Int32) (a3 : Int32) : zev mX12_ofEdge 0 [.ref 250, .int a1, .int a2, .int a3] g = zaI (zev mX12_areTwo 0 [.ref 250, .int a1, .int a2] g) fun x2 g1 => cond (decide (x2 = 0)) (zaL (zev mX12_findsLong 0 [.ref 250, .int 0] g1) fun x4 g3 => some (some (.long x4), g3)) (zaI (zev mX12_in 0 [.long a3.toInt64, .long 0, .long 6] g1) fun x6 g5 => cond (!decide (x6 = 0)) (zaL (zev mX12_byRule 0 [.ref 250, .int a1, .int a2, .int a3] (zsI g5 250 21 0)) fun x8 g7 => zaL (zev mX12_chained 0 [.ref 250, .long x8] g7) fun x10 g9 => cond (decide ((g9.1 250 21) = 0)) (some (some (.long x10), g9)) (zaL (zev mX12_findsLong 0 [.ref 250, .int 7] g9) fun x12 g11 => some (some (.long x12), g11))) (zaL (zev mX12_findsLong 0 [.ref 250, .int 0] g5) fun x14 g13 => some (some (.long x14), g13))) := by rw [zev_eq]; rfl
set_option maxRecDepth 100000 in
theorem uX12_ofNet_0 (g : zIJ) (a1 : Int32) (a2 : Int32) (a3 : Int32) : zev mX12_ofNet 0 [.ref 250, .int a1, .int a2, .int a3] g = zaI (zev mX12_in 0 [.long a2.toInt64, .long 0, .long 6] g) fun x2 g1 => cond (decide (x2 = 0)) (zaL (zev mX12_findsLong 0 [.ref 250, .int 0] g1) fun x4 g3 => some (some (.long x4), g3)) (zaI (zev mX12_in 0 [.long a3.toInt64, .long 0, .long 3] g1) fun x6 g5 => cond (!decide (x6 = 0)) (zaI (zev mX12_isNet 0 [.ref 250, .int a1] g5) fun x8 g7 => cond (!decide (x8 = 0)) (cond (zin a1 5000) (zaL (zev mX12_folded 0 [.ref 250, .long ((zsI g7 250 21 0).2 297 a1.toNatClampNeg), .int a2, .int a3] (zsI g7 250 21 0)) fun x10 g9 => cond (decide ((g9.1 250 21) = 0)) (some (some (.long x10), g9)) (zaL (zev mX12_findsLong 0 [.ref 250, .int 7] g9) fun x12 g11 => some (some (.long x12), g11))) none) (zaL (zev mX12_findsLong 0 [.ref 250, .int 3] g7) fun x14 g13 => some (some (.long x14), g13))) (zaL (zev mX12_findsLong 0 [.ref 250, .int 0] g5) fun x16 g15 => some (some (.long x16), g15))) := by rw [zev_eq]; rfl
set_option maxRecDepth 100000 in
theorem uX12_best_0 (g : zIJ) (a1 : Int32) (a2 : Int32) : zev mX12_best 0 [.ref 250, .int a1, .int a2] g = zaI (zev mX12_in 0 [.long a1.toInt64, .long 0, .long 6] g) fun x2 g1 => cond (decide (x2 = 0)) (zaI (zev mX12_finds 0 [.ref 250, .int 0] g1) fun x4 g3 => some (some (.int x4), g3)) (zaI (zev mX12_in 0 [.long a2.toInt64, .long 0, .long 3] g1) fun x6 g5 => cond (!decide (x6 = 0)) (zaV (zev mX12_listsNets 0 [.ref 250] g5) fun g7 => cond (!decide ((g7.1 250 14) = 0)) (cond (zin 0 5000) (zaL (zev mX12_folded 0 [.ref 250, .long ((zsI g7 250 21 0).2 297 ((0 : Int32).toNatClampNeg)), .int a1, .int a2] (zsI g7 250 21 0)) fun x9 g8 => zev mX12_best 71 [.ref 250, .int a1, .int a2, .int 0, .long x9, .int 1] g8) none) (zaI (zev mX12_finds 0 [.ref 250, .int 3] g7) fun x11 g10 => some (some (.int x11), g10))) (zaI (zev mX12_finds 0 [.ref 250, .int 0] g5) fun x13 g12 => some (some (.int x13), g12))) := by rw [zev_eq]; rfl
set_option maxRecDepth 100000 in
theorem uX12_best_71 (g : zIJ) (a1 : Int32) (a2 : Int32) (a3 : Int32) (b4 : Int64) (a6 : Int32) : zev mX12_best 71 [.ref 250, .int a1, .int a2, .int a3, .long b4, .int a6] g = cond (decide ((g.1 250 14) ≤ a6)) (cond (decide ((g.1 250 21) = 0)) (some (some (.int a3), g)) (zaI (zev mX12_finds 0 [.ref 250, .int 7] g) fun x2 g1 => some (some (.int x2), g1))) (cond (zin a6 5000) (zaL (zev mX12_folded 0 [.ref 250, .long (g.2 297 a6.toNatClampNeg), .int a1, .int a2] g) fun x4 g3 => cond (decide ((lg_cmp x4 b4) < 0)) (zev mX12_best 71 [.ref 250, .int a1, .int a2, .int a6, .long x4, .int (a6 + 1)] g3) (zev mX12_best 71 [.ref 250, .int a1, .int a2, .int a3, .long b4, .int (a6 + 1)] g3)) none) := by rw [zev_eq]; rfl
set_option maxRecDepth 100000 in
theorem uX12_isCorner_0 (g : zIJ) (a1 : Int32) : zev mX12_isCorner 0 [.ref 250, .int a1] g = zev mX12_isCorner 2 [.ref 250, .int a1, .int 0] g := by rw [zev_eq]; rfl
set_option maxRecDepth 100000 in
theorem uX12_isCorner_2 (g : zIJ) (a1 : Int32) (a2 : Int32) : zev mX12_isCorner 2 [.ref 250, .int a1, .int a2] g = cond (decide ((g.1 250 22) ≤ a2)) (some (some (.int 0), g)) (cond (zin a2 9) (cond (!decide ((g.1 300 a2.toNatClampNeg) = a1)) (zev mX12_isCorner 2 [.ref 250, .int a1, .int (a2 + 1)] g) (some (some (.int 1), g))) none) := by rw [zev_eq]; rfl
set_option maxRecDepth 100000 in
theorem uX12_cornerAt_0 (g : zIJ) (a1 : Int32) : zev mX12_cornerAt 0 [.ref 250, .int a1] g = cond (!decide (g.1 250 22 = 0)) (cond (zin (a1 - a1 / (g.1 250 22) * (g.1 250 22)) 9) (some (some (.int (g.1 300 ((a1 - a1 / (g.1 250 22) * (g.1 250 22)).toNatClampNeg))), g)) none) none := by rw [zev_eq]; rfl
set_option maxRecDepth 100000 in
theorem uX12_isPolygon_0 (g : zIJ) (a1 : Int32) : zev mX12_isPolygon 0 [.ref 250, .int a1] g = cond (zin a1 4) (zaI (zev mX12_in 0 [.long ((g.1 343 a1.toNatClampNeg).toInt64), .long 3, .long 9] g) fun x2 g1 => cond (!decide (x2 = 0)) (zev mX12_isPolygon 28 [.ref 250, .int a1, .int 0] (zsI g1 250 22 0)) (some (some (.int 0), g1))) none := by rw [zev_eq]; rfl
set_option maxRecDepth 100000 in
theorem uX12_isPolygon_28 (g : zIJ) (a1 : Int32) (a2 : Int32) : zev mX12_isPolygon 28 [.ref 250, .int a1, .int a2] g = cond (zin a1 4) (cond (decide ((g.1 343 a1.toNatClampNeg) ≤ a2)) (zev mX12_isPolygon 107 [.ref 250, .int 0] g) (cond (zin a1 4) (cond (Nat.beq (zC (345 + a1.toNatClampNeg)).1 101 && zin a2 (zC (345 + a1.toNatClampNeg)).2) (zaI (zev mX12_isPoint 0 [.ref 250, .long (g.2 (345 + a1.toNatClampNeg) a2.toNatClampNeg)] g) fun x2 g1 => cond (decide (x2 = 0)) (some (some (.int 0), g1)) (cond (zin a1 4) (cond (Nat.beq (zC (345 + a1.toNatClampNeg)).1 101 && zin a2 (zC (345 + a1.toNatClampNeg)).2) (zaI (zev mX12_isCorner 0 [.ref 250, .int ((g1.2 (345 + a1.toNatClampNeg) a2.toNatClampNeg).toInt32)] g1) fun x4 g3 => cond (decide (x4 = 0)) (cond (zin a1 4) (cond (Nat.beq (zC (345 + a1.toNatClampNeg)).1 101 && zin a2 (zC (345 + a1.toNatClampNeg)).2) (cond (zin (g3.1 250 22) 9) (zev mX12_isPolygon 28 [.ref 250, .int a1, .int (a2 + 1)] (zsI (zsI g3 300 ((g3.1 250 22).toNatClampNeg) ((g3.2 (345 + a1.toNatClampNeg) a2.toNatClampNeg).toInt32)) 250 22 (((zsI g3 300 ((g3.1 250 22).toNatClampNeg) ((g3.2 (345 + a1.toNatClampNeg) a2.toNatClampNeg).toInt32)).1 250 22) + 1))) none) none) none) (some (some (.int 0), g3))) none) none)) none) none)) none := by rw [zev_eq]; rfl
set_option maxRecDepth 100000 in
theorem uX12_isPolygon_107 (g : zIJ) (a2 : Int32) : zev mX12_isPolygon 107 [.ref 250, .int a2] g = cond (decide ((g.1 250 22) ≤ a2)) (some (some (.int 1), g)) (zev mX12_isPolygon 117 [.ref 250, .int a2, .int 0] g) := by rw [zev_eq]; rfl
set_option maxRecDepth 100000 in
theorem uX12_isPolygon_117 (g : zIJ) (a2 : Int32) (a3 : Int32) : zev mX12_isPolygon 117 [.ref 250, .int a2, .int a3] g = cond (decide ((g.1 250 22) ≤ a3)) (zev mX12_isPolygon 107 [.ref 250, .int (a2 + 1)] g) (zaI (zev mX12_cornerAt 0 [.ref 250, .int a2] g) fun x2 g1 => zaI (zev mX12_cornerAt 0 [.ref 250, .int (a2 + 1)] g1) fun x4 g3 => zaI (zev mX12_cornerAt 0 [.ref 250, .int a3] g3) fun x6 g5 => zaI (zev mX12_cornerAt 0 [.ref 250, .int (a3 + 1)] g5) fun x8 g7 => zaI (zev mX12_doCross 0 [.ref 250, .int x2, .int x4, .int x6, .int x8] g7) fun x10 g9 => cond (decide (x10 = 0)) (zev mX12_isPolygon 117 [.ref 250, .int a2, .int (a3 + 1)] g9) (some (some (.int 0), g9))) := by rw [zev_eq]; rfl
set_option maxRecDepth 100000 in
theorem uX12_whyNot_0 (g : zIJ) (a1 : Int32) : zev mX12_whyNot 0 [.ref 250, .int a1] g = zaI (zev mX12_isSheet 0 [.int a1] g) fun x2 g1 => cond (!decide (x2 = 0)) (cond (zin a1 4) (cond (decide (0 ≤ (g1.1 342 a1.toNatClampNeg))) (zaI (zev mX12_isPolygon 0 [.ref 250, .int a1] g1) fun x4 g3 => cond (decide (x4 = 0)) (some (some (.int 4), g3)) (some (some (.int (-1)), g3))) (some (some (.int 5), g1))) none) (some (some (.int 0), g1)) := by rw [zev_eq]; rfl
set_option maxRecDepth 100000 in
theorem uX12_isInside_0 (g : zIJ) (a1 : Int32) (a2 : Int32) : zev mX12_isInside 0 [.ref 250, .int a1, .int a2] g = zev mX12_isInside 5 [.ref 250, .int a1, .int a2, .int 0, .int 0] g := by rw [zev_eq]; rfl
set_option maxRecDepth 100000 in
theorem uX12_isInside_5 (g : zIJ) (a1 : Int32) (a2 : Int32) (a3 : Int32) (a4 : Int32) : zev mX12_isInside 5 [.ref 250, .int a1, .int a2, .int a3, .int a4] g = cond (decide ((g.1 250 22) ≤ a4)) (cond (zbit a3) (some (some (.int a3), g)) none) (zaI (zev mX12_cornerAt 0 [.ref 250, .int a4] g) fun x2 g1 => zaI (zev mX12_cornerAt 0 [.ref 250, .int (a4 + 1)] g1) fun x4 g3 => zaI (zev mX12_y 0 [.ref 250, .int x2] g3) fun x6 g5 => zaI (zev mX12_y 0 [.ref 250, .int x4] g5) fun x8 g7 => cond (decide (x8 ≤ x6)) (zaI (zev mX12_y 0 [.ref 250, .int x2] g7) fun x10 g9 => zaI (zev mX12_y 0 [.ref 250, .int x4] g9) fun x12 g11 => cond (decide (x12 ≤ x10)) (zaI (zev mX12_y 0 [.ref 250, .int x4] g11) fun x14 g13 => cond (decide (a2 < (2 * x14))) (zev mX12_isInside 5 [.ref 250, .int a1, .int a2, .int a3, .int (a4 + 1)] g13) (zaI (zev mX12_y 0 [.ref 250, .int x2] g13) fun x16 g15 => cond (decide (a2 < (2 * x16))) (zaI (zev mX12_x 0 [.ref 250, .int x4] g15) fun x18 g17 => zaI (zev mX12_y 0 [.ref 250, .int x4] g17) fun x20 g19 => zaI (zev mX12_x 0 [.ref 250, .int x2] g19) fun x22 g21 => zaI (zev mX12_y 0 [.ref 250, .int x2] g21) fun x24 g23 => zaI (zev mX12_side 0 [.int (2 * x18), .int (2 * x20), .int (2 * x22), .int (2 * x24), .int a1, .int a2] g23) fun x26 g25 => cond (decide (x26 ≤ 0)) (zev mX12_isInside 5 [.ref 250, .int a1, .int a2, .int (a3 ^^^ 0), .int (a4 + 1)] g25) (zev mX12_isInside 5 [.ref 250, .int a1, .int a2, .int (a3 ^^^ 1), .int (a4 + 1)] g25)) (zev mX12_isInside 5 [.ref 250, .int a1, .int a2, .int a3, .int (a4 + 1)] g15))) (zaI (zev mX12_y 0 [.ref 250, .int x4] g11) fun x28 g27 => cond (decide (a2 < (2 * x28))) (zev mX12_isInside 5 [.ref 250, .int a1, .int a2, .int a3, .int (a4 + 1)] g27) (zaI (zev mX12_y 0 [.ref 250, .int x4] g27) fun x30 g29 => cond (decide (a2 < (2 * x30))) (zaI (zev mX12_x 0 [.ref 250, .int x4] g29) fun x32 g31 => zaI (zev mX12_y 0 [.ref 250, .int x4] g31) fun x34 g33 => zaI (zev mX12_x 0 [.ref 250, .int x4] g33) fun x36 g35 => zaI (zev mX12_y 0 [.ref 250, .int x4] g35) fun x38 g37 => zaI (zev mX12_side 0 [.int (2 * x32), .int (2 * x34), .int (2 * x36), .int (2 * x38), .int a1, .int a2] g37) fun x40 g39 => cond (decide (x40 ≤ 0)) (zev mX12_isInside 5 [.ref 250, .int a1, .int a2, .int (a3 ^^^ 0), .int (a4 + 1)] g39) (zev mX12_isInside 5 [.ref 250, .int a1, .int a2, .int (a3 ^^^ 1), .int (a4 + 1)] g39)) (zev mX12_isInside 5 [.ref 250, .int a1, .int a2, .int a3, .int (a4 + 1)] g29)))) (zaI (zev mX12_y 0 [.ref 250, .int x2] g7) fun x42 g41 => zaI (zev mX12_y 0 [.ref 250, .int x4] g41) fun x44 g43 => cond (decide (x44 ≤ x42)) (zaI (zev mX12_y 0 [.ref 250, .int x2] g43) fun x46 g45 => cond (decide (a2 < (2 * x46))) (zev mX12_isInside 5 [.ref 250, .int a1, .int a2, .int a3, .int (a4 + 1)] g45) (zaI (zev mX12_y 0 [.ref 250, .int x2] g45) fun x48 g47 => cond (decide (a2 < (2 * x48))) (zaI (zev mX12_x 0 [.ref 250, .int x2] g47) fun x50 g49 => zaI (zev mX12_y 0 [.ref 250, .int x2] g49) fun x52 g51 => zaI (zev mX12_x 0 [.ref 250, .int x2] g51) fun x54 g53 => zaI (zev mX12_y 0 [.ref 250, .int x2] g53) fun x56 g55 => zaI (zev mX12_side 0 [.int (2 * x50), .int (2 * x52), .int (2 * x54), .int (2 * x56), .int a1, .int a2] g55) fun x58 g57 => cond (decide (x58 ≤ 0)) (zev mX12_isInside 5 [.ref 250, .int a1, .int a2, .int (a3 ^^^ 0), .int (a4 + 1)] g57) (zev mX12_isInside 5 [.ref 250, .int a1, .int a2, .int (a3 ^^^ 1), .int (a4 + 1)] g57)) (zev mX12_isInside 5 [.ref 250, .int a1, .int a2, .int a3, .int (a4 + 1)] g47))) (zaI (zev mX12_y 0 [.ref 250, .int x2] g43) fun x60 g59 => cond (decide (a2 < (2 * x60))) (zev mX12_isInside 5 [.ref 250, .int a1, .int a2, .int a3, .int (a4 + 1)] g59) (zaI (zev mX12_y 0 [.ref 250, .int x4] g59) fun x62 g61 => cond (decide (a2 < (2 * x62))) (zaI (zev mX12_x 0 [.ref 250, .int x2] g61) fun x64 g63 => zaI (zev mX12_y 0 [.ref 250, .int x2] g63) fun x66 g65 => zaI (zev mX12_x 0 [.ref 250, .int x4] g65) fun x68 g67 => zaI (zev mX12_y 0 [.ref 250, .int x4] g67) fun x70 g69 => zaI (zev mX12_side 0 [.int (2 * x64), .int (2 * x66), .int (2 * x68), .int (2 * x70), .int a1, .int a2] g69) fun x72 g71 => cond (decide (x72 ≤ 0)) (zev mX12_isInside 5 [.ref 250, .int a1, .int a2, .int (a3 ^^^ 0), .int (a4 + 1)] g71) (zev mX12_isInside 5 [.ref 250, .int a1, .int a2, .int (a3 ^^^ 1), .int (a4 + 1)] g71)) (zev mX12_isInside 5 [.ref 250, .int a1, .int a2, .int a3, .int (a4 + 1)] g61))))) := by rw [zev_eq]; rfl
set_option maxRecDepth 100000 in
theorem uX12_isSide_0 (g : zIJ) (a1 : Int32) (a2 : Int32) : zev mX12_isSide 0 [.ref 250, .int a1, .int a2] g = zev mX12_isSide 2 [.ref 250, .int a1, .int a2, .int 0] g := by rw [zev_eq]; rfl
set_option maxRecDepth 100000 in
theorem uX12_isSide_2 (g : zIJ) (a1 : Int32) (a2 : Int32) (a3 : Int32) : zev mX12_isSide 2 [.ref 250, .int a1, .int a2, .int a3] g = cond (decide ((g.1 250 22) ≤ a3)) (some (some (.int 0), g)) (zaI (zev mX12_cornerAt 0 [.ref 250, .int a3] g) fun x2 g1 => cond (!decide (x2 = a1)) (zev mX12_isSide 30 [.ref 250, .int a1, .int a2, .int a3] g1) (zaI (zev mX12_cornerAt 0 [.ref 250, .int (a3 + 1)] g1) fun x4 g3 => cond (decide (x4 = a2)) (some (some (.int 1), g3)) (zev mX12_isSide 30 [.ref 250, .int a1, .int a2, .int a3] g3))) := by rw [zev_eq]; rfl
set_option maxRecDepth 100000 in
theorem uX12_isSide_30 (g : zIJ) (a1 : Int32) (a2 : Int32) (a3 : Int32) : zev mX12_isSide 30 [.ref 250, .int a1, .int a2, .int a3] g = zaI (zev mX12_cornerAt 0 [.ref 250, .int a3] g) fun x2 g1 => cond (!decide (x2 = a2)) (zev mX12_isSide 2 [.ref 250, .int a1, .int a2, .int (a3 + 1)] g1) (zaI (zev mX12_cornerAt 0 [.ref 250, .int (a3 + 1)] g1) fun x4 g3 => cond (!decide (x4 = a1)) (zev mX12_isSide 2 [.ref 250, .int a1, .int a2, .int (a3 + 1)] g3) (some (some (.int 1), g3))) := by rw [zev_eq]; rfl
set_option maxRecDepth 100000 in
theorem uX12_runsInside_0 (g : zIJ) (a1 : Int32) (a2 : Int32) : zev mX12_runsInside 0 [.ref 250, .int a1, .int a2] g = zaI (zev mX12_isSide 0 [.ref 250, .int a1, .int a2] g) fun x2 g1 => cond (decide (x2 = 0)) (zev mX12_runsInside 13 [.ref 250, .int a1, .int a2, .int 0] g1) (some (some (.int 0), g1)) := by rw [zev_eq]; rfl
set_option maxRecDepth 100000 in
theorem uX12_runsInside_13 (g : zIJ) (a1 : Int32) (a2 : Int32) (a3 : Int32) : zev mX12_runsInside 13 [.ref 250, .int a1, .int a2, .int a3] g = cond (decide ((g.1 250 22) ≤ a3)) (zaI (zev mX12_x 0 [.ref 250, .int a1] g) fun x2 g1 => zaI (zev mX12_x 0 [.ref 250, .int a2] g1) fun x4 g3 => zaI (zev mX12_y 0 [.ref 250, .int a1] g3) fun x6 g5 => zaI (zev mX12_y 0 [.ref 250, .int a2] g5) fun x8 g7 => zaI (zev mX12_isInside 0 [.ref 250, .int (x2 + x4), .int (x6 + x8)] g7) fun x10 g9 => cond (zbit x10) (some (some (.int x10), g9)) none) (zaI (zev mX12_cornerAt 0 [.ref 250, .int a3] g) fun x12 g11 => zaI (zev mX12_cornerAt 0 [.ref 250, .int (a3 + 1)] g11) fun x14 g13 => zaI (zev mX12_doCross 0 [.ref 250, .int a1, .int a2, .int x12, .int x14] g13) fun x16 g15 => cond (decide (x16 = 0)) (zev mX12_runsInside 13 [.ref 250, .int a1, .int a2, .int (a3 + 1)] g15) (some (some (.int 0), g15))) := by rw [zev_eq]; rfl
set_option maxRecDepth 100000 in
theorem uX12_splits_0 (g : zIJ) (a1 : Int32) : zev mX12_splits 0 [.ref 250, .int a1] g = zaI (zev mX12_whyNot 0 [.ref 250, .int a1] g) fun x2 g1 => cond (decide (x2 < 0)) (zaV (zev mX12_readsCrossings 0 [.ref 250] (zsI g1 250 15 0)) fun g3 => zev mX12_splits 42 [.ref 250, .int 0] (zsL (zsL (zsL g3 250 10 0) 250 11 0) 250 12 0)) (zaI (zev mX12_finds 0 [.ref 250, .int x2] g1) fun x5 g4 => some (some (.int x5), g4)) := by rw [zev_eq]; rfl
set_option maxRecDepth 100000 in
theorem uX12_splits_42 (g : zIJ) (a3 : Int32) : zev mX12_splits 42 [.ref 250, .int a3] g = cond (decide ((g.1 250 22) ≤ a3)) (zaV (zev mX12_lists 0 [.ref 250, .long 0, .int 36] (zsI g 250 14 0)) fun g1 => some (some (.int (g1.1 250 14)), g1)) (zev mX12_splits 55 [.ref 250, .int a3, .int (a3 + 1)] g) := by rw [zev_eq]; rfl
set_option maxRecDepth 100000 in
theorem uX12_splits_55 (g : zIJ) (a3 : Int32) (a4 : Int32) : zev mX12_splits 55 [.ref 250, .int a3, .int a4] g = cond (decide ((g.1 250 22) ≤ a4)) (zev mX12_splits 42 [.ref 250, .int (a3 + 1)] g) (cond (zin a3 9) (cond (zin a4 9) (zaI (zev mX12_runsInside 0 [.ref 250, .int (g.1 300 a3.toNatClampNeg), .int (g.1 300 a4.toNatClampNeg)] g) fun x2 g1 => cond (decide (x2 = 0)) (zev mX12_splits 55 [.ref 250, .int a3, .int (a4 + 1)] (zsL g1 250 10 ((g.2 250 10) ||| 0))) (cond (zin a3 9) (cond (zin a4 9) (zaI (zev mX12_edge 0 [.int (g1.1 300 a3.toNatClampNeg), .int (g1.1 300 a4.toNatClampNeg)] g1) fun x4 g3 => zev mX12_splits 55 [.ref 250, .int a3, .int (a4 + 1)] (zsL g3 250 10 ((g.2 250 10) ||| ((1 : Int64) <<< (x4.toInt64 &&& 63))))) none) none)) none) none) := by rw [zev_eq]; rfl
set_option maxRecDepth 100000 in
theorem uX12_area_0 (g : zIJ) (a1 : Int32) : zev mX12_area 0 [.ref 250, .int a1] g = zaI (zev mX12_whyNot 0 [.ref 250, .int a1] g) fun x2 g1 => cond (decide (x2 < 0)) (zev mX12_area 21 [.ref 250, .int 0, .int 0] g1) (zaI (zev mX12_finds 0 [.ref 250, .int x2] g1) fun x4 g3 => some (some (.int x4), g3)) := by rw [zev_eq]; rfl
set_option maxRecDepth 100000 in
theorem uX12_area_21 (g : zIJ) (a3 : Int32) (a4 : Int32) : zev mX12_area 21 [.ref 250, .int a3, .int a4] g = cond (decide ((g.1 250 22) ≤ a4)) (some (some (.int (zabI a3)), g)) (zaI (zev mX12_cornerAt 0 [.ref 250, .int a4] g) fun x2 g1 => zaI (zev mX12_x 0 [.ref 250, .int x2] g1) fun x4 g3 => zaI (zev mX12_cornerAt 0 [.ref 250, .int (a4 + 1)] g3) fun x6 g5 => zaI (zev mX12_y 0 [.ref 250, .int x6] g5) fun x8 g7 => zaI (zev mX12_cornerAt 0 [.ref 250, .int (a4 + 1)] g7) fun x10 g9 => zaI (zev mX12_x 0 [.ref 250, .int x10] g9) fun x12 g11 => zaI (zev mX12_cornerAt 0 [.ref 250, .int a4] g11) fun x14 g13 => zaI (zev mX12_y 0 [.ref 250, .int x14] g13) fun x16 g15 => zev mX12_area 21 [.ref 250, .int (a3 + ((x4 * x8) - (x12 * x16))), .int (a4 + 1)] g15) := by rw [zev_eq]; rfl
set_option maxRecDepth 100000 in
theorem uX12_within_0 (g : zIJ) (a1 : Int32) : zev mX12_within 0 [.ref 250, .int a1] g = zaI (zev mX12_whyNot 0 [.ref 250, .int a1] g) fun x2 g1 => cond (decide (x2 < 0)) (zev mX12_within 21 [.ref 250, .int 0, .int 0] g1) (zaI (zev mX12_finds 0 [.ref 250, .int x2] g1) fun x4 g3 => some (some (.int x4), g3)) := by rw [zev_eq]; rfl
set_option maxRecDepth 100000 in
theorem uX12_within_21 (g : zIJ) (a3 : Int32) (a4 : Int32) : zev mX12_within 21 [.ref 250, .int a3, .int a4] g = zaI (zev mX12_points 0 [.ref 250] g) fun x2 g1 => cond (decide (x2 ≤ a4)) (some (some (.int a3), g1)) (zaI (zev mX12_isCorner 0 [.ref 250, .int a4] g1) fun x4 g3 => cond (!decide (x4 = 0)) (zev mX12_within 21 [.ref 250, .int (a3 ||| 0), .int (a4 + 1)] g3) (zaI (zev mX12_x 0 [.ref 250, .int a4] g3) fun x6 g5 => zaI (zev mX12_y 0 [.ref 250, .int a4] g5) fun x8 g7 => zaI (zev mX12_isInside 0 [.ref 250, .int (2 * x6), .int (2 * x8)] g7) fun x10 g9 => cond (decide (x10 = 0)) (zev mX12_within 21 [.ref 250, .int (a3 ||| 0), .int (a4 + 1)] g9) (zev mX12_within 21 [.ref 250, .int (a3 ||| ((1 : Int32) <<< (a4 &&& 31))), .int (a4 + 1)] g9))) := by rw [zev_eq]; rfl
set_option maxRecDepth 100000 in
theorem uX12_isEmpty_0 (g : zIJ) (a1 : Int32) : zev mX12_isEmpty 0 [.ref 250, .int a1] g = zev mX12_isEmpty 2 [.ref 250, .int a1, .int 0] g := by rw [zev_eq]; rfl
set_option maxRecDepth 100000 in
theorem uX12_isEmpty_2 (g : zIJ) (a1 : Int32) (a2 : Int32) : zev mX12_isEmpty 2 [.ref 250, .int a1, .int a2] g = zaI (zev mX12_points 0 [.ref 250] g) fun x2 g1 => cond (decide (x2 ≤ a2)) (some (some (.int 1), g1)) (zev mX12_isEmpty 14 [.ref 250, .int a1, .int a2, .int (a2 + 1)] g1) := by rw [zev_eq]; rfl
set_option maxRecDepth 100000 in
theorem uX12_isEmpty_14 (g : zIJ) (a1 : Int32) (a2 : Int32) (a3 : Int32) : zev mX12_isEmpty 14 [.ref 250, .int a1, .int a2, .int a3] g = zaI (zev mX12_points 0 [.ref 250] g) fun x2 g1 => cond (decide (x2 ≤ a3)) (zev mX12_isEmpty 2 [.ref 250, .int a1, .int (a2 + 1)] g1) (zev mX12_isEmpty 27 [.ref 250, .int a1, .int a2, .int a3, .int (a3 + 1)] g1) := by rw [zev_eq]; rfl
set_option maxRecDepth 100000 in
theorem uX12_isEmpty_27 (g : zIJ) (a1 : Int32) (a2 : Int32) (a3 : Int32) (a4 : Int32) : zev mX12_isEmpty 27 [.ref 250, .int a1, .int a2, .int a3, .int a4] g = zaI (zev mX12_points 0 [.ref 250] g) fun x2 g1 => cond (decide (x2 ≤ a4)) (zev mX12_isEmpty 14 [.ref 250, .int a1, .int a2, .int (a3 + 1)] g1) (cond (!decide (((((a1 >>> (a2 &&& 31)) &&& (a1 >>> (a3 &&& 31))) &&& (a1 >>> (a4 &&& 31))) &&& 1) = 0)) (zev mX12_isEmpty 59 [.ref 250, .int a1, .int a2, .int a3, .int a4, .int 0] g1) (zev mX12_isEmpty 27 [.ref 250, .int a1, .int a2, .int a3, .int (a4 + 1)] g1)) := by rw [zev_eq]; rfl
set_option maxRecDepth 100000 in
theorem uX12_isEmpty_59 (g : zIJ) (a1 : Int32) (a2 : Int32) (a3 : Int32) (a4 : Int32) (a5 : Int32) : zev mX12_isEmpty 59 [.ref 250, .int a1, .int a2, .int a3, .int a4, .int a5] g = zaI (zev mX12_points 0 [.ref 250] g) fun x2 g1 => cond (decide (x2 ≤ a5)) (zev mX12_isEmpty 27 [.ref 250, .int a1, .int a2, .int a3, .int (a4 + 1)] g1) (zaI (zev mX12_isWithin 0 [.ref 250, .int a5, .int a2, .int a3, .int a4] g1) fun x4 g3 => cond (decide (x4 = 0)) (zev mX12_isEmpty 59 [.ref 250, .int a1, .int a2, .int a3, .int a4, .int (a5 + 1)] g3) (some (some (.int 0), g3))) := by rw [zev_eq]; rfl
set_option maxRecDepth 100000 in
theorem uX12_empty_0 (g : zIJ) (a1 : Int32) : zev mX12_empty 0 [.ref 250, .int a1] g = zaI (zev mX12_in 0 [.long a1.toInt64, .long 3, .long 6] g) fun x2 g1 => cond (!decide (x2 = 0)) (zev mX12_empty 24 [.ref 250, .int a1, .int 0, .int 0] g1) (zaI (zev mX12_finds 0 [.ref 250, .int 0] g1) fun x4 g3 => some (some (.int x4), g3)) := by rw [zev_eq]; rfl
set_option maxRecDepth 100000 in
theorem uX12_empty_24 (g : zIJ) (a1 : Int32) (a2 : Int32) (a3 : Int32) : zev mX12_empty 24 [.ref 250, .int a1, .int a2, .int a3] g = zaI (zev mX12_points 0 [.ref 250] g) fun x2 g1 => cond (decide (((1 : Int32) <<< (x2 &&& 31)) ≤ a3)) (some (some (.int a2), g1)) (zaI (zev mJ6_bitCount_0f7a4 0 [.int a3] g1) fun x4 g3 => cond (!decide (x4 = a1)) (zev mX12_empty 24 [.ref 250, .int a1, .int (a2 + 0), .int (a3 + 1)] g3) (zaI (zev mX12_isEmpty 0 [.ref 250, .int a3] g3) fun x6 g5 => cond (decide (x6 = 0)) (zev mX12_empty 24 [.ref 250, .int a1, .int (a2 + 0), .int (a3 + 1)] g5) (zev mX12_empty 24 [.ref 250, .int a1, .int (a2 + 1), .int (a3 + 1)] g5))) := by rw [zev_eq]; rfl
set_option maxRecDepth 100000 in
theorem uX12_prove_0 (g : zIJ) (a1 : Int32) : zev mX12_prove 0 [.ref 250, .int a1] g = zaI (zev mX12_isNet 0 [.ref 250, .int a1] g) fun x2 g1 => cond (!decide (x2 = 0)) (zaI (zev mX12_firstPath 0 [.ref 250] g1) fun x4 g3 => zev mX12_prove 27 [.ref 250, .int a1] (zsI (zsI g3 250 18 x4) 250 24 0)) (zaI (zev mX12_finds 0 [.ref 250, .int 3] g1) fun x6 g5 => some (some (.int x6), g5)) := by rw [zev_eq]; rfl
set_option maxRecDepth 100000 in
theorem uX12_prove_27 (g : zIJ) (a1 : Int32) : zev mX12_prove 27 [.ref 250, .int a1] g = cond (zin a1 5000) (zaI (zev mX12_advances_ 0 [.ref 250, .long (g.2 297 a1.toNatClampNeg)] g) fun x2 g1 => cond (decide (x2 = 0)) (some (some (.int (g1.1 250 24)), g1)) (cond (zin (g1.1 250 24) 40) (cond (Nat.beq (zC (302 + (g1.1 250 24).toNatClampNeg)).1 100 && zin 0 (zC (302 + (g1.1 250 24).toNatClampNeg)).2) (cond (zin ((zsI g1 (302 + (g1.1 250 24).toNatClampNeg) ((0 : Int32).toNatClampNeg) (g1.1 250 19)).1 250 24) 40) (cond (Nat.beq (zC (302 + ((zsI g1 (302 + (g1.1 250 24).toNatClampNeg) ((0 : Int32).toNatClampNeg) (g1.1 250 19)).1 250 24).toNatClampNeg)).1 100 && zin 1 (zC (302 + ((zsI g1 (302 + (g1.1 250 24).toNatClampNeg) ((0 : Int32).toNatClampNeg) (g1.1 250 19)).1 250 24).toNatClampNeg)).2) (zev mX12_prove 27 [.ref 250, .int a1] (zsI (zsI (zsI g1 (302 + (g1.1 250 24).toNatClampNeg) ((0 : Int32).toNatClampNeg) (g1.1 250 19)) (302 + ((zsI g1 (302 + (g1.1 250 24).toNatClampNeg) ((0 : Int32).toNatClampNeg) (g1.1 250 19)).1 250 24).toNatClampNeg) ((1 : Int32).toNatClampNeg) ((zsI g1 (302 + (g1.1 250 24).toNatClampNeg) ((0 : Int32).toNatClampNeg) (g1.1 250 19)).1 250 20)) 250 24 (((zsI (zsI g1 (302 + (g1.1 250 24).toNatClampNeg) ((0 : Int32).toNatClampNeg) (g1.1 250 19)) (302 + ((zsI g1 (302 + (g1.1 250 24).toNatClampNeg) ((0 : Int32).toNatClampNeg) (g1.1 250 19)).1 250 24).toNatClampNeg) ((1 : Int32).toNatClampNeg) ((zsI g1 (302 + (g1.1 250 24).toNatClampNeg) ((0 : Int32).toNatClampNeg) (g1.1 250 19)).1 250 20)).1 250 24) + 1))) none) none) none) none)) none := by rw [zev_eq]; rfl
set_option maxRecDepth 100000 in
theorem uX12_isRow_0 (g : zIJ) (a1 : Int32) (a2 : Int32) : zev mX12_isRow 0 [.ref 250, .int a1, .int a2] g = zaI (zev mX12_in 0 [.long a1.toInt64, .long 0, .long (((g.1 250 24) - 1).toInt64)] g) fun x2 g1 => cond (decide (x2 = 0)) (some (some (.int 0), g1)) (zaI (zev mX12_in 0 [.long a2.toInt64, .long 0, .long 1] g1) fun x4 g3 => cond (decide (x4 = 0)) (some (some (.int 0), g3)) (some (some (.int 1), g3))) := by rw [zev_eq]; rfl
set_option maxRecDepth 100000 in
theorem uX12_row_0 (g : zIJ) (a1 : Int32) (a2 : Int32) : zev mX12_row 0 [.ref 250, .int a1, .int a2] g = zaI (zev mX12_isRow 0 [.ref 250, .int a1, .int a2] g) fun x2 g1 => cond (decide (x2 = 0)) (zaI (zev mX12_finds 0 [.ref 250, .int 0] g1) fun x4 g3 => some (some (.int x4), g3)) (cond (zin a1 40) (cond (zisI (zC (302 + a1.toNatClampNeg)).1 && zin a2 (zlen g1 (302 + a1.toNatClampNeg))) (some (some (.int (zrd g1 (302 + a1.toNatClampNeg) a2.toNatClampNeg)), g1)) none) none) := by rw [zev_eq]; rfl
set_option maxRecDepth 100000 in
theorem uX12_alter_0 (g : zIJ) (a1 : Int32) (a2 : Int32) (a3 : Int32) : zev mX12_alter 0 [.ref 250, .int a1, .int a2, .int a3] g = zaI (zev mX12_isRow 0 [.ref 250, .int a1, .int a2] g) fun x2 g1 => cond (!decide (x2 = 0)) (cond (zin a1 40) (cond (zisI (zC (302 + a1.toNatClampNeg)).1 && zin a2 (zlen g1 (302 + a1.toNatClampNeg))) (cond (zin a1 40) (cond (Nat.beq (zC (302 + a1.toNatClampNeg)).1 100 && zin a2 (zC (302 + a1.toNatClampNeg)).2) (some (some (.int (zrd g1 (302 + a1.toNatClampNeg) a2.toNatClampNeg)), zsI g1 (302 + a1.toNatClampNeg) a2.toNatClampNeg a3)) none) none) none) none) (zaI (zev mX12_finds 0 [.ref 250, .int 0] g1) fun x4 g3 => some (some (.int x4), g3)) := by rw [zev_eq]; rfl
set_option maxRecDepth 100000 in
theorem uX12_judge_0 (g : zIJ) (a1 : Int32) : zev mX12_judge 0 [.ref 250, .int a1] g = zaI (zev mX12_isNet 0 [.ref 250, .int a1] g) fun x2 g1 => cond (!decide (x2 = 0)) (zaI (zev mX12_firstPath 0 [.ref 250] g1) fun x4 g3 => zev mX12_judge 24 [.ref 250, .int a1, .int 0] (zsI g3 250 18 x4)) (zaI (zev mX12_finds 0 [.ref 250, .int 3] g1) fun x6 g5 => some (some (.int x6), g5)) := by rw [zev_eq]; rfl
set_option maxRecDepth 100000 in
theorem uX12_judge_24 (g : zIJ) (a1 : Int32) (a2 : Int32) : zev mX12_judge 24 [.ref 250, .int a1, .int a2] g = cond (zin a1 5000) (zaI (zev mX12_advances_ 0 [.ref 250, .long (g.2 297 a1.toNatClampNeg)] g) fun x2 g1 => cond (decide (x2 = 0)) (cond (decide ((g1.1 250 24) ≤ a2)) (some (some (.int 0), g1)) (some (some (.int (1 + a2)), g1))) (cond (decide ((g1.1 250 24) ≤ a2)) (some (some (.int (1 + a2)), g1)) (cond (zin a2 40) (cond (zisI (zC (302 + a2.toNatClampNeg)).1 && zin 0 (zlen g1 (302 + a2.toNatClampNeg))) (cond (!decide ((zrd g1 (302 + a2.toNatClampNeg) ((0 : Int32).toNatClampNeg)) = (g1.1 250 19))) (some (some (.int (1 + a2)), g1)) (cond (zin a2 40) (cond (zisI (zC (302 + a2.toNatClampNeg)).1 && zin 1 (zlen g1 (302 + a2.toNatClampNeg))) (cond (decide ((zrd g1 (302 + a2.toNatClampNeg) ((1 : Int32).toNatClampNeg)) = (g1.1 250 20))) (zev mX12_judge 24 [.ref 250, .int a1, .int (a2 + 1)] g1) (some (some (.int (1 + a2)), g1))) none) none)) none) none))) none := by rw [zev_eq]; rfl
set_option maxRecDepth 100000 in
theorem uX12_isSheet_0 (g : zIJ) (a0 : Int32) : zev mX12_isSheet 0 [.int a0] g = zaI (zev mX12_in 0 [.long a0.toInt64, .long 0, .long 3] g) fun x2 g1 => cond (zbit x2) (some (some (.int x2), g1)) none := by rw [zev_eq]; rfl
set_option maxRecDepth 100000 in
theorem uX12_sheet_0 (g : zIJ) (a1 : Int32) (a2 : Int32) (a3 : Int32) : zev mX12_sheet 0 [.ref 250, .int a1, .int a2, .int a3] g = zaI (zev mX12_isSheet 0 [.int a1] g) fun x2 g1 => cond (decide (x2 = 0)) (zaI (zev mX12_finds 0 [.ref 250, .int 0] g1) fun x4 g3 => some (some (.int x4), g3)) (zaI (zev mX12_in 0 [.long a2.toInt64, .long (-1), .long 2] g1) fun x6 g5 => cond (!decide (x6 = 0)) (cond (decide (a2 < 0)) (zev mX12_sheet 42 [.ref 250, .int a1, .int a2, .int a3] g5) (cond (decide (0 ≤ a3)) (zev mX12_sheet 42 [.ref 250, .int a1, .int a2, .int a3] g5) (zaI (zev mX12_finds 0 [.ref 250, .int 6] g5) fun x8 g7 => some (some (.int x8), g7)))) (zaI (zev mX12_finds 0 [.ref 250, .int 0] g5) fun x10 g9 => some (some (.int x10), g9))) := by rw [zev_eq]; rfl
set_option maxRecDepth 100000 in
theorem uX12_sheet_42 (g : zIJ) (a1 : Int32) (a2 : Int32) (a3 : Int32) : zev mX12_sheet 42 [.ref 250, .int a1, .int a2, .int a3] g = cond (decide (a2 < 0)) (zev mX12_sheet 58 [.ref 250, .int a1, .int a2, .int a3] g) (cond (decide (a3 ≤ 40)) (zev mX12_sheet 58 [.ref 250, .int a1, .int a2, .int a3] g) (zaI (zev mX12_finds 0 [.ref 250, .int 0] g) fun x2 g1 => some (some (.int x2), g1))) := by rw [zev_eq]; rfl
set_option maxRecDepth 100000 in
theorem uX12_sheet_58 (g : zIJ) (a1 : Int32) (a2 : Int32) (a3 : Int32) : zev mX12_sheet 58 [.ref 250, .int a1, .int a2, .int a3] g = cond (zin a1 4) (cond (decide (0 ≤ a2)) (cond (zin a1 4) (zev mX12_sheet 83 [.ref 250, .int a1, .int 0] (zsI (zsI g 342 a1.toNatClampNeg a2) 343 a1.toNatClampNeg a3)) none) (cond (zin a1 4) (zev mX12_sheet 83 [.ref 250, .int a1, .int 0] (zsI (zsI g 342 a1.toNatClampNeg a2) 343 a1.toNatClampNeg 0)) none)) none := by rw [zev_eq]; rfl
set_option maxRecDepth 100000 in
theorem uX12_sheet_83 (g : zIJ) (a1 : Int32) (a4 : Int32) : zev mX12_sheet 83 [.ref 250, .int a1, .int a4] g = cond (decide (40 ≤ a4)) (cond (zin a1 4) (some (some (.int (g.1 343 a1.toNatClampNeg)), g)) none) (cond (zin a1 4) (cond (Nat.beq (zC (345 + a1.toNatClampNeg)).1 101 && zin a4 (zC (345 + a1.toNatClampNeg)).2) (zev mX12_sheet 83 [.ref 250, .int a1, .int (a4 + 1)] (zsL g (345 + a1.toNatClampNeg) a4.toNatClampNeg 0)) none) none) := by rw [zev_eq]; rfl
set_option maxRecDepth 100000 in
theorem uX12_whyNot__0 (g : zIJ) (a1 : Int32) (a2 : Int32) : zev mX12_whyNot_ 0 [.ref 250, .int a1, .int a2] g = zaI (zev mX12_isSheet 0 [.int a1] g) fun x2 g1 => cond (!decide (x2 = 0)) (cond (zin a1 4) (cond (decide (0 ≤ (g1.1 342 a1.toNatClampNeg))) (cond (zin a1 4) (zaI (zev mX12_in 0 [.long a2.toInt64, .long 0, .long (((g1.1 343 a1.toNatClampNeg) - 1).toInt64)] g1) fun x4 g3 => cond (!decide (x4 = 0)) (some (some (.int (-1)), g3)) (some (some (.int 0), g3))) none) (some (some (.int 5), g1))) none) (some (some (.int 0), g1)) := by rw [zev_eq]; rfl
set_option maxRecDepth 100000 in
theorem uX12_write_0 (g : zIJ) (a1 : Int32) (a2 : Int32) (b3 : Int64) : zev mX12_write 0 [.ref 250, .int a1, .int a2, .long b3] g = zaI (zev mX12_whyNot_ 0 [.ref 250, .int a1, .int a2] g) fun x2 g1 => cond (decide (x2 < 0)) (cond (zin a1 4) (cond (zin a1 4) (cond (!decide ((g1.1 342 a1.toNatClampNeg) = 0)) (cond (zin a1 4) (cond (!decide ((g1.1 342 a1.toNatClampNeg) = 1)) (cond (Nat.beq (zC (345 + a1.toNatClampNeg)).1 101 && zin a2 (zC (345 + a1.toNatClampNeg)).2) (some (some (.int 1), zsL g1 (345 + a1.toNatClampNeg) a2.toNatClampNeg b3)) none) (cond (Nat.beq (zC (345 + a1.toNatClampNeg)).1 101 && zin a2 (zC (345 + a1.toNatClampNeg)).2) (some (some (.int 1), zsL g1 (345 + a1.toNatClampNeg) a2.toNatClampNeg b3.toInt32.toInt64)) none)) none) (cond (Nat.beq (zC (345 + a1.toNatClampNeg)).1 101 && zin a2 (zC (345 + a1.toNatClampNeg)).2) (some (some (.int 1), zsL g1 (345 + a1.toNatClampNeg) a2.toNatClampNeg b3.toInt32.toInt8.toInt32.toInt64)) none)) none) none) (zaI (zev mX12_finds 0 [.ref 250, .int x2] g1) fun x4 g3 => some (some (.int x4), g3)) := by rw [zev_eq]; rfl
set_option maxRecDepth 100000 in
theorem uX12_item_0 (g : zIJ) (a1 : Int32) (a2 : Int32) : zev mX12_item 0 [.ref 250, .int a1, .int a2] g = zaI (zev mX12_whyNot_ 0 [.ref 250, .int a1, .int a2] g) fun x2 g1 => cond (decide (x2 < 0)) (cond (zin a1 4) (cond (Nat.beq (zC (345 + a1.toNatClampNeg)).1 101 && zin a2 (zC (345 + a1.toNatClampNeg)).2) (some (some (.long (g1.2 (345 + a1.toNatClampNeg) a2.toNatClampNeg)), g1)) none) none) (zaL (zev mX12_findsLong 0 [.ref 250, .int x2] g1) fun x4 g3 => some (some (.long x4), g3)) := by rw [zev_eq]; rfl
set_option maxRecDepth 100000 in
theorem uX12_copy_0 (g : zIJ) (a1 : Int32) (a2 : Int32) (a3 : Int32) (a4 : Int32) (a5 : Int32) : zev mX12_copy 0 [.ref 250, .int a1, .int a2, .int a3, .int a4, .int a5] g = zaI (zev mX12_isSheet 0 [.int a1] g) fun x2 g1 => cond (decide (x2 = 0)) (zaI (zev mX12_finds 0 [.ref 250, .int 0] g1) fun x4 g3 => some (some (.int x4), g3)) (zaI (zev mX12_isSheet 0 [.int a3] g1) fun x6 g5 => cond (!decide (x6 = 0)) (cond (zin a1 4) (cond (decide ((g5.1 342 a1.toNatClampNeg) < 0)) (zaI (zev mX12_finds 0 [.ref 250, .int 5] g5) fun x8 g7 => some (some (.int x8), g7)) (cond (zin a3 4) (cond (decide (0 ≤ (g5.1 342 a3.toNatClampNeg))) (cond (zin a1 4) (cond (zin a3 4) (cond (decide ((g5.1 342 a1.toNatClampNeg) = (g5.1 342 a3.toNatClampNeg))) (cond (decide (a2 < 0)) (zaI (zev mX12_finds 0 [.ref 250, .int 0] g5) fun x10 g9 => some (some (.int x10), g9)) (cond (decide (a4 < 0)) (zaI (zev mX12_finds 0 [.ref 250, .int 0] g5) fun x12 g11 => some (some (.int x12), g11)) (cond (decide (a5 < 0)) (zaI (zev mX12_finds 0 [.ref 250, .int 0] g5) fun x14 g13 => some (some (.int x14), g13)) (cond (zin a1 4) (cond (decide (0 < (lg_cmp (a2.toInt64 + a5.toInt64) ((g5.1 343 a1.toNatClampNeg).toInt64)))) (zaI (zev mX12_finds 0 [.ref 250, .int 0] g5) fun x16 g15 => some (some (.int x16), g15)) (cond (zin a3 4) (cond (decide ((lg_cmp (a4.toInt64 + a5.toInt64) ((g5.1 343 a3.toNatClampNeg).toInt64)) ≤ 0)) (zev mX12_copy 123 [.ref 250, .int a1, .int a2, .int a3, .int a4, .int a5, .int 0] g5) (zaI (zev mX12_finds 0 [.ref 250, .int 0] g5) fun x18 g17 => some (some (.int x18), g17))) none)) none)))) (zaI (zev mX12_finds 0 [.ref 250, .int 2] g5) fun x20 g19 => some (some (.int x20), g19))) none) none) (zaI (zev mX12_finds 0 [.ref 250, .int 5] g5) fun x22 g21 => some (some (.int x22), g21))) none)) none) (zaI (zev mX12_finds 0 [.ref 250, .int 0] g5) fun x24 g23 => some (some (.int x24), g23))) := by rw [zev_eq]; rfl
set_option maxRecDepth 100000 in
theorem uX12_copy_123 (g : zIJ) (a1 : Int32) (a2 : Int32) (a3 : Int32) (a4 : Int32) (a5 : Int32) (a6 : Int32) : zev mX12_copy 123 [.ref 250, .int a1, .int a2, .int a3, .int a4, .int a5, .int a6] g = cond (decide (a5 ≤ a6)) (zev mX12_copy 157 [.ref 250, .int a3, .int a4, .int a5, .int 0] g) (cond (zin a1 4) (cond (Nat.beq (zC (345 + a1.toNatClampNeg)).1 101 && zin (a2 + a6) (zC (345 + a1.toNatClampNeg)).2) (cond (zin a6 40) (zev mX12_copy 123 [.ref 250, .int a1, .int a2, .int a3, .int a4, .int a5, .int (a6 + 1)] (zsL g 349 a6.toNatClampNeg (g.2 (345 + a1.toNatClampNeg) ((a2 + a6).toNatClampNeg)))) none) none) none) := by rw [zev_eq]; rfl
set_option maxRecDepth 100000 in
theorem uX12_copy_157 (g : zIJ) (a3 : Int32) (a4 : Int32) (a5 : Int32) (a6 : Int32) : zev mX12_copy 157 [.ref 250, .int a3, .int a4, .int a5, .int a6] g = cond (decide (a5 ≤ a6)) (some (some (.int a5), g)) (cond (zin a3 4) (cond (zin a6 40) (cond (Nat.beq (zC (345 + a3.toNatClampNeg)).1 101 && zin (a4 + a6) (zC (345 + a3.toNatClampNeg)).2) (zev mX12_copy 157 [.ref 250, .int a3, .int a4, .int a5, .int (a6 + 1)] (zsL g (345 + a3.toNatClampNeg) ((a4 + a6).toNatClampNeg) (g.2 349 a6.toNatClampNeg))) none) none) none) := by rw [zev_eq]; rfl
set_option maxRecDepth 100000 in
theorem uX12_undo_0 (g : zIJ) : zev mX12_undo 0 [.ref 250] g = cond (!decide ((g.1 250 3) = 0)) (zev mX12_undo 38 [.ref 250, .int ((((zsI g 250 3 ((g.1 250 3) - 1)).1 250 2) + ((zsI g 250 3 ((g.1 250 3) - 1)).1 250 3)) - (((zsI g 250 3 ((g.1 250 3) - 1)).1 250 2) + ((zsI g 250 3 ((g.1 250 3) - 1)).1 250 3)) / 40 * 40), .int 0] (zsI g 250 3 ((g.1 250 3) - 1))) (zaI (zev mX12_finds 0 [.ref 250, .int 3] g) fun x2 g1 => some (some (.int x2), g1)) := by rw [zev_eq]; rfl
set_option maxRecDepth 100000 in
theorem uX12_undo_38 (g : zIJ) (a1 : Int32) (a2 : Int32) : zev mX12_undo 38 [.ref 250, .int a1, .int a2] g = cond (decide (72 ≤ a2)) (some (some (.int ((zsI g 250 15 0).1 250 3)), zsI g 250 15 0)) (cond (zin a1 40) (cond (zisI (zC (253 + a1.toNatClampNeg)).1 && zin a2 (zlen g (253 + a1.toNatClampNeg))) (cond (zin a2 72) (zev mX12_undo 38 [.ref 250, .int a1, .int (a2 + 1)] (zsI g 251 a2.toNatClampNeg (zrd g (253 + a1.toNatClampNeg) a2.toNatClampNeg))) none) none) none) := by rw [zev_eq]; rfl
set_option maxRecDepth 100000 in
theorem uX12_seed_0 (g : zIJ) (a1 : Int32) : zev mX12_seed 0 [.ref 250, .int a1] g = some (some (.int (g.1 250 4)), zsI g 250 4 a1) := by rw [zev_eq]; rfl
set_option maxRecDepth 100000 in
theorem uX12_marked_0 (g : zIJ) (a1 : Int32) : zev mX12_marked 0 [.ref 250, .int a1] g = zev mX12_marked 4 [.ref 250, .int a1, .int 0, .int 0] g := by rw [zev_eq]; rfl
set_option maxRecDepth 100000 in
theorem uX12_marked_4 (g : zIJ) (a1 : Int32) (a2 : Int32) (a3 : Int32) : zev mX12_marked 4 [.ref 250, .int a1, .int a2, .int a3] g = cond (decide (36 ≤ a3)) (some (some (.int a2), g)) (cond (zin (20 + a3) 72) (cond (!decide ((g.1 251 ((20 + a3).toNatClampNeg)) = a1)) (zev mX12_marked 4 [.ref 250, .int a1, .int (a2 + 0), .int (a3 + 1)] g) (zev mX12_marked 4 [.ref 250, .int a1, .int (a2 + 1), .int (a3 + 1)] g)) none) := by rw [zev_eq]; rfl
set_option maxRecDepth 100000 in
theorem uX12_count_0 (g : zIJ) (a1 : Int32) : zev mX12_count 0 [.ref 250, .int a1] g = cond (decide (a1.toInt = 0)) (zaI (zev mX12_points 0 [.ref 250] g) fun x8 g7 => some (some (.int x8), g7)) (cond (decide (a1.toInt = 1)) (cond (zin 1 72) (some (some (.int (g.1 251 ((1 : Int32).toNatClampNeg))), g)) none) (cond (decide (a1.toInt = 2)) (some (some (.int (g.1 250 3)), g)) (cond (decide (a1.toInt = 3)) (some (some (.int (g.1 250 4)), g)) (cond (decide (a1.toInt = 4)) (some (some (.int (g.1 250 24)), g)) (cond (decide (a1.toInt = 5)) (zaI (zev mX12_marked 0 [.ref 250, .int (a1 - 4)] g) fun x6 g5 => some (some (.int x6), g5)) (cond (decide (a1.toInt = 6)) (zaI (zev mX12_marked 0 [.ref 250, .int (a1 - 4)] g) fun x4 g3 => some (some (.int x4), g3)) (zaI (zev mX12_finds 0 [.ref 250, .int 0] g) fun x2 g1 => some (some (.int x2), g1)))))))) := by rw [zev_eq]; rfl
set_option maxRecDepth 100000 in
theorem uX12_status_0 (g : zIJ) (a1 : Int32) : zev mX12_status 0 [.ref 250, .int a1] g = zaI (zev mX12_in 0 [.long a1.toInt64, .long (-1), .long 7] g) fun x2 g1 => cond (!decide (x2 = 0)) (zev mX12_status 24 [.ref 250, .int a1, .int 0, .int 0] g1) (zaI (zev mX12_finds 0 [.ref 250, .int 0] g1) fun x4 g3 => some (some (.int x4), g3)) := by rw [zev_eq]; rfl
set_option maxRecDepth 100000 in
theorem uX12_status_24 (g : zIJ) (a1 : Int32) (a2 : Int32) (a3 : Int32) : zev mX12_status 24 [.ref 250, .int a1, .int a2, .int a3] g = cond (decide (8 ≤ a3)) (some (some (.int a2), g)) (cond (decide (a1 < 0)) (cond (zin a3 8) (zev mX12_status 24 [.ref 250, .int a1, .int (a2 + (g.1 293 a3.toNatClampNeg)), .int (a3 + 1)] g) none) (cond (!decide (a1 = a3)) (zev mX12_status 24 [.ref 250, .int a1, .int (a2 + 0), .int (a3 + 1)] g) (cond (zin a3 8) (zev mX12_status 24 [.ref 250, .int a1, .int (a2 + (g.1 293 a3.toNatClampNeg)), .int (a3 + 1)] g) none))) := by rw [zev_eq]; rfl
end
section
/-! The heap of the abstract machine beside the machine's own; what a method takes from the tables. -/
/-- words that a method may hand on to the methods that it calls -/
def zTG : List Cond := lw_tbl.filter goodWord
theorem zTG_in {w : Cond} (h : w ∈ lw_tbl) (hg : goodWord w = true) : w ∈ zTG := List.mem_filter.mpr ⟨h, hg⟩
theorem zTG_sub {w : Cond} (h : w ∈ zTG) : w ∈ lw_tbl := (List.mem_filter.mp h).1
theorem zTG_good : GoodIn zTG zTG := fun _ h => ⟨h, good_of_word (List.mem_filter.mp h).2⟩
theorem zTG_at {i : Nat} {w : Cond} (h : lw_tbl[i]? = some w) (hg : goodWord w = true) : w ∈ zTG := zTG_in (List.mem_of_getElem? h) hg
def zNw (w : Cond) : Bool := match w with
  | .fieldLinkNest _ _ _ _ _ _ => true
  | .methodLinkNest _ _ _ _ => true
  | _ => false
def zNest : List Cond := lw_tbl.filter zNw
theorem zNest_at {i : Nat} {w : Cond} (h : lw_tbl[i]? = some w) (hg : zNw w = true) : w ∈ zNest := List.mem_filter.mpr ⟨List.mem_of_getElem? h, hg⟩
/-- the addresses of script and tables, classes and slots, array classes, the heap at the law's start -/
abbrev zE : Type := (Nat × Nat × Nat) × va_G × (Nat → ClassId) × Heap
def zad (E : zE) (k : Nat) : Nat := if k = 0 then E.1.1 else if k = 1 then E.1.2.1 else if k = 2 then E.1.2.2 else E.2.2.2.size + (k - 3)
def zv (E : zE) (v : Value) : Value := match v with
  | .ref k => .ref (zad E k)
  | w => w
def zl (E : zE) (L : zLs) : zLs := L.map (fun q => (q.1, zv E q.2))
def zTys (E : zE) : List (ClassId × FieldType) := [(E.2.2.1 0, .int), (E.2.2.1 1, .long), (E.2.2.1 2, .object RX0), (E.2.2.1 3, .object RX8), (E.2.2.1 4, .array .int), (E.2.2.1 5, .array .long)]
/-- an array that is only read -/
def zro (E : zE) (s : State) (k n : Nat) (f : Nat → Int32) (H : Heap) : Prop := ∃ cell : Cell, H[zad E k]? = some cell ∧ s.isArrayOf cell .int ∧ cell.vm ≠ .unknown ∧ cell.slots.size = n ∧ ∀ j, j < n → cell.slots[j]? = some (.int (f j))
/-- cell k, of kind t and length n, stands in H -/
def zcell (E : zE) (s : State) (h : zIJ) (k t n : Nat) (H : Heap) : Prop :=
  if t < 100 then ∃ r : vw_C, vwCl[t]? = some r ∧ r.2.2 = n ∧ t_OB (zad E k) (E.2.1.1 t) n (E.2.1.2 t) H (fun j => zv E (zfv h k j (zty t j)))
  else if t = 100 then H[zad E k]? = some (arrV (E.2.2.1 0) n (fun j => .int (h.1 k j)))
  else if t = 101 then H[zad E k]? = some (arrV (E.2.2.1 1) n (fun j => .long (h.2 k j)))
  else if t < 106 then H[zad E k]? = some (arrV (E.2.2.1 (t - 100)) n (fun j => .ref (zad E (zRf k j))))
  else if t = 110 then zro E s k (h.1 k 5000).toNatClampNeg (h.1 k) H
  else if t = 111 then zro E s k n zLE H
  else zro E s k n zGE H
def zR (E : zE) (s : State) (h : zIJ) (H : Heap) : Prop :=
  H.size + 3 = E.2.2.2.size + zNc ∧ (E.1.1 < E.2.2.2.size ∧ E.1.2.1 < E.2.2.2.size ∧ E.1.2.2 < E.2.2.2.size) ∧ (∀ q : Nat, q < E.2.2.2.size → H[q]? = E.2.2.2[q]?) ∧
  ∀ k : Nat, k < zNc → zcell E s h k (zC k).1 (zC k).2 H
/-- what a method takes from its caller of the tables: classes, nest links, the two static arrays -/
def zF (E : zE) (s : State) : Prop :=
  va_K E.2.1 vwCl (zTys E) s ∧ (∀ w ∈ zNest, va_Nw w s) ∧
  va_Z "MarkedSweeps" "LESSER_END" "[I" (.ref E.1.2.1) (fun q => E.2.2.2.size ≤ q) s E.2.2.2 ∧ va_Z "MarkedSweeps" "GREATER_END" "[I" (.ref E.1.2.2) (fun q => E.2.2.2.size ≤ q) s E.2.2.2
theorem zro_s {E : zE} {s U : State} {k n : Nat} {f : Nat → Int32} {H : Heap} (hvm : s.vm.Alike U.vm) (hc : zro E s k n f H) : zro E U k n f H := by
  obtain ⟨cell, c1, c2, c3⟩ := hc
  exact ⟨cell, c1, State.isArrayOf_alike hvm c2, c3⟩
theorem zcell_s {E : zE} {s U : State} {h : zIJ} {k t n : Nat} {H : Heap} (hvm : s.vm.Alike U.vm) (hc : zcell E s h k t n H) : zcell E U h k t n H := by
  unfold zcell at hc ⊢
  split
  · rename_i h1; rw [if_pos h1] at hc; exact hc
  · rename_i h1; rw [if_neg h1] at hc
    split
    · rename_i h2; rw [if_pos h2] at hc; exact hc
    · rename_i h2; rw [if_neg h2] at hc
      split
      · rename_i h3; rw [if_pos h3] at hc; exact hc
      · rename_i h3; rw [if_neg h3] at hc
        split
        · rename_i h4; rw [if_pos h4] at hc; exact hc
        · rename_i h4; rw [if_neg h4] at hc
          split
          · rename_i h5; rw [if_pos h5] at hc; exact zro_s hvm hc
          · rename_i h5; rw [if_neg h5] at hc
            split
            · rename_i h6; rw [if_pos h6] at hc; exact zro_s hvm hc
            · rename_i h6; rw [if_neg h6] at hc; exact zro_s hvm hc
theorem zR_s {E : zE} {s U : State} {h : zIJ} {H : Heap} (hvm : s.vm.Alike U.vm) (hR : zR E s h H) : zR E U h H :=
  ⟨hR.1, hR.2.1, hR.2.2.1, fun k hk => zcell_s hvm (hR.2.2.2 k hk)⟩
theorem zF_s {E : zE} {s U : State} (hW : s.WarmedH U.vm) (h : zF E s) : zF E U := by
  obtain ⟨h1, h2, h3, h4⟩ := h
  refine ⟨va_K.moved hW.alike h1, fun w hw => ?_, h3.moved hW.alike, h4.moved hW.alike⟩
  have hn := (List.mem_filter.mp hw).2
  have h9 := h2 w hw
  cases w <;> first | exact h9.warmF hW | exact h9.warmM hW | (exact absurd hn (by simp [zNw]))
theorem zF_v {E : zE} {s U : State} (hv : s.vm = U.vm) (h : zF E s) : zF E U := by
  obtain ⟨h1, h2, h3, h4⟩ := h
  have hal : s.vm.Alike U.vm := by rw [hv]; exact Vm.Alike.refl _
  refine ⟨va_K.moved hal h1, fun w hw => ?_, h3.moved hal, h4.moved hal⟩
  have hn := (List.mem_filter.mp hw).2
  refine va_Nw.same ?_ hv (h2 w hw)
  cases w <;> first | rfl | (exact absurd hn (by simp [zNw]))
/-- cells of the layout: below 3 they are those that are only read -/
theorem zC_lo : ∀ k, k < 3 → 110 ≤ (zC k).1 := by decide +kernel
theorem zC_hi : ∀ k, k < zNc → 3 ≤ k → (zC k).1 < 106 := by decide +kernel
theorem zC_out {k : Nat} (h : zNc ≤ k) : zC k = (999, 0) := by
  have h2 : 350 ≤ k := h
  have e : Nat.blt k 350 = false := by
    cases hc : Nat.blt k 350 with
    | false => rfl
    | true => exact absurd (Nat.blt_eq.mp hc) (by omega)
  unfold zC
  rw [e]
  rfl
theorem zC_in {k t : Nat} (h : (zC k).1 = t) (ht : t < 999) : k < zNc := by
  rcases Nat.lt_or_ge k zNc with h1 | h1
  · exact h1
  · rw [zC_out h1] at h
    have : (999 : Nat) = t := h
    omega
theorem zC_3 {k t : Nat} (h : (zC k).1 = t) (ht : t < 110) : 3 ≤ k := by
  rcases Nat.lt_or_ge k 3 with h1 | h1
  · have := zC_lo k h1
    omega
  · exact h1
theorem zad_hi {E : zE} {k : Nat} (h : 3 ≤ k) : zad E k = E.2.2.2.size + (k - 3) := by
  unfold zad
  rw [if_neg (by omega), if_neg (by omega), if_neg (by omega)]
theorem zad_lo {E : zE} {k : Nat} (hE : E.1.1 < E.2.2.2.size ∧ E.1.2.1 < E.2.2.2.size ∧ E.1.2.2 < E.2.2.2.size) (h : k < 3) : zad E k < E.2.2.2.size := by
  unfold zad
  split
  · exact hE.1
  · split
    · exact hE.2.1
    · split
      · exact hE.2.2
      · omega
theorem zad_ne {E : zE} {a k : Nat} (hE : E.1.1 < E.2.2.2.size ∧ E.1.2.1 < E.2.2.2.size ∧ E.1.2.2 < E.2.2.2.size) (ha : 3 ≤ a) (h : k ≠ a) : zad E k ≠ zad E a := by
  rcases Nat.lt_or_ge k 3 with h3 | h3
  · have := zad_lo (E := E) hE h3
    rw [zad_hi ha]
    omega
  · rw [zad_hi h3, zad_hi ha]
    omega
/-- a cell stays when its row and its place in the heap stay -/
theorem zcell_keep {E : zE} {s : State} {h h' : zIJ} {k t n : Nat} {H H' : Heap} (hI : h'.1 k = h.1 k) (hJ : h'.2 k = h.2 k) (hH : H'[zad E k]? = H[zad E k]?) (hc : zcell E s h k t n H) : zcell E s h' k t n H' := by
  have hf : ∀ (j : Nat) (ty : FieldType), zfv h' k j ty = zfv h k j ty := fun j ty => by
    unfold zfv
    rw [hI, hJ]
  unfold zcell zro at hc ⊢
  rw [hI, hJ, hH]
  split
  · rename_i h1; rw [if_pos h1] at hc
    obtain ⟨r, r1, r2, r3⟩ := hc
    exact ⟨r, r1, r2, (r3.kept hH).to (fun j _ => by rw [hf])⟩
  · rename_i h1; rw [if_neg h1] at hc; exact hc
/-- one cell of the heap is written -/
theorem zR_set {E : zE} {s : State} {h h' : zIJ} {H H' : Heap} {a : Nat} (hR : zR E s h H) (ha : 3 ≤ a) (hI : ∀ k, k ≠ a → h'.1 k = h.1 k) (hJ : ∀ k, k ≠ a → h'.2 k = h.2 k) (hz : H'.size = H.size) (hq : ∀ q, q ≠ zad E a → H'[q]? = H[q]?) (hc : a < zNc → zcell E s h' a (zC a).1 (zC a).2 H') : zR E s h' H' := by
  obtain ⟨h1, h2, h3, h4⟩ := hR
  refine ⟨by rw [hz]; exact h1, h2, fun q hq' => ?_, fun k hk => ?_⟩
  · rw [hq q (by rw [zad_hi ha]; omega)]
    exact h3 q hq'
  · by_cases e : k = a
    · subst e; exact hc hk
    · exact zcell_keep (hI k e) (hJ k e) (hq _ (zad_ne h2 ha e)) (h4 k hk)
theorem zbeqf {k a : Nat} (h : k ≠ a) : Nat.beq k a = false := by
  cases hc : Nat.beq k a with
  | false => rfl
  | true => exact absurd (Nat.eq_of_beq_eq_true hc) h
theorem zbeqt (k : Nat) : Nat.beq k k = true := Nat.beq_refl k
theorem zup_other {α : Type} {f : Nat → Nat → α} {a j k : Nat} {x : α} (h : k ≠ a) : zup f a j x k = f k := by
  funext b
  have := zbeqf h
  simp [zup, this]
theorem zup_self {α : Type} {f : Nat → Nat → α} {a j : Nat} {x : α} (b : Nat) : zup f a j x a b = if b = j then x else f a b := by
  by_cases h : b = j
  · subst h; simp [zup, zbeqt]
  · have := zbeqf h
    simp [zup, this, h]
theorem zrow_other {α : Type} {f : Nat → Nat → α} {a k : Nat} {g : Nat → α} (h : k ≠ a) : zrow f a g k = f k := by
  funext b
  have := zbeqf h
  simp [zrow, this]
theorem zrow_self {α : Type} {f : Nat → Nat → α} {a : Nat} {g : Nat → α} : zrow f a g a = g := by
  funext b
  simp [zrow, zbeqt]
theorem zin_in {i : Int32} {n : Nat} (h : zin i n = true) : vp_in i n := vp_in_iff.mpr (of_decide_eq_true h)
theorem vp_lt {i : Int32} {n : Nat} (h : vp_in i n) : i.toNatClampNeg < n := Nat.not_le.mp fun q => h (Or.inr q)
end
section
/-! One instruction of the abstract machine is one of the machine. -/
section ZS
variable {p : Program} {l : Launch} {e : Env} {R : Room} {s : State} {m : MethodId} {args : Array Value} {below : List Frame} {meth : Method} {c : Code} {Q : State → Prop} {E : zE} {n : Nat} {cc : ByteArray} {own : String} {rt : Option FieldType} {kc ks : Nat}
/-- the machine, at pc with these locals and this stack, over this heap, comes to Q -/
def zN (p : Program) (l : Launch) (e : Env) (R : Room) (s : State) (m : MethodId) (args : Array Value) (below : List Frame) (meth : Method) (c : Code) (Q : State → Prop) (E : zE) (kc ks n pc : Nat) (L : zLs) (S : List Value) (h : zIJ) : Prop :=
  ∀ (H : Heap) (locs : List Loc) (ls : Array Slot), zR E s h H → (∀ q ∈ locs, E.2.2.2.size ≤ q.base) → lv_has ls n (zl E L) → W p l e R s m args below meth c H locs kc ks Q (F0 m pc ls (S.map (zv E)))
/-- what stands through a method -/
def zX (p : Program) (R : Room) (kc ks : Nat) (s : State) (m : MethodId) (args : Array Value) (meth : Method) (c : Code) (cc : ByteArray) (n : Nat) (own : String) (rt : Option FieldType) (E : zE) : Prop :=
  p.tables.exec = Jvm.exec ∧ c.code = cc ∧ c.maxLocals = n ∧ s.vm.findClass own = some m.cls ∧ (∀ w ∈ zTG, w.before args s = true) ∧ zF E s ∧ meth.locks = false ∧ meth.sig.returnType = rt ∧ 1 ≤ R.frames ∧ 64 ≤ R.locals ∧ kc ≤ R.cells ∧ ks ≤ R.slots
theorem zlv_mem {i : Nat} {v : Value} : ∀ {L : zLs}, zlv i L = some v → (i, v) ∈ L
  | [], h => by cases h
  | e :: r, h => by
    unfold zlv at h
    cases hb : Nat.beq e.1 i with
    | true =>
      rw [hb] at h
      have h1 : e.2 = v := Option.some.inj h
      have h2 : e.1 = i := Nat.eq_of_beq_eq_true hb
      rw [← h1, ← h2]
      exact List.mem_cons_self
    | false =>
      rw [hb] at h
      exact List.mem_cons_of_mem _ (zlv_mem h)
theorem zl_at {L : zLs} {ls : Array Slot} {i : Nat} {v : Value} (hl : lv_has ls n (zl E L)) (h : zlv i L = some v) : ls[i]? = some (.val (zv E v)) :=
  hl.2.2 (i, zv E v) (List.mem_map.mpr ⟨(i, v), zlv_mem h, rfl⟩)
theorem zv_cat (v : Value) : (zv E v).category = v.category := by cases v <;> rfl
theorem zl_st (L : zLs) (i : Nat) (v : Value) : (i, zv E v) :: (zl E L).filter (fun q => !(q.1 == i) && !(q.1 + 1 == i && q.2.category == 2)) = zl E (zst L i v) := by
  unfold zst zl
  rw [List.map_cons, List.filter_map]
  congr 2
  apply List.filter_congr
  intro q _
  simp [zv_cat]
theorem zl_st2 (L : zLs) (i : Nat) (v : Value) : (i, zv E v) :: (zl E L).filter (fun q => !(q.1 == i) && (!(q.1 == i + 1) && !(q.1 + 1 == i && q.2.category == 2))) = zl E (zst2 L i v) := by
  unfold zst2 zl
  rw [List.map_cons, List.filter_map]
  congr 2
  apply List.filter_congr
  intro q _
  simp [zv_cat]
theorem zl_k {L : zLs} {i : Nat} {v : Value} (h : zlv i L = some v) : ∃ k : Nat, (zl E L)[k]? = some (i, zv E v) := List.getElem?_of_mem (List.mem_map.mpr ⟨(i, v), zlv_mem h, rfl⟩)
/-- an instruction that goes on: from the state behind it to the state ahead -/
def zOn (p : Program) (l : Launch) (e : Env) (R : Room) (s : State) (m : MethodId) (args : Array Value) (below : List Frame) (meth : Method) (c : Code) (Q : State → Prop) (E : zE) (kc ks n pc nx : Nat) (L : zLs) (S : List Value) (h : zIJ) (o : zO) : Prop := match o with
  | (0, b, _, _, L', S', h') => b = true → zN p l e R s m args below meth c Q E kc ks n nx L' S' h' → zN p l e R s m args below meth c Q E kc ks n pc L S h
  | (1, _, t, _, L', S', h') => zN p l e R s m args below meth c Q E kc ks n t L' S' h' → zN p l e R s m args below meth c Q E kc ks n pc L S h
  | (2, b, t, _, L', S', h') => (b = true → zN p l e R s m args below meth c Q E kc ks n t L' S' h') → (b = false → zN p l e R s m args below meth c Q E kc ks n nx L' S' h') → zN p l e R s m args below meth c Q E kc ks n pc L S h
  | _ => True

theorem zs_iadd {pc nx : Nat} {hs : List Nat} {v : Value} {L : zLs} {S : List Value} {h : zIJ} {o : zO} (X : zX p R kc ks s m args meth c cc n own rt E) (hd : decode cc pc = .ok (.iadd, 1)) (hx : nx = pc + 1) (hz : zex n rt (pc, .iadd, nx, hs, v) L S h = some o) : zOn p l e R s m args below meth c Q E kc ks n pc nx L S h o := by
  match S, hz with
  | .int y :: .int x :: r, hz =>
    cases hz
    subst hx
    intro _ k H locs ls hR hf hl
    exact lv_iadd X.1 X.2.1 hd (k H locs ls hR hf hl)
theorem zs_isub {pc nx : Nat} {hs : List Nat} {v : Value} {L : zLs} {S : List Value} {h : zIJ} {o : zO} (X : zX p R kc ks s m args meth c cc n own rt E) (hd : decode cc pc = .ok (.isub, 1)) (hx : nx = pc + 1) (hz : zex n rt (pc, .isub, nx, hs, v) L S h = some o) : zOn p l e R s m args below meth c Q E kc ks n pc nx L S h o := by
  match S, hz with
  | .int y :: .int x :: r, hz =>
    cases hz
    subst hx
    intro _ k H locs ls hR hf hl
    exact lv_isub X.1 X.2.1 hd (k H locs ls hR hf hl)
theorem zs_imul {pc nx : Nat} {hs : List Nat} {v : Value} {L : zLs} {S : List Value} {h : zIJ} {o : zO} (X : zX p R kc ks s m args meth c cc n own rt E) (hd : decode cc pc = .ok (.imul, 1)) (hx : nx = pc + 1) (hz : zex n rt (pc, .imul, nx, hs, v) L S h = some o) : zOn p l e R s m args below meth c Q E kc ks n pc nx L S h o := by
  match S, hz with
  | .int y :: .int x :: r, hz =>
    cases hz
    subst hx
    intro _ k H locs ls hR hf hl
    exact lv_imul X.1 X.2.1 hd (k H locs ls hR hf hl)
theorem zs_iand {pc nx : Nat} {hs : List Nat} {v : Value} {L : zLs} {S : List Value} {h : zIJ} {o : zO} (X : zX p R kc ks s m args meth c cc n own rt E) (hd : decode cc pc = .ok (.iand, 1)) (hx : nx = pc + 1) (hz : zex n rt (pc, .iand, nx, hs, v) L S h = some o) : zOn p l e R s m args below meth c Q E kc ks n pc nx L S h o := by
  match S, hz with
  | .int y :: .int x :: r, hz =>
    cases hz
    subst hx
    intro _ k H locs ls hR hf hl
    exact lv_iand X.1 X.2.1 hd (k H locs ls hR hf hl)
theorem zs_ior {pc nx : Nat} {hs : List Nat} {v : Value} {L : zLs} {S : List Value} {h : zIJ} {o : zO} (X : zX p R kc ks s m args meth c cc n own rt E) (hd : decode cc pc = .ok (.ior, 1)) (hx : nx = pc + 1) (hz : zex n rt (pc, .ior, nx, hs, v) L S h = some o) : zOn p l e R s m args below meth c Q E kc ks n pc nx L S h o := by
  match S, hz with
  | .int y :: .int x :: r, hz =>
    cases hz
    subst hx
    intro _ k H locs ls hR hf hl
    exact lv_ior X.1 X.2.1 hd (k H locs ls hR hf hl)
theorem zs_ixor {pc nx : Nat} {hs : List Nat} {v : Value} {L : zLs} {S : List Value} {h : zIJ} {o : zO} (X : zX p R kc ks s m args meth c cc n own rt E) (hd : decode cc pc = .ok (.ixor, 1)) (hx : nx = pc + 1) (hz : zex n rt (pc, .ixor, nx, hs, v) L S h = some o) : zOn p l e R s m args below meth c Q E kc ks n pc nx L S h o := by
  match S, hz with
  | .int y :: .int x :: r, hz =>
    cases hz
    subst hx
    intro _ k H locs ls hR hf hl
    exact lv_ixor X.1 X.2.1 hd (k H locs ls hR hf hl)
theorem zs_ishl {pc nx : Nat} {hs : List Nat} {v : Value} {L : zLs} {S : List Value} {h : zIJ} {o : zO} (X : zX p R kc ks s m args meth c cc n own rt E) (hd : decode cc pc = .ok (.ishl, 1)) (hx : nx = pc + 1) (hz : zex n rt (pc, .ishl, nx, hs, v) L S h = some o) : zOn p l e R s m args below meth c Q E kc ks n pc nx L S h o := by
  match S, hz with
  | .int y :: .int x :: r, hz =>
    cases hz
    subst hx
    intro _ k H locs ls hR hf hl
    exact lv_ishl X.1 X.2.1 hd (k H locs ls hR hf hl)
theorem zs_ishr {pc nx : Nat} {hs : List Nat} {v : Value} {L : zLs} {S : List Value} {h : zIJ} {o : zO} (X : zX p R kc ks s m args meth c cc n own rt E) (hd : decode cc pc = .ok (.ishr, 1)) (hx : nx = pc + 1) (hz : zex n rt (pc, .ishr, nx, hs, v) L S h = some o) : zOn p l e R s m args below meth c Q E kc ks n pc nx L S h o := by
  match S, hz with
  | .int y :: .int x :: r, hz =>
    cases hz
    subst hx
    intro _ k H locs ls hR hf hl
    exact lv_ishr X.1 X.2.1 hd (k H locs ls hR hf hl)
theorem zs_ladd {pc nx : Nat} {hs : List Nat} {v : Value} {L : zLs} {S : List Value} {h : zIJ} {o : zO} (X : zX p R kc ks s m args meth c cc n own rt E) (hd : decode cc pc = .ok (.ladd, 1)) (hx : nx = pc + 1) (hz : zex n rt (pc, .ladd, nx, hs, v) L S h = some o) : zOn p l e R s m args below meth c Q E kc ks n pc nx L S h o := by
  match S, hz with
  | .long y :: .long x :: r, hz =>
    cases hz
    subst hx
    intro _ k H locs ls hR hf hl
    exact lv_ladd X.1 X.2.1 hd (k H locs ls hR hf hl)
theorem zs_lsub {pc nx : Nat} {hs : List Nat} {v : Value} {L : zLs} {S : List Value} {h : zIJ} {o : zO} (X : zX p R kc ks s m args meth c cc n own rt E) (hd : decode cc pc = .ok (.lsub, 1)) (hx : nx = pc + 1) (hz : zex n rt (pc, .lsub, nx, hs, v) L S h = some o) : zOn p l e R s m args below meth c Q E kc ks n pc nx L S h o := by
  match S, hz with
  | .long y :: .long x :: r, hz =>
    cases hz
    subst hx
    intro _ k H locs ls hR hf hl
    exact lv_lsub X.1 X.2.1 hd (k H locs ls hR hf hl)
theorem zs_lmul {pc nx : Nat} {hs : List Nat} {v : Value} {L : zLs} {S : List Value} {h : zIJ} {o : zO} (X : zX p R kc ks s m args meth c cc n own rt E) (hd : decode cc pc = .ok (.lmul, 1)) (hx : nx = pc + 1) (hz : zex n rt (pc, .lmul, nx, hs, v) L S h = some o) : zOn p l e R s m args below meth c Q E kc ks n pc nx L S h o := by
  match S, hz with
  | .long y :: .long x :: r, hz =>
    cases hz
    subst hx
    intro _ k H locs ls hR hf hl
    exact lv_lmul X.1 X.2.1 hd (k H locs ls hR hf hl)
theorem zs_land {pc nx : Nat} {hs : List Nat} {v : Value} {L : zLs} {S : List Value} {h : zIJ} {o : zO} (X : zX p R kc ks s m args meth c cc n own rt E) (hd : decode cc pc = .ok (.land, 1)) (hx : nx = pc + 1) (hz : zex n rt (pc, .land, nx, hs, v) L S h = some o) : zOn p l e R s m args below meth c Q E kc ks n pc nx L S h o := by
  match S, hz with
  | .long y :: .long x :: r, hz =>
    cases hz
    subst hx
    intro _ k H locs ls hR hf hl
    exact lv_land X.1 X.2.1 hd (k H locs ls hR hf hl)
theorem zs_lor {pc nx : Nat} {hs : List Nat} {v : Value} {L : zLs} {S : List Value} {h : zIJ} {o : zO} (X : zX p R kc ks s m args meth c cc n own rt E) (hd : decode cc pc = .ok (.lor, 1)) (hx : nx = pc + 1) (hz : zex n rt (pc, .lor, nx, hs, v) L S h = some o) : zOn p l e R s m args below meth c Q E kc ks n pc nx L S h o := by
  match S, hz with
  | .long y :: .long x :: r, hz =>
    cases hz
    subst hx
    intro _ k H locs ls hR hf hl
    exact lv_lor X.1 X.2.1 hd (k H locs ls hR hf hl)
theorem zs_lxor {pc nx : Nat} {hs : List Nat} {v : Value} {L : zLs} {S : List Value} {h : zIJ} {o : zO} (X : zX p R kc ks s m args meth c cc n own rt E) (hd : decode cc pc = .ok (.lxor, 1)) (hx : nx = pc + 1) (hz : zex n rt (pc, .lxor, nx, hs, v) L S h = some o) : zOn p l e R s m args below meth c Q E kc ks n pc nx L S h o := by
  match S, hz with
  | .long y :: .long x :: r, hz =>
    cases hz
    subst hx
    intro _ k H locs ls hR hf hl
    exact lv_lxor X.1 X.2.1 hd (k H locs ls hR hf hl)
theorem zs_iushr {pc nx : Nat} {hs : List Nat} {v : Value} {L : zLs} {S : List Value} {h : zIJ} {o : zO} (X : zX p R kc ks s m args meth c cc n own rt E) (hd : decode cc pc = .ok (.iushr, 1)) (hx : nx = pc + 1) (hz : zex n rt (pc, .iushr, nx, hs, v) L S h = some o) : zOn p l e R s m args below meth c Q E kc ks n pc nx L S h o := by
  match S, hz with
  | .int y :: .int x :: r, hz =>
    cases hz
    subst hx
    intro _ k H locs ls hR hf hl
    exact lv_iushr X.1 X.2.1 hd rfl (k H locs ls hR hf hl)
theorem zs_lshl {pc nx : Nat} {hs : List Nat} {v : Value} {L : zLs} {S : List Value} {h : zIJ} {o : zO} (X : zX p R kc ks s m args meth c cc n own rt E) (hd : decode cc pc = .ok (.lshl, 1)) (hx : nx = pc + 1) (hz : zex n rt (pc, .lshl, nx, hs, v) L S h = some o) : zOn p l e R s m args below meth c Q E kc ks n pc nx L S h o := by
  match S, hz with
  | .int y :: .long x :: r, hz =>
    cases hz
    subst hx
    intro _ k H locs ls hR hf hl
    exact lv_lshl X.1 X.2.1 hd rfl (k H locs ls hR hf hl)
theorem zs_lshr {pc nx : Nat} {hs : List Nat} {v : Value} {L : zLs} {S : List Value} {h : zIJ} {o : zO} (X : zX p R kc ks s m args meth c cc n own rt E) (hd : decode cc pc = .ok (.lshr, 1)) (hx : nx = pc + 1) (hz : zex n rt (pc, .lshr, nx, hs, v) L S h = some o) : zOn p l e R s m args below meth c Q E kc ks n pc nx L S h o := by
  match S, hz with
  | .int y :: .long x :: r, hz =>
    cases hz
    subst hx
    intro _ k H locs ls hR hf hl
    exact lv_lshr X.1 X.2.1 hd rfl (k H locs ls hR hf hl)
theorem zs_lushr {pc nx : Nat} {hs : List Nat} {v : Value} {L : zLs} {S : List Value} {h : zIJ} {o : zO} (X : zX p R kc ks s m args meth c cc n own rt E) (hd : decode cc pc = .ok (.lushr, 1)) (hx : nx = pc + 1) (hz : zex n rt (pc, .lushr, nx, hs, v) L S h = some o) : zOn p l e R s m args below meth c Q E kc ks n pc nx L S h o := by
  match S, hz with
  | .int y :: .long x :: r, hz =>
    cases hz
    subst hx
    intro _ k H locs ls hR hf hl
    exact lv_lushr X.1 X.2.1 hd rfl (k H locs ls hR hf hl)
theorem zs_idiv {pc nx : Nat} {hs : List Nat} {v : Value} {L : zLs} {S : List Value} {h : zIJ} {o : zO} (X : zX p R kc ks s m args meth c cc n own rt E) (hd : decode cc pc = .ok (.idiv, 1)) (hx : nx = pc + 1) (hz : zex n rt (pc, .idiv, nx, hs, v) L S h = some o) : zOn p l e R s m args below meth c Q E kc ks n pc nx L S h o := by
  match S, hz with
  | .int y :: .int x :: r, hz =>
    cases hz
    subst hx
    intro hb k H locs ls hR hf hl
    exact lv_idiv X.1 X.2.1 hd (by simpa using hb) (k H locs ls hR hf hl)
theorem zs_irem {pc nx : Nat} {hs : List Nat} {v : Value} {L : zLs} {S : List Value} {h : zIJ} {o : zO} (X : zX p R kc ks s m args meth c cc n own rt E) (hd : decode cc pc = .ok (.irem, 1)) (hx : nx = pc + 1) (hz : zex n rt (pc, .irem, nx, hs, v) L S h = some o) : zOn p l e R s m args below meth c Q E kc ks n pc nx L S h o := by
  match S, hz with
  | .int y :: .int x :: r, hz =>
    cases hz
    subst hx
    intro hb k H locs ls hR hf hl
    exact lv_irem X.1 X.2.1 hd (by simpa using hb) (k H locs ls hR hf hl)
theorem zs_ldiv {pc nx : Nat} {hs : List Nat} {v : Value} {L : zLs} {S : List Value} {h : zIJ} {o : zO} (X : zX p R kc ks s m args meth c cc n own rt E) (hd : decode cc pc = .ok (.ldiv, 1)) (hx : nx = pc + 1) (hz : zex n rt (pc, .ldiv, nx, hs, v) L S h = some o) : zOn p l e R s m args below meth c Q E kc ks n pc nx L S h o := by
  match S, hz with
  | .long y :: .long x :: r, hz =>
    cases hz
    subst hx
    intro hb k H locs ls hR hf hl
    exact lv_ldiv X.1 X.2.1 hd (by simpa using hb) (k H locs ls hR hf hl)
theorem zs_lrem {pc nx : Nat} {hs : List Nat} {v : Value} {L : zLs} {S : List Value} {h : zIJ} {o : zO} (X : zX p R kc ks s m args meth c cc n own rt E) (hd : decode cc pc = .ok (.lrem, 1)) (hx : nx = pc + 1) (hz : zex n rt (pc, .lrem, nx, hs, v) L S h = some o) : zOn p l e R s m args below meth c Q E kc ks n pc nx L S h o := by
  match S, hz with
  | .long y :: .long x :: r, hz =>
    cases hz
    subst hx
    intro hb k H locs ls hR hf hl
    exact lv_lrem X.1 X.2.1 hd (by simpa using hb) (k H locs ls hR hf hl)
theorem zs_ineg {pc nx : Nat} {hs : List Nat} {v : Value} {L : zLs} {S : List Value} {h : zIJ} {o : zO} (X : zX p R kc ks s m args meth c cc n own rt E) (hd : decode cc pc = .ok (.ineg, 1)) (hx : nx = pc + 1) (hz : zex n rt (pc, .ineg, nx, hs, v) L S h = some o) : zOn p l e R s m args below meth c Q E kc ks n pc nx L S h o := by
  match S, hz with
  | .int x :: r, hz =>
    cases hz
    subst hx
    intro _ k H locs ls hR hf hl
    exact lv_ineg X.1 X.2.1 hd (k H locs ls hR hf hl)
theorem zs_i2l {pc nx : Nat} {hs : List Nat} {v : Value} {L : zLs} {S : List Value} {h : zIJ} {o : zO} (X : zX p R kc ks s m args meth c cc n own rt E) (hd : decode cc pc = .ok (.i2l, 1)) (hx : nx = pc + 1) (hz : zex n rt (pc, .i2l, nx, hs, v) L S h = some o) : zOn p l e R s m args below meth c Q E kc ks n pc nx L S h o := by
  match S, hz with
  | .int x :: r, hz =>
    cases hz
    subst hx
    intro _ k H locs ls hR hf hl
    exact lv_i2l X.1 X.2.1 hd rfl (k H locs ls hR hf hl)
theorem zs_l2i {pc nx : Nat} {hs : List Nat} {v : Value} {L : zLs} {S : List Value} {h : zIJ} {o : zO} (X : zX p R kc ks s m args meth c cc n own rt E) (hd : decode cc pc = .ok (.l2i, 1)) (hx : nx = pc + 1) (hz : zex n rt (pc, .l2i, nx, hs, v) L S h = some o) : zOn p l e R s m args below meth c Q E kc ks n pc nx L S h o := by
  match S, hz with
  | .long x :: r, hz =>
    cases hz
    subst hx
    intro _ k H locs ls hR hf hl
    exact lv_l2i X.1 X.2.1 hd rfl (k H locs ls hR hf hl)
theorem zs_i2b {pc nx : Nat} {hs : List Nat} {v : Value} {L : zLs} {S : List Value} {h : zIJ} {o : zO} (X : zX p R kc ks s m args meth c cc n own rt E) (hd : decode cc pc = .ok (.i2b, 1)) (hx : nx = pc + 1) (hz : zex n rt (pc, .i2b, nx, hs, v) L S h = some o) : zOn p l e R s m args below meth c Q E kc ks n pc nx L S h o := by
  match S, hz with
  | .int x :: r, hz =>
    cases hz
    subst hx
    intro _ k H locs ls hR hf hl
    exact lv_i2b X.1 X.2.1 hd rfl (k H locs ls hR hf hl)
theorem zs_lcmp {pc nx : Nat} {hs : List Nat} {v : Value} {L : zLs} {S : List Value} {h : zIJ} {o : zO} (X : zX p R kc ks s m args meth c cc n own rt E) (hd : decode cc pc = .ok (.lcmp, 1)) (hx : nx = pc + 1) (hz : zex n rt (pc, .lcmp, nx, hs, v) L S h = some o) : zOn p l e R s m args below meth c Q E kc ks n pc nx L S h o := by
  match S, hz with
  | .long y :: .long x :: r, hz =>
    cases hz
    subst hx
    intro _ k H locs ls hR hf hl
    exact W.lcmp X.1 X.2.1 hd (k H locs ls hR hf hl)
theorem zs_iconst {i : Int} {pc nx : Nat} {hs : List Nat} {v : Value} {L : zLs} {S : List Value} {h : zIJ} {o : zO} (X : zX p R kc ks s m args meth c cc n own rt E) (hd : decode cc pc = .ok (.iconst i, 1)) (hx : nx = pc + 1) (hv : v = .int (Int32.ofInt i)) (hz : zex n rt (pc, .iconst i, nx, hs, v) L S h = some o) : zOn p l e R s m args below meth c Q E kc ks n pc nx L S h o := by
  subst hv
  cases hz
  subst hx
  intro _ k H locs ls hR hf hl
  exact lv_iconst X.1 X.2.1 hd rfl (k H locs ls hR hf hl)
theorem zs_bipush {i : Int} {pc nx : Nat} {hs : List Nat} {v : Value} {L : zLs} {S : List Value} {h : zIJ} {o : zO} (X : zX p R kc ks s m args meth c cc n own rt E) (hd : decode cc pc = .ok (.bipush i, 2)) (hx : nx = pc + 2) (hv : v = .int (Int8.ofInt i).toInt32) (hz : zex n rt (pc, .bipush i, nx, hs, v) L S h = some o) : zOn p l e R s m args below meth c Q E kc ks n pc nx L S h o := by
  subst hv
  cases hz
  subst hx
  intro _ k H locs ls hR hf hl
  exact lv_bipush X.1 X.2.1 hd rfl (k H locs ls hR hf hl)
theorem zs_sipush {i : Int} {pc nx : Nat} {hs : List Nat} {v : Value} {L : zLs} {S : List Value} {h : zIJ} {o : zO} (X : zX p R kc ks s m args meth c cc n own rt E) (hd : decode cc pc = .ok (.sipush i, 3)) (hx : nx = pc + 3) (hv : v = .int (Int16.ofInt i).toInt32) (hz : zex n rt (pc, .sipush i, nx, hs, v) L S h = some o) : zOn p l e R s m args below meth c Q E kc ks n pc nx L S h o := by
  subst hv
  cases hz
  subst hx
  intro _ k H locs ls hR hf hl
  exact lv_sipush X.1 X.2.1 hd rfl (k H locs ls hR hf hl)
theorem zs_lconst {i : Fin 2} {pc nx : Nat} {hs : List Nat} {v : Value} {L : zLs} {S : List Value} {h : zIJ} {o : zO} (X : zX p R kc ks s m args meth c cc n own rt E) (hd : decode cc pc = .ok (.lconst i, 1)) (hx : nx = pc + 1) (hv : v = .long (Int64.ofNat (i : Nat))) (hz : zex n rt (pc, .lconst i, nx, hs, v) L S h = some o) : zOn p l e R s m args below meth c Q E kc ks n pc nx L S h o := by
  subst hv
  cases hz
  subst hx
  intro _ k H locs ls hR hf hl
  exact lv_lconst X.1 X.2.1 hd rfl (k H locs ls hR hf hl)
theorem zs_ldc {i : Nat} {z : Int32} {pc nx : Nat} {hs : List Nat} {v : Value} {L : zLs} {S : List Value} {h : zIJ} {o : zO} (X : zX p R kc ks s m args meth c cc n own rt E) (hd : decode cc pc = .ok (.ldc i, 2)) (hx : nx = pc + 2) (hv : v = .int z) (hw : Cond.constant own i z ∈ zTG) (hz : zex n rt (pc, .ldc i, nx, hs, v) L S h = some o) : zOn p l e R s m args below meth c Q E kc ks n pc nx L S h o := by
  subst hv
  cases hz
  subst hx
  intro _ k H locs ls hR hf hl
  exact lv_ldc X.1 X.2.1 X.2.2.2.1 (X.2.2.2.2.1 _ hw) hd (k H locs ls hR hf hl)
theorem zs_ldc_w {i : Nat} {z : Int32} {pc nx : Nat} {hs : List Nat} {v : Value} {L : zLs} {S : List Value} {h : zIJ} {o : zO} (X : zX p R kc ks s m args meth c cc n own rt E) (hd : decode cc pc = .ok (.ldc_w i, 3)) (hx : nx = pc + 3) (hv : v = .int z) (hw : Cond.constant own i z ∈ zTG) (hz : zex n rt (pc, .ldc_w i, nx, hs, v) L S h = some o) : zOn p l e R s m args below meth c Q E kc ks n pc nx L S h o := by
  subst hv
  cases hz
  subst hx
  intro _ k H locs ls hR hf hl
  exact lv_ldcw X.1 X.2.1 X.2.2.2.1 (X.2.2.2.2.1 _ hw) hd (k H locs ls hR hf hl)
theorem zs_ldc2_w {i : Nat} {z : Int64} {pc nx : Nat} {hs : List Nat} {v : Value} {L : zLs} {S : List Value} {h : zIJ} {o : zO} (X : zX p R kc ks s m args meth c cc n own rt E) (hd : decode cc pc = .ok (.ldc2_w i, 3)) (hx : nx = pc + 3) (hv : v = .long z) (hw : Cond.constantLong own i z ∈ zTG) (hz : zex n rt (pc, .ldc2_w i, nx, hs, v) L S h = some o) : zOn p l e R s m args below meth c Q E kc ks n pc nx L S h o := by
  subst hv
  cases hz
  subst hx
  intro _ k H locs ls hR hf hl
  exact lv_ldc2 X.1 X.2.1 X.2.2.2.1 (X.2.2.2.2.1 _ hw) hd (k H locs ls hR hf hl)
theorem zs_iload_n {i : Fin 4} {pc nx : Nat} {hs : List Nat} {v : Value} {L : zLs} {S : List Value} {h : zIJ} {o : zO} (X : zX p R kc ks s m args meth c cc n own rt E) (hd : decode cc pc = .ok (.iload_n i, 1)) (hx : nx = pc + 1) (hz : zex n rt (pc, .iload_n i, nx, hs, v) L S h = some o) : zOn p l e R s m args below meth c Q E kc ks n pc nx L S h o := by
  unfold zex at hz
  dsimp only at hz
  unfold zldI at hz
  split at hz
  · rename_i x hx2
    cases hz
    subst hx
    intro _ k H locs ls hR hf hl
    exact lv_iload_n X.1 X.2.1 hd rfl (zl_at hl hx2) (k H locs ls hR hf hl)
  · cases hz
theorem zs_iload {i : Nat} {pc nx : Nat} {hs : List Nat} {v : Value} {L : zLs} {S : List Value} {h : zIJ} {o : zO} (X : zX p R kc ks s m args meth c cc n own rt E) (hd : decode cc pc = .ok (.iload i, 2)) (hx : nx = pc + 2) (hz : zex n rt (pc, .iload i, nx, hs, v) L S h = some o) : zOn p l e R s m args below meth c Q E kc ks n pc nx L S h o := by
  unfold zex at hz
  dsimp only at hz
  unfold zldI at hz
  split at hz
  · rename_i x hx2
    cases hz
    subst hx
    intro _ k H locs ls hR hf hl
    exact lv_iload X.1 X.2.1 hd (zl_at hl hx2) (k H locs ls hR hf hl)
  · cases hz
theorem zs_lload_n {i : Fin 4} {pc nx : Nat} {hs : List Nat} {v : Value} {L : zLs} {S : List Value} {h : zIJ} {o : zO} (X : zX p R kc ks s m args meth c cc n own rt E) (hd : decode cc pc = .ok (.lload_n i, 1)) (hx : nx = pc + 1) (hz : zex n rt (pc, .lload_n i, nx, hs, v) L S h = some o) : zOn p l e R s m args below meth c Q E kc ks n pc nx L S h o := by
  unfold zex at hz
  dsimp only at hz
  unfold zldL at hz
  split at hz
  · rename_i x hx2
    cases hz
    subst hx
    intro _ k H locs ls hR hf hl
    exact lv_lload_n X.1 X.2.1 hd rfl (zl_at hl hx2) (k H locs ls hR hf hl)
  · cases hz
theorem zs_lload {i : Nat} {pc nx : Nat} {hs : List Nat} {v : Value} {L : zLs} {S : List Value} {h : zIJ} {o : zO} (X : zX p R kc ks s m args meth c cc n own rt E) (hd : decode cc pc = .ok (.lload i, 2)) (hx : nx = pc + 2) (hz : zex n rt (pc, .lload i, nx, hs, v) L S h = some o) : zOn p l e R s m args below meth c Q E kc ks n pc nx L S h o := by
  unfold zex at hz
  dsimp only at hz
  unfold zldL at hz
  split at hz
  · rename_i x hx2
    cases hz
    subst hx
    intro _ k H locs ls hR hf hl
    exact lv_lload X.1 X.2.1 hd (zl_at hl hx2) (k H locs ls hR hf hl)
  · cases hz
theorem zs_aload_n {i : Fin 4} {pc nx : Nat} {hs : List Nat} {v : Value} {L : zLs} {S : List Value} {h : zIJ} {o : zO} (X : zX p R kc ks s m args meth c cc n own rt E) (hd : decode cc pc = .ok (.aload_n i, 1)) (hx : nx = pc + 1) (hz : zex n rt (pc, .aload_n i, nx, hs, v) L S h = some o) : zOn p l e R s m args below meth c Q E kc ks n pc nx L S h o := by
  unfold zex at hz
  dsimp only at hz
  unfold zldA at hz
  split at hz
  · rename_i x hx2
    cases hz
    subst hx
    intro _ k H locs ls hR hf hl
    exact lv_aload_n X.1 X.2.1 hd rfl (zl_at hl hx2) (k H locs ls hR hf hl)
  · cases hz
theorem zs_aload {i : Nat} {pc nx : Nat} {hs : List Nat} {v : Value} {L : zLs} {S : List Value} {h : zIJ} {o : zO} (X : zX p R kc ks s m args meth c cc n own rt E) (hd : decode cc pc = .ok (.aload i, 2)) (hx : nx = pc + 2) (hz : zex n rt (pc, .aload i, nx, hs, v) L S h = some o) : zOn p l e R s m args below meth c Q E kc ks n pc nx L S h o := by
  unfold zex at hz
  dsimp only at hz
  unfold zldA at hz
  split at hz
  · rename_i x hx2
    cases hz
    subst hx
    intro _ k H locs ls hR hf hl
    exact lv_aload X.1 X.2.1 hd (zl_at hl hx2) (k H locs ls hR hf hl)
  · cases hz
theorem zs_istore_n {i : Fin 4} {pc nx : Nat} {hs : List Nat} {v : Value} {L : zLs} {S : List Value} {h : zIJ} {o : zO} (X : zX p R kc ks s m args meth c cc n own rt E) (hd : decode cc pc = .ok (.istore_n i, 1)) (hx : nx = pc + 1) (hz : zex n rt (pc, .istore_n i, nx, hs, v) L S h = some o) : zOn p l e R s m args below meth c Q E kc ks n pc nx L S h o := by
  match S, hz with
  | .int x :: r, hz =>
    obtain ⟨hb, hz⟩ := zcond (show cond (Nat.blt _ n) _ none = some o from hz)
    cases hz
    subst hx
    intro _ k H locs ls hR hf hl
    exact lv_istore_n X.1 X.2.1 hd rfl hl (Nat.blt_eq.mp hb) (zl_st L i (.int x)) (fun ls' hl' => k H locs ls' hR hf hl')
theorem zs_istore {i : Nat} {pc nx : Nat} {hs : List Nat} {v : Value} {L : zLs} {S : List Value} {h : zIJ} {o : zO} (X : zX p R kc ks s m args meth c cc n own rt E) (hd : decode cc pc = .ok (.istore i, 2)) (hx : nx = pc + 2) (hz : zex n rt (pc, .istore i, nx, hs, v) L S h = some o) : zOn p l e R s m args below meth c Q E kc ks n pc nx L S h o := by
  match S, hz with
  | .int x :: r, hz =>
    obtain ⟨hb, hz⟩ := zcond (show cond (Nat.blt _ n) _ none = some o from hz)
    cases hz
    subst hx
    intro _ k H locs ls hR hf hl
    exact lv_istore X.1 X.2.1 hd hl (Nat.blt_eq.mp hb) (zl_st L i (.int x)) (fun ls' hl' => k H locs ls' hR hf hl')
theorem zs_astore_n {i : Fin 4} {pc nx : Nat} {hs : List Nat} {v : Value} {L : zLs} {S : List Value} {h : zIJ} {o : zO} (X : zX p R kc ks s m args meth c cc n own rt E) (hd : decode cc pc = .ok (.astore_n i, 1)) (hx : nx = pc + 1) (hz : zex n rt (pc, .astore_n i, nx, hs, v) L S h = some o) : zOn p l e R s m args below meth c Q E kc ks n pc nx L S h o := by
  match S, hz with
  | .ref x :: r, hz =>
    obtain ⟨hb, hz⟩ := zcond (show cond (Nat.blt _ n) _ none = some o from hz)
    cases hz
    subst hx
    intro _ k H locs ls hR hf hl
    exact lv_astore_n X.1 X.2.1 hd rfl hl (Nat.blt_eq.mp hb) (zl_st L i (.ref x)) (fun ls' hl' => k H locs ls' hR hf hl')
theorem zs_astore {i : Nat} {pc nx : Nat} {hs : List Nat} {v : Value} {L : zLs} {S : List Value} {h : zIJ} {o : zO} (X : zX p R kc ks s m args meth c cc n own rt E) (hd : decode cc pc = .ok (.astore i, 2)) (hx : nx = pc + 2) (hz : zex n rt (pc, .astore i, nx, hs, v) L S h = some o) : zOn p l e R s m args below meth c Q E kc ks n pc nx L S h o := by
  match S, hz with
  | .ref x :: r, hz =>
    obtain ⟨hb, hz⟩ := zcond (show cond (Nat.blt _ n) _ none = some o from hz)
    cases hz
    subst hx
    intro _ k H locs ls hR hf hl
    exact lv_astore X.1 X.2.1 hd hl (Nat.blt_eq.mp hb) (zl_st L i (.ref x)) (fun ls' hl' => k H locs ls' hR hf hl')
theorem zs_lstore_n {i : Fin 4} {pc nx : Nat} {hs : List Nat} {v : Value} {L : zLs} {S : List Value} {h : zIJ} {o : zO} (X : zX p R kc ks s m args meth c cc n own rt E) (hd : decode cc pc = .ok (.lstore_n i, 1)) (hx : nx = pc + 1) (hz : zex n rt (pc, .lstore_n i, nx, hs, v) L S h = some o) : zOn p l e R s m args below meth c Q E kc ks n pc nx L S h o := by
  match S, hz with
  | .long x :: r, hz =>
    obtain ⟨hb, hz⟩ := zcond (show cond (Nat.blt _ n) _ none = some o from hz)
    cases hz
    subst hx
    intro _ k H locs ls hR hf hl
    exact lv_lstore_n X.1 X.2.1 hd rfl hl (Nat.blt_eq.mp hb) (zl_st2 L i (.long x)) (fun ls' hl' => k H locs ls' hR hf hl')
theorem zs_lstore {i : Nat} {pc nx : Nat} {hs : List Nat} {v : Value} {L : zLs} {S : List Value} {h : zIJ} {o : zO} (X : zX p R kc ks s m args meth c cc n own rt E) (hd : decode cc pc = .ok (.lstore i, 2)) (hx : nx = pc + 2) (hz : zex n rt (pc, .lstore i, nx, hs, v) L S h = some o) : zOn p l e R s m args below meth c Q E kc ks n pc nx L S h o := by
  match S, hz with
  | .long x :: r, hz =>
    obtain ⟨hb, hz⟩ := zcond (show cond (Nat.blt _ n) _ none = some o from hz)
    cases hz
    subst hx
    intro _ k H locs ls hR hf hl
    exact lv_lstore X.1 X.2.1 hd hl (Nat.blt_eq.mp hb) (zl_st2 L i (.long x)) (fun ls' hl' => k H locs ls' hR hf hl')
theorem zs_iinc {i : Nat} {d : Int} {pc nx : Nat} {hs : List Nat} {v : Value} {L : zLs} {S : List Value} {h : zIJ} {o : zO} (X : zX p R kc ks s m args meth c cc n own rt E) (hd : decode cc pc = .ok (.iinc i d, 3)) (hx : nx = pc + 3) (hv : v = .int (Int32.ofInt d)) (hz : zex n rt (pc, .iinc i d, nx, hs, v) L S h = some o) : zOn p l e R s m args below meth c Q E kc ks n pc nx L S h o := by
  subst hv
  unfold zex at hz
  dsimp only at hz
  unfold zinc at hz
  split at hz
  · rename_i x y z hx2 hx3
    cases hx3
    obtain ⟨hb, hz⟩ := zcond hz
    cases hz
    subst hx
    intro _ k H locs ls hR hf hl
    obtain ⟨q, hq⟩ := zl_k (E := E) hx2
    exact lv_iinc X.1 X.2.1 hd hl hq rfl (Nat.blt_eq.mp hb) (zl_st L i (.int _)) (fun ls' hl' => k H locs ls' hR hf hl')
  · cases hz
theorem zs_dup {pc nx : Nat} {hs : List Nat} {v : Value} {L : zLs} {S : List Value} {h : zIJ} {o : zO} (X : zX p R kc ks s m args meth c cc n own rt E) (hd : decode cc pc = .ok (.dup, 1)) (hx : nx = pc + 1) (hz : zex n rt (pc, .dup, nx, hs, v) L S h = some o) : zOn p l e R s m args below meth c Q E kc ks n pc nx L S h o := by
  match S, hz with
  | w :: r, hz =>
    obtain ⟨hb, hz⟩ := zcond (show cond (Nat.beq w.category 1) _ none = some o from hz)
    cases hz
    subst hx
    intro _ k H locs ls hR hf hl
    exact lv_dup X.1 X.2.1 hd (by rw [zv_cat]; exact Nat.eq_of_beq_eq_true hb) (k H locs ls hR hf hl)
theorem zs_dup2 {pc nx : Nat} {hs : List Nat} {v : Value} {L : zLs} {S : List Value} {h : zIJ} {o : zO} (X : zX p R kc ks s m args meth c cc n own rt E) (hd : decode cc pc = .ok (.dup2, 1)) (hx : nx = pc + 1) (hz : zex n rt (pc, .dup2, nx, hs, v) L S h = some o) : zOn p l e R s m args below meth c Q E kc ks n pc nx L S h o := by
  match S, hz with
  | w :: r, hz =>
    subst hx
    cases hb : Nat.beq w.category 2 with
    | true =>
      have hz : zgo0 L (w :: w :: r) h = some o := by
        have h2 : cond (Nat.beq w.category 2) (zgo0 L (w :: w :: r) h) _ = some o := hz
        rw [hb] at h2
        exact h2
      cases hz
      intro _ k H locs ls hR hf hl
      exact lv_dup2_2 X.1 X.2.1 hd (by rw [zv_cat]; exact Nat.eq_of_beq_eq_true hb) (k H locs ls hR hf hl)
    | false =>
      match r, hz with
      | [], hz =>
        have h2 : cond (Nat.beq w.category 2) (zgo0 L (w :: w :: []) h) none = some o := hz
        rw [hb] at h2
        cases h2
      | u :: r2, hz =>
        have h2 : cond (Nat.beq w.category 2) (zgo0 L (w :: w :: u :: r2) h) (cond (Nat.beq u.category 1) (zgo0 L (w :: u :: w :: u :: r2) h) none) = some o := hz
        rw [hb] at h2
        obtain ⟨hb2, hz⟩ := zcond (show cond (Nat.beq u.category 1) _ none = some o from h2)
        cases hz
        intro _ k H locs ls hR hf hl
        have hc1 : w.category = 1 := by
          rcases lv_cat w with h | h
          · exact h
          · rw [h] at hb; cases hb
        exact lv_dup2_11 X.1 X.2.1 hd (by rw [zv_cat]; exact hc1) (by rw [zv_cat]; exact Nat.eq_of_beq_eq_true hb2) (k H locs ls hR hf hl)
theorem zs_goto {off : Int} {pc nx : Nat} {hs : List Nat} {v : Value} {L : zLs} {S : List Value} {h : zIJ} {o : zO} (X : zX p R kc ks s m args meth c cc n own rt E) (hd : decode cc pc = .ok (.goto off, 3)) (ht : ∀ t, hs = [t] → (pc : Int) + off = (t : Int)) (hz : zex n rt (pc, .goto off, nx, hs, v) L S h = some o) : zOn p l e R s m args below meth c Q E kc ks n pc nx L S h o := by
  match hs, hz with
  | [t], hz =>
    cases hz
    intro k H locs ls hR hf hl
    exact lv_goto X.1 X.2.1 hd (ht t rfl) (k H locs ls hR hf hl)
theorem zs_ifCond_eq {off : Int} {pc nx : Nat} {hs : List Nat} {v : Value} {L : zLs} {S : List Value} {h : zIJ} {o : zO} (X : zX p R kc ks s m args meth c cc n own rt E) (hd : decode cc pc = .ok (.ifCond .eq off, 3)) (hx : nx = pc + 3) (ht : ∀ t, hs = [t] → (pc : Int) + off = (t : Int)) (hz : zex n rt (pc, .ifCond .eq off, nx, hs, v) L S h = some o) : zOn p l e R s m args below meth c Q E kc ks n pc nx L S h o := by
  match S, hs, hz with
  | .int x :: r, [t], hz =>
    cases hz
    subst hx
    intro kt kf H locs ls hR hf hl
    exact lv_if_eq X.1 X.2.1 hd (ht t rfl) (fun q => kt (by simpa using q) H locs ls hR hf hl) (fun q => kf (by simpa using q) H locs ls hR hf hl)
theorem zs_if_icmp_eq {off : Int} {pc nx : Nat} {hs : List Nat} {v : Value} {L : zLs} {S : List Value} {h : zIJ} {o : zO} (X : zX p R kc ks s m args meth c cc n own rt E) (hd : decode cc pc = .ok (.if_icmp .eq off, 3)) (hx : nx = pc + 3) (ht : ∀ t, hs = [t] → (pc : Int) + off = (t : Int)) (hz : zex n rt (pc, .if_icmp .eq off, nx, hs, v) L S h = some o) : zOn p l e R s m args below meth c Q E kc ks n pc nx L S h o := by
  match S, hs, hz with
  | .int y :: .int x :: r, [t], hz =>
    cases hz
    subst hx
    intro kt kf H locs ls hR hf hl
    exact lv_icmp_eq X.1 X.2.1 hd (ht t rfl) (fun q => kt (by simpa using q) H locs ls hR hf hl) (fun q => kf (by simpa using q) H locs ls hR hf hl)
theorem zs_ifCond_ne {off : Int} {pc nx : Nat} {hs : List Nat} {v : Value} {L : zLs} {S : List Value} {h : zIJ} {o : zO} (X : zX p R kc ks s m args meth c cc n own rt E) (hd : decode cc pc = .ok (.ifCond .ne off, 3)) (hx : nx = pc + 3) (ht : ∀ t, hs = [t] → (pc : Int) + off = (t : Int)) (hz : zex n rt (pc, .ifCond .ne off, nx, hs, v) L S h = some o) : zOn p l e R s m args below meth c Q E kc ks n pc nx L S h o := by
  match S, hs, hz with
  | .int x :: r, [t], hz =>
    cases hz
    subst hx
    intro kt kf H locs ls hR hf hl
    exact lv_if_ne X.1 X.2.1 hd (ht t rfl) (fun q => kt (by simpa using q) H locs ls hR hf hl) (fun q => kf (by simpa using q) H locs ls hR hf hl)
theorem zs_if_icmp_ne {off : Int} {pc nx : Nat} {hs : List Nat} {v : Value} {L : zLs} {S : List Value} {h : zIJ} {o : zO} (X : zX p R kc ks s m args meth c cc n own rt E) (hd : decode cc pc = .ok (.if_icmp .ne off, 3)) (hx : nx = pc + 3) (ht : ∀ t, hs = [t] → (pc : Int) + off = (t : Int)) (hz : zex n rt (pc, .if_icmp .ne off, nx, hs, v) L S h = some o) : zOn p l e R s m args below meth c Q E kc ks n pc nx L S h o := by
  match S, hs, hz with
  | .int y :: .int x :: r, [t], hz =>
    cases hz
    subst hx
    intro kt kf H locs ls hR hf hl
    exact lv_icmp_ne X.1 X.2.1 hd (ht t rfl) (fun q => kt (by simpa using q) H locs ls hR hf hl) (fun q => kf (by simpa using q) H locs ls hR hf hl)
theorem zs_ifCond_lt {off : Int} {pc nx : Nat} {hs : List Nat} {v : Value} {L : zLs} {S : List Value} {h : zIJ} {o : zO} (X : zX p R kc ks s m args meth c cc n own rt E) (hd : decode cc pc = .ok (.ifCond .lt off, 3)) (hx : nx = pc + 3) (ht : ∀ t, hs = [t] → (pc : Int) + off = (t : Int)) (hz : zex n rt (pc, .ifCond .lt off, nx, hs, v) L S h = some o) : zOn p l e R s m args below meth c Q E kc ks n pc nx L S h o := by
  match S, hs, hz with
  | .int x :: r, [t], hz =>
    cases hz
    subst hx
    intro kt kf H locs ls hR hf hl
    exact lv_if_lt X.1 X.2.1 hd (ht t rfl) (fun q => kt (by simpa using q) H locs ls hR hf hl) (fun q => kf (by simpa using q) H locs ls hR hf hl)
theorem zs_if_icmp_lt {off : Int} {pc nx : Nat} {hs : List Nat} {v : Value} {L : zLs} {S : List Value} {h : zIJ} {o : zO} (X : zX p R kc ks s m args meth c cc n own rt E) (hd : decode cc pc = .ok (.if_icmp .lt off, 3)) (hx : nx = pc + 3) (ht : ∀ t, hs = [t] → (pc : Int) + off = (t : Int)) (hz : zex n rt (pc, .if_icmp .lt off, nx, hs, v) L S h = some o) : zOn p l e R s m args below meth c Q E kc ks n pc nx L S h o := by
  match S, hs, hz with
  | .int y :: .int x :: r, [t], hz =>
    cases hz
    subst hx
    intro kt kf H locs ls hR hf hl
    exact lv_icmp_lt X.1 X.2.1 hd (ht t rfl) (fun q => kt (by simpa using q) H locs ls hR hf hl) (fun q => kf (by simpa using q) H locs ls hR hf hl)
theorem zs_ifCond_ge {off : Int} {pc nx : Nat} {hs : List Nat} {v : Value} {L : zLs} {S : List Value} {h : zIJ} {o : zO} (X : zX p R kc ks s m args meth c cc n own rt E) (hd : decode cc pc = .ok (.ifCond .ge off, 3)) (hx : nx = pc + 3) (ht : ∀ t, hs = [t] → (pc : Int) + off = (t : Int)) (hz : zex n rt (pc, .ifCond .ge off, nx, hs, v) L S h = some o) : zOn p l e R s m args below meth c Q E kc ks n pc nx L S h o := by
  match S, hs, hz with
  | .int x :: r, [t], hz =>
    cases hz
    subst hx
    intro kt kf H locs ls hR hf hl
    exact lv_if_ge X.1 X.2.1 hd (ht t rfl) (fun q => kt (by simpa using q) H locs ls hR hf hl) (fun q => kf (by simpa using q) H locs ls hR hf hl)
theorem zs_if_icmp_ge {off : Int} {pc nx : Nat} {hs : List Nat} {v : Value} {L : zLs} {S : List Value} {h : zIJ} {o : zO} (X : zX p R kc ks s m args meth c cc n own rt E) (hd : decode cc pc = .ok (.if_icmp .ge off, 3)) (hx : nx = pc + 3) (ht : ∀ t, hs = [t] → (pc : Int) + off = (t : Int)) (hz : zex n rt (pc, .if_icmp .ge off, nx, hs, v) L S h = some o) : zOn p l e R s m args below meth c Q E kc ks n pc nx L S h o := by
  match S, hs, hz with
  | .int y :: .int x :: r, [t], hz =>
    cases hz
    subst hx
    intro kt kf H locs ls hR hf hl
    exact lv_icmp_ge X.1 X.2.1 hd (ht t rfl) (fun q => kt (by simpa using q) H locs ls hR hf hl) (fun q => kf (by simpa using q) H locs ls hR hf hl)
theorem zs_ifCond_gt {off : Int} {pc nx : Nat} {hs : List Nat} {v : Value} {L : zLs} {S : List Value} {h : zIJ} {o : zO} (X : zX p R kc ks s m args meth c cc n own rt E) (hd : decode cc pc = .ok (.ifCond .gt off, 3)) (hx : nx = pc + 3) (ht : ∀ t, hs = [t] → (pc : Int) + off = (t : Int)) (hz : zex n rt (pc, .ifCond .gt off, nx, hs, v) L S h = some o) : zOn p l e R s m args below meth c Q E kc ks n pc nx L S h o := by
  match S, hs, hz with
  | .int x :: r, [t], hz =>
    cases hz
    subst hx
    intro kt kf H locs ls hR hf hl
    exact lv_if_gt X.1 X.2.1 hd (ht t rfl) (fun q => kt (by simpa using q) H locs ls hR hf hl) (fun q => kf (by simpa using q) H locs ls hR hf hl)
theorem zs_if_icmp_gt {off : Int} {pc nx : Nat} {hs : List Nat} {v : Value} {L : zLs} {S : List Value} {h : zIJ} {o : zO} (X : zX p R kc ks s m args meth c cc n own rt E) (hd : decode cc pc = .ok (.if_icmp .gt off, 3)) (hx : nx = pc + 3) (ht : ∀ t, hs = [t] → (pc : Int) + off = (t : Int)) (hz : zex n rt (pc, .if_icmp .gt off, nx, hs, v) L S h = some o) : zOn p l e R s m args below meth c Q E kc ks n pc nx L S h o := by
  match S, hs, hz with
  | .int y :: .int x :: r, [t], hz =>
    cases hz
    subst hx
    intro kt kf H locs ls hR hf hl
    exact lv_icmp_gt X.1 X.2.1 hd (ht t rfl) (fun q => kt (by simpa using q) H locs ls hR hf hl) (fun q => kf (by simpa using q) H locs ls hR hf hl)
theorem zs_ifCond_le {off : Int} {pc nx : Nat} {hs : List Nat} {v : Value} {L : zLs} {S : List Value} {h : zIJ} {o : zO} (X : zX p R kc ks s m args meth c cc n own rt E) (hd : decode cc pc = .ok (.ifCond .le off, 3)) (hx : nx = pc + 3) (ht : ∀ t, hs = [t] → (pc : Int) + off = (t : Int)) (hz : zex n rt (pc, .ifCond .le off, nx, hs, v) L S h = some o) : zOn p l e R s m args below meth c Q E kc ks n pc nx L S h o := by
  match S, hs, hz with
  | .int x :: r, [t], hz =>
    cases hz
    subst hx
    intro kt kf H locs ls hR hf hl
    exact lv_if_le X.1 X.2.1 hd (ht t rfl) (fun q => kt (by simpa using q) H locs ls hR hf hl) (fun q => kf (by simpa using q) H locs ls hR hf hl)
theorem zs_if_icmp_le {off : Int} {pc nx : Nat} {hs : List Nat} {v : Value} {L : zLs} {S : List Value} {h : zIJ} {o : zO} (X : zX p R kc ks s m args meth c cc n own rt E) (hd : decode cc pc = .ok (.if_icmp .le off, 3)) (hx : nx = pc + 3) (ht : ∀ t, hs = [t] → (pc : Int) + off = (t : Int)) (hz : zex n rt (pc, .if_icmp .le off, nx, hs, v) L S h = some o) : zOn p l e R s m args below meth c Q E kc ks n pc nx L S h o := by
  match S, hs, hz with
  | .int y :: .int x :: r, [t], hz =>
    cases hz
    subst hx
    intro kt kf H locs ls hR hf hl
    exact lv_icmp_le X.1 X.2.1 hd (ht t rfl) (fun q => kt (by simpa using q) H locs ls hR hf hl) (fun q => kf (by simpa using q) H locs ls hR hf hl)
end ZS
end
section
/-! Instructions that read and write the heap. -/
section ZS2
variable {p : Program} {l : Launch} {e : Env} {R : Room} {s : State} {m : MethodId} {args : Array Value} {below : List Frame} {meth : Method} {c : Code} {Q : State → Prop} {E : zE} {n : Nat} {cc : ByteArray} {own : String} {rt : Option FieldType} {kc ks : Nat}
theorem zc_obj {h : zIJ} {H : Heap} (hR : zR E s h H) {a ci : Nat} (hk : (zC a).1 = ci) (hci : ci < 100) : 3 ≤ a ∧ ∃ r : vw_C, vwCl[ci]? = some r ∧ r.2.2 = (zC a).2 ∧ t_OB (zad E a) (E.2.1.1 ci) (zC a).2 (E.2.1.2 ci) H (fun j => zv E (zfv h a j (zty ci j))) := by
  have hc := hR.2.2.2 a (zC_in hk (by omega))
  unfold zcell at hc
  rw [hk, if_pos hci] at hc
  exact ⟨zC_3 hk (by omega), hc⟩
theorem zc_ints {h : zIJ} {H : Heap} (hR : zR E s h H) {a : Nat} (hk : (zC a).1 = 100) : 3 ≤ a ∧ H[zad E a]? = some (arrV (E.2.2.1 0) (zC a).2 (fun j => .int (h.1 a j))) := by
  have hc := hR.2.2.2 a (zC_in hk (by omega))
  unfold zcell at hc
  rw [hk] at hc
  exact ⟨zC_3 hk (by omega), hc⟩
theorem zc_longs {h : zIJ} {H : Heap} (hR : zR E s h H) {a : Nat} (hk : (zC a).1 = 101) : 3 ≤ a ∧ H[zad E a]? = some (arrV (E.2.2.1 1) (zC a).2 (fun j => .long (h.2 a j))) := by
  have hc := hR.2.2.2 a (zC_in hk (by omega))
  unfold zcell at hc
  rw [hk] at hc
  exact ⟨zC_3 hk (by omega), hc⟩
theorem zc_refs {h : zIJ} {H : Heap} (hR : zR E s h H) {a t : Nat} (hk : (zC a).1 = t) (h1 : 102 ≤ t) (h2 : t ≤ 105) : 3 ≤ a ∧ H[zad E a]? = some (arrV (E.2.2.1 (t - 100)) (zC a).2 (fun j => .ref (zad E (zRf a j)))) := by
  have hc := hR.2.2.2 a (zC_in hk (by omega))
  unfold zcell at hc
  rw [hk, if_neg (by omega), if_neg (by omega), if_neg (by omega), if_pos (by omega)] at hc
  exact ⟨zC_3 hk (by omega), hc⟩
/-- any array of ints, as it is read -/
theorem zc_any {h : zIJ} {H : Heap} (hK : va_K E.2.1 vwCl (zTys E) s) (hR : zR E s h H) {a : Nat} (hk : zisI (zC a).1 = true) : zro E s a (zlen h a) (zrd h a) H := by
  unfold zisI at hk
  simp only [Bool.or_eq_true, Bool.and_eq_true] at hk
  rcases hk with hk | hk
  · have hk : (zC a).1 = 100 := Nat.eq_of_beq_eq_true hk
    obtain ⟨-, hc⟩ := zc_ints hR hk
    have e1 : zlen h a = (zC a).2 := by unfold zlen; rw [hk]; rfl
    have e2 : ∀ j, zrd h a j = h.1 a j := fun j => by unfold zrd; rw [hk]; rfl
    rw [e1]
    exact ⟨_, hc, (hK.2 0 (E.2.2.1 0, .int) rfl).1 _ _, (fun q => by cases q), arrV_size _ _ _, fun j hj => by rw [arrV_read _ _ hj, e2 j]⟩
  · have h1 := Nat.le_of_ble_eq_true hk.1
    have h2 := Nat.le_of_ble_eq_true hk.2
    have hc := hR.2.2.2 a (zC_in rfl (by omega))
    unfold zcell at hc
    rw [if_neg (by omega), if_neg (by omega), if_neg (by omega), if_neg (by omega)] at hc
    by_cases e0 : (zC a).1 = 110
    · rw [if_pos e0] at hc
      have e1 : zlen h a = (h.1 a 5000).toNatClampNeg := by unfold zlen; rw [e0]; rfl
      have e2 : zrd h a = h.1 a := by funext j; unfold zrd; rw [e0]; rfl
      rw [e1, e2]
      exact hc
    · rw [if_neg e0] at hc
      have e1 : zlen h a = (zC a).2 := by unfold zlen; rw [zbeqf e0]; rfl
      rw [e1]
      by_cases e3 : (zC a).1 = 111
      · rw [if_pos e3] at hc
        have e2 : zrd h a = zLE := by funext j; unfold zrd; rw [e3]; rfl
        rw [e2]
        exact hc
      · rw [if_neg e3] at hc
        have e4 : (zC a).1 = 112 := by omega
        have e2 : zrd h a = zGE := by funext j; unfold zrd; rw [e4]; rfl
        rw [e2]
        exact hc
theorem zs_iaload {pc nx : Nat} {hs : List Nat} {v : Value} {L : zLs} {S : List Value} {h : zIJ} {o : zO} (X : zX p R kc ks s m args meth c cc n own rt E) (hd : decode cc pc = .ok (.iaload, 1)) (hx : nx = pc + 1) (hz : zex n rt (pc, .iaload, nx, hs, v) L S h = some o) : zOn p l e R s m args below meth c Q E kc ks n pc nx L S h o := by
  match S, hz with
  | .int i :: .ref a :: r, hz =>
    cases hz
    subst hx
    intro hb k H locs ls hR hf hl
    rw [Bool.and_eq_true] at hb
    obtain ⟨cell, c1, c2, c3, c4, c5⟩ := zc_any X.2.2.2.2.2.1.1 hR hb.1
    have hi := zin_in hb.2
    exact W.iald X.1 X.2.1 c1 c2 c3 (by rw [c4]; exact hi) (c5 _ (vp_lt hi)) rfl rfl hd (k H locs ls hR hf hl)
theorem zs_laload {pc nx : Nat} {hs : List Nat} {v : Value} {L : zLs} {S : List Value} {h : zIJ} {o : zO} (X : zX p R kc ks s m args meth c cc n own rt E) (hd : decode cc pc = .ok (.laload, 1)) (hx : nx = pc + 1) (hz : zex n rt (pc, .laload, nx, hs, v) L S h = some o) : zOn p l e R s m args below meth c Q E kc ks n pc nx L S h o := by
  match S, hz with
  | .int i :: .ref a :: r, hz =>
    cases hz
    subst hx
    intro hb k H locs ls hR hf hl
    rw [Bool.and_eq_true] at hb
    obtain ⟨-, hc⟩ := zc_longs hR (Nat.eq_of_beq_eq_true hb.1)
    have hi := zin_in hb.2
    exact W.lald X.1 X.2.1 hc ((X.2.2.2.2.2.1.1.2 1 (E.2.2.1 1, .long) rfl).1 _ _) (fun q => by cases q) (by rw [arrV_size]; exact hi) (arrV_read _ _ (vp_lt hi)) rfl rfl hd (k H locs ls hR hf hl)
theorem zs_aaload {pc nx : Nat} {hs : List Nat} {v : Value} {L : zLs} {S : List Value} {h : zIJ} {o : zO} (X : zX p R kc ks s m args meth c cc n own rt E) (hd : decode cc pc = .ok (.aaload, 1)) (hx : nx = pc + 1) (hz : zex n rt (pc, .aaload, nx, hs, v) L S h = some o) : zOn p l e R s m args below meth c Q E kc ks n pc nx L S h o := by
  match S, hz with
  | .int i :: .ref a :: r, hz =>
    cases hz
    subst hx
    intro hb k H locs ls hR hf hl
    rw [Bool.and_eq_true] at hb
    have hk := hb.1
    unfold zisR at hk
    rw [Bool.and_eq_true] at hk
    have h1 := Nat.le_of_ble_eq_true hk.1
    have h2 := Nat.le_of_ble_eq_true hk.2
    obtain ⟨-, hc⟩ := zc_refs hR rfl h1 h2
    have hi := zin_in hb.2
    have hK := X.2.2.2.2.2.1.1
    have ht : ∃ ty : FieldType, (zTys E)[(zC a).1 - 100]? = some (E.2.2.1 ((zC a).1 - 100), ty) ∧ ty.isReference = true := by
      rcases (show (zC a).1 = 102 ∨ (zC a).1 = 103 ∨ (zC a).1 = 104 ∨ (zC a).1 = 105 by omega) with q | q | q | q <;> rw [q] <;> exact ⟨_, rfl, rfl⟩
    obtain ⟨ty, t1, t2⟩ := ht
    exact W.aald X.1 X.2.1 hc ((hK.2 _ _ t1).1 _ _) t2 (fun q => by cases q) (by rw [arrV_size]; exact hi) (arrV_read _ _ (vp_lt hi)) rfl rfl hd (k H locs ls hR hf hl)
theorem zs_iastore {pc nx : Nat} {hs : List Nat} {v : Value} {L : zLs} {S : List Value} {h : zIJ} {o : zO} (X : zX p R kc ks s m args meth c cc n own rt E) (hd : decode cc pc = .ok (.iastore, 1)) (hx : nx = pc + 1) (hz : zex n rt (pc, .iastore, nx, hs, v) L S h = some o) : zOn p l e R s m args below meth c Q E kc ks n pc nx L S h o := by
  match S, hz with
  | .int x :: .int i :: .ref a :: r, hz =>
    cases hz
    subst hx
    intro hb k H locs ls hR hf hl
    rw [Bool.and_eq_true] at hb
    have hk := Nat.eq_of_beq_eq_true hb.1
    obtain ⟨h3, hc⟩ := zc_ints hR hk
    have hi := zin_in hb.2
    refine W.iast X.1 X.2.1 hc ((X.2.2.2.2.2.1.1.2 0 (E.2.2.1 0, .int) rfl).1 _ _) (fun q => by cases q) (by rw [arrV_size]; exact hi) rfl rfl hd fun H' e1 e2 e3 => ?_
    refine k H' _ ls (zR_set hR h3 (fun k hk => zup_other hk) (fun k _ => rfl) e2 e3 (fun _ => ?_)) (fun q hq => ?_) hl
    · unfold zcell
      rw [hk]
      show H'[zad E a]? = some _
      rw [e1, arrV_store]
      congr 2
      funext j
      show updV _ _ _ _ = Value.int (zup h.1 a _ x a j)
      rw [zup_self]
      unfold updV
      split <;> rfl
    · rcases List.mem_append.mp hq with q1 | q1
      · exact hf q q1
      · rw [List.mem_singleton.mp q1]
        show E.2.2.2.size ≤ zad E a
        rw [zad_hi h3]
        omega
theorem zs_lastore {pc nx : Nat} {hs : List Nat} {v : Value} {L : zLs} {S : List Value} {h : zIJ} {o : zO} (X : zX p R kc ks s m args meth c cc n own rt E) (hd : decode cc pc = .ok (.lastore, 1)) (hx : nx = pc + 1) (hz : zex n rt (pc, .lastore, nx, hs, v) L S h = some o) : zOn p l e R s m args below meth c Q E kc ks n pc nx L S h o := by
  match S, hz with
  | .long x :: .int i :: .ref a :: r, hz =>
    cases hz
    subst hx
    intro hb k H locs ls hR hf hl
    rw [Bool.and_eq_true] at hb
    have hk := Nat.eq_of_beq_eq_true hb.1
    obtain ⟨h3, hc⟩ := zc_longs hR hk
    have hi := zin_in hb.2
    refine W.last X.1 X.2.1 hc ((X.2.2.2.2.2.1.1.2 1 (E.2.2.1 1, .long) rfl).1 _ _) (fun q => by cases q) (by rw [arrV_size]; exact hi) rfl rfl hd fun H' e1 e2 e3 => ?_
    refine k H' _ ls (zR_set hR h3 (fun k _ => rfl) (fun k hk => zup_other hk) e2 e3 (fun _ => ?_)) (fun q hq => ?_) hl
    · unfold zcell
      rw [hk]
      show H'[zad E a]? = some _
      rw [e1, arrV_store]
      congr 2
      funext j
      show updV _ _ _ _ = Value.long (zup h.2 a _ x a j)
      rw [zup_self]
      unfold updV
      split <;> rfl
    · rcases List.mem_append.mp hq with q1 | q1
      · exact hf q q1
      · rw [List.mem_singleton.mp q1]
        show E.2.2.2.size ≤ zad E a
        rw [zad_hi h3]
        omega
theorem zs_arraylength {pc nx : Nat} {hs : List Nat} {v : Value} {L : zLs} {S : List Value} {h : zIJ} {o : zO} (X : zX p R kc ks s m args meth c cc n own rt E) (hd : decode cc pc = .ok (.arraylength, 1)) (hx : nx = pc + 1) (hz : zex n rt (pc, .arraylength, nx, hs, v) L S h = some o) : zOn p l e R s m args below meth c Q E kc ks n pc nx L S h o := by
  match S, hz with
  | .ref a :: r, hz =>
    cases hz
    subst hx
    intro hb k H locs ls hR hf hl
    rw [Bool.or_eq_true] at hb
    rcases hb with hb | hb
    · obtain ⟨cell, c1, c2, c3, c4, c5⟩ := zc_any X.2.2.2.2.2.1.1 hR hb
      exact W.alen X.1 X.2.1 c1 c2 (by rw [c4]) rfl rfl hd (k H locs ls hR hf hl)
    · have hk := Nat.eq_of_beq_eq_true hb
      obtain ⟨-, hc⟩ := zc_longs hR hk
      have e1 : zlen h a = (zC a).2 := by unfold zlen; rw [hk]; rfl
      exact W.alen X.1 X.2.1 hc ((X.2.2.2.2.2.1.1.2 1 (E.2.2.1 1, .long) rfl).1 _ _) (by rw [arrV_size, e1]) rfl rfl hd (k H locs ls hR hf hl)
/-- what the tables give of a class by its number -/
def zcls (ci : Nat) : Prop := ∀ (C : String) (T : u_T) (N : Nat), vwCl[ci]? = some (C, T, N) → (∀ w ∈ u_ws C T N, w ∈ zTG) ∧ (∀ k, k < N → parseFieldDescriptor (T k).2.2.1 = some (zty ci k)) ∧ (∀ a, a < N → ∀ b, b < N → a ≠ b → (T a).2.1 ≠ (T b).2.1)
end ZS2
end
section
/-! Fields, statics, copies, returns. -/
section ZS3
variable {p : Program} {l : Launch} {e : Env} {R : Room} {s : State} {m : MethodId} {args : Array Value} {below : List Frame} {meth : Method} {c : Code} {Q : State → Prop} {E : zE} {n : Nat} {cc : ByteArray} {own : String} {rt : Option FieldType} {kc ks : Nat}
theorem zcls_of {ci N : Nat} {C : String} {T : u_T} (hv : vwCl[ci]? = some (C, T, N)) (h1 : (u_ws C T N).all (fun w => decide (w ∈ lw_tbl) && goodWord w) = true) (h2 : ∀ k, k < N → parseFieldDescriptor (T k).2.2.1 = some (zty ci k)) (h3 : ∀ a, a < N → ∀ b, b < N → a ≠ b → (T a).2.1 ≠ (T b).2.1) : zcls ci := by
  intro C' T' N' h
  rw [hv] at h
  cases h
  refine ⟨fun w hw => ?_, h2, h3⟩
  have := List.all_eq_true.mp h1 w hw
  simp only [Bool.and_eq_true, decide_eq_true_eq] at this
  exact zTG_in this.1 this.2
theorem zcls_all : ∀ ci, ci < 13 → zcls ci := by
  intro ci h
  rcases (show ci = 0 ∨ ci = 1 ∨ ci = 2 ∨ ci = 3 ∨ ci = 4 ∨ ci = 5 ∨ ci = 6 ∨ ci = 7 ∨ ci = 8 ∨ ci = 9 ∨ ci = 10 ∨ ci = 11 ∨ ci = 12 by omega) with rfl | rfl | rfl | rfl | rfl | rfl | rfl | rfl | rfl | rfl | rfl | rfl | rfl
  · exact zcls_of rfl (by decide +kernel) tyX0_ok nmX0
  · exact zcls_of rfl (by decide +kernel) tyX1_ok nmX1
  · exact zcls_of rfl (by decide +kernel) tyX2_ok nmX2
  · exact zcls_of rfl (by decide +kernel) tyX3_ok nmX3
  · exact zcls_of rfl (by decide +kernel) tyX4_ok nmX4
  · exact zcls_of rfl (by decide +kernel) tyX5_ok nmX5
  · exact zcls_of rfl (by decide +kernel) tyX6_ok nmX6
  · exact zcls_of rfl (by decide +kernel) tyX7_ok nmX7
  · exact zcls_of rfl (by decide +kernel) tyX8_ok nmX8
  · exact zcls_of rfl (by decide +kernel) tyX9_ok nmX9
  · exact zcls_of rfl (by decide +kernel) tyX10_ok nmX10
  · exact zcls_of rfl (by decide +kernel) tyX11_ok nmX11
  · exact zcls_of rfl (by decide +kernel) tyX12_ok nmX12
theorem vwCl_lt {ci : Nat} {r : vw_C} (h : vwCl[ci]? = some r) : ci < 13 := (List.getElem?_eq_some_iff.mp h).1
theorem zs_getfield {i : Nat} {pc nx : Nat} {ci j : Nat} {hs : List Nat} {v : Value} {L : zLs} {S : List Value} {h : zIJ} {o : zO} {C : String} {T : u_T} {N : Nat} (X : zX p R kc ks s m args meth c cc n own rt E) (hd : decode cc pc = .ok (.getfield i, 3)) (hx : nx = pc + 3) (hc : vwCl[ci]? = some (C, T, N)) (hj : j < N) (hTC : (T j).1 = C) (hw : Cond.fieldLink own i C (T j).2.1 (T j).2.2.1 ∈ zTG) (hz : zex n rt (pc, .getfield i, nx, ci :: j :: hs, v) L S h = some o) : zOn p l e R s m args below meth c Q E kc ks n pc nx L S h o := by
  match S, hz with
  | .ref a :: r, hz =>
    cases hz
    subst hx
    intro hb k H locs ls hR hf hl
    obtain ⟨hx, hcc, hml, hown, hts, hF, -⟩ := X
    have hci := vwCl_lt hc
    obtain ⟨hin, -, -⟩ := zcls_all ci hci C T N hc
    obtain ⟨h3, r', r1, r2, cell, q1, q2, q3, q4⟩ := zc_obj hR (Nat.eq_of_beq_eq_true hb) (by omega)
    cases hc.symm.trans r1
    obtain ⟨hS, hfc, kC, hkC, hkind⟩ := hF.1.1 ci _ hc
    obtain ⟨cf, kf, fi, f, hi, hsl⟩ := hS j hj
    have hi' := hi
    dsimp only at hi'
    rw [hTC] at hi'
    have r2 : N = (zC a).2 := r2
    exact W.getf hx hcc hown (hts _ hw) hi' (u_facts hfc hkC (u_lays hts hin hj) hi).1 q1 (by rw [q3]; exact fun h => by cases h) (by rw [hsl]; exact q4 j (by rw [← r2]; exact hj)) rfl rfl hd (k H locs ls hR hf hl)
theorem zfv_upI {h : zIJ} {a j b : Nat} {x : Int32} {ty : FieldType} (hb : b ≠ j) : zfv (zsI h a j x) a b ty = zfv h a b ty := by
  unfold zfv zsI
  dsimp only
  rw [zup_self, if_neg hb]
theorem zfv_upL {h : zIJ} {a j b : Nat} {x : Int64} {ty : FieldType} (hb : b ≠ j) : zfv (zsL h a j x) a b ty = zfv h a b ty := by
  unfold zfv zsL
  dsimp only
  rw [zup_self, if_neg hb]
/-- a field is written: the machine's part -/
theorem zputW {i : Nat} {pc : Nat} {ci j : Nat} {L : zLs} {r : List Value} {h h' : zIJ} {C : String} {T : u_T} {N a : Nat} {w : Value} (X : zX p R kc ks s m args meth c cc n own rt E) (hd : decode cc pc = .ok (.putfield i, 3)) (hc : vwCl[ci]? = some (C, T, N)) (hj : j < N) (hTC : (T j).1 = C) (hfin : (T j).2.2.2 = false) (hw : Cond.fieldLink own i C (T j).2.1 (T j).2.2.1 ∈ zTG)
    (hk : (zC a).1 = ci) (hn : narrow (zty ci j) w = w) (hfit : fits (zty ci j) w = true) (hI : ∀ k, k ≠ a → h'.1 k = h.1 k) (hJ : ∀ k, k ≠ a → h'.2 k = h.2 k) (hv : ∀ b, zv E (zfv h' a b (zty ci b)) = if b = j then w else zv E (zfv h a b (zty ci b)))
    (k : zN p l e R s m args below meth c Q E kc ks n (pc + 3) L r h') {H : Heap} {locs : List Loc} {ls : Array Slot} (hR : zR E s h H) (hf : ∀ q ∈ locs, E.2.2.2.size ≤ q.base) (hl : lv_has ls n (zl E L)) : W p l e R s m args below meth c H locs kc ks Q (F0 m pc ls (w :: .ref (zad E a) :: r.map (zv E))) := by
  obtain ⟨hx, hcc, hml, hown, hts, hF, -⟩ := X
  have hci := vwCl_lt hc
  obtain ⟨hin, hty, hnm⟩ := zcls_all ci hci C T N hc
  obtain ⟨h3, r', r1, r2, cell, q1, q2, q3, q4⟩ := zc_obj hR hk (by omega)
  cases hc.symm.trans r1
  have r2 : N = (zC a).2 := r2
  have hap := va_apart (own := own) hts hin (zty ci) hty hnm hF.1 hc
  obtain ⟨hS, hfc, kC, hkC, hkind⟩ := hF.1.1 ci _ hc
  obtain ⟨cf, kf, fi, f, hi, hsl⟩ := hS j hj
  have hlay := hts _ (hin _ (u_in_lay hj))
  unfold u_lay at hlay
  rw [if_neg (by rw [hfin]; decide)] at hlay
  have hst := (u_facts hfc hkC (u_lays hts hin hj) hi).1
  have h6 := u_store hfc hkC hkind hlay hi (hty j hj) hn hfit
  have hi' := hi
  dsimp only at hi'
  rw [hTC] at hi'
  refine W.putK hx hcc (f := f) ⟨hown, hts _ hw, ⟨_, _, _, hi'⟩, hst⟩ (by rw [q2]; exact h6) q1 q3 (by rw [hsl]; exact k2_hasslot (q4 j (by rw [← r2]; exact hj))) rfl rfl hd fun H' e1 e2 e3 => ?_
  rw [hsl] at e1
  rw [← r2] at q4
  refine k H' _ ls (zR_set hR h3 hI hJ e2 e3 (fun _ => ?_)) (fun q hq => ?_) hl
  · unfold zcell
    rw [hk, if_pos (by omega), ← r2]
    exact ⟨_, hc, rfl, t_OB.to (V := updV (fun j => zv E (zfv h a j (zty ci j))) j w) ⟨_, e1, q2, q3, t_set q4 hap hj w⟩ (fun b _ => by rw [hv b]; rfl)⟩
  · rcases List.mem_append.mp hq with q1 | q1
    · exact hf q q1
    · rw [List.mem_singleton.mp q1]
      show E.2.2.2.size ≤ zad E a
      rw [zad_hi h3]
      omega
theorem zs_putfield {i : Nat} {pc nx : Nat} {ci j : Nat} {hs : List Nat} {v : Value} {L : zLs} {S : List Value} {h : zIJ} {o : zO} {C : String} {T : u_T} {N : Nat} (X : zX p R kc ks s m args meth c cc n own rt E) (hd : decode cc pc = .ok (.putfield i, 3)) (hx : nx = pc + 3) (hc : vwCl[ci]? = some (C, T, N)) (hj : j < N) (hTC : (T j).1 = C) (hfin : (T j).2.2.2 = false) (hw : Cond.fieldLink own i C (T j).2.1 (T j).2.2.1 ∈ zTG) (hz : zex n rt (pc, .putfield i, nx, ci :: j :: hs, v) L S h = some o) : zOn p l e R s m args below meth c Q E kc ks n pc nx L S h o := by
  match S, hz with
  | w :: .ref a :: r, hz =>
    have hz2 : zpfT (zty ci j) (Nat.beq (zC a).1 ci) a j w L r h = some o := hz
    clear hz
    subst hx
    generalize hty : zty ci j = ty at hz2
    unfold zpfT at hz2
    split at hz2
    · rename_i x
      cases hz2
      intro hb k H locs ls hR hf hl
      refine zputW (h := h) (h' := zsI h a j x) (w := .int x) X hd hc hj hTC hfin hw (Nat.eq_of_beq_eq_true hb) (by rw [hty]; rfl) (by rw [hty]; rfl) (fun k hk => zup_other hk) (fun k _ => rfl) (fun b => ?_) k hR hf hl
      split
      · rename_i hbj; subst hbj
        rw [hty]
        show Value.int (zup h.1 a b x a b) = _
        rw [zup_self, if_pos rfl]
      · rename_i hbj; rw [zfv_upI hbj]
    · rename_i x
      cases hz2
      intro hb k H locs ls hR hf hl
      rw [Bool.and_eq_true] at hb
      have hx2 : x = 0 ∨ x = 1 := by
        have h2 := hb.2
        unfold zbit at h2
        simpa using h2
      refine zputW (h := h) (h' := zsI h a j x) (w := .int x) X hd hc hj hTC hfin hw (Nat.eq_of_beq_eq_true hb.1) (by rw [hty]; rcases hx2 with rfl | rfl <;> rfl) (by rw [hty]; rcases hx2 with rfl | rfl <;> rfl) (fun k hk => zup_other hk) (fun k _ => rfl) (fun b => ?_) k hR hf hl
      split
      · rename_i hbj; subst hbj
        rw [hty]
        show Value.int (zup h.1 a b x a b) = _
        rw [zup_self, if_pos rfl]
      · rename_i hbj; rw [zfv_upI hbj]
    · rename_i x
      cases hz2
      intro hb k H locs ls hR hf hl
      refine zputW (h := h) (h' := zsL h a j x) (w := .long x) X hd hc hj hTC hfin hw (Nat.eq_of_beq_eq_true hb) (by rw [hty]; rfl) (by rw [hty]; rfl) (fun k _ => rfl) (fun k hk => zup_other hk) (fun b => ?_) k hR hf hl
      split
      · rename_i hbj; subst hbj
        rw [hty]
        show Value.long (zup h.2 a b x a b) = _
        rw [zup_self, if_pos rfl]
      · rename_i hbj; rw [zfv_upL hbj]
    · cases hz2
theorem zs_getstatic {i : Nat} {pc nx : Nat} {k0 : Nat} {hs : List Nat} {v : Value} {L : zLs} {S : List Value} {h : zIJ} {o : zO} (X : zX p R kc ks s m args meth c cc n own rt E) (hd : decode cc pc = .ok (.getstatic i, 3)) (hx : nx = pc + 3) (hw : (k0 = 1 ∧ Cond.fieldLinkNest own i "MarkedSweeps" "LESSER_END" "[I" "MarkedSweeps" ∈ zNest) ∨ (k0 = 2 ∧ Cond.fieldLinkNest own i "MarkedSweeps" "GREATER_END" "[I" "MarkedSweeps" ∈ zNest)) (hz : zex n rt (pc, .getstatic i, nx, k0 :: hs, v) L S h = some o) : zOn p l e R s m args below meth c Q E kc ks n pc nx L S h o := by
  cases hz
  subst hx
  intro _ k H locs ls hR hf hl
  obtain ⟨hx, hcc, hml, hown, hts, hF, -⟩ := X
  rcases hw with ⟨rfl, hw⟩ | ⟨rfl, hw⟩
  · obtain ⟨cf, kf, fi, f, a, cell, h1, h2, h3, h4, h5, h6, h7, h8⟩ := hF.2.2.1
    exact va_WgetsN hx hcc hown (va_Nw.use rfl (hF.2.1 _ hw)) h1 h2 h3 h4 (by rw [hR.2.2.1 a (Array.getElem?_eq_some_iff.mp h5).1]; exact h5) (fun e => by rw [e] at h6; cases h6) h7 rfl hd (k H locs ls hR hf hl)
  · obtain ⟨cf, kf, fi, f, a, cell, h1, h2, h3, h4, h5, h6, h7, h8⟩ := hF.2.2.2
    exact va_WgetsN hx hcc hown (va_Nw.use rfl (hF.2.1 _ hw)) h1 h2 h3 h4 (by rw [hR.2.2.1 a (Array.getElem?_eq_some_iff.mp h5).1]; exact h5) (fun e => by rw [e] at h6; cases h6) h7 rfl hd (k H locs ls hR hf hl)
/-- how a method ends -/
def zQ (E : zE) (r : Option Value) (h : zIJ) : Array Value → State → Outcome → State → Prop := fun _ _ oc t => oc = .returned (r.map (zv E)) ∧ zR E t h t.heap ∧ zF E t
def zFree (E : zE) : Nat → Prop := fun q => E.2.2.2.size ≤ q
theorem zQ_at {r : Option Value} {h : zIJ} {H : Heap} {t : State} (hF : zF E s) (hR : zR E s h H) (ht : t.heap = H) (hw : s.WarmedH t.vm) : zQ E r h args s (.returned (r.map (zv E))) t :=
  ⟨rfl, by rw [ht]; exact zR_s hw.alike hR, zF_s hw hF⟩
theorem zs_ret {i : Instr} {pc nx : Nat} {hs : List Nat} {v : Value} {L : zLs} {S : List Value} {h : zIJ} {b : Bool} {t : Nat} {as S' : List Value} {L' : zLs} {h' : zIJ} (X : zX p R kc ks s m args meth c cc n own rt E) (hd : decode cc pc = .ok (i, 1)) (hi : i = .ireturn ∨ i = .lreturn ∨ i = .return_) (hz : zex n rt (pc, i, nx, hs, v) L S h = some (4, b, t, as, L', S', h')) (hb : b = true) : zN p l e R s m args below meth c (MQ below (zQ E as.head? h') args s kc ks (zFree E)) E kc ks n pc L S h := by
  obtain ⟨hx, hcc, hml, hown, hts, hF, hlocks, hr, -⟩ := X
  intro H locs ls hR hf hl
  rcases hi with rfl | rfl | rfl
  · have hz2 : zrI rt L S h = some (4, b, t, as, L', S', h') := hz
    clear hz
    unfold zrI at hz2
    split at hz2
    · cases hz2
      exact W.iret hx hcc hr (fun t ht hw => zQ_at (r := some (.int _)) hF hR ht hw) hf hd hlocks
    · rename_i x
      cases hz2
      have hx2 : x = 0 ∨ x = 1 := by
        unfold zbit at hb
        simpa using hb
      exact W.zret hx hcc hr (by rcases hx2 with rfl | rfl <;> rfl) (fun t ht hw => zQ_at (r := some (.int _)) hF hR ht hw) hf hd hlocks
    · cases hz2
  · have hz2 : zrL rt L S h = some (4, b, t, as, L', S', h') := hz
    clear hz
    unfold zrL at hz2
    split at hz2
    · cases hz2
      exact W.lret hx hcc hr (fun t ht hw => zQ_at (r := some (.long _)) hF hR ht hw) hf hd hlocks
    · cases hz2
  · have hz2 : zrV rt L S h = some (4, b, t, as, L', S', h') := hz
    clear hz
    unfold zrV at hz2
    split at hz2
    · cases hz2
      exact W.vret hx hcc hr (fun t ht hw => zQ_at (r := none) hF hR ht hw) hf hd hlocks
    · cases hz2
end ZS3
end
section
/-! Copies, switches, calls. -/
section ZS4
variable {p : Program} {l : Launch} {e : Env} {R : Room} {s : State} {m : MethodId} {args : Array Value} {below : List Frame} {meth : Method} {c : Code} {Q : State → Prop} {E : zE} {n : Nat} {cc : ByteArray} {own : String} {rt : Option FieldType} {kc ks : Nat}
theorem zcat_sum (S : List Value) : ((S.map (zv E)).map fun v => v.category).sum = zcat S := by
  induction S with
  | nil => rfl
  | cons v r ih =>
    rw [List.map_cons, List.map_cons, List.sum_cons, ih, zv_cat]
    rfl
theorem zcopyI {i : Nat} {pc : Nat} {L : zLs} {r : List Value} {h : zIJ} {a d : Nat} {sp dp q : Int32} (X : zX p R kc ks s m args meth c cc n own rt E) (hd : decode cc pc = .ok (.invokestatic i, 3)) (hw : Cond.methodLink own i arraycopyName ∈ zTG ∧ Cond.native arraycopyName ∈ zTG ∧ Cond.static arraycopyName ∈ zTG ∧ Cond.initialized "java/lang/System" ∈ zTG)
    (hka : (zC a).1 = 100) (hkd : (zC d).1 = 100) (hg : zcpG (zC a).2 (zC d).2 sp dp q = true) (hcat : zcat r ≤ 8)
    (k : zN p l e R s m args below meth c Q E kc ks n (pc + 3) L r (zcpI h a sp.toNatClampNeg d dp.toNatClampNeg q.toNatClampNeg)) {H : Heap} {locs : List Loc} {ls : Array Slot} (hR : zR E s h H) (hf : ∀ q ∈ locs, E.2.2.2.size ≤ q.base) (hl : lv_has ls n (zl E L)) :
    W p l e R s m args below meth c H locs kc ks Q (F0 m pc ls (.int q :: .int dp :: .ref (zad E d) :: .int sp :: .ref (zad E a) :: r.map (zv E))) := by
  obtain ⟨hx, hcc, hml, hown, hts, hF, -, -, hfr, hlo, hkc, hks⟩ := X
  have hg := of_decide_eq_true hg
  obtain ⟨g1, g2, g3, g4, g5⟩ := hg
  obtain ⟨ha3, hca⟩ := zc_ints hR hka
  obtain ⟨hd3, hcd⟩ := zc_ints hR hkd
  have ng : ∀ z : Int32, 0 ≤ z.toInt → ¬ z < 0 := fun z hz q => by
    have := Int32.lt_iff_toInt_lt.mp q
    rw [Int32.toInt_zero] at this
    omega
  have nn : ∀ z : Int32, 0 ≤ z.toInt → z.toInt = (z.toNatClampNeg : Int) := fun z hz => by
    show z.toInt = ((z.toInt.toNat : Nat) : Int)
    omega
  have hA := (hF.1.2 0 (E.2.2.1 0, .int) rfl).1
  obtain ⟨-, k0, hk0, cm0, hkk0⟩ := hA (zC a).2 (fun j => .int (h.1 a j))
  obtain ⟨-, k1, hk1, cm1, hkk1⟩ := hA (zC d).2 (fun j => .int (h.1 d j))
  have h4 : sp.toNatClampNeg + q.toNatClampNeg ≤ (zC a).2 := by have := nn sp g1; have := nn q g3; omega
  intro T hT X
  obtain ⟨vm', X', step⟩ := X.arraycopy hx hown (hts _ hw.1) (hts _ hw.2.1) (hts _ hw.2.2.1) (hts _ hw.2.2.2) (src := zad E a) (dst := zad E d) (srcPos := sp) (destPos := dp) (n := q) (by rw [hT]; exact hca) (by rw [hT]; exact hcd)
    (fun _ h => by cases h) (fun _ h => by cases h) (fun h => by cases h) (fun h => by cases h) hk0 hk1 hkk0 hkk1 (by rfl) (ng _ g1) (ng _ g2) (ng _ g3)
    (by rw [arrV_size]; omega)
    (by rw [arrV_size]; omega)
    (fun vm₁ _ i hi => by
      have e : (arrV (E.2.2.1 0) (zC a).2 (fun j => .int (h.1 a j))).slots.getD (sp.toNatClampNeg + i) .null = .int (h.1 a (sp.toNatClampNeg + i)) := by
        rw [Array.getD_eq_getD_getElem?, arrV_read _ _ (by omega)]
        rfl
      refine ⟨?_, ?_⟩
      · rw [e]
        rfl
      · rw [e]
        exact trivial)
    (g := F0 m pc ls (.int q :: .int dp :: .ref (zad E d) :: .int sp :: .ref (zad E a) :: r.map (zv E))) rfl (by rw [hml]; exact hl.1) (rest := r.map (zv E)) rfl (by rw [hcc]; exact hd) hfr (by
      have e := zcat_sum (E := E) r
      rw [show nativeFrameWords "java/lang/System" "arraycopy" 5 = 7 from by decide +kernel]
      show 2 * 0 + _ + _ ≤ _
      omega)
  have e1 : copied (arrV (E.2.2.1 0) (zC a).2 (fun j => .int (h.1 a j))) (arrV (E.2.2.1 0) (zC d).2 (fun j => .int (h.1 d j))) sp dp q = arrV (E.2.2.1 0) (zC d).2 (fun j => .int (va_cpy (h.1 a) (h.1 d) sp.toNatClampNeg dp.toNatClampNeg q.toNatClampNeg j)) := va_copied (fun z => .int z) (E.2.2.1 0) (E.2.2.1 0) (h.1 a) (h.1 d) h4
  rw [e1] at X' step
  have hl2 : zad E d < H.size := (Array.getElem?_eq_some_iff.mp hcd).1
  obtain ⟨t, a1, b1⟩ := k _ _ ls (zR_set (H' := H.setIfInBounds (zad E d) (arrV (E.2.2.1 0) (zC d).2 (fun j => .int (va_cpy (h.1 a) (h.1 d) sp.toNatClampNeg dp.toNatClampNeg q.toNatClampNeg j)))) hR hd3 (fun k hk => zrow_other hk) (fun k _ => rfl) (by simp) (fun q hq => by simp [Array.getElem?_setIfInBounds, Ne.symm hq]) (fun _ => by
      unfold zcell
      rw [hkd]
      show (H.setIfInBounds (zad E d) _)[zad E d]? = some _
      rw [Array.getElem?_setIfInBounds, if_pos rfl, if_pos hl2]
      congr 2
      funext j
      show _ = Value.int (zrow h.1 d _ d j)
      rw [zrow_self])) (fun z hz => by
      rcases List.mem_append.mp hz with h | h
      · exact hf z h
      · obtain ⟨y, -, hy⟩ := List.mem_map.mp h
        rw [← hy]
        show E.2.2.2.size ≤ zad E d
        rw [zad_hi hd3]
        omega) hl _ (by rw [← hT]; rfl) X'
  exact ⟨t, step t a1, b1⟩
theorem zcopyL {i : Nat} {pc : Nat} {L : zLs} {r : List Value} {h : zIJ} {a d : Nat} {sp dp q : Int32} (X : zX p R kc ks s m args meth c cc n own rt E) (hd : decode cc pc = .ok (.invokestatic i, 3)) (hw : Cond.methodLink own i arraycopyName ∈ zTG ∧ Cond.native arraycopyName ∈ zTG ∧ Cond.static arraycopyName ∈ zTG ∧ Cond.initialized "java/lang/System" ∈ zTG)
    (hka : (zC a).1 = 101) (hkd : (zC d).1 = 101) (hg : zcpG (zC a).2 (zC d).2 sp dp q = true) (hcat : zcat r ≤ 8)
    (k : zN p l e R s m args below meth c Q E kc ks n (pc + 3) L r (zcpL h a sp.toNatClampNeg d dp.toNatClampNeg q.toNatClampNeg)) {H : Heap} {locs : List Loc} {ls : Array Slot} (hR : zR E s h H) (hf : ∀ q ∈ locs, E.2.2.2.size ≤ q.base) (hl : lv_has ls n (zl E L)) :
    W p l e R s m args below meth c H locs kc ks Q (F0 m pc ls (.int q :: .int dp :: .ref (zad E d) :: .int sp :: .ref (zad E a) :: r.map (zv E))) := by
  obtain ⟨hx, hcc, hml, hown, hts, hF, -, -, hfr, hlo, hkc, hks⟩ := X
  have hg := of_decide_eq_true hg
  obtain ⟨g1, g2, g3, g4, g5⟩ := hg
  obtain ⟨ha3, hca⟩ := zc_longs hR hka
  obtain ⟨hd3, hcd⟩ := zc_longs hR hkd
  have ng : ∀ z : Int32, 0 ≤ z.toInt → ¬ z < 0 := fun z hz q => by
    have := Int32.lt_iff_toInt_lt.mp q
    rw [Int32.toInt_zero] at this
    omega
  have nn : ∀ z : Int32, 0 ≤ z.toInt → z.toInt = (z.toNatClampNeg : Int) := fun z hz => by
    show z.toInt = ((z.toInt.toNat : Nat) : Int)
    omega
  have hA := (hF.1.2 1 (E.2.2.1 1, .long) rfl).1
  obtain ⟨-, k0, hk0, cm0, hkk0⟩ := hA (zC a).2 (fun j => .long (h.2 a j))
  obtain ⟨-, k1, hk1, cm1, hkk1⟩ := hA (zC d).2 (fun j => .long (h.2 d j))
  have h4 : sp.toNatClampNeg + q.toNatClampNeg ≤ (zC a).2 := by have := nn sp g1; have := nn q g3; omega
  intro T hT X
  obtain ⟨vm', X', step⟩ := X.arraycopy hx hown (hts _ hw.1) (hts _ hw.2.1) (hts _ hw.2.2.1) (hts _ hw.2.2.2) (src := zad E a) (dst := zad E d) (srcPos := sp) (destPos := dp) (n := q) (by rw [hT]; exact hca) (by rw [hT]; exact hcd)
    (fun _ h => by cases h) (fun _ h => by cases h) (fun h => by cases h) (fun h => by cases h) hk0 hk1 hkk0 hkk1 (by rfl) (ng _ g1) (ng _ g2) (ng _ g3)
    (by rw [arrV_size]; omega)
    (by rw [arrV_size]; omega)
    (fun vm₁ _ i hi => by
      have e : (arrV (E.2.2.1 1) (zC a).2 (fun j => .long (h.2 a j))).slots.getD (sp.toNatClampNeg + i) .null = .long (h.2 a (sp.toNatClampNeg + i)) := by
        rw [Array.getD_eq_getD_getElem?, arrV_read _ _ (by omega)]
        rfl
      refine ⟨?_, ?_⟩
      · rw [e]
        rfl
      · rw [e]
        exact trivial)
    (g := F0 m pc ls (.int q :: .int dp :: .ref (zad E d) :: .int sp :: .ref (zad E a) :: r.map (zv E))) rfl (by rw [hml]; exact hl.1) (rest := r.map (zv E)) rfl (by rw [hcc]; exact hd) hfr (by
      have e := zcat_sum (E := E) r
      rw [show nativeFrameWords "java/lang/System" "arraycopy" 5 = 7 from by decide +kernel]
      show 2 * 0 + _ + _ ≤ _
      omega)
  have e1 : copied (arrV (E.2.2.1 1) (zC a).2 (fun j => .long (h.2 a j))) (arrV (E.2.2.1 1) (zC d).2 (fun j => .long (h.2 d j))) sp dp q = arrV (E.2.2.1 1) (zC d).2 (fun j => .long (va_cpy (h.2 a) (h.2 d) sp.toNatClampNeg dp.toNatClampNeg q.toNatClampNeg j)) := va_copied (fun z => .long z) (E.2.2.1 1) (E.2.2.1 1) (h.2 a) (h.2 d) h4
  rw [e1] at X' step
  have hl2 : zad E d < H.size := (Array.getElem?_eq_some_iff.mp hcd).1
  obtain ⟨t, a1, b1⟩ := k _ _ ls (zR_set (H' := H.setIfInBounds (zad E d) (arrV (E.2.2.1 1) (zC d).2 (fun j => .long (va_cpy (h.2 a) (h.2 d) sp.toNatClampNeg dp.toNatClampNeg q.toNatClampNeg j)))) hR hd3 (fun k _ => rfl) (fun k hk => zrow_other hk) (by simp) (fun q hq => by simp [Array.getElem?_setIfInBounds, Ne.symm hq]) (fun _ => by
      unfold zcell
      rw [hkd]
      show (H.setIfInBounds (zad E d) _)[zad E d]? = some _
      rw [Array.getElem?_setIfInBounds, if_pos rfl, if_pos hl2]
      congr 2
      funext j
      show _ = Value.long (zrow h.2 d _ d j)
      rw [zrow_self])) (fun z hz => by
      rcases List.mem_append.mp hz with h | h
      · exact hf z h
      · obtain ⟨y, -, hy⟩ := List.mem_map.mp h
        rw [← hy]
        show E.2.2.2.size ≤ zad E d
        rw [zad_hi hd3]
        omega) hl _ (by rw [← hT]; rfl) X'
  exact ⟨t, step t a1, b1⟩
theorem zs_copy {i : Nat} {pc nx : Nat} {k0 : Nat} {hs : List Nat} {v : Value} {L : zLs} {S : List Value} {h : zIJ} {o : zO} (X : zX p R kc ks s m args meth c cc n own rt E) (hd : decode cc pc = .ok (.invokestatic i, 3)) (hx : nx = pc + 3) (hw : Cond.methodLink own i arraycopyName ∈ zTG ∧ Cond.native arraycopyName ∈ zTG ∧ Cond.static arraycopyName ∈ zTG ∧ Cond.initialized "java/lang/System" ∈ zTG) (hz : zex n rt (pc, .invokestatic i, nx, 999 :: k0 :: hs, v) L S h = some o) : zOn p l e R s m args below meth c Q E kc ks n pc nx L S h o := by
  subst hx
  have hz2 : zcp (999 :: k0 :: hs) L S h = some o := hz
  clear hz
  match S, hz2 with
  | .int q :: .int dp :: .ref d :: .int sp :: .ref a :: r, hz2 =>
    obtain ⟨hcat, hz2⟩ := zcond (show cond (Nat.ble (zcat r) 8) _ none = some o from hz2)
    have hcat := Nat.le_of_ble_eq_true hcat
    cases hk0 : Nat.beq k0 100 with
    | true =>
      rw [hk0] at hz2
      cases hz2
      intro hb k H locs ls hR hf hl
      rw [Bool.and_eq_true, Bool.and_eq_true] at hb
      exact zcopyI X hd hw (Nat.eq_of_beq_eq_true hb.1.1) (Nat.eq_of_beq_eq_true hb.1.2) hb.2 hcat k hR hf hl
    | false =>
      rw [hk0] at hz2
      cases hz2
      intro hb k H locs ls hR hf hl
      rw [Bool.and_eq_true, Bool.and_eq_true] at hb
      exact zcopyL X hd hw (Nat.eq_of_beq_eq_true hb.1.1) (Nat.eq_of_beq_eq_true hb.1.2) hb.2 hcat k hR hf hl
/-- a switch -/
theorem zsw_spec {x : Int32} {k : Nat → Option zRes} {d : Nat} {r : zRes} : ∀ (ts : List Nat) (lo : Int), zsw x k d lo ts = some r → (∃ j : Nat, ∃ t, ts[j]? = some t ∧ x.toInt = lo + j ∧ k t = some r) ∨ ((x.toInt < lo ∨ lo + ts.length ≤ x.toInt) ∧ k d = some r)
  | [], lo, h => Or.inr ⟨by simp only [List.length_nil]; omega, h⟩
  | t :: ts, lo, h => by
    unfold zsw at h
    cases hd : decide (x.toInt = lo) with
    | true =>
      rw [hd] at h
      exact Or.inl ⟨0, t, rfl, by have := of_decide_eq_true hd; omega, h⟩
    | false =>
      rw [hd] at h
      have hne := of_decide_eq_false hd
      rcases zsw_spec ts (lo + 1) h with ⟨j, t2, h1, h2, h3⟩ | ⟨h1, h2⟩
      · exact Or.inl ⟨j + 1, t2, by rw [List.getElem?_cons_succ]; exact h1, by omega, h3⟩
      · exact Or.inr ⟨by rw [List.length_cons]; omega, h2⟩
theorem zs_switch {dflt lo hi : Int} {offs : Array Int} {pc len : Nat} {d : Nat} {ts : List Nat} {L : zLs} {r : List Value} {h : zIJ} {x : Int32} (X : zX p R kc ks s m args meth c cc n own rt E) (hd : decode cc pc = .ok (.tableswitch dflt lo hi offs, len)) (hdf : (pc : Int) + dflt = d) (hlen : hi = lo + ts.length - 1) (hts : ts.map (fun t : Nat => ((t : Int) - (pc : Int))) = offs.toList)
    (k1 : ∀ (j t : Nat), ts[j]? = some t → x.toInt = lo + (j : Int) → zN p l e R s m args below meth c Q E kc ks n t L r h) (k2 : (x.toInt < lo ∨ lo + ts.length ≤ x.toInt) → zN p l e R s m args below meth c Q E kc ks n d L r h) : zN p l e R s m args below meth c Q E kc ks n pc L (.int x :: r) h := by
  intro H locs ls hR hf hl
  by_cases ho : x.toInt < lo ∨ lo + ts.length ≤ x.toInt
  · exact lv_tableOut X.1 X.2.1 hd (by omega) hdf (k2 ho H locs ls hR hf hl)
  · have hj : (x.toInt - lo).toNat < ts.length := by omega
    have hg : ts[(x.toInt - lo).toNat]? = some ts[(x.toInt - lo).toNat] := List.getElem?_eq_getElem hj
    have ho2 : offs[(x.toInt - lo).toNat]? = some ((ts[(x.toInt - lo).toNat] : Int) - pc) := by
      rw [← Array.getElem?_toList, ← hts, List.getElem?_map, hg]
      rfl
    exact lv_tableIn (tgt := ts[(x.toInt - lo).toNat]) X.1 X.2.1 hd (by omega) (by omega) ho2 (by omega) (k1 _ _ hg (by omega) H locs ls hR hf hl)
/-- behind a call -/
theorem z_call {H : Heap} {locs : List Loc} {ls : Array Slot} {pc : Nat} {st0 rest : List Value} {as : Array Value} {r : Option Value} {h' : zIJ} (hr : va_Run p l e R s m args below meth c H locs kc ks 0 0 (F0 m pc ls st0) rest (zQ E r h' as) (zFree E)) (hf : ∀ q ∈ locs, E.2.2.2.size ≤ q.base)
    (kk : ∀ (H1 : Heap) (locs1 : List Loc), zR E s h' H1 → (∀ q ∈ locs1, E.2.2.2.size ≤ q.base) → W p l e R s m args below meth c H1 locs1 kc ks Q (F0 m (pc + 3) ls ((r.map (zv E)).toList ++ rest))) : W p l e R s m args below meth c H locs kc ks Q (F0 m pc ls st0) := by
  intro T hT X
  obtain ⟨v, st₀, t, T', L, h0, X', hL, e1, e2, ⟨hv, hR, hF⟩, st⟩ := hr T hT X
  cases hv
  have hal : t.vm.Alike s.vm := by rw [← e2]; exact X'.warmed.alike.symm
  obtain ⟨t2, a1, b1⟩ := kk T'.heap (locs ++ L) (by rw [e1]; exact zR_s hal hR) (fun q hq => by
    rcases List.mem_append.mp hq with h | h
    · exact hf q h
    · exact hL q h) T' rfl X'
  exact ⟨t2, st t2 a1, b1⟩
def zRoom (k : Nat) : Room := { frames := k + 1, cells := 0, slots := 0, locals := 64 * (k + 1) }
def zPc (E : zE) (as : List Value) (h : zIJ) : Array Value → State → Prop := va_Pc (as.map (zv E)) (fun U => zR E U h U.heap ∧ zF E U)
theorem zPc_blind {as : List Value} {h : zIJ} : FrameBlind (zPc E as h) := fun a U g mk q => ⟨q.1, zR_s (s := U) (U := U.calling g mk a) (Vm.Alike.refl U.vm) q.2.1, zF_v (s := U) (U := U.calling g mk a) rfl q.2.2⟩
/-- a method's contract at arguments and a heap: it answers r and leaves h' -/
def zMet (l : Launch) (E : zE) (y : MethodName) (bytes : ByteArray) (maxL : Nat) (ret : Option FieldType) (lev : Nat) (as : List Value) (h : zIJ) (r : Option Value) (h' : zIJ) : Prop :=
  Met l y (.code y bytes maxL ret :: zTG) (zRoom lev) (zPc E as h) (zQ E r h') 0 0 (zFree E)
end ZS4
end
section
/-! The methods by their numbers: name, bytes, whether static, places of words (by program). -/
abbrev zInf : Type := MethodName × ByteArray × Bool × List Nat
def zI (k : Nat) : zInf := cond (Nat.blt k 125) (cond (Nat.blt k 62) (cond (Nat.blt k 31) (cond (Nat.blt k 15) (cond (Nat.blt k 7) (cond (Nat.blt k 3) (cond (Nat.blt k 1) ((yX0_become, cX0_become, false, [499, 96, 497, 498])) (cond (Nat.blt k 2) ((yX0_isPoint, cX0_isPoint, false, [536, 96, 534, 535])) ((yX0_isPair, cX0_isPair, false, [613, 96, 611, 612])))) (cond (Nat.blt k 5) (cond (Nat.blt k 4) ((yX0_addPoint, cX0_addPoint, false, [509, 96, 507, 508])) ((yX0_removeLastPoint, cX0_removeLastPoint, false, [517, 96, 515, 516]))) (cond (Nat.blt k 6) ((yX0_addStep, cX0_addStep, false, [840, 96, 838, 839])) ((yX0_markAt, cX0_markAt, false, [618, 96, 616, 617]))))) (cond (Nat.blt k 11) (cond (Nat.blt k 9) (cond (Nat.blt k 8) ((yX0_setMark, cX0_setMark, false, [622, 96, 620, 621])) ((yX0_isFree, cX0_isFree, false, [488, 96, 486, 487]))) (cond (Nat.blt k 10) ((yX0_wouldCross, cX0_wouldCross, false, [540, 96, 538, 539])) ((yX0_mustCross, cX0_mustCross, false, [544, 96, 543, 1])))) (cond (Nat.blt k 13) (cond (Nat.blt k 12) ((yX0_doCross, cX0_doCross, false, [551, 96, 549, 550])) ((yX0_turnsLeft, cX0_turnsLeft, false, [559, 96, 557, 558]))) (cond (Nat.blt k 14) ((yX1_fewest, cX1_fewest, false, [760, 100, 758, 759])) ((yX1_meetAround, cX1_meetAround, false, [769, 100, 768, 15])))))) (cond (Nat.blt k 23) (cond (Nat.blt k 19) (cond (Nat.blt k 17) (cond (Nat.blt k 16) ((yX1_meet, cX1_meet, false, [765, 100, 764, 14])) ((yX2_start, cX2_start, false, [856, 103, 854, 855]))) (cond (Nat.blt k 18) ((yX2_takeSteps, cX2_takeSteps, false, [860, 103, 858, 859])) ((yX2_takeStep, cX2_takeStep, false, [864, 103, 863, 23])))) (cond (Nat.blt k 21) (cond (Nat.blt k 20) ((yX2_plus, cX2_plus, false, [868, 103, 867, 24])) ((yX2_takenFrom, cX2_takenFrom, false, [884, 103, 883, 26]))) (cond (Nat.blt k 22) ((yX2_times, cX2_times, false, [872, 103, 871, 25])) ((yX2_square, cX2_square, false, [888, 103, 887, 27]))))) (cond (Nat.blt k 27) (cond (Nat.blt k 25) (cond (Nat.blt k 24) ((yX2_measureEdge, cX2_measureEdge, false, [901, 103, 899, 900])) ((yX2_byRule, cX2_byRule, true, [904, 103, 903, 0]))) (cond (Nat.blt k 26) ((yX2_measureEdges, cX2_measureEdges, false, [922, 103, 920, 921])) ((yX2_measureNet, cX2_measureNet, false, [927, 103, 925, 926])))) (cond (Nat.blt k 29) (cond (Nat.blt k 28) ((yX2_foldIn, cX2_foldIn, false, [932, 103, 931, 28])) ((yX2_leastOf, cX2_leastOf, false, [940, 103, 938, 939]))) (cond (Nat.blt k 30) ((yX3_follow, cX3_follow, false, [655, 99, 653, 654])) ((yX3_findWhole, cX3_findWhole, false, [659, 99, 658, 10]))))))) (cond (Nat.blt k 46) (cond (Nat.blt k 38) (cond (Nat.blt k 34) (cond (Nat.blt k 32) ((yX3_greedyNet, cX3_greedyNet, true, [662, 99, 661, 0])) (cond (Nat.blt k 33) ((yX3_meet, cX3_meet, false, [667, 99, 666, 11])) ((yX3_spotIn, cX3_spotIn, true, [670, 99, 669, 0])))) (cond (Nat.blt k 36) (cond (Nat.blt k 35) ((yX3_find, cX3_find, false, [698, 99, 696, 697])) ((yX3_holding, cX3_holding, false, [706, 99, 704, 705]))) (cond (Nat.blt k 37) ((yX3_inAll, cX3_inAll, false, [715, 99, 713, 714])) ((yX3_inAny, cX3_inAny, false, [720, 99, 718, 719]))))) (cond (Nat.blt k 42) (cond (Nat.blt k 40) (cond (Nat.blt k 39) ((yX3_givenUpFor, cX3_givenUpFor, false, [743, 99, 741, 742])) ((yX3_flippable, cX3_flippable, false, [739, 99, 737, 738]))) (cond (Nat.blt k 41) ((yX3_flipped, cX3_flipped, false, [751, 99, 749, 750])) ((yX4_keep, cX4_keep, false, [495, 97, 493, 494])))) (cond (Nat.blt k 44) (cond (Nat.blt k 43) ((yX4_bringBack, cX4_bringBack, false, [1106, 97, 1104, 1105])) ((yX5_follow, cX5_follow, false, [567, 98, 565, 566]))) (cond (Nat.blt k 45) ((yX5_isOf, cX5_isOf, false, [571, 98, 570, 2])) ((yX5_findOrder, cX5_findOrder, false, [576, 98, 575, 3])))))) (cond (Nat.blt k 54) (cond (Nat.blt k 50) (cond (Nat.blt k 48) (cond (Nat.blt k 47) ((yX5_findSides, cX5_findSides, false, [580, 98, 579, 4])) ((yX5_setLeftTurn, cX5_setLeftTurn, false, [588, 98, 587, 5]))) (cond (Nat.blt k 49) ((yX5_findCrossings, cX5_findCrossings, false, [592, 98, 591, 6])) ((yX5_findHull, cX5_findHull, false, [601, 98, 600, 7])))) (cond (Nat.blt k 52) (cond (Nat.blt k 51) ((yX5_behindOnHull, cX5_behindOnHull, false, [605, 98, 604, 8])) ((yX5_isLeft, cX5_isLeft, false, [634, 98, 632, 633]))) (cond (Nat.blt k 53) ((yX5_isBare, cX5_isBare, false, [810, 98, 808, 809])) ((yX5_isHollow, cX5_isHollow, false, [1033, 98, 1031, 1032]))))) (cond (Nat.blt k 58) (cond (Nat.blt k 56) (cond (Nat.blt k 55) ((yX5_lowerPath, cX5_lowerPath, false, [783, 98, 781, 782])) ((yX6_read, cX6_read, false, [960, 104, 958, 959]))) (cond (Nat.blt k 57) ((yX6_readCorners, cX6_readCorners, false, [964, 104, 963, 30])) ((yX6_readSides, cX6_readSides, false, [968, 104, 967, 31])))) (cond (Nat.blt k 60) (cond (Nat.blt k 59) ((yX6_behind, cX6_behind, false, [972, 104, 971, 32])) ((yX6_ahead, cX6_ahead, false, [1002, 104, 1001, 38]))) (cond (Nat.blt k 61) ((yX6_signedArea, cX6_signedArea, false, [977, 104, 976, 33])) ((yX6_turnRound, cX6_turnRound, false, [981, 104, 980, 34])))))))) (cond (Nat.blt k 93) (cond (Nat.blt k 77) (cond (Nat.blt k 69) (cond (Nat.blt k 65) (cond (Nat.blt k 63) ((yX6_splitCount, cX6_splitCount, false, [985, 104, 983, 984])) (cond (Nat.blt k 64) ((yX6_splitsBetween, cX6_splitsBetween, false, [989, 104, 988, 35])) ((yX6_isJoined, cX6_isJoined, false, [993, 104, 992, 36])))) (cond (Nat.blt k 67) (cond (Nat.blt k 66) ((yX6_leavesInward, cX6_leavesInward, false, [998, 104, 997, 37])) ((yX6_pointsInside, cX6_pointsInside, false, [1015, 104, 1013, 1014]))) (cond (Nat.blt k 68) ((yX6_isInside, cX6_isInside, false, [1019, 104, 1018, 39])) ((yX7_take, cX7_take, false, [1042, 105, 1040, 1041]))))) (cond (Nat.blt k 73) (cond (Nat.blt k 71) (cond (Nat.blt k 70) ((yX7_has, cX7_has, false, [1051, 105, 1049, 1050])) ((yX7_firstUnlike, cX7_firstUnlike, false, [1063, 105, 1061, 1062]))) (cond (Nat.blt k 72) ((yX8_lay, cX8_lay, false, [1072, 106, 1070, 1071])) ((yX8_isMissing, cX8_isMissing, false, [956, 106, 954, 955])))) (cond (Nat.blt k 75) (cond (Nat.blt k 74) ((yX8_put, cX8_put, false, [1085, 106, 1083, 1084])) ((yX8_hasRun, cX8_hasRun, false, [1097, 106, 1095, 1096]))) (cond (Nat.blt k 76) ((yX9_follow, cX9_follow, false, [779, 101, 777, 778])) ((yX9_goOn, cX9_goOn, false, [787, 101, 786, 16])))))) (cond (Nat.blt k 85) (cond (Nat.blt k 81) (cond (Nat.blt k 79) (cond (Nat.blt k 78) ((yX9_isOn, cX9_isOn, false, [791, 101, 790, 17])) ((yX9_nextOn, cX9_nextOn, false, [799, 101, 798, 19]))) (cond (Nat.blt k 80) ((yX9_comesBehind, cX9_comesBehind, false, [795, 101, 794, 18])) ((yX9_goesBehind, cX9_goesBehind, false, [818, 101, 817, 22])))) (cond (Nat.blt k 83) (cond (Nat.blt k 82) ((yX9_isTriangle, cX9_isTriangle, false, [804, 101, 803, 20])) ((yX9_add, cX9_add, false, [814, 101, 813, 21]))) (cond (Nat.blt k 84) ((yX10_total, cX10_total, false, [830, 102, 828, 829])) ((yX11_place, cX11_place, false, [476, 95, 474, 475]))))) (cond (Nat.blt k 89) (cond (Nat.blt k 87) (cond (Nat.blt k 86) ((yX11_drop, cX11_drop, false, [513, 95, 511, 512])) ((yX11_move, cX11_move, false, [532, 95, 530, 531]))) (cond (Nat.blt k 88) ((yX11_at, cX11_at, false, [563, 95, 561, 562])) ((yX11_mark, cX11_mark, false, [609, 95, 607, 608])))) (cond (Nat.blt k 91) (cond (Nat.blt k 90) ((yX11_markOf, cX11_markOf, false, [626, 95, 624, 625])) ((yX11_turn, cX11_turn, false, [630, 95, 628, 629]))) (cond (Nat.blt k 92) ((yX11_crosses, cX11_crosses, false, [638, 95, 636, 637])) ((yX11_hull, cX11_hull, false, [643, 95, 641, 642]))))))) (cond (Nat.blt k 109) (cond (Nat.blt k 101) (cond (Nat.blt k 97) (cond (Nat.blt k 95) (cond (Nat.blt k 94) ((yX11_nets, cX11_nets, false, [647, 95, 645, 646])) ((yX11_net, cX11_net, false, [681, 95, 679, 680]))) (cond (Nat.blt k 96) ((yX11_rank, cX11_rank, false, [694, 95, 692, 693])) ((yX11_with, cX11_with, false, [702, 95, 700, 701])))) (cond (Nat.blt k 99) (cond (Nat.blt k 98) ((yX11_always, cX11_always, false, [711, 95, 709, 710])) ((yX11_draw, cX11_draw, false, [724, 95, 722, 723]))) (cond (Nat.blt k 100) ((yX11_fan, cX11_fan, false, [729, 95, 727, 728])) ((yX11_flips, cX11_flips, false, [735, 95, 733, 734]))))) (cond (Nat.blt k 105) (cond (Nat.blt k 103) (cond (Nat.blt k 102) ((yX11_flip, cX11_flip, false, [747, 95, 745, 746])) ((yX11_apart, cX11_apart, false, [756, 95, 754, 755]))) (cond (Nat.blt k 104) ((yX11_path, cX11_path, false, [775, 95, 773, 774])) ((yX11_advance, cX11_advance, false, [822, 95, 820, 821])))) (cond (Nat.blt k 107) (cond (Nat.blt k 106) ((yX11_ways, cX11_ways, false, [826, 95, 824, 825])) ((yX11_step, cX11_step, false, [836, 95, 834, 835]))) (cond (Nat.blt k 108) ((yX11_stepOf, cX11_stepOf, false, [844, 95, 842, 843])) ((yX11_clear, cX11_clear, false, [848, 95, 846, 847])))))) (cond (Nat.blt k 117) (cond (Nat.blt k 113) (cond (Nat.blt k 111) (cond (Nat.blt k 110) ((yX11_chain, cX11_chain, false, [852, 95, 850, 851])) ((yX11_ofEdge, cX11_ofEdge, false, [894, 95, 892, 893]))) (cond (Nat.blt k 112) ((yX11_ofNet, cX11_ofNet, false, [915, 95, 913, 914])) ((yX11_best, cX11_best, false, [936, 95, 934, 935])))) (cond (Nat.blt k 115) (cond (Nat.blt k 114) ((yX11_splits, cX11_splits, false, [945, 95, 943, 944])) ((yX11_area, cX11_area, false, [1007, 95, 1005, 1006]))) (cond (Nat.blt k 116) ((yX11_within, cX11_within, false, [1011, 95, 1009, 1010])) ((yX11_empty, cX11_empty, false, [1023, 95, 1021, 1022]))))) (cond (Nat.blt k 121) (cond (Nat.blt k 119) (cond (Nat.blt k 118) ((yX11_prove, cX11_prove, false, [1038, 95, 1036, 1037])) ((yX11_row, cX11_row, false, [1047, 95, 1045, 1046]))) (cond (Nat.blt k 120) ((yX11_alter, cX11_alter, false, [1055, 95, 1053, 1054])) ((yX11_judge, cX11_judge, false, [1059, 95, 1057, 1058])))) (cond (Nat.blt k 123) (cond (Nat.blt k 122) ((yX11_sheet, cX11_sheet, false, [1068, 95, 1066, 1067])) ((yX11_write, cX11_write, false, [1077, 95, 1075, 1076]))) (cond (Nat.blt k 124) ((yX11_item, cX11_item, false, [1089, 95, 1087, 1088])) ((yX11_copy, cX11_copy, false, [1093, 95, 1091, 1092]))))))))) (cond (Nat.blt k 188) (cond (Nat.blt k 156) (cond (Nat.blt k 140) (cond (Nat.blt k 132) (cond (Nat.blt k 128) (cond (Nat.blt k 126) ((yX11_undo, cX11_undo, false, [1102, 95, 1100, 1101])) (cond (Nat.blt k 127) ((yX11_seed, cX11_seed, false, [1110, 95, 1108, 1109])) ((yX11_count, cX11_count, false, [1114, 95, 1112, 1113])))) (cond (Nat.blt k 130) (cond (Nat.blt k 129) ((yX11_status, cX11_status, false, [1118, 95, 1116, 1117])) ((yX11_finding, cX11_finding, false, [483, 95, 482, 0]))) (cond (Nat.blt k 131) ((yX11_longFinding, cX11_longFinding, false, [689, 95, 688, 13])) ((yX11_followNets, cX11_followNets, false, [651, 95, 650, 9]))))) (cond (Nat.blt k 136) (cond (Nat.blt k 134) (cond (Nat.blt k 133) ((yX11_isNet, cX11_isNet, false, [685, 95, 684, 12])) ((yX11_refusedNumber, cX11_refusedNumber, false, [1081, 95, 1080, 40]))) (cond (Nat.blt k 135) ((yX11_refusedPolygon, cX11_refusedPolygon, false, [949, 95, 948, 29])) ((yX11_isNear, cX11_isNear, true, [479, 95, 478, 0])))) (cond (Nat.blt k 138) (cond (Nat.blt k 137) ((yX11_isRule, cX11_isRule, true, [897, 95, 896, 0])) ((yX11_isFold, cX11_isFold, true, [918, 95, 917, 0]))) (cond (Nat.blt k 139) ((yX11_isSheet, cX11_isSheet, true, [952, 95, 951, 0])) ((yX11_holds, cX11_holds, true, [547, 95, 546, 0])))))) (cond (Nat.blt k 148) (cond (Nat.blt k 144) (cond (Nat.blt k 142) (cond (Nat.blt k 141) ((yX11_edgeOf, cX11_edgeOf, true, [523, 95, 522, 0])) ((yX11_edgesAt, cX11_edgesAt, true, [520, 95, 519, 0]))) (cond (Nat.blt k 143) ((yX11_side, cX11_side, true, [491, 95, 490, 0])) ((yX12_finds, cX12_finds, false, [1235, 107, 1234, 41])))) (cond (Nat.blt k 146) (cond (Nat.blt k 145) ((yX12_findsLong, cX12_findsLong, false, [1386, 107, 1385, 65])) ((yX12_in, cX12_in, true, [1231, 107, 1230, 0]))) (cond (Nat.blt k 147) ((yX12_points, cX12_points, false, [1240, 107, 1239, 42])) ((yX12_x, cX12_x, false, [1252, 107, 1251, 45]))))) (cond (Nat.blt k 152) (cond (Nat.blt k 150) (cond (Nat.blt k 149) ((yX12_y, cX12_y, false, [1256, 107, 1255, 46])) ((yX12_isPoint, cX12_isPoint, false, [1284, 107, 1283, 49]))) (cond (Nat.blt k 151) ((yX12_areTwo, cX12_areTwo, false, [1321, 107, 1320, 56])) ((yX12_side, cX12_side, true, [1259, 107, 1258, 0])))) (cond (Nat.blt k 154) (cond (Nat.blt k 153) ((yX12_turnOf, cX12_turnOf, false, [1296, 107, 1295, 52])) ((yX12_isAhead, cX12_isAhead, false, [1305, 107, 1304, 53]))) (cond (Nat.blt k 155) ((yX12_isWithin, cX12_isWithin, false, [1313, 107, 1312, 55])) ((yX12_edge, cX12_edge, true, [1274, 107, 1273, 0]))))))) (cond (Nat.blt k 172) (cond (Nat.blt k 164) (cond (Nat.blt k 160) (cond (Nat.blt k 158) (cond (Nat.blt k 157) ((yX12_doCross, cX12_doCross, false, [1292, 107, 1291, 51])) ((yX12_first, cX12_first, false, [1346, 107, 1345, 58]))) (cond (Nat.blt k 159) ((yX12_last, cX12_last, false, [1452, 107, 1451, 72])) ((yX12_isOfHull, cX12_isOfHull, false, [1309, 107, 1308, 54])))) (cond (Nat.blt k 162) (cond (Nat.blt k 161) ((yX12_behind, cX12_behind, false, [1350, 107, 1349, 59])) ((yX12_findsHull, cX12_findsHull, false, [1342, 107, 1341, 57]))) (cond (Nat.blt k 163) ((yX12_laysAside, cX12_laysAside, false, [1244, 107, 1243, 43])) ((yX12_laysBack, cX12_laysBack, false, [1263, 107, 1262, 47]))))) (cond (Nat.blt k 168) (cond (Nat.blt k 166) (cond (Nat.blt k 165) ((yX12_changes, cX12_changes, false, [1267, 107, 1266, 48])) ((yX12_isFree, cX12_isFree, false, [1248, 107, 1247, 44]))) (cond (Nat.blt k 167) ((yX12_doMustsCross, cX12_doMustsCross, false, [1288, 107, 1287, 50])) ((yX12_isPlace, cX12_isPlace, true, [1226, 107, 1225, 0])))) (cond (Nat.blt k 170) (cond (Nat.blt k 169) ((yX12_place, cX12_place, false, [1223, 107, 1221, 1222])) ((yX12_drop, cX12_drop, false, [1271, 107, 1269, 1270]))) (cond (Nat.blt k 171) ((yX12_move, cX12_move, false, [1280, 107, 1278, 1279])) ((yX12_at, cX12_at, false, [1300, 107, 1298, 1299])))))) (cond (Nat.blt k 180) (cond (Nat.blt k 176) (cond (Nat.blt k 174) (cond (Nat.blt k 173) ((yX12_mark, cX12_mark, false, [1317, 107, 1315, 1316])) ((yX12_markOf, cX12_markOf, false, [1326, 107, 1324, 1325]))) (cond (Nat.blt k 175) ((yX12_turn, cX12_turn, false, [1330, 107, 1328, 1329])) ((yX12_crosses, cX12_crosses, false, [1334, 107, 1332, 1333])))) (cond (Nat.blt k 178) (cond (Nat.blt k 177) ((yX12_hull, cX12_hull, false, [1338, 107, 1336, 1337])) ((yX12_has, cX12_has, true, [1374, 107, 1373, 0]))) (cond (Nat.blt k 179) ((yX12_readsCrossings, cX12_readsCrossings, false, [1362, 107, 1361, 61])) ((yX12_mayEnd, cX12_mayEnd, false, [1370, 107, 1369, 63]))))) (cond (Nat.blt k 184) (cond (Nat.blt k 182) (cond (Nat.blt k 181) ((yX12_lists, cX12_lists, false, [1366, 107, 1365, 62])) ((yX12_listsNets, cX12_listsNets, false, [1358, 107, 1357, 60]))) (cond (Nat.blt k 183) ((yX12_numberOf, cX12_numberOf, false, [1395, 107, 1394, 66])) ((yX12_isNet, cX12_isNet, false, [1382, 107, 1381, 64])))) (cond (Nat.blt k 186) (cond (Nat.blt k 185) ((yX12_nets, cX12_nets, false, [1354, 107, 1352, 1353])) ((yX12_net, cX12_net, false, [1378, 107, 1376, 1377]))) (cond (Nat.blt k 187) ((yX12_rank, cX12_rank, false, [1391, 107, 1389, 1390])) ((yX12_with, cX12_with, false, [1399, 107, 1397, 1398])))))))) (cond (Nat.blt k 219) (cond (Nat.blt k 203) (cond (Nat.blt k 195) (cond (Nat.blt k 191) (cond (Nat.blt k 189) ((yX12_always, cX12_always, false, [1403, 107, 1401, 1402])) (cond (Nat.blt k 190) ((yX12_drawn, cX12_drawn, false, [1411, 107, 1410, 67])) ((yX12_draw, cX12_draw, false, [1407, 107, 1405, 1406])))) (cond (Nat.blt k 193) (cond (Nat.blt k 192) ((yX12_isTriangle, cX12_isTriangle, false, [1420, 107, 1419, 68])) ((yX12_fan, cX12_fan, false, [1416, 107, 1414, 1415]))) (cond (Nat.blt k 194) ((yX12_flipped, cX12_flipped, false, [1428, 107, 1427, 69])) ((yX12_flips, cX12_flips, false, [1424, 107, 1422, 1423]))))) (cond (Nat.blt k 199) (cond (Nat.blt k 197) (cond (Nat.blt k 196) ((yX12_flip, cX12_flip, false, [1432, 107, 1430, 1431])) ((yX12_apart, cX12_apart, false, [1436, 107, 1434, 1435]))) (cond (Nat.blt k 198) ((yX12_firstPath, cX12_firstPath, false, [1448, 107, 1447, 71])) ((yX12_nextOn, cX12_nextOn, false, [1464, 107, 1463, 75])))) (cond (Nat.blt k 201) (cond (Nat.blt k 200) ((yX12_advances, cX12_advances, false, [1460, 107, 1459, 74])) ((yX12_advances_, cX12_advances_, false, [1456, 107, 1455, 73]))) (cond (Nat.blt k 202) ((yX12_sweeps, cX12_sweeps, false, [1444, 107, 1443, 70])) ((yX12_path, cX12_path, false, [1440, 107, 1438, 1439])))))) (cond (Nat.blt k 211) (cond (Nat.blt k 207) (cond (Nat.blt k 205) (cond (Nat.blt k 204) ((yX12_advance, cX12_advance, false, [1468, 107, 1466, 1467])) ((yX12_ways, cX12_ways, false, [1473, 107, 1471, 1472]))) (cond (Nat.blt k 206) ((yX12_plus, cX12_plus, false, [1502, 107, 1501, 78])) ((yX12_minus, cX12_minus, false, [1513, 107, 1512, 80])))) (cond (Nat.blt k 209) (cond (Nat.blt k 208) ((yX12_times, cX12_times, false, [1506, 107, 1505, 79])) ((yX12_byStep, cX12_byStep, false, [1498, 107, 1497, 77]))) (cond (Nat.blt k 210) ((yX12_chained, cX12_chained, false, [1494, 107, 1493, 76])) ((yX12_byRule, cX12_byRule, false, [1521, 107, 1520, 81]))))) (cond (Nat.blt k 215) (cond (Nat.blt k 213) (cond (Nat.blt k 212) ((yX12_folded, cX12_folded, false, [1530, 107, 1529, 82])) ((yX12_step, cX12_step, false, [1477, 107, 1475, 1476]))) (cond (Nat.blt k 214) ((yX12_stepOf, cX12_stepOf, false, [1482, 107, 1480, 1481])) ((yX12_clear, cX12_clear, false, [1486, 107, 1484, 1485])))) (cond (Nat.blt k 217) (cond (Nat.blt k 216) ((yX12_chain, cX12_chain, false, [1490, 107, 1488, 1489])) ((yX12_ofEdge, cX12_ofEdge, false, [1517, 107, 1515, 1516]))) (cond (Nat.blt k 218) ((yX12_ofNet, cX12_ofNet, false, [1526, 107, 1524, 1525])) ((yX12_best, cX12_best, false, [1534, 107, 1532, 1533]))))))) (cond (Nat.blt k 235) (cond (Nat.blt k 227) (cond (Nat.blt k 223) (cond (Nat.blt k 221) (cond (Nat.blt k 220) ((yX12_isCorner, cX12_isCorner, false, [1554, 107, 1553, 85])) ((yX12_cornerAt, cX12_cornerAt, false, [1558, 107, 1557, 86]))) (cond (Nat.blt k 222) ((yX12_isPolygon, cX12_isPolygon, false, [1549, 107, 1548, 84])) ((yX12_whyNot, cX12_whyNot, false, [1542, 107, 1541, 83])))) (cond (Nat.blt k 225) (cond (Nat.blt k 224) ((yX12_isInside, cX12_isInside, false, [1570, 107, 1569, 89])) ((yX12_isSide, cX12_isSide, false, [1566, 107, 1565, 88]))) (cond (Nat.blt k 226) ((yX12_runsInside, cX12_runsInside, false, [1562, 107, 1561, 87])) ((yX12_splits, cX12_splits, false, [1538, 107, 1536, 1537]))))) (cond (Nat.blt k 231) (cond (Nat.blt k 229) (cond (Nat.blt k 228) ((yX12_area, cX12_area, false, [1574, 107, 1572, 1573])) ((yX12_within, cX12_within, false, [1578, 107, 1576, 1577]))) (cond (Nat.blt k 230) ((yX12_isEmpty, cX12_isEmpty, false, [1587, 107, 1586, 90])) ((yX12_empty, cX12_empty, false, [1582, 107, 1580, 1581])))) (cond (Nat.blt k 233) (cond (Nat.blt k 232) ((yX12_prove, cX12_prove, false, [1591, 107, 1589, 1590])) ((yX12_isRow, cX12_isRow, false, [1599, 107, 1598, 91]))) (cond (Nat.blt k 234) ((yX12_row, cX12_row, false, [1595, 107, 1593, 1594])) ((yX12_alter, cX12_alter, false, [1603, 107, 1601, 1602])))))) (cond (Nat.blt k 243) (cond (Nat.blt k 239) (cond (Nat.blt k 237) (cond (Nat.blt k 236) ((yX12_judge, cX12_judge, false, [1607, 107, 1605, 1606])) ((yX12_isSheet, cX12_isSheet, true, [1545, 107, 1544, 0]))) (cond (Nat.blt k 238) ((yX12_sheet, cX12_sheet, false, [1611, 107, 1609, 1610])) ((yX12_whyNot_, cX12_whyNot_, false, [1619, 107, 1618, 92])))) (cond (Nat.blt k 241) (cond (Nat.blt k 240) ((yX12_write, cX12_write, false, [1615, 107, 1613, 1614])) ((yX12_item, cX12_item, false, [1623, 107, 1621, 1622]))) (cond (Nat.blt k 242) ((yX12_copy, cX12_copy, false, [1627, 107, 1625, 1626])) ((yX12_undo, cX12_undo, false, [1631, 107, 1629, 1630]))))) (cond (Nat.blt k 247) (cond (Nat.blt k 245) (cond (Nat.blt k 244) ((yX12_seed, cX12_seed, false, [1635, 107, 1633, 1634])) ((yX12_marked, cX12_marked, false, [1643, 107, 1642, 93]))) (cond (Nat.blt k 246) ((yX12_count, cX12_count, false, [1639, 107, 1637, 1638])) ((yX12_status, cX12_status, false, [1647, 107, 1645, 1646])))) (cond (Nat.blt k 249) (cond (Nat.blt k 248) ((yJ6_bitCount_0f7a4, cJ6_bitCount_0f7a4, true, [1026, 112, 1025, 0])) ((yJ13_bitCount_95d88, cJ13_bitCount_95d88, true, [674, 111, 673, 0]))) (cond (Nat.blt k 250) ((yJ7_fill_d0a16, cJ7_fill_d0a16, true, [595, 110, 594, 0])) ((yJ7_fill_53178, cJ7_fill_53178, true, [583, 110, 582, 0])))))))))
def zNm : Nat := 251
def zrk (rt : Option FieldType) : Nat := match rt with
  | none => 0
  | some .long => 2
  | _ => 1
def zword (pl : Nat) (w : Cond) : Bool := decide (lw_tbl[pl]? = some w)
def zokT (pc : Nat) (off : Int) (hs : List Nat) : Bool := match hs with
  | [t] => decide ((pc : Int) + off = (t : Int))
  | _ => false
def zokC (own : String) (i : Nat) (hs : List Nat) (v : Value) : Bool := match hs, v with
  | [pl], .int x => zword pl (.constant own i x)
  | _, _ => false
def zokJ (own : String) (i : Nat) (hs : List Nat) (v : Value) : Bool := match hs, v with
  | [pl], .long x => zword pl (.constantLong own i x)
  | _, _ => false
def zokF (fin : Bool) (own : String) (i : Nat) (hs : List Nat) : Bool := match hs with
  | [ci, j, pl] => (match vwCl[ci]? with
    | some (C, T, N) => Nat.blt j N && (decide ((T j).1 = C) && ((fin || !(T j).2.2.2) && zword pl (.fieldLink own i C (T j).2.1 (T j).2.2.1)))
    | none => false)
  | _ => false
def zokS (own : String) (i : Nat) (hs : List Nat) : Bool := match hs with
  | [k, pl, _] => (Nat.beq k 1 && zword pl (.fieldLinkNest own i "MarkedSweeps" "LESSER_END" "[I" "MarkedSweeps")) || (Nat.beq k 2 && zword pl (.fieldLinkNest own i "MarkedSweeps" "GREATER_END" "[I" "MarkedSweeps"))
  | _ => false
def zokL (own : String) (i : Nat) (y : MethodName) (pl nest : Nat) : Bool := cond (Nat.beq nest 0) (zword pl (.methodLink own i y)) (zword pl (.methodLinkNest own i y "MarkedSweeps"))
noncomputable def zokV (own : String) (i : Nat) (hs : List Nat) : Bool := match hs with
  | [m, na, rk, lv, ci, pl, nest] => Nat.blt m zNm && (!(zI m).2.2.1 && (Nat.beq rk (zrk (zMs m).2.1) && (Nat.beq lv (zMs m).2.2.1 && (decide ((vwCl[ci]?).map (fun r => r.1) = some (zI m).1.cls) && (decide ((parseMethodDescriptor (zI m).1.desc).map (fun d => d.parameters.length + 1) = some na) && zokL own i (zI m).1 pl nest)))))
  | _ => false
noncomputable def zokU (own : String) (i : Nat) (hs : List Nat) : Bool := match hs with
  | [m, na, rk, lv, _, pl, nest] => Nat.blt m zNm && ((zI m).2.2.1 && (Nat.beq rk (zrk (zMs m).2.1) && (Nat.beq lv (zMs m).2.2.1 && (decide ((parseMethodDescriptor (zI m).1.desc).map (fun d => d.parameters.length) = some na) && zokL own i (zI m).1 pl nest))))
  | [m, _, pl] => Nat.beq m 999 && zword pl (.methodLink own i arraycopyName)
  | [m, pl] => (Nat.beq m 990 && zword pl (.methodLink own i Lib.Math.max.name)) || ((Nat.beq m 991 && zword pl (.methodLink own i Lib.Math.min.name)) || ((Nat.beq m 992 && zword pl (.methodLink own i Lib.Math.abs.name)) || ((Nat.beq m 993 && zword pl (.methodLink own i Lib.MathLoose.max_long.x)) || (Nat.beq m 994 && zword pl (.methodLink own i Lib.MathLoose.min_long.x)))))
  | _ => false
def zokW (pc : Nat) (d lo hi : Int) (offs : Array Int) (hs : List Nat) : Bool := match hs with
  | t :: ts => decide ((pc : Int) + d = (t : Int)) && (decide (hi = lo + ts.length - 1) && decide (ts.map (fun t : Nat => ((t : Int) - (pc : Int))) = offs.toList))
  | _ => false
noncomputable def zokI (own : String) (pc : Nat) (ins : Instr) (nx : Nat) (hs : List Nat) (v : Value) : Bool := match ins with
  | .iconst i => Nat.beq nx (pc + 1) && decide (v = .int (Int32.ofInt i))
  | .bipush i => Nat.beq nx (pc + 2) && decide (v = .int (Int8.ofInt i).toInt32)
  | .sipush i => Nat.beq nx (pc + 3) && decide (v = .int (Int16.ofInt i).toInt32)
  | .lconst i => Nat.beq nx (pc + 1) && decide (v = .long (Int64.ofNat (i : Nat)))
  | .ldc i => Nat.beq nx (pc + 2) && zokC own i hs v
  | .ldc_w i => Nat.beq nx (pc + 3) && zokC own i hs v
  | .ldc2_w i => Nat.beq nx (pc + 3) && zokJ own i hs v
  | .iload_n _ | .lload_n _ | .aload_n _ | .istore_n _ | .lstore_n _ | .astore_n _ => Nat.beq nx (pc + 1)
  | .iload _ | .lload _ | .aload _ | .istore _ | .lstore _ | .astore _ => Nat.beq nx (pc + 2)
  | .iinc _ d => Nat.beq nx (pc + 3) && decide (v = .int (Int32.ofInt d))
  | .iadd | .isub | .imul | .iand | .ior | .ixor | .ishl | .ishr | .iushr | .idiv | .irem | .ineg | .ladd | .lsub | .lmul | .land | .lor | .lxor | .ldiv | .lrem | .lshl | .lshr | .lushr | .lcmp | .i2l | .l2i | .i2b | .dup | .dup2 | .iaload | .laload | .aaload | .iastore | .lastore | .arraylength | .ireturn | .lreturn | .return_ => Nat.beq nx (pc + 1)
  | .goto off => Nat.beq nx (pc + 3) && zokT pc off hs
  | .ifCond _ off => Nat.beq nx (pc + 3) && zokT pc off hs
  | .if_icmp _ off => Nat.beq nx (pc + 3) && zokT pc off hs
  | .getfield i => Nat.beq nx (pc + 3) && zokF true own i hs
  | .putfield i => Nat.beq nx (pc + 3) && zokF false own i hs
  | .getstatic i => Nat.beq nx (pc + 3) && zokS own i hs
  | .invokevirtual i => Nat.beq nx (pc + 3) && zokV own i hs
  | .invokestatic i => Nat.beq nx (pc + 3) && zokU own i hs
  | .tableswitch d lo hi offs => zokW pc d lo hi offs hs
  | _ => false
noncomputable def zokE (own : String) (cc : ByteArray) (e : zEn) : Bool := decide (decode cc e.1 = .ok (e.2.1, e.2.2.1 - e.1)) && zokI own e.1 e.2.1 e.2.2.1 e.2.2.2.1 e.2.2.2.2
def zokP (i : zInf) (M : zM) : Bool := match i.2.2.2 with
  | [p0, p1, p2, p3] => zword p0 (.code i.1 i.2.1 M.1 M.2.1) && (zword p1 (.initialized i.1.cls) && (cond i.2.2.1 (zword p2 (.static i.1)) (zword p2 (.instanceMethod i.1) && zword p3 (.selects i.1.cls i.1 i.1))))
  | _ => false
noncomputable def zokM (k : Nat) : Bool := zokP (zI k) (zMs k) && (decide ((zI k).1.cls ≠ "java/lang/invoke/MethodHandle" ∧ (zI k).1.cls ≠ "java/lang/invoke/VarHandle") && (plainName (zI k).1.cls && (Nat.ble (zMs k).1 45 && ((zMs k).2.2.2.2.all (zokE (zI k).1.cls (zI k).2.1) && ((!Nat.beq k zLI || (zMs k).2.2.2.1.isEmpty) && decide (zcut 0 (zMs k).2.2.2.1 = none))))))
end
section
/-! Any instruction of a checked method; blocks; runs. -/
section ZS5
variable {p : Program} {l : Launch} {e : Env} {R : Room} {s : State} {m : MethodId} {args : Array Value} {below : List Frame} {meth : Method} {c : Code} {Q : State → Prop} {E : zE} {n : Nat} {cc : ByteArray} {own : String} {rt : Option FieldType} {kc ks : Nat}
theorem zok_word {pl : Nat} {w : Cond} (h : zword pl w = true) (hg : goodWord w = true) : w ∈ zTG := zTG_at (of_decide_eq_true h) hg
theorem zok_nest {pl : Nat} {w : Cond} (h : zword pl w = true) (hg : zNw w = true) : w ∈ zNest := zNest_at (of_decide_eq_true h) hg
theorem zw_copy : Cond.native arraycopyName ∈ zTG ∧ Cond.static arraycopyName ∈ zTG ∧ Cond.initialized "java/lang/System" ∈ zTG := by decide +kernel
theorem zw_math : (Cond.initialized "java/lang/Math" ∈ zTG ∧ Cond.static Lib.Math.max.name ∈ zTG ∧ Cond.code Lib.Math.max.name Lib.Math.max.code 2 (some .int) ∈ zTG) ∧ (Cond.static Lib.Math.min.name ∈ zTG ∧ Cond.code Lib.Math.min.name Lib.Math.min.code 2 (some .int) ∈ zTG) ∧ (Cond.static Lib.Math.abs.name ∈ zTG ∧ Cond.code Lib.Math.abs.name Lib.Math.abs.code 1 (some .int) ∈ zTG) ∧ (Cond.static Lib.MathLoose.max_long.x ∈ zTG ∧ Cond.code Lib.MathLoose.max_long.x Lib.MathLoose.max_long.code 4 (some .long) ∈ zTG) ∧ (Cond.static Lib.MathLoose.min_long.x ∈ zTG ∧ Cond.code Lib.MathLoose.min_long.x Lib.MathLoose.min_long.code 4 (some .long) ∈ zTG) := by decide +kernel
theorem zs_maxI {i : Nat} {pc nx : Nat} {hs : List Nat} {v : Value} {L : zLs} {S : List Value} {h : zIJ} {o : zO} (X : zX p R kc ks s m args meth c cc n own rt E) (hd : decode cc pc = .ok (.invokestatic i, 3)) (hx : nx = pc + 3) (hw : Cond.methodLink own i Lib.Math.max.name ∈ zTG) (hz : zex n rt (pc, .invokestatic i, nx, 990 :: hs, v) L S h = some o) : zOn p l e R s m args below meth c Q E kc ks n pc nx L S h o := by
  subst hx
  obtain ⟨hx, hcc, hml, hown, hts, hF, -, -, hfr, hlo, hkc, hks⟩ := X
  have hz2 : zm2I zmxI L S h = some o := hz
  clear hz
  match S, hz2 with
  | .int y :: .int x :: r, hz2 =>
    obtain ⟨hcat, hz⟩ := zcond (show cond (Nat.ble (zcat r) 8) (zgo0 L (.int (zmxI x y) :: r) h) none = some o from hz2)
    have hcat := Nat.le_of_ble_eq_true hcat
    have hcs := zcat_sum (E := E) r
    cases hz
    intro _ k H locs ls hR hf hl
    exact va_mmax hx hcc (by rw [hml]; exact hl.1.symm) hown (hts _ hw) (hts _ zw_math.1.2.1) (hts _ zw_math.1.1) (hts _ zw_math.1.2.2) hfr (by omega) hkc hks hd (k H locs ls hR hf hl)
theorem zs_minI {i : Nat} {pc nx : Nat} {hs : List Nat} {v : Value} {L : zLs} {S : List Value} {h : zIJ} {o : zO} (X : zX p R kc ks s m args meth c cc n own rt E) (hd : decode cc pc = .ok (.invokestatic i, 3)) (hx : nx = pc + 3) (hw : Cond.methodLink own i Lib.Math.min.name ∈ zTG) (hz : zex n rt (pc, .invokestatic i, nx, 991 :: hs, v) L S h = some o) : zOn p l e R s m args below meth c Q E kc ks n pc nx L S h o := by
  subst hx
  obtain ⟨hx, hcc, hml, hown, hts, hF, -, -, hfr, hlo, hkc, hks⟩ := X
  have hz2 : zm2I zmnI L S h = some o := hz
  clear hz
  match S, hz2 with
  | .int y :: .int x :: r, hz2 =>
    obtain ⟨hcat, hz⟩ := zcond (show cond (Nat.ble (zcat r) 8) (zgo0 L (.int (zmnI x y) :: r) h) none = some o from hz2)
    have hcat := Nat.le_of_ble_eq_true hcat
    have hcs := zcat_sum (E := E) r
    cases hz
    intro _ k H locs ls hR hf hl
    exact va_mmin hx hcc (by rw [hml]; exact hl.1.symm) hown (hts _ hw) (hts _ zw_math.2.1.1) (hts _ zw_math.1.1) (hts _ zw_math.2.1.2) hfr (by omega) hkc hks hd (k H locs ls hR hf hl)
theorem zs_absI {i : Nat} {pc nx : Nat} {hs : List Nat} {v : Value} {L : zLs} {S : List Value} {h : zIJ} {o : zO} (X : zX p R kc ks s m args meth c cc n own rt E) (hd : decode cc pc = .ok (.invokestatic i, 3)) (hx : nx = pc + 3) (hw : Cond.methodLink own i Lib.Math.abs.name ∈ zTG) (hz : zex n rt (pc, .invokestatic i, nx, 992 :: hs, v) L S h = some o) : zOn p l e R s m args below meth c Q E kc ks n pc nx L S h o := by
  subst hx
  obtain ⟨hx, hcc, hml, hown, hts, hF, -, -, hfr, hlo, hkc, hks⟩ := X
  have hz2 : zm1I zabI L S h = some o := hz
  clear hz
  match S, hz2 with
  | .int x :: r, hz2 =>
    obtain ⟨hcat, hz⟩ := zcond (show cond (Nat.ble (zcat r) 8) (zgo0 L (.int (zabI x) :: r) h) none = some o from hz2)
    have hcat := Nat.le_of_ble_eq_true hcat
    have hcs := zcat_sum (E := E) r
    cases hz
    intro _ k H locs ls hR hf hl
    exact va_mabs hx hcc (by rw [hml]; exact hl.1.symm) hown (hts _ hw) (hts _ zw_math.2.2.1.1) (hts _ zw_math.1.1) (hts _ zw_math.2.2.1.2) hfr (by omega) hkc hks hd (k H locs ls hR hf hl)
theorem zs_maxL {i : Nat} {pc nx : Nat} {hs : List Nat} {v : Value} {L : zLs} {S : List Value} {h : zIJ} {o : zO} (X : zX p R kc ks s m args meth c cc n own rt E) (hd : decode cc pc = .ok (.invokestatic i, 3)) (hx : nx = pc + 3) (hw : Cond.methodLink own i Lib.MathLoose.max_long.x ∈ zTG) (hz : zex n rt (pc, .invokestatic i, nx, 993 :: hs, v) L S h = some o) : zOn p l e R s m args below meth c Q E kc ks n pc nx L S h o := by
  subst hx
  obtain ⟨hx, hcc, hml, hown, hts, hF, -, -, hfr, hlo, hkc, hks⟩ := X
  have hz2 : zm2L zmxL L S h = some o := hz
  clear hz
  match S, hz2 with
  | .long y :: .long x :: r, hz2 =>
    obtain ⟨hcat, hz⟩ := zcond (show cond (Nat.ble (zcat r) 8) (zgo0 L (.long (zmxL x y) :: r) h) none = some o from hz2)
    have hcat := Nat.le_of_ble_eq_true hcat
    have hcs := zcat_sum (E := E) r
    cases hz
    intro _ k H locs ls hR hf hl
    exact va_mmax_long hx hcc (by rw [hml]; exact hl.1.symm) hown (hts _ hw) (hts _ zw_math.2.2.2.1.1) (hts _ zw_math.1.1) (hts _ zw_math.2.2.2.1.2) hfr (by omega) hkc hks hd (k H locs ls hR hf hl)
theorem zs_minL {i : Nat} {pc nx : Nat} {hs : List Nat} {v : Value} {L : zLs} {S : List Value} {h : zIJ} {o : zO} (X : zX p R kc ks s m args meth c cc n own rt E) (hd : decode cc pc = .ok (.invokestatic i, 3)) (hx : nx = pc + 3) (hw : Cond.methodLink own i Lib.MathLoose.min_long.x ∈ zTG) (hz : zex n rt (pc, .invokestatic i, nx, 994 :: hs, v) L S h = some o) : zOn p l e R s m args below meth c Q E kc ks n pc nx L S h o := by
  subst hx
  obtain ⟨hx, hcc, hml, hown, hts, hF, -, -, hfr, hlo, hkc, hks⟩ := X
  have hz2 : zm2L zmnL L S h = some o := hz
  clear hz
  match S, hz2 with
  | .long y :: .long x :: r, hz2 =>
    obtain ⟨hcat, hz⟩ := zcond (show cond (Nat.ble (zcat r) 8) (zgo0 L (.long (zmnL x y) :: r) h) none = some o from hz2)
    have hcat := Nat.le_of_ble_eq_true hcat
    have hcs := zcat_sum (E := E) r
    cases hz
    intro _ k H locs ls hR hf hl
    exact va_mmin_long hx hcc (by rw [hml]; exact hl.1.symm) hown (hts _ hw) (hts _ zw_math.2.2.2.2.1) (hts _ zw_math.1.1) (hts _ zw_math.2.2.2.2.2) hfr (by omega) hkc hks hd (k H locs ls hR hf hl)
theorem zinv_tag {virt : Bool} {hs : List Nat} {L : zLs} {S : List Value} {h : zIJ} {o : zO} (hz : zinv virt hs L S h = some o) : o.1 = 3 := by
  unfold zinv at hz
  split at hz
  · split at hz
    · obtain ⟨-, hz⟩ := zcond hz
      cases virt with
      | true =>
        dsimp only [cond_true] at hz
        split at hz
        · cases hz; rfl
        · cases hz
      | false => cases hz; rfl
    · cases hz
  · cases hz
theorem zOn_3 {pc nx : Nat} {L : zLs} {S : List Value} {h : zIJ} {o : zO} (ho : 3 ≤ o.1) : zOn p l e R s m args below meth c Q E kc ks n pc nx L S h o := by
  obtain ⟨tag, b, t, as, L', S', h'⟩ := o
  match tag, ho with
  | 0, ho => exact absurd (show (3 : Nat) ≤ 0 from ho) (by decide)
  | 1, ho => exact absurd (show (3 : Nat) ≤ 1 from ho) (by decide)
  | 2, ho => exact absurd (show (3 : Nat) ≤ 2 from ho) (by decide)
  | q + 3, _ => trivial
theorem zs_all {pc nx : Nat} {ins : Instr} {hs : List Nat} {v : Value} {L : zLs} {S : List Value} {h : zIJ} {o : zO} (X : zX p R kc ks s m args meth c cc n own rt E) (hok : zokE own cc (pc, ins, nx, hs, v) = true) (hz : zex n rt (pc, ins, nx, hs, v) L S h = some o) : zOn p l e R s m args below meth c Q E kc ks n pc nx L S h o := by
  unfold zokE at hok
  rw [Bool.and_eq_true] at hok
  obtain ⟨hd0, hi0⟩ := hok
  have hd : decode cc pc = .ok (ins, nx - pc) := of_decide_eq_true hd0
  have hi : zokI own pc ins nx hs v = true := hi0
  clear hd0 hi0
  cases ins
  all_goals try (exact nomatch (show (none : Option zO) = some o from hz))
  case iadd =>
    have hx : nx = pc + 1 := Nat.eq_of_beq_eq_true hi
    rw [hx, Nat.add_sub_cancel_left] at hd
    exact zs_iadd X hd hx hz
  case isub =>
    have hx : nx = pc + 1 := Nat.eq_of_beq_eq_true hi
    rw [hx, Nat.add_sub_cancel_left] at hd
    exact zs_isub X hd hx hz
  case imul =>
    have hx : nx = pc + 1 := Nat.eq_of_beq_eq_true hi
    rw [hx, Nat.add_sub_cancel_left] at hd
    exact zs_imul X hd hx hz
  case iand =>
    have hx : nx = pc + 1 := Nat.eq_of_beq_eq_true hi
    rw [hx, Nat.add_sub_cancel_left] at hd
    exact zs_iand X hd hx hz
  case ior =>
    have hx : nx = pc + 1 := Nat.eq_of_beq_eq_true hi
    rw [hx, Nat.add_sub_cancel_left] at hd
    exact zs_ior X hd hx hz
  case ixor =>
    have hx : nx = pc + 1 := Nat.eq_of_beq_eq_true hi
    rw [hx, Nat.add_sub_cancel_left] at hd
    exact zs_ixor X hd hx hz
  case ishl =>
    have hx : nx = pc + 1 := Nat.eq_of_beq_eq_true hi
    rw [hx, Nat.add_sub_cancel_left] at hd
    exact zs_ishl X hd hx hz
  case ishr =>
    have hx : nx = pc + 1 := Nat.eq_of_beq_eq_true hi
    rw [hx, Nat.add_sub_cancel_left] at hd
    exact zs_ishr X hd hx hz
  case iushr =>
    have hx : nx = pc + 1 := Nat.eq_of_beq_eq_true hi
    rw [hx, Nat.add_sub_cancel_left] at hd
    exact zs_iushr X hd hx hz
  case idiv =>
    have hx : nx = pc + 1 := Nat.eq_of_beq_eq_true hi
    rw [hx, Nat.add_sub_cancel_left] at hd
    exact zs_idiv X hd hx hz
  case irem =>
    have hx : nx = pc + 1 := Nat.eq_of_beq_eq_true hi
    rw [hx, Nat.add_sub_cancel_left] at hd
    exact zs_irem X hd hx hz
  case ineg =>
    have hx : nx = pc + 1 := Nat.eq_of_beq_eq_true hi
    rw [hx, Nat.add_sub_cancel_left] at hd
    exact zs_ineg X hd hx hz
  case ladd =>
    have hx : nx = pc + 1 := Nat.eq_of_beq_eq_true hi
    rw [hx, Nat.add_sub_cancel_left] at hd
    exact zs_ladd X hd hx hz
  case lsub =>
    have hx : nx = pc + 1 := Nat.eq_of_beq_eq_true hi
    rw [hx, Nat.add_sub_cancel_left] at hd
    exact zs_lsub X hd hx hz
  case lmul =>
    have hx : nx = pc + 1 := Nat.eq_of_beq_eq_true hi
    rw [hx, Nat.add_sub_cancel_left] at hd
    exact zs_lmul X hd hx hz
  case land =>
    have hx : nx = pc + 1 := Nat.eq_of_beq_eq_true hi
    rw [hx, Nat.add_sub_cancel_left] at hd
    exact zs_land X hd hx hz
  case lor =>
    have hx : nx = pc + 1 := Nat.eq_of_beq_eq_true hi
    rw [hx, Nat.add_sub_cancel_left] at hd
    exact zs_lor X hd hx hz
  case lxor =>
    have hx : nx = pc + 1 := Nat.eq_of_beq_eq_true hi
    rw [hx, Nat.add_sub_cancel_left] at hd
    exact zs_lxor X hd hx hz
  case ldiv =>
    have hx : nx = pc + 1 := Nat.eq_of_beq_eq_true hi
    rw [hx, Nat.add_sub_cancel_left] at hd
    exact zs_ldiv X hd hx hz
  case lrem =>
    have hx : nx = pc + 1 := Nat.eq_of_beq_eq_true hi
    rw [hx, Nat.add_sub_cancel_left] at hd
    exact zs_lrem X hd hx hz
  case lshl =>
    have hx : nx = pc + 1 := Nat.eq_of_beq_eq_true hi
    rw [hx, Nat.add_sub_cancel_left] at hd
    exact zs_lshl X hd hx hz
  case lshr =>
    have hx : nx = pc + 1 := Nat.eq_of_beq_eq_true hi
    rw [hx, Nat.add_sub_cancel_left] at hd
    exact zs_lshr X hd hx hz
  case lushr =>
    have hx : nx = pc + 1 := Nat.eq_of_beq_eq_true hi
    rw [hx, Nat.add_sub_cancel_left] at hd
    exact zs_lushr X hd hx hz
  case lcmp =>
    have hx : nx = pc + 1 := Nat.eq_of_beq_eq_true hi
    rw [hx, Nat.add_sub_cancel_left] at hd
    exact zs_lcmp X hd hx hz
  case i2l =>
    have hx : nx = pc + 1 := Nat.eq_of_beq_eq_true hi
    rw [hx, Nat.add_sub_cancel_left] at hd
    exact zs_i2l X hd hx hz
  case l2i =>
    have hx : nx = pc + 1 := Nat.eq_of_beq_eq_true hi
    rw [hx, Nat.add_sub_cancel_left] at hd
    exact zs_l2i X hd hx hz
  case i2b =>
    have hx : nx = pc + 1 := Nat.eq_of_beq_eq_true hi
    rw [hx, Nat.add_sub_cancel_left] at hd
    exact zs_i2b X hd hx hz
  case dup =>
    have hx : nx = pc + 1 := Nat.eq_of_beq_eq_true hi
    rw [hx, Nat.add_sub_cancel_left] at hd
    exact zs_dup X hd hx hz
  case dup2 =>
    have hx : nx = pc + 1 := Nat.eq_of_beq_eq_true hi
    rw [hx, Nat.add_sub_cancel_left] at hd
    exact zs_dup2 X hd hx hz
  case iaload =>
    have hx : nx = pc + 1 := Nat.eq_of_beq_eq_true hi
    rw [hx, Nat.add_sub_cancel_left] at hd
    exact zs_iaload X hd hx hz
  case laload =>
    have hx : nx = pc + 1 := Nat.eq_of_beq_eq_true hi
    rw [hx, Nat.add_sub_cancel_left] at hd
    exact zs_laload X hd hx hz
  case aaload =>
    have hx : nx = pc + 1 := Nat.eq_of_beq_eq_true hi
    rw [hx, Nat.add_sub_cancel_left] at hd
    exact zs_aaload X hd hx hz
  case iastore =>
    have hx : nx = pc + 1 := Nat.eq_of_beq_eq_true hi
    rw [hx, Nat.add_sub_cancel_left] at hd
    exact zs_iastore X hd hx hz
  case lastore =>
    have hx : nx = pc + 1 := Nat.eq_of_beq_eq_true hi
    rw [hx, Nat.add_sub_cancel_left] at hd
    exact zs_lastore X hd hx hz
  case arraylength =>
    have hx : nx = pc + 1 := Nat.eq_of_beq_eq_true hi
    rw [hx, Nat.add_sub_cancel_left] at hd
    exact zs_arraylength X hd hx hz
  case iload_n =>
    have hx : nx = pc + 1 := Nat.eq_of_beq_eq_true hi
    rw [hx, Nat.add_sub_cancel_left] at hd
    exact zs_iload_n X hd hx hz
  case lload_n =>
    have hx : nx = pc + 1 := Nat.eq_of_beq_eq_true hi
    rw [hx, Nat.add_sub_cancel_left] at hd
    exact zs_lload_n X hd hx hz
  case aload_n =>
    have hx : nx = pc + 1 := Nat.eq_of_beq_eq_true hi
    rw [hx, Nat.add_sub_cancel_left] at hd
    exact zs_aload_n X hd hx hz
  case istore_n =>
    have hx : nx = pc + 1 := Nat.eq_of_beq_eq_true hi
    rw [hx, Nat.add_sub_cancel_left] at hd
    exact zs_istore_n X hd hx hz
  case lstore_n =>
    have hx : nx = pc + 1 := Nat.eq_of_beq_eq_true hi
    rw [hx, Nat.add_sub_cancel_left] at hd
    exact zs_lstore_n X hd hx hz
  case astore_n =>
    have hx : nx = pc + 1 := Nat.eq_of_beq_eq_true hi
    rw [hx, Nat.add_sub_cancel_left] at hd
    exact zs_astore_n X hd hx hz
  case iload =>
    have hx : nx = pc + 2 := Nat.eq_of_beq_eq_true hi
    rw [hx, Nat.add_sub_cancel_left] at hd
    exact zs_iload X hd hx hz
  case lload =>
    have hx : nx = pc + 2 := Nat.eq_of_beq_eq_true hi
    rw [hx, Nat.add_sub_cancel_left] at hd
    exact zs_lload X hd hx hz
  case aload =>
    have hx : nx = pc + 2 := Nat.eq_of_beq_eq_true hi
    rw [hx, Nat.add_sub_cancel_left] at hd
    exact zs_aload X hd hx hz
  case istore =>
    have hx : nx = pc + 2 := Nat.eq_of_beq_eq_true hi
    rw [hx, Nat.add_sub_cancel_left] at hd
    exact zs_istore X hd hx hz
  case lstore =>
    have hx : nx = pc + 2 := Nat.eq_of_beq_eq_true hi
    rw [hx, Nat.add_sub_cancel_left] at hd
    exact zs_lstore X hd hx hz
  case astore =>
    have hx : nx = pc + 2 := Nat.eq_of_beq_eq_true hi
    rw [hx, Nat.add_sub_cancel_left] at hd
    exact zs_astore X hd hx hz
  case iconst =>
    replace hi := Bool.and_eq_true_iff.mp hi
    have hx : nx = pc + 1 := Nat.eq_of_beq_eq_true hi.1
    rw [hx, Nat.add_sub_cancel_left] at hd
    exact zs_iconst X hd hx (of_decide_eq_true hi.2) hz
  case bipush =>
    replace hi := Bool.and_eq_true_iff.mp hi
    have hx : nx = pc + 2 := Nat.eq_of_beq_eq_true hi.1
    rw [hx, Nat.add_sub_cancel_left] at hd
    exact zs_bipush X hd hx (of_decide_eq_true hi.2) hz
  case sipush =>
    replace hi := Bool.and_eq_true_iff.mp hi
    have hx : nx = pc + 3 := Nat.eq_of_beq_eq_true hi.1
    rw [hx, Nat.add_sub_cancel_left] at hd
    exact zs_sipush X hd hx (of_decide_eq_true hi.2) hz
  case lconst =>
    replace hi := Bool.and_eq_true_iff.mp hi
    have hx : nx = pc + 1 := Nat.eq_of_beq_eq_true hi.1
    rw [hx, Nat.add_sub_cancel_left] at hd
    exact zs_lconst X hd hx (of_decide_eq_true hi.2) hz
  case iinc =>
    replace hi := Bool.and_eq_true_iff.mp hi
    have hx : nx = pc + 3 := Nat.eq_of_beq_eq_true hi.1
    rw [hx, Nat.add_sub_cancel_left] at hd
    exact zs_iinc X hd hx (of_decide_eq_true hi.2) hz
  case ldc =>
    replace hi := Bool.and_eq_true_iff.mp hi
    have hx : nx = pc + 2 := Nat.eq_of_beq_eq_true hi.1
    rw [hx, Nat.add_sub_cancel_left] at hd
    have hw := hi.2
    unfold zokC at hw
    split at hw
    · exact zs_ldc X hd hx rfl (zok_word hw rfl) hz
    · cases hw
  case ldc_w =>
    replace hi := Bool.and_eq_true_iff.mp hi
    have hx : nx = pc + 3 := Nat.eq_of_beq_eq_true hi.1
    rw [hx, Nat.add_sub_cancel_left] at hd
    have hw := hi.2
    unfold zokC at hw
    split at hw
    · exact zs_ldc_w X hd hx rfl (zok_word hw rfl) hz
    · cases hw
  case ldc2_w =>
    replace hi := Bool.and_eq_true_iff.mp hi
    have hx : nx = pc + 3 := Nat.eq_of_beq_eq_true hi.1
    rw [hx, Nat.add_sub_cancel_left] at hd
    have hw := hi.2
    unfold zokJ at hw
    split at hw
    · exact zs_ldc2_w X hd hx rfl (zok_word hw rfl) hz
    · cases hw
  case goto =>
    replace hi := Bool.and_eq_true_iff.mp hi
    have hx : nx = pc + 3 := Nat.eq_of_beq_eq_true hi.1
    rw [hx, Nat.add_sub_cancel_left] at hd
    refine zs_goto X hd (fun t ht => ?_) hz
    have hw := hi.2
    rw [ht] at hw
    exact of_decide_eq_true hw
  case ifCond cd off =>
    replace hi := Bool.and_eq_true_iff.mp hi
    have hx : nx = pc + 3 := Nat.eq_of_beq_eq_true hi.1
    rw [hx, Nat.add_sub_cancel_left] at hd
    have ht : ∀ t, hs = [t] → (pc : Int) + off = (t : Int) := fun t ht => by
      have hw := hi.2
      rw [ht] at hw
      exact of_decide_eq_true hw
    cases cd
    · exact zs_ifCond_eq X hd hx ht hz
    · exact zs_ifCond_ne X hd hx ht hz
    · exact zs_ifCond_lt X hd hx ht hz
    · exact zs_ifCond_ge X hd hx ht hz
    · exact zs_ifCond_gt X hd hx ht hz
    · exact zs_ifCond_le X hd hx ht hz
  case if_icmp cd off =>
    replace hi := Bool.and_eq_true_iff.mp hi
    have hx : nx = pc + 3 := Nat.eq_of_beq_eq_true hi.1
    rw [hx, Nat.add_sub_cancel_left] at hd
    have ht : ∀ t, hs = [t] → (pc : Int) + off = (t : Int) := fun t ht => by
      have hw := hi.2
      rw [ht] at hw
      exact of_decide_eq_true hw
    cases cd
    · exact zs_if_icmp_eq X hd hx ht hz
    · exact zs_if_icmp_ne X hd hx ht hz
    · exact zs_if_icmp_lt X hd hx ht hz
    · exact zs_if_icmp_ge X hd hx ht hz
    · exact zs_if_icmp_gt X hd hx ht hz
    · exact zs_if_icmp_le X hd hx ht hz
  case getfield =>
    replace hi := Bool.and_eq_true_iff.mp hi
    have hx : nx = pc + 3 := Nat.eq_of_beq_eq_true hi.1
    rw [hx, Nat.add_sub_cancel_left] at hd
    have hw := hi.2
    unfold zokF at hw
    split at hw
    · split at hw
      · rename_i C T N hc
        simp only [Bool.and_eq_true] at hw
        exact zs_getfield X hd hx hc (Nat.blt_eq.mp hw.1) (of_decide_eq_true hw.2.1) (zok_word hw.2.2.2 rfl) hz
      · cases hw
    · cases hw
  case putfield =>
    replace hi := Bool.and_eq_true_iff.mp hi
    have hx : nx = pc + 3 := Nat.eq_of_beq_eq_true hi.1
    rw [hx, Nat.add_sub_cancel_left] at hd
    have hw := hi.2
    unfold zokF at hw
    split at hw
    · split at hw
      · rename_i C T N hc
        simp only [Bool.and_eq_true] at hw
        exact zs_putfield X hd hx hc (Nat.blt_eq.mp hw.1) (of_decide_eq_true hw.2.1) (by simpa using hw.2.2.1) (zok_word hw.2.2.2 rfl) hz
      · cases hw
    · cases hw
  case getstatic =>
    replace hi := Bool.and_eq_true_iff.mp hi
    have hx : nx = pc + 3 := Nat.eq_of_beq_eq_true hi.1
    rw [hx, Nat.add_sub_cancel_left] at hd
    have hw := hi.2
    unfold zokS at hw
    split at hw
    · simp only [Bool.or_eq_true, Bool.and_eq_true] at hw
      refine zs_getstatic X hd hx ?_ hz
      rcases hw with hw | hw
      · exact Or.inl ⟨Nat.eq_of_beq_eq_true hw.1, zok_nest hw.2 rfl⟩
      · exact Or.inr ⟨Nat.eq_of_beq_eq_true hw.1, zok_nest hw.2 rfl⟩
    · cases hw
  case ireturn =>
    refine zOn_3 ?_
    replace hz : zrI rt L S h = some o := hz
    unfold zrI at hz
    split at hz <;> cases hz <;> exact Nat.le_of_ble_eq_true rfl
  case lreturn =>
    refine zOn_3 ?_
    replace hz : zrL rt L S h = some o := hz
    unfold zrL at hz
    split at hz <;> cases hz <;> exact Nat.le_of_ble_eq_true rfl
  case return_ =>
    refine zOn_3 ?_
    replace hz : zrV rt L S h = some o := hz
    unfold zrV at hz
    split at hz <;> cases hz <;> exact Nat.le_of_ble_eq_true rfl
  case tableswitch =>
    refine zOn_3 ?_
    replace hz : zswi L S h = some o := hz
    unfold zswi at hz
    split at hz <;> cases hz <;> exact Nat.le_of_ble_eq_true rfl
  case invokevirtual =>
    refine zOn_3 ?_
    replace hz : zinv true hs L S h = some o := hz
    rw [zinv_tag hz]
    decide
  case invokestatic =>
    replace hi := Bool.and_eq_true_iff.mp hi
    have hx : nx = pc + 3 := Nat.eq_of_beq_eq_true hi.1
    rw [hx, Nat.add_sub_cancel_left] at hd
    have hw := hi.2
    have hz2 : zisv hs L S h = some o := hz
    match hs, hw, hz, hz2 with
    | [q, na, rk, lv, ci, pl, nest], hw, hz, hz2 =>
      unfold zokU at hw
      simp only [Bool.and_eq_true] at hw
      have hq : q < 251 := Nat.blt_eq.mp hw.1
      have hb : Nat.ble 990 q = false := by
        cases hc : Nat.ble 990 q with
        | false => rfl
        | true => exact absurd (Nat.le_of_ble_eq_true hc) (by omega)
      unfold zisv at hz2
      dsimp only at hz2
      rw [hb] at hz2
      refine zOn_3 ?_
      rw [zinv_tag (show zinv false [q, na, rk, lv, ci, pl, nest] L S h = some o from hz2)]
      decide
    | [q, k0, pl], hw, hz, _ =>
      unfold zokU at hw
      simp only [Bool.and_eq_true] at hw
      cases Nat.eq_of_beq_eq_true hw.1
      exact zs_copy X hd hx ⟨zok_word hw.2 rfl, zw_copy⟩ hz
    | [q, pl], hw, hz, _ =>
      unfold zokU at hw
      simp only [Bool.or_eq_true, Bool.and_eq_true] at hw
      rcases hw with hw | hw | hw | hw | hw
      · cases Nat.eq_of_beq_eq_true hw.1
        exact zs_maxI X hd hx (zok_word hw.2 rfl) hz
      · cases Nat.eq_of_beq_eq_true hw.1
        exact zs_minI X hd hx (zok_word hw.2 rfl) hz
      · cases Nat.eq_of_beq_eq_true hw.1
        exact zs_absI X hd hx (zok_word hw.2 rfl) hz
      · cases Nat.eq_of_beq_eq_true hw.1
        exact zs_maxL X hd hx (zok_word hw.2 rfl) hz
      · cases Nat.eq_of_beq_eq_true hw.1
        exact zs_minL X hd hx (zok_word hw.2 rfl) hz
end ZS5
end
section
/-! Calls, blocks, runs: what the abstract machine answers, the machine answers. -/
section ZS6
variable {p : Program} {l : Launch} {e : Env} {R : Room} {s : State} {m : MethodId} {args : Array Value} {below : List Frame} {meth : Method} {c : Code} {Q : State → Prop} {E : zE} {n : Nat} {cc : ByteArray} {own : String} {rt : Option FieldType} {kc ks : Nat}
theorem zpop_spec : ∀ (n : Nat) (acc S as r : List Value), zpop n acc S = some (as, r) → ∃ pre, S = pre ++ r ∧ as = pre.reverse ++ acc ∧ pre.length = n
  | 0, acc, S, as, r, h => by
    cases h
    exact ⟨[], rfl, rfl, rfl⟩
  | n + 1, acc, [], as, r, h => by cases h
  | n + 1, acc, v :: S, as, r, h => by
    obtain ⟨pre, h1, h2, h3⟩ := zpop_spec n (v :: acc) S as r h
    exact ⟨v :: pre, by rw [h1]; rfl, by rw [h2]; simp, by rw [List.length_cons, h3]⟩
/-- what the check says of a method that is called -/
theorem zokM_spec {k : Nat} (h : zokM k = true) : Cond.code (zI k).1 (zI k).2.1 (zMs k).1 (zMs k).2.1 ∈ zTG ∧ Cond.initialized (zI k).1.cls ∈ zTG ∧ ((zI k).2.2.1 = true → Cond.static (zI k).1 ∈ zTG) ∧ ((zI k).2.2.1 = false → Cond.instanceMethod (zI k).1 ∈ zTG ∧ Cond.selects (zI k).1.cls (zI k).1 (zI k).1 ∈ zTG) ∧ ((zI k).1.cls ≠ "java/lang/invoke/MethodHandle" ∧ (zI k).1.cls ≠ "java/lang/invoke/VarHandle") ∧ plainName (zI k).1.cls = true ∧ (zMs k).1 ≤ 45 ∧ (∀ e ∈ (zMs k).2.2.2.2, zokE (zI k).1.cls (zI k).2.1 e = true) ∧ (k = zLI → (zMs k).2.2.2.1 = []) ∧ zcut 0 (zMs k).2.2.2.1 = none := by
  unfold zokM at h
  simp only [Bool.and_eq_true] at h
  obtain ⟨h1, h2, h3, h4, h5, h6, h7⟩ := h
  unfold zokP at h1
  split at h1
  · simp only [Bool.and_eq_true] at h1
    obtain ⟨a, b, d⟩ := h1
    refine ⟨zok_word a rfl, zok_word b rfl, fun hs => ?_, fun hs => ?_, of_decide_eq_true h2, h3, Nat.le_of_ble_eq_true h4, fun e he => List.all_eq_true.mp h5 e he, fun hk => ?_, of_decide_eq_true h7⟩
    · rw [hs] at d
      exact zok_word d rfl
    · rw [hs] at d
      simp only [cond_false, Bool.and_eq_true] at d
      exact ⟨zok_word d.1 rfl, zok_word d.2 rfl⟩
    · rw [hk] at h6 ⊢
      simpa [zbeqt] using h6
  · cases h1
theorem zarr (as : List Value) (f : Value → Value) : (as.map f).toArray = (as.map f).toArray := rfl
/-- a call of a method that keeps its contract -/
theorem zs_call {i : Nat} {virt : Bool} {pc nx : Nat} {hs : List Nat} {v : Value} {L L' : zLs} {S S' : List Value} {h h1 h2 : zIJ} {b : Bool} {t : Nat} {as : List Value} {r : Option Value} {lev lev2 : Nat} (X : zX p R kc ks s m args meth c cc n own rt E)
    (hok : zokE own cc (pc, (if virt then Instr.invokevirtual i else Instr.invokestatic i), nx, hs, v) = true) (hz : zinv virt hs L S h = some (3, b, t, as, L', S', h1)) (hq : virt = false → t < zNm) (hb : b = true) (hkm : zokM t = true)
    (hM : zMet l E (zI t).1 (zI t).2.1 (zMs t).1 (zMs t).2.1 lev2 as h1 r h2) (hlev : lev2 < lev) (hRf : lev + 1 ≤ R.frames) (hRl : 64 * (lev + 1) ≤ R.locals)
    (k : zN p l e R s m args below meth c Q E kc ks n nx L' (r.toList ++ S') h2) : zN p l e R s m args below meth c Q E kc ks n pc L S h := by
  obtain ⟨hx, hcc, hml, hown, hts, hF, -, -, -, -, hkc, hks⟩ := X
  obtain ⟨w1, w2, w3, w4, w5, -, w7, -, -, -⟩ := zokM_spec hkm
  unfold zokE at hok
  rw [Bool.and_eq_true] at hok
  obtain ⟨hd0, hi0⟩ := hok
  have hG : GoodIn zTG (Cond.code (zI t).1 (zI t).2.1 (zMs t).1 (zMs t).2.1 :: zTG) := fun w hw => by
    rcases List.mem_cons.mp hw with rfl | hw
    · exact zTG_good _ w1
    · exact zTG_good _ hw
  have hroom : (zRoom lev2).frames + 1 ≤ R.frames ∧ 8 + ((zMs t).1 + 11) + (zRoom lev2).locals ≤ R.locals := by
    unfold zRoom
    dsimp only
    omega
  have hrest : ∀ (ls : Array Slot) (st : List Value), zcat S' ≤ 8 → 2 * (F0 m pc ls st).monitorRoom + ((S'.map (zv E)).map fun v => v.category).sum ≤ 8 := fun ls st hcat => by
    rw [zcat_sum]
    show 2 * 0 + _ ≤ 8
    omega
  cases virt with
  | true =>
    have hd : decode cc pc = .ok (.invokevirtual i, nx - pc) := of_decide_eq_true hd0
    have hi : (Nat.beq nx (pc + 3) && zokV own i hs) = true := hi0
    clear hd0 hi0
    rw [Bool.and_eq_true] at hi
    have hnx : nx = pc + 3 := Nat.eq_of_beq_eq_true hi.1
    rw [hnx, Nat.add_sub_cancel_left] at hd
    subst hnx
    have hw := hi.2
    unfold zokV at hw
    split at hw
    · rename_i t0 na rk lv ci pl nest
      unfold zinv at hz
      dsimp only at hz
      split at hz
      · rename_i as0 r0 hp
        have hzc := zcond hz
        clear hz
        obtain ⟨hcat0, hz⟩ := hzc
        have hcat := Nat.le_of_ble_eq_true hcat0
        clear hcat0
        simp only [cond_true] at hz
        split at hz
        · rename_i a as1
          cases hz
          simp only [Bool.and_eq_true] at hw
          obtain ⟨v1, v2, v3, v4, v5, v6, v7⟩ := hw
          obtain ⟨pre, p1, p2, p3⟩ := zpop_spec _ _ _ _ _ hp
          rw [List.append_nil] at p2
          have hS : S = (Value.ref a :: as1).reverse ++ S' := by rw [p2, List.reverse_reverse]; exact p1
          have hv5 := of_decide_eq_true v5
          have hv6 := of_decide_eq_true v6
          have hst : (zI t).2.2.1 = false := by simpa using v2
          cases hcl : vwCl[ci]? with
          | none => rw [hcl] at hv5; cases hv5
          | some rc =>
            rw [hcl] at hv5
            have hC : rc.1 = (zI t).1.cls := Option.some.inj hv5
            intro H locs ls hR hf hl
            obtain ⟨h3, r', r1, r2, cell, q1, q2, q3, q4⟩ := zc_obj hR (Nat.eq_of_beq_eq_true hb) (by have := vwCl_lt hcl; omega)
            obtain ⟨hSl, hfc, -⟩ := hF.1.1 ci _ hcl
            have hlen : (as1.map (zv E)).length = na - 1 := by
              rw [List.length_map]
              have : (Value.ref a :: as1).length = na := by rw [p2, List.length_reverse]; exact p3
              rw [List.length_cons] at this
              omega
            have hpd : (parseMethodDescriptor (zI t).1.desc).map (fun d => d.parameters.length) = some (na - 1) := by
              cases hpm : parseMethodDescriptor (zI t).1.desc with
              | none => rw [hpm] at hv6; cases hv6
              | some d =>
                rw [hpm] at hv6
                have h9 : d.parameters.length + 1 = na := Option.some.inj hv6
                show some d.parameters.length = some (na - 1)
                congr 1
                omega
            have hpre : PreV s H (zI t).1.cls (zad E a) (zPc E (.ref a :: as1) h) (as1.map (zv E)) := ⟨zPc_blind, ⟨cell, q1, by rw [q3]; rfl, by rw [← hC, q2]; exact hfc⟩, fun U hU hW => ⟨rfl, by rw [hU]; exact zR_s hW.alike hR, zF_s hW hF⟩⟩
            have hstk : S.map (zv E) = (as1.map (zv E)).reverse ++ .ref (zad E a) :: S'.map (zv E) := by
              rw [hS, List.reverse_cons, List.map_append, List.map_append, List.map_reverse]
              simp [zv]
            unfold zokL at v7
            cases hn : Nat.beq nest 0 with
            | true =>
              rw [hn] at v7
              have hlk := zok_word v7 rfl
              refine z_call (va_runV (b := zad E a) (As := as1.map (zv E)) (rest := S'.map (zv E)) ⟨hx, hcc, hml, hown, hts⟩ hM ⟨callB_of (na - 1) hts hG rfl rfl rfl (hts _ w2) (hts _ hlk) ⟨w5.1, w5.2, hpd⟩ hroom, hts _ (w4 hst).1, hts _ (w4 hst).2⟩ hpre rfl hlen hl.1 hstk (hrest ls _ hcat) hd ⟨hkc, hks⟩) hf (fun H1 locs1 hR1 hf1 => ?_)
              have := k H1 locs1 ls hR1 hf1 hl
              rw [List.map_append] at this
              cases r <;> exact this
            | false =>
              rw [hn] at v7
              have hlk := zok_nest v7 rfl
              refine z_call (va_runVN (host := "MarkedSweeps") (b := zad E a) (As := as1.map (zv E)) (rest := S'.map (zv E)) ⟨hx, hcc, hml, hown, hts⟩ hM ⟨va_cnB (na - 1) hts hG rfl rfl rfl (hF.2.1 _ hlk) (hts _ w2) ⟨w5.1, w5.2, hpd⟩ hroom, hts _ (w4 hst).1, hts _ (w4 hst).2⟩ hpre rfl hlen hl.1 hstk (hrest ls _ hcat) hd ⟨hkc, hks⟩) hf (fun H1 locs1 hR1 hf1 => ?_)
              have := k H1 locs1 ls hR1 hf1 hl
              rw [List.map_append] at this
              cases r <;> exact this
        · cases hz
      · cases hz
    · cases hw
  | false =>
    have hd : decode cc pc = .ok (.invokestatic i, nx - pc) := of_decide_eq_true hd0
    have hi : (Nat.beq nx (pc + 3) && zokU own i hs) = true := hi0
    clear hd0 hi0
    rw [Bool.and_eq_true] at hi
    have hnx : nx = pc + 3 := Nat.eq_of_beq_eq_true hi.1
    rw [hnx, Nat.add_sub_cancel_left] at hd
    subst hnx
    have hw := hi.2
    have hq := hq rfl
    unfold zinv at hz
    split at hz
    · rename_i t0 na rk lv ci rest0
      split at hz
      · rename_i as0 r0 hp
        have hzc := zcond hz
        clear hz
        obtain ⟨hcat0, hz⟩ := hzc
        have hcat := Nat.le_of_ble_eq_true hcat0
        clear hcat0
        simp only [cond_false] at hz
        cases hz
        unfold zokU at hw
        split at hw
        · rename_i e0
          cases e0
          simp only [Bool.and_eq_true] at hw
          obtain ⟨v1, v2, v3, v4, v6, v7⟩ := hw
          obtain ⟨pre, p1, p2, p3⟩ := zpop_spec _ _ _ _ _ hp
          rw [List.append_nil] at p2
          have hS : S = as.reverse ++ S' := by rw [p2, List.reverse_reverse]; exact p1
          have hpd := of_decide_eq_true v6
          intro H locs ls hR hf hl
          have hlen : (as.map (zv E)).length = na := by rw [List.length_map, p2, List.length_reverse]; exact p3
          have hpre : PreS s H (zPc E as h) (as.map (zv E)) := ⟨zPc_blind, fun U hU hW => ⟨rfl, by rw [hU]; exact zR_s hW.alike hR, zF_s hW hF⟩⟩
          have hstk : S.map (zv E) = (as.map (zv E)).reverse ++ S'.map (zv E) := by
            rw [hS, List.map_append, List.map_reverse]
          unfold zokL at v7
          cases hn : Nat.beq _ 0 with
          | true =>
            rw [hn] at v7
            have hlk := zok_word v7 rfl
            refine z_call (va_runS (As := as.map (zv E)) (rest := S'.map (zv E)) ⟨hx, hcc, hml, hown, hts⟩ hM ⟨callB_of na hts hG rfl rfl rfl (hts _ w2) (hts _ hlk) ⟨w5.1, w5.2, hpd⟩ hroom, hts _ (w3 v2)⟩ hpre rfl hlen hl.1 hstk (hrest ls _ hcat) hd ⟨hkc, hks⟩) hf (fun H1 locs1 hR1 hf1 => ?_)
            have := k H1 locs1 ls hR1 hf1 hl
            rw [List.map_append] at this
            cases r <;> exact this
          | false =>
            rw [hn] at v7
            have hlk := zok_nest v7 rfl
            refine z_call (va_runSN (host := "MarkedSweeps") (As := as.map (zv E)) (rest := S'.map (zv E)) ⟨hx, hcc, hml, hown, hts⟩ hM ⟨va_cnB na hts hG rfl rfl rfl (hF.2.1 _ hlk) (hts _ w2) ⟨w5.1, w5.2, hpd⟩ hroom, hts _ (w3 v2), trivial⟩ hpre rfl hlen hl.1 hstk (hrest ls _ hcat) hd ⟨hkc, hks⟩) hf (fun H1 locs1 hR1 hf1 => ?_)
            have := k H1 locs1 ls hR1 hf1 hl
            rw [List.map_append] at this
            cases r <;> exact this
        · rename_i e0
          cases e0
        · rename_i e0
          cases e0
        · cases hw
      · cases hz
    · cases hz
/-- fewer locals -/
theorem zN_sub {pc : Nat} {L L2 : zLs} {S : List Value} {h : zIJ} (hs : ∀ q ∈ L2, q ∈ L) (k : zN p l e R s m args below meth c Q E kc ks n pc L2 S h) : zN p l e R s m args below meth c Q E kc ks n pc L S h := by
  intro H locs ls hR hf hl
  refine k H locs ls hR hf ⟨hl.1, hl.2.1, fun q hq => ?_⟩
  obtain ⟨q2, h1, h2⟩ := List.mem_map.mp hq
  exact hl.2.2 q (List.mem_map.mpr ⟨q2, hs q2 h1, h2⟩)
theorem zpick_zip {L : zLs} : ∀ (lv : List Nat) (vs : List Value) (L2 : zLs), zpick L lv = some vs → zzip lv vs = some L2 → ∀ q ∈ L2, q ∈ L
  | [], vs, L2, h1, h2 => by
    cases h1
    cases h2
    intro q hq
    cases hq
  | i :: r, vs, L2, h1, h2 => by
    unfold zpick at h1
    cases hv : zlv i L with
    | none => rw [hv] at h1; cases h1
    | some v =>
      simp only [hv] at h1
      cases hp : zpick L r with
      | none => rw [hp] at h1; cases h1
      | some vs2 =>
        rw [hp] at h1
        cases h1
        unfold zzip at h2
        cases hz : zzip r vs2 with
        | none => simp only [hz] at h2; cases h2
        | some L3 =>
          simp only [hz] at h2
          cases h2
          intro q hq
          rcases List.mem_cons.mp hq with rfl | hq
          · exact zlv_mem hv
          · exact zpick_zip r vs2 L3 hp hz q hq
/-- what a run of the method's own blocks, and of the methods that it calls, gives -/
def zCalls (l : Launch) (E : zE) (lev : Nat) (C : Nat → List Value → zIJ → Option zRes) : Prop :=
  ∀ (t : Nat) (as : List Value) (h : zIJ) (x : zRes), C t as h = some x → t < zNm → zlev t (zMs t).2.2.1 as < lev → zMet l E (zI t).1 (zI t).2.1 (zMs t).1 (zMs t).2.1 (zlev t (zMs t).2.2.1 as) as h x.1 x.2
theorem zc_tag {b : Bool} {a : Option zO} {o : zO} {T : Nat} (h : cond b a none = some o) (k : a = some o → o.1 = T) : o.1 = T := by
  obtain ⟨-, h⟩ := zcond h
  exact k h
theorem zcst_tag {v : Value} {L : zLs} {S : List Value} {h : zIJ} {o : zO} (hz : zcst v L S h = some o) : o.1 = 0 := by
  unfold zcst at hz
  split at hz <;> first | (cases hz; rfl; done) | (obtain ⟨-, hz⟩ := zcond hz; cases hz; rfl; done) | (cases hz; done)
theorem zldI_tag {i : Nat} {L : zLs} {S : List Value} {h : zIJ} {o : zO} (hz : zldI i L S h = some o) : o.1 = 0 := by
  unfold zldI at hz
  split at hz <;> first | (cases hz; rfl; done) | (obtain ⟨-, hz⟩ := zcond hz; cases hz; rfl; done) | (cases hz; done)
theorem zldL_tag {i : Nat} {L : zLs} {S : List Value} {h : zIJ} {o : zO} (hz : zldL i L S h = some o) : o.1 = 0 := by
  unfold zldL at hz
  split at hz <;> first | (cases hz; rfl; done) | (obtain ⟨-, hz⟩ := zcond hz; cases hz; rfl; done) | (cases hz; done)
theorem zldA_tag {i : Nat} {L : zLs} {S : List Value} {h : zIJ} {o : zO} (hz : zldA i L S h = some o) : o.1 = 0 := by
  unfold zldA at hz
  split at hz <;> first | (cases hz; rfl; done) | (obtain ⟨-, hz⟩ := zcond hz; cases hz; rfl; done) | (cases hz; done)
theorem zstI_tag {n i : Nat} {L : zLs} {S : List Value} {h : zIJ} {o : zO} (hz : zstI n i L S h = some o) : o.1 = 0 := by
  unfold zstI at hz
  split at hz <;> first | (cases hz; rfl; done) | (obtain ⟨-, hz⟩ := zcond hz; cases hz; rfl; done) | (cases hz; done)
theorem zstL_tag {n i : Nat} {L : zLs} {S : List Value} {h : zIJ} {o : zO} (hz : zstL n i L S h = some o) : o.1 = 0 := by
  unfold zstL at hz
  split at hz <;> first | (cases hz; rfl; done) | (obtain ⟨-, hz⟩ := zcond hz; cases hz; rfl; done) | (cases hz; done)
theorem zstA_tag {n i : Nat} {L : zLs} {S : List Value} {h : zIJ} {o : zO} (hz : zstA n i L S h = some o) : o.1 = 0 := by
  unfold zstA at hz
  split at hz <;> first | (cases hz; rfl; done) | (obtain ⟨-, hz⟩ := zcond hz; cases hz; rfl; done) | (cases hz; done)
theorem zinc_tag {n i : Nat} {v : Value} {L : zLs} {S : List Value} {h : zIJ} {o : zO} (hz : zinc n i v L S h = some o) : o.1 = 0 := by
  unfold zinc at hz
  split at hz <;> first | (cases hz; rfl; done) | (obtain ⟨-, hz⟩ := zcond hz; cases hz; rfl; done) | (cases hz; done)
theorem zbI_tag {f : Int32 → Int32 → Int32} {L : zLs} {S : List Value} {h : zIJ} {o : zO} (hz : zbI f L S h = some o) : o.1 = 0 := by
  unfold zbI at hz
  split at hz <;> first | (cases hz; rfl; done) | (obtain ⟨-, hz⟩ := zcond hz; cases hz; rfl; done) | (cases hz; done)
theorem zbL_tag {f : Int64 → Int64 → Int64} {L : zLs} {S : List Value} {h : zIJ} {o : zO} (hz : zbL f L S h = some o) : o.1 = 0 := by
  unfold zbL at hz
  split at hz <;> first | (cases hz; rfl; done) | (obtain ⟨-, hz⟩ := zcond hz; cases hz; rfl; done) | (cases hz; done)
theorem zsh_tag {f : Int64 → Int32 → Int64} {L : zLs} {S : List Value} {h : zIJ} {o : zO} (hz : zsh f L S h = some o) : o.1 = 0 := by
  unfold zsh at hz
  split at hz <;> first | (cases hz; rfl; done) | (obtain ⟨-, hz⟩ := zcond hz; cases hz; rfl; done) | (cases hz; done)
theorem zdI_tag {f : Int32 → Int32 → Int32} {L : zLs} {S : List Value} {h : zIJ} {o : zO} (hz : zdI f L S h = some o) : o.1 = 0 := by
  unfold zdI at hz
  split at hz <;> first | (cases hz; rfl; done) | (obtain ⟨-, hz⟩ := zcond hz; cases hz; rfl; done) | (cases hz; done)
theorem zdL_tag {f : Int64 → Int64 → Int64} {L : zLs} {S : List Value} {h : zIJ} {o : zO} (hz : zdL f L S h = some o) : o.1 = 0 := by
  unfold zdL at hz
  split at hz <;> first | (cases hz; rfl; done) | (obtain ⟨-, hz⟩ := zcond hz; cases hz; rfl; done) | (cases hz; done)
theorem zuI_tag {f : Int32 → Int32} {L : zLs} {S : List Value} {h : zIJ} {o : zO} (hz : zuI f L S h = some o) : o.1 = 0 := by
  unfold zuI at hz
  split at hz <;> first | (cases hz; rfl; done) | (obtain ⟨-, hz⟩ := zcond hz; cases hz; rfl; done) | (cases hz; done)
theorem zif1_tag {f : Int32 → Bool} {hs : List Nat} {L : zLs} {S : List Value} {h : zIJ} {o : zO} (hz : zif1 f hs L S h = some o) : o.1 = 2 := by
  unfold zif1 at hz
  split at hz <;> first | (cases hz; rfl; done) | (obtain ⟨-, hz⟩ := zcond hz; cases hz; rfl; done) | (cases hz; done)
theorem zif2_tag {f : Int32 → Int32 → Bool} {hs : List Nat} {L : zLs} {S : List Value} {h : zIJ} {o : zO} (hz : zif2 f hs L S h = some o) : o.1 = 2 := by
  unfold zif2 at hz
  split at hz <;> first | (cases hz; rfl; done) | (obtain ⟨-, hz⟩ := zcond hz; cases hz; rfl; done) | (cases hz; done)
theorem zgf_tag {hs : List Nat} {L : zLs} {S : List Value} {h : zIJ} {o : zO} (hz : zgf hs L S h = some o) : o.1 = 0 := by
  unfold zgf at hz
  split at hz <;> first | (cases hz; rfl; done) | (obtain ⟨-, hz⟩ := zcond hz; cases hz; rfl; done) | (cases hz; done)
theorem zpfT_tag {ty : FieldType} {g : Bool} {a j : Nat} {v : Value} {L : zLs} {S : List Value} {h : zIJ} {o : zO} (hz : zpfT ty g a j v L S h = some o) : o.1 = 0 := by
  unfold zpfT at hz
  split at hz <;> first | (cases hz; rfl; done) | (obtain ⟨-, hz⟩ := zcond hz; cases hz; rfl; done) | (cases hz; done)
theorem zpf_tag {hs : List Nat} {L : zLs} {S : List Value} {h : zIJ} {o : zO} (hz : zpf hs L S h = some o) : o.1 = 0 := by
  unfold zpf at hz
  split at hz
  · exact zpfT_tag hz
  · cases hz
theorem zai_tag  {L : zLs} {S : List Value} {h : zIJ} {o : zO} (hz : zai  L S h = some o) : o.1 = 0 := by
  unfold zai at hz
  split at hz <;> first | (cases hz; rfl; done) | (obtain ⟨-, hz⟩ := zcond hz; cases hz; rfl; done) | (cases hz; done)
theorem zal_tag  {L : zLs} {S : List Value} {h : zIJ} {o : zO} (hz : zal  L S h = some o) : o.1 = 0 := by
  unfold zal at hz
  split at hz <;> first | (cases hz; rfl; done) | (obtain ⟨-, hz⟩ := zcond hz; cases hz; rfl; done) | (cases hz; done)
theorem zaa_tag  {L : zLs} {S : List Value} {h : zIJ} {o : zO} (hz : zaa  L S h = some o) : o.1 = 0 := by
  unfold zaa at hz
  split at hz <;> first | (cases hz; rfl; done) | (obtain ⟨-, hz⟩ := zcond hz; cases hz; rfl; done) | (cases hz; done)
theorem zsi_tag  {L : zLs} {S : List Value} {h : zIJ} {o : zO} (hz : zsi  L S h = some o) : o.1 = 0 := by
  unfold zsi at hz
  split at hz <;> first | (cases hz; rfl; done) | (obtain ⟨-, hz⟩ := zcond hz; cases hz; rfl; done) | (cases hz; done)
theorem zsl_tag  {L : zLs} {S : List Value} {h : zIJ} {o : zO} (hz : zsl  L S h = some o) : o.1 = 0 := by
  unfold zsl at hz
  split at hz <;> first | (cases hz; rfl; done) | (obtain ⟨-, hz⟩ := zcond hz; cases hz; rfl; done) | (cases hz; done)
theorem zan_tag  {L : zLs} {S : List Value} {h : zIJ} {o : zO} (hz : zan  L S h = some o) : o.1 = 0 := by
  unfold zan at hz
  split at hz <;> first | (cases hz; rfl; done) | (obtain ⟨-, hz⟩ := zcond hz; cases hz; rfl; done) | (cases hz; done)
theorem zdup_tag  {L : zLs} {S : List Value} {h : zIJ} {o : zO} (hz : zdup  L S h = some o) : o.1 = 0 := by
  unfold zdup at hz
  split at hz <;> first | (cases hz; rfl; done) | (obtain ⟨-, hz⟩ := zcond hz; cases hz; rfl; done) | (cases hz; done)
theorem zdup2_tag {L : zLs} {S : List Value} {h : zIJ} {o : zO} (hz : zdup2 L S h = some o) : o.1 = 0 := by
  unfold zdup2 at hz
  split at hz
  · rename_i v r
    cases hb : Nat.beq v.category 2 with
    | true => rw [hb] at hz; cases hz; rfl
    | false =>
      rw [hb] at hz
      dsimp only [cond_false] at hz
      split at hz
      · obtain ⟨-, hz⟩ := zcond hz; cases hz; rfl
      · cases hz
  · cases hz
theorem zcmpS_tag  {L : zLs} {S : List Value} {h : zIJ} {o : zO} (hz : zcmpS  L S h = some o) : o.1 = 0 := by
  unfold zcmpS at hz
  split at hz <;> first | (cases hz; rfl; done) | (obtain ⟨-, hz⟩ := zcond hz; cases hz; rfl; done) | (cases hz; done)
theorem zi2l_tag  {L : zLs} {S : List Value} {h : zIJ} {o : zO} (hz : zi2l  L S h = some o) : o.1 = 0 := by
  unfold zi2l at hz
  split at hz <;> first | (cases hz; rfl; done) | (obtain ⟨-, hz⟩ := zcond hz; cases hz; rfl; done) | (cases hz; done)
theorem zl2i_tag  {L : zLs} {S : List Value} {h : zIJ} {o : zO} (hz : zl2i  L S h = some o) : o.1 = 0 := by
  unfold zl2i at hz
  split at hz <;> first | (cases hz; rfl; done) | (obtain ⟨-, hz⟩ := zcond hz; cases hz; rfl; done) | (cases hz; done)
theorem zrI_tag {rt : Option FieldType} {L : zLs} {S : List Value} {h : zIJ} {o : zO} (hz : zrI rt L S h = some o) : o.1 = 4 := by
  unfold zrI at hz
  split at hz <;> first | (cases hz; rfl; done) | (obtain ⟨-, hz⟩ := zcond hz; cases hz; rfl; done) | (cases hz; done)
theorem zrL_tag {rt : Option FieldType} {L : zLs} {S : List Value} {h : zIJ} {o : zO} (hz : zrL rt L S h = some o) : o.1 = 4 := by
  unfold zrL at hz
  split at hz <;> first | (cases hz; rfl; done) | (obtain ⟨-, hz⟩ := zcond hz; cases hz; rfl; done) | (cases hz; done)
theorem zrV_tag {rt : Option FieldType} {L : zLs} {S : List Value} {h : zIJ} {o : zO} (hz : zrV rt L S h = some o) : o.1 = 4 := by
  unfold zrV at hz
  split at hz <;> first | (cases hz; rfl; done) | (obtain ⟨-, hz⟩ := zcond hz; cases hz; rfl; done) | (cases hz; done)
theorem zjump_tag {hs : List Nat} {L : zLs} {S : List Value} {h : zIJ} {o : zO} (hz : zjump hs L S h = some o) : o.1 = 1 := by
  unfold zjump at hz
  split at hz <;> first | (cases hz; rfl; done) | (obtain ⟨-, hz⟩ := zcond hz; cases hz; rfl; done) | (cases hz; done)
theorem zstat_tag {hs : List Nat} {L : zLs} {S : List Value} {h : zIJ} {o : zO} (hz : zstat hs L S h = some o) : o.1 = 0 := by
  unfold zstat at hz
  split at hz <;> first | (cases hz; rfl; done) | (obtain ⟨-, hz⟩ := zcond hz; cases hz; rfl; done) | (cases hz; done)
theorem zcp_tag {hs : List Nat} {L : zLs} {S : List Value} {h : zIJ} {o : zO} (hz : zcp hs L S h = some o) : o.1 = 0 := by
  unfold zcp at hz
  split at hz
  · rename_i k w
    obtain ⟨-, hz⟩ := zcond hz
    cases hb : Nat.beq k 100 with
    | true => rw [hb] at hz; cases hz; rfl
    | false => rw [hb] at hz; cases hz; rfl
  · cases hz
theorem zm2I_tag {f : Int32 → Int32 → Int32} {L : zLs} {S : List Value} {h : zIJ} {o : zO} (hz : zm2I f L S h = some o) : o.1 = 0 := by
  unfold zm2I at hz
  split at hz <;> first | (cases hz; rfl; done) | (obtain ⟨-, hz⟩ := zcond hz; cases hz; rfl; done) | (cases hz; done)
theorem zm1I_tag {f : Int32 → Int32} {L : zLs} {S : List Value} {h : zIJ} {o : zO} (hz : zm1I f L S h = some o) : o.1 = 0 := by
  unfold zm1I at hz
  split at hz <;> first | (cases hz; rfl; done) | (obtain ⟨-, hz⟩ := zcond hz; cases hz; rfl; done) | (cases hz; done)
theorem zm2L_tag {f : Int64 → Int64 → Int64} {L : zLs} {S : List Value} {h : zIJ} {o : zO} (hz : zm2L f L S h = some o) : o.1 = 0 := by
  unfold zm2L at hz
  split at hz <;> first | (cases hz; rfl; done) | (obtain ⟨-, hz⟩ := zcond hz; cases hz; rfl; done) | (cases hz; done)
theorem zswi_tag  {L : zLs} {S : List Value} {h : zIJ} {o : zO} (hz : zswi  L S h = some o) : o.1 = 5 := by
  unfold zswi at hz
  split at hz <;> first | (cases hz; rfl; done) | (obtain ⟨-, hz⟩ := zcond hz; cases hz; rfl; done) | (cases hz; done)
theorem zbuilt_tag {q : Nat} {hs : List Nat} {L : zLs} {S : List Value} {h : zIJ} {o : zO} (hz : zbuilt q hs L S h = some o) : o.1 = 0 := by
  unfold zbuilt at hz
  cases h1 : Nat.beq q 990 with
  | true => rw [h1] at hz; exact zm2I_tag hz
  | false =>
    rw [h1] at hz
    cases h2 : Nat.beq q 991 with
    | true => rw [h2] at hz; exact zm2I_tag hz
    | false =>
      rw [h2] at hz
      cases h3 : Nat.beq q 992 with
      | true => rw [h3] at hz; exact zm1I_tag hz
      | false =>
        rw [h3] at hz
        cases h4 : Nat.beq q 993 with
        | true => rw [h4] at hz; exact zm2L_tag hz
        | false =>
          rw [h4] at hz
          cases h5 : Nat.beq q 994 with
          | true => rw [h5] at hz; exact zm2L_tag hz
          | false =>
            rw [h5] at hz
            cases h6 : Nat.beq q 999 with
            | true => rw [h6] at hz; exact zcp_tag hz
            | false => rw [h6] at hz; cases hz
def zlow (i : Instr) : Prop := match i with
  | .invokevirtual _ | .invokestatic _ | .ireturn | .lreturn | .return_ | .tableswitch _ _ _ _ => False
  | _ => True
/-- only calls call, only returns return, only switches switch -/
theorem zex_tag {pc nx : Nat} {ins : Instr} {hs : List Nat} {v : Value} {L : zLs} {S : List Value} {h : zIJ} {o : zO} (hl : zlow ins) (hz : zex n rt (pc, ins, nx, hs, v) L S h = some o) : o.1 < 3 := by
  have c0 : o.1 = 0 → o.1 < 3 := fun h => by omega
  have c1 : o.1 = 1 → o.1 < 3 := fun h => by omega
  have c2 : o.1 = 2 → o.1 < 3 := fun h => by omega
  cases ins
  all_goals try (exact nomatch (show (none : Option zO) = some o from hz))
  all_goals try (exact absurd hl id)
  case iconst => exact c0 (zcst_tag hz)
  case bipush => exact c0 (zcst_tag hz)
  case sipush => exact c0 (zcst_tag hz)
  case lconst => exact c0 (zcst_tag hz)
  case ldc => exact c0 (zcst_tag hz)
  case ldc_w => exact c0 (zcst_tag hz)
  case ldc2_w => exact c0 (zcst_tag hz)
  case iload_n => exact c0 (zldI_tag hz)
  case iload => exact c0 (zldI_tag hz)
  case lload_n => exact c0 (zldL_tag hz)
  case lload => exact c0 (zldL_tag hz)
  case aload_n => exact c0 (zldA_tag hz)
  case aload => exact c0 (zldA_tag hz)
  case istore_n => exact c0 (zstI_tag hz)
  case istore => exact c0 (zstI_tag hz)
  case lstore_n => exact c0 (zstL_tag hz)
  case lstore => exact c0 (zstL_tag hz)
  case astore_n => exact c0 (zstA_tag hz)
  case astore => exact c0 (zstA_tag hz)
  case iinc => exact c0 (zinc_tag hz)
  case lcmp => exact c0 (zcmpS_tag hz)
  case i2l => exact c0 (zi2l_tag hz)
  case l2i => exact c0 (zl2i_tag hz)
  case i2b => exact c0 (zuI_tag hz)
  case ineg => exact c0 (zuI_tag hz)
  case dup => exact c0 (zdup_tag hz)
  case dup2 => exact c0 (zdup2_tag hz)
  case getfield => exact c0 (zgf_tag hz)
  case putfield => exact c0 (zpf_tag hz)
  case getstatic => exact c0 (zstat_tag hz)
  case iaload => exact c0 (zai_tag hz)
  case laload => exact c0 (zal_tag hz)
  case aaload => exact c0 (zaa_tag hz)
  case iastore => exact c0 (zsi_tag hz)
  case lastore => exact c0 (zsl_tag hz)
  case arraylength => exact c0 (zan_tag hz)
  case iadd => exact c0 (zbI_tag hz)
  case isub => exact c0 (zbI_tag hz)
  case imul => exact c0 (zbI_tag hz)
  case iand => exact c0 (zbI_tag hz)
  case ior => exact c0 (zbI_tag hz)
  case ixor => exact c0 (zbI_tag hz)
  case ishl => exact c0 (zbI_tag hz)
  case ishr => exact c0 (zbI_tag hz)
  case iushr => exact c0 (zbI_tag hz)
  case ladd => exact c0 (zbL_tag hz)
  case lsub => exact c0 (zbL_tag hz)
  case lmul => exact c0 (zbL_tag hz)
  case land => exact c0 (zbL_tag hz)
  case lor => exact c0 (zbL_tag hz)
  case lxor => exact c0 (zbL_tag hz)
  case idiv => exact c0 (zdI_tag hz)
  case irem => exact c0 (zdI_tag hz)
  case ldiv => exact c0 (zdL_tag hz)
  case lrem => exact c0 (zdL_tag hz)
  case lshl => exact c0 (zsh_tag hz)
  case lshr => exact c0 (zsh_tag hz)
  case lushr => exact c0 (zsh_tag hz)
  case goto => exact c1 (zjump_tag hz)
  case ifCond cd off => cases cd <;> exact c2 (zif1_tag hz)
  case if_icmp cd off => cases cd <;> exact c2 (zif2_tag hz)
theorem zinv_t {virt : Bool} {hs : List Nat} {L L' : zLs} {S S' : List Value} {h h' : zIJ} {b : Bool} {t : Nat} {as : List Value} (hz : zinv virt hs L S h = some (3, b, t, as, L', S', h')) : ∃ w, hs = t :: w := by
  unfold zinv at hz
  split at hz
  · rename_i w0 w1 w2 w3 w4 w5
    split at hz
    · obtain ⟨-, hz⟩ := zcond hz
      cases virt with
      | true =>
        dsimp only [cond_true] at hz
        split at hz
        · cases hz; exact ⟨_, rfl⟩
        · cases hz
      | false => cases hz; exact ⟨_, rfl⟩
    · cases hz
  · cases hz
theorem zcall_key {G : Prop} {pc nx : Nat} {ins : Instr} {hs : List Nat} {v : Value} {L L' : zLs} {S S' : List Value} {h h' : zIJ} {b : Bool} {t : Nat} {as : List Value} (hoq : zokE own cc (pc, ins, nx, hs, v) = true) (ho : zex n rt (pc, ins, nx, hs, v) L S h = some (3, b, t, as, L', S', h'))
    (key : ∀ (virt : Bool) (i : Nat), ins = (if virt then Instr.invokevirtual i else Instr.invokestatic i) → zinv virt hs L S h = some (3, b, t, as, L', S', h') → t < zNm → (∃ w1 w2 rk lv w5 w6 w7, hs = [w1, w2, rk, lv, w5, w6, w7] ∧ w1 = t ∧ rk = zrk (zMs t).2.1 ∧ lv = (zMs t).2.2.1) → G) : G := by
  by_cases hl : zlow ins
  · have := zex_tag hl ho
    exact absurd this (Nat.not_lt.mpr (Nat.le_refl 3))
  · unfold zokE at hoq
    rw [Bool.and_eq_true] at hoq
    have hi : zokI own pc ins nx hs v = true := hoq.2
    clear hoq
    cases ins
    all_goals try (exact absurd trivial hl)
    case invokevirtual i =>
      replace hi := (Bool.and_eq_true_iff.mp hi).2
      have hz : zinv true hs L S h = some (3, b, t, as, L', S', h') := ho
      obtain ⟨w, hw⟩ := zinv_t hz
      unfold zokV at hi
      split at hi
      · cases hw
        simp only [Bool.and_eq_true] at hi
        exact key true i rfl hz (Nat.blt_eq.mp hi.1) ⟨_, _, _, _, _, _, _, rfl, rfl, Nat.eq_of_beq_eq_true hi.2.2.1, Nat.eq_of_beq_eq_true hi.2.2.2.1⟩
      · cases hi
    case invokestatic i =>
      replace hi := (Bool.and_eq_true_iff.mp hi).2
      have hz : zisv hs L S h = some (3, b, t, as, L', S', h') := ho
      clear ho
      unfold zisv at hz
      split at hz
      · rename_i q w
        cases hb : Nat.ble 990 q with
        | true =>
          rw [hb] at hz
          have := zbuilt_tag (show zbuilt q (q :: w) L S h = some (3, b, t, as, L', S', h') from hz)
          cases this
        | false =>
          rw [hb] at hz
          replace hz : zinv false (q :: w) L S h = some (3, b, t, as, L', S', h') := hz
          obtain ⟨w', hw⟩ := zinv_t hz
          cases hw
          unfold zokU at hi
          split at hi
          · rename_i e0
            cases e0
            simp only [Bool.and_eq_true] at hi
            exact key false i rfl hz (Nat.blt_eq.mp hi.1) ⟨_, _, _, _, _, _, _, rfl, rfl, Nat.eq_of_beq_eq_true hi.2.2.1, Nat.eq_of_beq_eq_true hi.2.2.2.1⟩
          · rename_i e0
            cases e0
            simp only [Bool.and_eq_true] at hi
            cases Nat.eq_of_beq_eq_true hi.1
            cases hb
          · rename_i e0
            cases e0
            simp only [Bool.or_eq_true, Bool.and_eq_true] at hi
            rcases hi with hi | hi | hi | hi | hi <;> (cases Nat.eq_of_beq_eq_true hi.1; cases hb)
          · cases hi
      · cases hz
    case ireturn => exact absurd (show (3 : Nat) = 4 from zrI_tag ho) (by decide)
    case lreturn => exact absurd (show (3 : Nat) = 4 from zrL_tag ho) (by decide)
    case return_ => exact absurd (show (3 : Nat) = 4 from zrV_tag ho) (by decide)
    case tableswitch => exact absurd (show (3 : Nat) = 5 from zswi_tag ho) (by decide)
theorem zsw_key {pc nx q : Nat} {ins : Instr} {hs : List Nat} {v : Value} {L L' : zLs} {S S' : List Value} {h h' : zIJ} {b : Bool} {t : Nat} {as : List Value} {f : Nat → Option zRes} {x : zRes} (X : zX p R kc ks s m args meth c cc n own rt E) (hoq : zokE own cc (pc, ins, nx, hs, v) = true) (ho : zex n rt (pc, ins, nx, hs, v) L S h = some (q + 5, b, t, as, L', S', h'))
    (hf : ∀ t2, f t2 = some x → zN p l e R s m args below meth c Q E kc ks n t2 L' S' h') (hx : zdsw as ins hs f = some x) : zN p l e R s m args below meth c Q E kc ks n pc L S h := by
  unfold zdsw at hx
  split at hx
  · rename_i x0 d0 lo hi offs d ts
    have hz : zswi L S h = some (q + 5, b, t, [.int x0], L', S', h') := ho
    clear ho
    unfold zswi at hz
    split at hz
    · cases hz
      unfold zokE at hoq
      rw [Bool.and_eq_true] at hoq
      have hd := of_decide_eq_true hoq.1
      have hw : zokW pc d0 lo hi offs (d :: ts) = true := hoq.2
      unfold zokW at hw
      simp only [Bool.and_eq_true] at hw
      have hsp := zsw_spec ts lo hx
      refine zs_switch X hd (of_decide_eq_true hw.1) (of_decide_eq_true hw.2.1) (of_decide_eq_true hw.2.2) (fun j t2 h1 h2 => ?_) (fun h1 => ?_)
      · rcases hsp with ⟨j', t', e1, e2, e3⟩ | ⟨e1, -⟩
        · have : j' = j := by omega
          subst this
          rw [h1] at e1
          cases e1
          exact hf _ e3
        · have := (List.getElem?_eq_some_iff.mp h1).1
          omega
      · rcases hsp with ⟨j', t', e1, e2, -⟩ | ⟨-, e3⟩
        · have := (List.getElem?_eq_some_iff.mp e1).1
          omega
        · exact hf _ e3
    · cases hz
  · cases hx
theorem zgo_snd {cu : zCu} {K : Nat → List Value → zIJ → Option zRes} {k : Nat → zLs → List Value → zIJ → Option zRes} {x : zRes} {t : Nat} {L : zLs} {S : List Value} {h : zIJ}
    (hK : ∀ t lv vs L2, zcut t cu = some lv → K t vs h = some x → zzip lv vs = some L2 → zN p l e R s m args below meth c Q E kc ks n t L2 [] h) (hKz : ∀ t lv vs, zcut t cu = some lv → K t vs h = some x → ∃ L2, zzip lv vs = some L2)
    (hk : k t L S h = some x → zN p l e R s m args below meth c Q E kc ks n t L S h) (hx : zgo cu K k t L S h = some x) : zN p l e R s m args below meth c Q E kc ks n t L S h := by
  unfold zgo at hx
  cases hc : zcut t cu with
  | none => rw [hc] at hx; exact hk hx
  | some lv =>
    rw [hc] at hx
    cases S with
    | cons a r => cases hx
    | nil =>
      cases hp : zpick L lv with
      | none => simp only [hp] at hx; cases hx
      | some vs =>
        simp only [hp] at hx
        obtain ⟨L2, h2⟩ := hKz t lv vs hc hx
        exact zN_sub (zpick_zip lv vs L2 hp h2) (hK t lv vs L2 hc hx h2)
theorem zblk_snd {lev : Nat} {cu : zCu} {K C : Nat → List Value → zIJ → Option zRes} {x : zRes} (X : zX p R kc ks s m args meth c cc n own rt E) (hRf : lev + 1 ≤ R.frames) (hRl : 64 * (lev + 1) ≤ R.locals) (hC : zCalls l E lev C) (hall : ∀ t, t < zNm → zokM t = true)
    (hK : ∀ t lv vs L2 h, zcut t cu = some lv → K t vs h = some x → zzip lv vs = some L2 → zN p l e R s m args below meth c Q E kc ks n t L2 [] h) (hKz : ∀ t lv vs h, zcut t cu = some lv → K t vs h = some x → ∃ L2, zzip lv vs = some L2)
    (hret : ∀ (ins : Instr) (pc nx : Nat) (hs : List Nat) (v : Value) (L : zLs) (S : List Value) (h : zIJ) (b : Bool) (t : Nat) (as S' : List Value) (L' : zLs) (h' : zIJ), zokE own cc (pc, ins, nx, hs, v) = true → zex n rt (pc, ins, nx, hs, v) L S h = some (4, b, t, as, L', S', h') → b = true → x = (as.head?, h') → zN p l e R s m args below meth c Q E kc ks n pc L S h) :
    ∀ (co : List zEn), (∀ q ∈ co, zokE own cc q = true) → ∀ (t : Nat) (L : zLs) (S : List Value) (h : zIJ), zblk n rt lev cu K C co t L S h = some x → zN p l e R s m args below meth c Q E kc ks n t L S h
  | [], _, _, _, _, _, hx => by cases hx
  | q :: r, hq, t, L, S, h, hx => by
    have ih := zblk_snd X hRf hRl hC hall hK hKz hret r (fun q2 h2 => hq q2 (List.mem_cons_of_mem _ h2))
    unfold zblk at hx
    cases hb : Nat.beq q.1 t with
    | false => rw [hb] at hx; exact ih t L S h hx
    | true =>
      rw [hb] at hx
      have ht : q.1 = t := Nat.eq_of_beq_eq_true hb
      have hoq := hq q List.mem_cons_self
      obtain ⟨pc, ins, nx, hs, v⟩ := q
      dsimp only at ht
      subst ht
      have hx2 : zdo n rt lev cu K C (pc, ins, nx, hs, v) (fun t2 L2 S2 h2 => zblk n rt lev cu K C r t2 L2 S2 h2) L S h = some x := hx
      clear hx
      unfold zdo at hx2
      cases ho : zex n rt (pc, ins, nx, hs, v) L S h with
      | none => rw [ho] at hx2; cases hx2
      | some o =>
        rw [ho] at hx2
        have hon := zs_all (p := p) (l := l) (e := e) (R := R) (below := below) (Q := Q) X hoq ho
        obtain ⟨tag, b, t, as, L', S', h'⟩ := o
        have gon : ∀ (t2 : Nat) (L2 : zLs) (S2 : List Value) (h2 : zIJ), zgo cu K (fun t2 L2 S2 h2 => zblk n rt lev cu K C r t2 L2 S2 h2) t2 L2 S2 h2 = some x → zN p l e R s m args below meth c Q E kc ks n t2 L2 S2 h2 :=
          fun t2 L2 S2 h2 hg => zgo_snd (fun t lv vs L2 => hK t lv vs L2 h2) (fun t lv vs => hKz t lv vs h2) (ih t2 L2 S2 h2) hg
        match tag, ho, hx2, hon with
        | 0, ho, hx2, hon =>
          obtain ⟨hb, hx2⟩ := zcond hx2
          exact hon hb (gon _ _ _ _ hx2)
        | 1, ho, hx2, hon => exact hon (gon _ _ _ _ hx2)
        | 2, ho, hx2, hon =>
          refine hon (fun hb => ?_) (fun hb => ?_)
          · subst hb
            exact gon _ _ _ _ hx2
          · subst hb
            exact gon _ _ _ _ hx2
        | 3, ho, hx2, _ =>
          have key : ∀ (virt : Bool) (i : Nat), ins = (if virt then Instr.invokevirtual i else Instr.invokestatic i) → zinv virt hs L S h = some (3, b, t, as, L', S', h') → t < zNm → (∃ w1 w2 rk lv w5 w6 w7, hs = [w1, w2, rk, lv, w5, w6, w7] ∧ w1 = t ∧ rk = zrk (zMs t).2.1 ∧ lv = (zMs t).2.2.1) → zN p l e R s m args below meth c Q E kc ks n pc L S h := by
            intro virt i hins hzi htl hhs
            subst hins
            obtain ⟨w1, w2, rk, lv, w5, w6, w7, rfl, rfl, rfl, rfl⟩ := hhs
            dsimp only at hx2
            obtain ⟨hb, hx2⟩ := zcond hx2
            obtain ⟨hlv, hx2⟩ := zcond hx2
            have hlv := Nat.blt_eq.mp hlv
            cases hr : C w1 as h' with
            | none =>
              rw [hr] at hx2
              generalize zrk (zMs w1).2.1 = rk at hx2
              match rk, hx2 with
              | 0, hx2 => cases hx2
              | 1, hx2 => cases hx2
              | _ + 2, hx2 => cases hx2
            | some y =>
              obtain ⟨rv, h2⟩ := y
              have hM := hC _ _ _ _ hr htl hlv
              refine zs_call X hoq hzi (fun _ => htl) hb (hall _ htl) hM hlv hRf hRl ?_
              rw [hr] at hx2
              generalize zrk (zMs w1).2.1 = rk at hx2
              match rk, rv, hx2 with
              | 0, none, hx2 => exact gon _ _ _ _ hx2
              | 0, some z, hx2 => cases hx2
              | 1, none, hx2 => cases hx2
              | 1, some (.int z), hx2 => exact gon _ _ (.int z :: S') _ hx2
              | 1, some (.long z), hx2 => cases hx2
              | 1, some (.float z), hx2 => cases hx2
              | 1, some (.double z), hx2 => cases hx2
              | 1, some .null, hx2 => cases hx2
              | 1, some (.ref z), hx2 => cases hx2
              | 1, some (.retAddr z), hx2 => cases hx2
              | _ + 2, none, hx2 => cases hx2
              | _ + 2, some (.long z), hx2 => exact gon _ _ (.long z :: S') _ hx2
              | _ + 2, some (.int z), hx2 => cases hx2
              | _ + 2, some (.float z), hx2 => cases hx2
              | _ + 2, some (.double z), hx2 => cases hx2
              | _ + 2, some .null, hx2 => cases hx2
              | _ + 2, some (.ref z), hx2 => cases hx2
              | _ + 2, some (.retAddr z), hx2 => cases hx2
          exact zcall_key hoq ho key
        | 4, ho, hx2, _ =>
          obtain ⟨hb, hx2⟩ := zcond hx2
          refine hret ins pc nx hs v L S h b t as S' L' h' hoq ho hb ?_
          cases as with
          | nil => exact (Option.some.inj hx2).symm
          | cons a r => exact (Option.some.inj hx2).symm
        | q + 5, ho, hx2, _ =>
          have hx3 : zdsw as ins hs (fun t2 => zgo cu K (fun t2 L2 S2 h2 => zblk n rt lev cu K C r t2 L2 S2 h2) t2 L' S' h') = some x := hx2
          clear hx2
          exact zsw_key X hoq ho (fun t2 => gon t2 L' S' h') hx3
/-- where a method begins -/
theorem zlen_sl : ∀ (vs : List Value), (lg_sl (vs.map (zv E))).length = zcat vs
  | [] => rfl
  | v :: r => by
    have ih := zlen_sl r
    unfold lg_sl at ih ⊢
    rw [List.map_cons, List.flatMap_cons, List.length_append, ih, zv_cat]
    show _ = v.category + zcat r
    rcases lv_cat v with h | h <;> rw [h] <;> rfl
theorem zl_args (i : Nat) (vs : List Value) : lv_args i (vs.map (zv E)) = zl E (lv_args i vs) := by
  induction vs generalizing i with
  | nil => rfl
  | cons v r ih =>
    show (i, zv E v) :: lv_args (if (zv E v).category = 2 then i + 2 else i + 1) (r.map (zv E)) = (i, zv E v) :: zl E (lv_args (if v.category = 2 then i + 2 else i + 1) r)
    rw [zv_cat, ih]
theorem zrun_z {F mi q : Nat} {lv : List Nat} {vs : List Value} {h : zIJ} {x : zRes} (h1 : zcut (q + 1) (zMs mi).2.2.2.1 = some lv) (hx : zrun zMs F mi (q + 1) vs h = some x) : ∃ L2, zzip lv vs = some L2 := by
  cases F with
  | zero => cases hx
  | succ F =>
    have hx2 : zat (zMs mi) (zlev mi (zMs mi).2.2.1 vs) (fun pc2 vs2 h2 => zrun zMs F mi pc2 vs2 h2) (fun m2 as h2 => zrun zMs F m2 0 as h2) (q + 1) vs h = some x := hx
    unfold zat at hx2
    simp only [h1] at hx2
    cases h2 : zzip lv vs with
    | none => rw [h2] at hx2; cases hx2
    | some L => exact ⟨L, rfl⟩
theorem zrun_body {mi lev : Nat} {x : zRes} (hc0 : zcut 0 (zMs mi).2.2.2.1 = none) (X : zX p R kc ks s m args meth c cc (zMs mi).1 own (zMs mi).2.1 E) (hRf : lev + 1 ≤ R.frames) (hRl : 64 * (lev + 1) ≤ R.locals) (hall : ∀ t, t < zNm → zokM t = true) (hco : ∀ q ∈ (zMs mi).2.2.2.2, zokE own cc q = true) (hlev : ∀ vs, (zMs mi).2.2.2.1 ≠ [] → zlev mi (zMs mi).2.2.1 vs = lev)
    (hC : ∀ F, zCalls l E lev (fun m2 as h2 => zrun zMs F m2 0 as h2))
    (hret : ∀ (ins : Instr) (pc nx : Nat) (hs : List Nat) (v : Value) (L : zLs) (S : List Value) (h : zIJ) (b : Bool) (t : Nat) (as S' : List Value) (L' : zLs) (h' : zIJ), zokE own cc (pc, ins, nx, hs, v) = true → zex (zMs mi).1 (zMs mi).2.1 (pc, ins, nx, hs, v) L S h = some (4, b, t, as, L', S', h') → b = true → x = (as.head?, h') → zN p l e R s m args below meth c Q E kc ks (zMs mi).1 pc L S h) :
    ∀ (F q : Nat) (lv : List Nat) (vs : List Value) (L : zLs) (h : zIJ), zcut (q + 1) (zMs mi).2.2.2.1 = some lv → zzip lv vs = some L → zrun zMs F mi (q + 1) vs h = some x → zN p l e R s m args below meth c Q E kc ks (zMs mi).1 (q + 1) L [] h
  | 0, _, _, _, _, _, _, _, hx => by cases hx
  | F + 1, q, lv, vs, L, h, h1, h2, hx => by
    have ih := zrun_body hc0 X hRf hRl hall hco hlev hC hret F
    have hne : (zMs mi).2.2.2.1 ≠ [] := fun e => by rw [e] at h1; cases h1
    have hx2 : zat (zMs mi) (zlev mi (zMs mi).2.2.1 vs) (fun pc2 vs2 h2 => zrun zMs F mi pc2 vs2 h2) (fun m2 as h2 => zrun zMs F m2 0 as h2) (q + 1) vs h = some x := hx
    clear hx
    unfold zat at hx2
    simp only [h1, h2] at hx2
    rw [hlev vs hne] at hx2
    refine zblk_snd X hRf hRl (hC F) hall (fun t lv vs L2 h a b c => ?_) (fun t lv vs h a b => ?_) hret _ hco _ _ _ _ hx2
    · cases t with
      | zero => rw [hc0] at a; cases a
      | succ q' => exact ih q' lv vs L2 h a c b
    · cases t with
      | zero => rw [hc0] at a; cases a
      | succ q' => exact zrun_z a b
/-- the entry of a method: all of its run -/
theorem zrun_entry {mi lev : Nat} {x : zRes} (hc0 : zcut 0 (zMs mi).2.2.2.1 = none) (X : zX p R kc ks s m args meth c cc (zMs mi).1 own (zMs mi).2.1 E) (hRf : lev + 1 ≤ R.frames) (hRl : 64 * (lev + 1) ≤ R.locals) (hall : ∀ t, t < zNm → zokM t = true) (hco : ∀ q ∈ (zMs mi).2.2.2.2, zokE own cc q = true) (hlev : ∀ vs, (zMs mi).2.2.2.1 ≠ [] → zlev mi (zMs mi).2.2.1 vs = lev)
    (hC : ∀ F, zCalls l E lev (fun m2 as h2 => zrun zMs F m2 0 as h2))
    (hret : ∀ (ins : Instr) (pc nx : Nat) (hs : List Nat) (v : Value) (L : zLs) (S : List Value) (h : zIJ) (b : Bool) (t : Nat) (as S' : List Value) (L' : zLs) (h' : zIJ), zokE own cc (pc, ins, nx, hs, v) = true → zex (zMs mi).1 (zMs mi).2.1 (pc, ins, nx, hs, v) L S h = some (4, b, t, as, L', S', h') → b = true → x = (as.head?, h') → zN p l e R s m args below meth c Q E kc ks (zMs mi).1 pc L S h)
    {F : Nat} {vs : List Value} {h : zIJ} (hv : zlev mi (zMs mi).2.2.1 vs = lev) (hx : zrun zMs F mi 0 vs h = some x) : zcat vs ≤ (zMs mi).1 ∧ zN p l e R s m args below meth c Q E kc ks (zMs mi).1 0 (lv_args 0 vs) [] h := by
  cases F with
  | zero => cases hx
  | succ F =>
    have ih := zrun_body (l := l) (e := e) (below := below) (Q := Q) hc0 X hRf hRl hall hco hlev hC hret F
    obtain ⟨hb, hx2⟩ := zcond (show cond (Nat.ble (zcat vs) (zMs mi).1) (zblk (zMs mi).1 (zMs mi).2.1 (zlev mi (zMs mi).2.2.1 vs) (zMs mi).2.2.2.1 (fun pc2 vs2 h2 => zrun zMs F mi pc2 vs2 h2) (fun m2 as h2 => zrun zMs F m2 0 as h2) (zMs mi).2.2.2.2 0 (lv_args 0 vs) [] h) none = some x from hx)
    refine ⟨Nat.le_of_ble_eq_true hb, ?_⟩
    rw [hv] at hx2
    refine zblk_snd X hRf hRl (hC F) hall (fun t lv vs L2 h a b c => ?_) (fun t lv vs h a b => ?_) hret _ hco _ _ _ _ hx2
    · cases t with
      | zero => rw [hc0] at a; cases a
      | succ q' => exact ih q' lv vs L2 h a c b
    · cases t with
      | zero => rw [hc0] at a; cases a
      | succ q' => exact zrun_z a b
theorem zlev_c {mi lv : Nat} (h : mi ≠ zLI) (vs : List Value) : zlev mi lv vs = lv := by
  unfold zlev
  rw [zbeqf h]
  rfl
/-- EVERY METHOD: what a run of the abstract machine answers is what the machine answers -/
theorem zsound (l : Launch) (E : zE) (hall : ∀ t, t < zNm → zokM t = true) : ∀ (N t : Nat) (as : List Value) (h : zIJ) (x : zRes) (F : Nat), zlev t (zMs t).2.2.1 as < N → t < zNm → zrun zMs F t 0 as h = some x → zMet l E (zI t).1 (zI t).2.1 (zMs t).1 (zMs t).2.1 (zlev t (zMs t).2.2.1 as) as h x.1 x.2
  | 0, _, _, _, _, _, hN, _, _ => absurd hN (Nat.not_lt_zero _)
  | N + 1, t, as, h, x, F, hN, ht, hx => by
    have ih := zsound l E hall N
    obtain ⟨w1, w2, w3, w4, w5, w6, w7, w8, w9, w10⟩ := zokM_spec (hall t ht)
    refine Met.ofW (cc := (zI t).2.1) (maxL := (zMs t).1) (ret := (zMs t).2.1) w6 rfl ?_
    intro p e s m args below meth c s₁ B hml hv
    obtain ⟨rfl, hR, hF⟩ := hv
    have hts0 := atoms_spec (ws := Cond.code (zI t).1 (zI t).2.1 (zMs t).1 (zMs t).2.1 :: zTG) B.pre
    have X : zX p (zRoom (zlev t (zMs t).2.2.1 as)) 0 0 s m (as.map (zv E)).toArray meth c (zI t).2.1 (zMs t).1 (zI t).1.cls (zMs t).2.1 E := ⟨B.exec, B.bytes, hml, findClass_of_methodNamed B.named, fun w hw => hts0 w (List.mem_cons_of_mem _ hw), hF, B.notSynchronized, B.returns, by show 1 ≤ _ + 1; omega, by show 64 ≤ 64 * (_ + 1); omega, Nat.zero_le _, Nat.zero_le _⟩
    have hret : ∀ (ins : Instr) (pc nx : Nat) (hs : List Nat) (v : Value) (L : zLs) (S : List Value) (h : zIJ) (b : Bool) (t2 : Nat) (as2 S' : List Value) (L' : zLs) (h' : zIJ), zokE (zI t).1.cls (zI t).2.1 (pc, ins, nx, hs, v) = true → zex (zMs t).1 (zMs t).2.1 (pc, ins, nx, hs, v) L S h = some (4, b, t2, as2, L', S', h') → b = true → x = (as2.head?, h') → zN p l e (zRoom (zlev t (zMs t).2.2.1 as)) s m (as.map (zv E)).toArray below meth c (MQ below (zQ E x.1 x.2) (as.map (zv E)).toArray s 0 0 (zFree E)) E 0 0 (zMs t).1 pc L S h := by
      intro ins pc nx hs v L S h b t2 as2 S' L' h' hok hz hb hxe
      rw [hxe]
      have hlow : ¬ zlow ins := fun hl => by
        have := zex_tag hl hz
        exact absurd this (by show ¬ 4 < 3; decide)
      unfold zokE at hok
      rw [Bool.and_eq_true] at hok
      have hd0 : decode (zI t).2.1 pc = .ok (ins, nx - pc) := of_decide_eq_true hok.1
      have hi : zokI (zI t).1.cls pc ins nx hs v = true := hok.2
      clear hok
      cases ins
      all_goals try (exact absurd trivial hlow)
      case invokevirtual => exact absurd (show (4 : Nat) = 3 from zinv_tag hz) (by decide)
      case invokestatic =>
        have hz2 : zisv hs L S h = some (4, b, t2, as2, L', S', h') := hz
        unfold zisv at hz2
        split at hz2
        · rename_i q w
          cases hb9 : Nat.ble 990 q with
          | true =>
            rw [hb9] at hz2
            exact absurd (show (4 : Nat) = 0 from zbuilt_tag hz2) (by decide)
          | false =>
            rw [hb9] at hz2
            exact absurd (show (4 : Nat) = 3 from zinv_tag hz2) (by decide)
        · cases hz2
      case tableswitch => exact absurd (show (4 : Nat) = 5 from zswi_tag hz) (by decide)
      case ireturn =>
        have hnx : nx = pc + 1 := Nat.eq_of_beq_eq_true hi
        rw [hnx, Nat.add_sub_cancel_left] at hd0
        exact zs_ret X hd0 (Or.inl rfl) hz hb
      case lreturn =>
        have hnx : nx = pc + 1 := Nat.eq_of_beq_eq_true hi
        rw [hnx, Nat.add_sub_cancel_left] at hd0
        exact zs_ret X hd0 (Or.inr (Or.inl rfl)) hz hb
      case return_ =>
        have hnx : nx = pc + 1 := Nat.eq_of_beq_eq_true hi
        rw [hnx, Nat.add_sub_cancel_left] at hd0
        exact zs_ret X hd0 (Or.inr (Or.inr rfl)) hz hb
    obtain ⟨hcat, hn⟩ := zrun_entry (l := l) (e := e) (below := below) (Q := MQ below (zQ E x.1 x.2) (as.map (zv E)).toArray s 0 0 (zFree E)) (x := x) w10 X (Nat.le_refl _) (Nat.le_refl _) hall w8 (fun vs hne => by
        have hne2 : t ≠ zLI := fun e => hne (w9 e)
        rw [zlev_c hne2, zlev_c hne2]) (fun G m2 as2 h2 y hy ht2 hl2 => ih m2 as2 h2 y G (by omega) ht2 hy) hret rfl hx
    have hl := lv_entry (as.map (zv E)) (n := (zMs t).1) (by rw [zlen_sl]; exact hcat)
    rw [lg_entry_eq]
    refine hn s.heap [] _ hR (fun q hq => by cases hq) ?_
    rw [← zl_args]
    exact hl
end ZS6
end
