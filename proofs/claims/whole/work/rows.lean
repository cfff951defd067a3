section
-- ===== PART A: goes FIRST, ahead of the names: the tables' words, and 'selects' of the private methods out of them =====
/-- a private method of a class that the tables say can be made, by its rows of tables_1 -/
def lw_okq (q : MethodName × Nat) : Prop := (q.1.cls ≠ "java/lang/invoke/MethodHandle" ∧ q.1.cls ≠ "java/lang/invoke/VarHandle") ∧ Cond.instantiable q.1.cls q.2 ∈ tables_1 ∧ Cond.privateMethod q.1 ∈ tables_1 ∧ Cond.instanceMethod q.1 ∈ tables_1
theorem lw_p0 : lw_okq (⟨"BalloonHarbour$Tops", "collect", "(LBalloonHarbour$Harbour;)I"⟩, 2) := ⟨⟨by decide +kernel, by decide +kernel⟩, List.mem_of_getElem? (i := 254) (by decide +kernel), List.mem_of_getElem? (i := 342) (by decide +kernel), List.mem_of_getElem? (i := 343) (by decide +kernel)⟩
theorem lw_p1 : lw_okq (⟨"BalloonHarbour$Crews", "giveToOnePilot", "(LBalloonHarbour$Harbour;I)V"⟩, 3) := ⟨⟨by decide +kernel, by decide +kernel⟩, List.mem_of_getElem? (i := 267) (by decide +kernel), List.mem_of_getElem? (i := 426) (by decide +kernel), List.mem_of_getElem? (i := 427) (by decide +kernel)⟩
theorem lw_p2 : lw_okq (⟨"BalloonHarbour$Harbour", "burstBalloons", "()I"⟩, 12) := ⟨⟨by decide +kernel, by decide +kernel⟩, List.mem_of_getElem? (i := 43) (by decide +kernel), List.mem_of_getElem? (i := 473) (by decide +kernel), List.mem_of_getElem? (i := 474) (by decide +kernel)⟩
theorem lw_p3 : lw_okq (⟨"BalloonHarbour$Harbour", "queueIfOverstrained", "(I)V"⟩, 12) := ⟨⟨by decide +kernel, by decide +kernel⟩, List.mem_of_getElem? (i := 43) (by decide +kernel), List.mem_of_getElem? (i := 477) (by decide +kernel), List.mem_of_getElem? (i := 478) (by decide +kernel)⟩
theorem lw_p4 : lw_okq (⟨"BalloonHarbour$Harbour", "shake", "(I)V"⟩, 12) := ⟨⟨by decide +kernel, by decide +kernel⟩, List.mem_of_getElem? (i := 43) (by decide +kernel), List.mem_of_getElem? (i := 486) (by decide +kernel), List.mem_of_getElem? (i := 487) (by decide +kernel)⟩
theorem lw_p5 : lw_okq (⟨"BalloonHarbour", "change", "(IIIII)I"⟩, 14) := ⟨⟨by decide +kernel, by decide +kernel⟩, List.mem_of_getElem? (i := 35) (by decide +kernel), List.mem_of_getElem? (i := 543) (by decide +kernel), List.mem_of_getElem? (i := 544) (by decide +kernel)⟩
theorem lw_p6 : lw_okq (⟨"BalloonHarbour$Harbour", "refusalToMoor", "(IIII)I"⟩, 12) := ⟨⟨by decide +kernel, by decide +kernel⟩, List.mem_of_getElem? (i := 43) (by decide +kernel), List.mem_of_getElem? (i := 563) (by decide +kernel), List.mem_of_getElem? (i := 564) (by decide +kernel)⟩
theorem lw_p7 : lw_okq (⟨"BalloonHarbour$Harbour", "refusalToLoad", "(II)I"⟩, 12) := ⟨⟨by decide +kernel, by decide +kernel⟩, List.mem_of_getElem? (i := 43) (by decide +kernel), List.mem_of_getElem? (i := 567) (by decide +kernel), List.mem_of_getElem? (i := 568) (by decide +kernel)⟩
theorem lw_p8 : lw_okq (⟨"BalloonHarbour$Harbour", "refusalToDrop", "(II)I"⟩, 12) := ⟨⟨by decide +kernel, by decide +kernel⟩, List.mem_of_getElem? (i := 43) (by decide +kernel), List.mem_of_getElem? (i := 571) (by decide +kernel), List.mem_of_getElem? (i := 572) (by decide +kernel)⟩
theorem lw_p9 : lw_okq (⟨"BalloonHarbour$Harbour", "refusalToRise", "(II)I"⟩, 12) := ⟨⟨by decide +kernel, by decide +kernel⟩, List.mem_of_getElem? (i := 43) (by decide +kernel), List.mem_of_getElem? (i := 576) (by decide +kernel), List.mem_of_getElem? (i := 577) (by decide +kernel)⟩
theorem lw_p10 : lw_okq (⟨"BalloonHarbour$Harbour", "refusalOfWind", "(II)I"⟩, 12) := ⟨⟨by decide +kernel, by decide +kernel⟩, List.mem_of_getElem? (i := 43) (by decide +kernel), List.mem_of_getElem? (i := 581) (by decide +kernel), List.mem_of_getElem? (i := 582) (by decide +kernel)⟩
theorem lw_p11 : lw_okq (⟨"BalloonHarbour$Harbour", "refusalOfPilot", "(III)I"⟩, 12) := ⟨⟨by decide +kernel, by decide +kernel⟩, List.mem_of_getElem? (i := 43) (by decide +kernel), List.mem_of_getElem? (i := 585) (by decide +kernel), List.mem_of_getElem? (i := 586) (by decide +kernel)⟩
theorem lw_p12 : lw_okq (⟨"BalloonHarbour", "refuse", "(I)V"⟩, 14) := ⟨⟨by decide +kernel, by decide +kernel⟩, List.mem_of_getElem? (i := 35) (by decide +kernel), List.mem_of_getElem? (i := 589) (by decide +kernel), List.mem_of_getElem? (i := 590) (by decide +kernel)⟩
theorem lw_p13 : lw_okq (⟨"java/lang/Throwable", "fillInStackTrace", "(I)Ljava/lang/Throwable;"⟩, 6) := ⟨⟨by decide +kernel, by decide +kernel⟩, List.mem_of_getElem? (i := 636) (by decide +kernel), List.mem_of_getElem? (i := 634) (by decide +kernel), List.mem_of_getElem? (i := 635) (by decide +kernel)⟩
theorem lw_p14 : lw_okq (⟨"BalloonHarbour", "keepDenial", "(III)V"⟩, 14) := ⟨⟨by decide +kernel, by decide +kernel⟩, List.mem_of_getElem? (i := 35) (by decide +kernel), List.mem_of_getElem? (i := 701) (by decide +kernel), List.mem_of_getElem? (i := 702) (by decide +kernel)⟩
theorem lw_p15 : lw_okq (⟨"BalloonHarbour$Harbour", "putBalloon", "(IIII)I"⟩, 12) := ⟨⟨by decide +kernel, by decide +kernel⟩, List.mem_of_getElem? (i := 43) (by decide +kernel), List.mem_of_getElem? (i := 733) (by decide +kernel), List.mem_of_getElem? (i := 734) (by decide +kernel)⟩
def lw_privs_1 : List (MethodName × Nat) := [(⟨"BalloonHarbour$Tops", "collect", "(LBalloonHarbour$Harbour;)I"⟩, 2), (⟨"BalloonHarbour$Crews", "giveToOnePilot", "(LBalloonHarbour$Harbour;I)V"⟩, 3), (⟨"BalloonHarbour$Harbour", "burstBalloons", "()I"⟩, 12), (⟨"BalloonHarbour$Harbour", "queueIfOverstrained", "(I)V"⟩, 12), (⟨"BalloonHarbour$Harbour", "shake", "(I)V"⟩, 12), (⟨"BalloonHarbour", "change", "(IIIII)I"⟩, 14), (⟨"BalloonHarbour$Harbour", "refusalToMoor", "(IIII)I"⟩, 12), (⟨"BalloonHarbour$Harbour", "refusalToLoad", "(II)I"⟩, 12), (⟨"BalloonHarbour$Harbour", "refusalToDrop", "(II)I"⟩, 12), (⟨"BalloonHarbour$Harbour", "refusalToRise", "(II)I"⟩, 12), (⟨"BalloonHarbour$Harbour", "refusalOfWind", "(II)I"⟩, 12), (⟨"BalloonHarbour$Harbour", "refusalOfPilot", "(III)I"⟩, 12), (⟨"BalloonHarbour", "refuse", "(I)V"⟩, 14), (⟨"java/lang/Throwable", "fillInStackTrace", "(I)Ljava/lang/Throwable;"⟩, 6), (⟨"BalloonHarbour", "keepDenial", "(III)V"⟩, 14), (⟨"BalloonHarbour$Harbour", "putBalloon", "(IIII)I"⟩, 12)]
theorem lw_r1 : ∀ q ∈ lw_privs_1, lw_okq q := List.forall_mem_cons.mpr ⟨lw_p0, List.forall_mem_cons.mpr ⟨lw_p1, List.forall_mem_cons.mpr ⟨lw_p2, List.forall_mem_cons.mpr ⟨lw_p3, List.forall_mem_cons.mpr ⟨lw_p4, List.forall_mem_cons.mpr ⟨lw_p5, List.forall_mem_cons.mpr ⟨lw_p6, List.forall_mem_cons.mpr ⟨lw_p7, List.forall_mem_cons.mpr ⟨lw_p8, List.forall_mem_cons.mpr ⟨lw_p9, List.forall_mem_cons.mpr ⟨lw_p10, List.forall_mem_cons.mpr ⟨lw_p11, List.forall_mem_cons.mpr ⟨lw_p12, List.forall_mem_cons.mpr ⟨lw_p13, List.forall_mem_cons.mpr ⟨lw_p14, List.forall_mem_cons.mpr ⟨lw_p15, fun _ h => absurd h List.not_mem_nil⟩⟩⟩⟩⟩⟩⟩⟩⟩⟩⟩⟩⟩⟩⟩⟩
theorem lw_p16 : lw_okq (⟨"BalloonHarbour$Harbour", "removeBalloon", "(I)I"⟩, 12) := ⟨⟨by decide +kernel, by decide +kernel⟩, List.mem_of_getElem? (i := 43) (by decide +kernel), List.mem_of_getElem? (i := 741) (by decide +kernel), List.mem_of_getElem? (i := 742) (by decide +kernel)⟩
theorem lw_p17 : lw_okq (⟨"BalloonHarbour$Harbour", "loadBag", "(II)I"⟩, 12) := ⟨⟨by decide +kernel, by decide +kernel⟩, List.mem_of_getElem? (i := 43) (by decide +kernel), List.mem_of_getElem? (i := 745) (by decide +kernel), List.mem_of_getElem? (i := 746) (by decide +kernel)⟩
theorem lw_p18 : lw_okq (⟨"BalloonHarbour$Harbour", "dropBag", "(II)I"⟩, 12) := ⟨⟨by decide +kernel, by decide +kernel⟩, List.mem_of_getElem? (i := 43) (by decide +kernel), List.mem_of_getElem? (i := 753) (by decide +kernel), List.mem_of_getElem? (i := 754) (by decide +kernel)⟩
theorem lw_p19 : lw_okq (⟨"BalloonHarbour$Harbour", "dropBestSet", "(II)I"⟩, 12) := ⟨⟨by decide +kernel, by decide +kernel⟩, List.mem_of_getElem? (i := 43) (by decide +kernel), List.mem_of_getElem? (i := 757) (by decide +kernel), List.mem_of_getElem? (i := 758) (by decide +kernel)⟩
theorem lw_p20 : lw_okq (⟨"BalloonHarbour$Balloon", "isBetter", "(II)Z"⟩, 7) := ⟨⟨by decide +kernel, by decide +kernel⟩, List.mem_of_getElem? (i := 52) (by decide +kernel), List.mem_of_getElem? (i := 769) (by decide +kernel), List.mem_of_getElem? (i := 770) (by decide +kernel)⟩
theorem lw_p21 : lw_okq (⟨"BalloonHarbour$Harbour", "replaceWind", "(II)I"⟩, 12) := ⟨⟨by decide +kernel, by decide +kernel⟩, List.mem_of_getElem? (i := 43) (by decide +kernel), List.mem_of_getElem? (i := 775) (by decide +kernel), List.mem_of_getElem? (i := 776) (by decide +kernel)⟩
theorem lw_p22 : lw_okq (⟨"BalloonHarbour$Harbour", "putPilot", "(III)I"⟩, 12) := ⟨⟨by decide +kernel, by decide +kernel⟩, List.mem_of_getElem? (i := 43) (by decide +kernel), List.mem_of_getElem? (i := 780) (by decide +kernel), List.mem_of_getElem? (i := 781) (by decide +kernel)⟩
theorem lw_p23 : lw_okq (⟨"BalloonHarbour$Harbour", "takePilot", "(I)I"⟩, 12) := ⟨⟨by decide +kernel, by decide +kernel⟩, List.mem_of_getElem? (i := 43) (by decide +kernel), List.mem_of_getElem? (i := 785) (by decide +kernel), List.mem_of_getElem? (i := 786) (by decide +kernel)⟩
theorem lw_p24 : lw_okq (⟨"BalloonHarbour", "balloonAt", "(I)LBalloonHarbour$Balloon;"⟩, 14) := ⟨⟨by decide +kernel, by decide +kernel⟩, List.mem_of_getElem? (i := 35) (by decide +kernel), List.mem_of_getElem? (i := 814) (by decide +kernel), List.mem_of_getElem? (i := 815) (by decide +kernel)⟩
theorem lw_p25 : lw_okq (⟨"BalloonHarbour$Harbour", "countAhead", "(I)I"⟩, 12) := ⟨⟨by decide +kernel, by decide +kernel⟩, List.mem_of_getElem? (i := 43) (by decide +kernel), List.mem_of_getElem? (i := 852) (by decide +kernel), List.mem_of_getElem? (i := 853) (by decide +kernel)⟩
theorem lw_p26 : lw_okq (⟨"BalloonHarbour$Harbour", "isAhead", "(II)Z"⟩, 12) := ⟨⟨by decide +kernel, by decide +kernel⟩, List.mem_of_getElem? (i := 43) (by decide +kernel), List.mem_of_getElem? (i := 856) (by decide +kernel), List.mem_of_getElem? (i := 857) (by decide +kernel)⟩
theorem lw_p27 : lw_okq (⟨"BalloonHarbour$Balloon", "heaviestOutside", "(I)I"⟩, 7) := ⟨⟨by decide +kernel, by decide +kernel⟩, List.mem_of_getElem? (i := 52) (by decide +kernel), List.mem_of_getElem? (i := 934) (by decide +kernel), List.mem_of_getElem? (i := 935) (by decide +kernel)⟩
theorem lw_p28 : lw_okq (⟨"BalloonHarbour", "requirePilot", "(I)V"⟩, 14) := ⟨⟨by decide +kernel, by decide +kernel⟩, List.mem_of_getElem? (i := 35) (by decide +kernel), List.mem_of_getElem? (i := 1034) (by decide +kernel), List.mem_of_getElem? (i := 1035) (by decide +kernel)⟩
theorem lw_p29 : lw_okq (⟨"BalloonHarbour$Text", "readCommand", "(LBalloonHarbour$Command;)Z"⟩, 5) := ⟨⟨by decide +kernel, by decide +kernel⟩, List.mem_of_getElem? (i := 191) (by decide +kernel), List.mem_of_getElem? (i := 1130) (by decide +kernel), List.mem_of_getElem? (i := 1131) (by decide +kernel)⟩
theorem lw_p30 : lw_okq (⟨"BalloonHarbour$Text", "readAs", "(ILBalloonHarbour$Command;)Z"⟩, 5) := ⟨⟨by decide +kernel, by decide +kernel⟩, List.mem_of_getElem? (i := 191) (by decide +kernel), List.mem_of_getElem? (i := 1134) (by decide +kernel), List.mem_of_getElem? (i := 1135) (by decide +kernel)⟩
theorem lw_p31 : lw_okq (⟨"BalloonHarbour$Text", "readPart", "(CLBalloonHarbour$Command;)Z"⟩, 5) := ⟨⟨by decide +kernel, by decide +kernel⟩, List.mem_of_getElem? (i := 191) (by decide +kernel), List.mem_of_getElem? (i := 1198) (by decide +kernel), List.mem_of_getElem? (i := 1199) (by decide +kernel)⟩
def lw_privs_2 : List (MethodName × Nat) := [(⟨"BalloonHarbour$Harbour", "removeBalloon", "(I)I"⟩, 12), (⟨"BalloonHarbour$Harbour", "loadBag", "(II)I"⟩, 12), (⟨"BalloonHarbour$Harbour", "dropBag", "(II)I"⟩, 12), (⟨"BalloonHarbour$Harbour", "dropBestSet", "(II)I"⟩, 12), (⟨"BalloonHarbour$Balloon", "isBetter", "(II)Z"⟩, 7), (⟨"BalloonHarbour$Harbour", "replaceWind", "(II)I"⟩, 12), (⟨"BalloonHarbour$Harbour", "putPilot", "(III)I"⟩, 12), (⟨"BalloonHarbour$Harbour", "takePilot", "(I)I"⟩, 12), (⟨"BalloonHarbour", "balloonAt", "(I)LBalloonHarbour$Balloon;"⟩, 14), (⟨"BalloonHarbour$Harbour", "countAhead", "(I)I"⟩, 12), (⟨"BalloonHarbour$Harbour", "isAhead", "(II)Z"⟩, 12), (⟨"BalloonHarbour$Balloon", "heaviestOutside", "(I)I"⟩, 7), (⟨"BalloonHarbour", "requirePilot", "(I)V"⟩, 14), (⟨"BalloonHarbour$Text", "readCommand", "(LBalloonHarbour$Command;)Z"⟩, 5), (⟨"BalloonHarbour$Text", "readAs", "(ILBalloonHarbour$Command;)Z"⟩, 5), (⟨"BalloonHarbour$Text", "readPart", "(CLBalloonHarbour$Command;)Z"⟩, 5)]
theorem lw_r2 : ∀ q ∈ lw_privs_2, lw_okq q := List.forall_mem_cons.mpr ⟨lw_p16, List.forall_mem_cons.mpr ⟨lw_p17, List.forall_mem_cons.mpr ⟨lw_p18, List.forall_mem_cons.mpr ⟨lw_p19, List.forall_mem_cons.mpr ⟨lw_p20, List.forall_mem_cons.mpr ⟨lw_p21, List.forall_mem_cons.mpr ⟨lw_p22, List.forall_mem_cons.mpr ⟨lw_p23, List.forall_mem_cons.mpr ⟨lw_p24, List.forall_mem_cons.mpr ⟨lw_p25, List.forall_mem_cons.mpr ⟨lw_p26, List.forall_mem_cons.mpr ⟨lw_p27, List.forall_mem_cons.mpr ⟨lw_p28, List.forall_mem_cons.mpr ⟨lw_p29, List.forall_mem_cons.mpr ⟨lw_p30, List.forall_mem_cons.mpr ⟨lw_p31, fun _ h => absurd h List.not_mem_nil⟩⟩⟩⟩⟩⟩⟩⟩⟩⟩⟩⟩⟩⟩⟩⟩
theorem lw_p32 : lw_okq (⟨"BalloonHarbour$Text", "readNumber", "(IILBalloonHarbour$Command;)Z"⟩, 5) := ⟨⟨by decide +kernel, by decide +kernel⟩, List.mem_of_getElem? (i := 191) (by decide +kernel), List.mem_of_getElem? (i := 1202) (by decide +kernel), List.mem_of_getElem? (i := 1203) (by decide +kernel)⟩
theorem lw_p33 : lw_okq (⟨"BalloonHarbour$Text", "readCharacter", "(C)Z"⟩, 5) := ⟨⟨by decide +kernel, by decide +kernel⟩, List.mem_of_getElem? (i := 191) (by decide +kernel), List.mem_of_getElem? (i := 1208) (by decide +kernel), List.mem_of_getElem? (i := 1209) (by decide +kernel)⟩
theorem lw_p34 : lw_okq (⟨"BalloonHarbour", "requireDenial", "()V"⟩, 14) := ⟨⟨by decide +kernel, by decide +kernel⟩, List.mem_of_getElem? (i := 35) (by decide +kernel), List.mem_of_getElem? (i := 1498) (by decide +kernel), List.mem_of_getElem? (i := 1499) (by decide +kernel)⟩
theorem lw_p35 : lw_okq (⟨"BalloonHarbourModel", "remembers", "()V"⟩, 27) := ⟨⟨by decide +kernel, by decide +kernel⟩, List.mem_of_getElem? (i := 1538) (by decide +kernel), List.mem_of_getElem? (i := 1634) (by decide +kernel), List.mem_of_getElem? (i := 1635) (by decide +kernel)⟩
theorem lw_p36 : lw_okq (⟨"BalloonHarbourModel", "moors", "(IIII)I"⟩, 27) := ⟨⟨by decide +kernel, by decide +kernel⟩, List.mem_of_getElem? (i := 1538) (by decide +kernel), List.mem_of_getElem? (i := 1638) (by decide +kernel), List.mem_of_getElem? (i := 1639) (by decide +kernel)⟩
theorem lw_p37 : lw_okq (⟨"BalloonHarbourModel", "isHere", "(I)Z"⟩, 27) := ⟨⟨by decide +kernel, by decide +kernel⟩, List.mem_of_getElem? (i := 1538) (by decide +kernel), List.mem_of_getElem? (i := 1648) (by decide +kernel), List.mem_of_getElem? (i := 1649) (by decide +kernel)⟩
theorem lw_p38 : lw_okq (⟨"BalloonHarbourModel", "of", "(II)I"⟩, 27) := ⟨⟨by decide +kernel, by decide +kernel⟩, List.mem_of_getElem? (i := 1538) (by decide +kernel), List.mem_of_getElem? (i := 1652) (by decide +kernel), List.mem_of_getElem? (i := 1653) (by decide +kernel)⟩
theorem lw_p39 : lw_okq (⟨"BalloonHarbourModel", "high", "(I)I"⟩, 27) := ⟨⟨by decide +kernel, by decide +kernel⟩, List.mem_of_getElem? (i := 1538) (by decide +kernel), List.mem_of_getElem? (i := 1656) (by decide +kernel), List.mem_of_getElem? (i := 1657) (by decide +kernel)⟩
theorem lw_p40 : lw_okq (⟨"BalloonHarbourModel", "highOf", "(II)I"⟩, 27) := ⟨⟨by decide +kernel, by decide +kernel⟩, List.mem_of_getElem? (i := 1538) (by decide +kernel), List.mem_of_getElem? (i := 1660) (by decide +kernel), List.mem_of_getElem? (i := 1661) (by decide +kernel)⟩
theorem lw_p41 : lw_okq (⟨"BalloonHarbourModel", "spare", "(II)I"⟩, 27) := ⟨⟨by decide +kernel, by decide +kernel⟩, List.mem_of_getElem? (i := 1538) (by decide +kernel), List.mem_of_getElem? (i := 1664) (by decide +kernel), List.mem_of_getElem? (i := 1665) (by decide +kernel)⟩
theorem lw_p42 : lw_okq (⟨"BalloonHarbourModel", "ballastWithout", "(II)I"⟩, 27) := ⟨⟨by decide +kernel, by decide +kernel⟩, List.mem_of_getElem? (i := 1538) (by decide +kernel), List.mem_of_getElem? (i := 1668) (by decide +kernel), List.mem_of_getElem? (i := 1669) (by decide +kernel)⟩
theorem lw_p43 : lw_okq (⟨"BalloonHarbourModel", "denied", "(II)I"⟩, 27) := ⟨⟨by decide +kernel, by decide +kernel⟩, List.mem_of_getElem? (i := 1538) (by decide +kernel), List.mem_of_getElem? (i := 1672) (by decide +kernel), List.mem_of_getElem? (i := 1673) (by decide +kernel)⟩
theorem lw_p44 : lw_okq (⟨"BalloonHarbourModel", "clears", "(I)V"⟩, 27) := ⟨⟨by decide +kernel, by decide +kernel⟩, List.mem_of_getElem? (i := 1538) (by decide +kernel), List.mem_of_getElem? (i := 1676) (by decide +kernel), List.mem_of_getElem? (i := 1677) (by decide +kernel)⟩
theorem lw_p45 : lw_okq (⟨"BalloonHarbourModel", "sets", "(III)V"⟩, 27) := ⟨⟨by decide +kernel, by decide +kernel⟩, List.mem_of_getElem? (i := 1538) (by decide +kernel), List.mem_of_getElem? (i := 1680) (by decide +kernel), List.mem_of_getElem? (i := 1681) (by decide +kernel)⟩
theorem lw_p46 : lw_okq (⟨"BalloonHarbourModel", "done", "(I)I"⟩, 27) := ⟨⟨by decide +kernel, by decide +kernel⟩, List.mem_of_getElem? (i := 1538) (by decide +kernel), List.mem_of_getElem? (i := 1684) (by decide +kernel), List.mem_of_getElem? (i := 1685) (by decide +kernel)⟩
theorem lw_p47 : lw_okq (⟨"BalloonHarbourModel", "ends", "(II)I"⟩, 27) := ⟨⟨by decide +kernel, by decide +kernel⟩, List.mem_of_getElem? (i := 1538) (by decide +kernel), List.mem_of_getElem? (i := 1688) (by decide +kernel), List.mem_of_getElem? (i := 1689) (by decide +kernel)⟩
def lw_privs_3 : List (MethodName × Nat) := [(⟨"BalloonHarbour$Text", "readNumber", "(IILBalloonHarbour$Command;)Z"⟩, 5), (⟨"BalloonHarbour$Text", "readCharacter", "(C)Z"⟩, 5), (⟨"BalloonHarbour", "requireDenial", "()V"⟩, 14), (⟨"BalloonHarbourModel", "remembers", "()V"⟩, 27), (⟨"BalloonHarbourModel", "moors", "(IIII)I"⟩, 27), (⟨"BalloonHarbourModel", "isHere", "(I)Z"⟩, 27), (⟨"BalloonHarbourModel", "of", "(II)I"⟩, 27), (⟨"BalloonHarbourModel", "high", "(I)I"⟩, 27), (⟨"BalloonHarbourModel", "highOf", "(II)I"⟩, 27), (⟨"BalloonHarbourModel", "spare", "(II)I"⟩, 27), (⟨"BalloonHarbourModel", "ballastWithout", "(II)I"⟩, 27), (⟨"BalloonHarbourModel", "denied", "(II)I"⟩, 27), (⟨"BalloonHarbourModel", "clears", "(I)V"⟩, 27), (⟨"BalloonHarbourModel", "sets", "(III)V"⟩, 27), (⟨"BalloonHarbourModel", "done", "(I)I"⟩, 27), (⟨"BalloonHarbourModel", "ends", "(II)I"⟩, 27)]
theorem lw_r3 : ∀ q ∈ lw_privs_3, lw_okq q := List.forall_mem_cons.mpr ⟨lw_p32, List.forall_mem_cons.mpr ⟨lw_p33, List.forall_mem_cons.mpr ⟨lw_p34, List.forall_mem_cons.mpr ⟨lw_p35, List.forall_mem_cons.mpr ⟨lw_p36, List.forall_mem_cons.mpr ⟨lw_p37, List.forall_mem_cons.mpr ⟨lw_p38, List.forall_mem_cons.mpr ⟨lw_p39, List.forall_mem_cons.mpr ⟨lw_p40, List.forall_mem_cons.mpr ⟨lw_p41, List.forall_mem_cons.mpr ⟨lw_p42, List.forall_mem_cons.mpr ⟨lw_p43, List.forall_mem_cons.mpr ⟨lw_p44, List.forall_mem_cons.mpr ⟨lw_p45, List.forall_mem_cons.mpr ⟨lw_p46, List.forall_mem_cons.mpr ⟨lw_p47, fun _ h => absurd h List.not_mem_nil⟩⟩⟩⟩⟩⟩⟩⟩⟩⟩⟩⟩⟩⟩⟩⟩
theorem lw_p48 : lw_okq (⟨"BalloonHarbourModel", "changed", "(I)I"⟩, 27) := ⟨⟨by decide +kernel, by decide +kernel⟩, List.mem_of_getElem? (i := 1538) (by decide +kernel), List.mem_of_getElem? (i := 1692) (by decide +kernel), List.mem_of_getElem? (i := 1693) (by decide +kernel)⟩
theorem lw_p49 : lw_okq (⟨"BalloonHarbourModel", "fails", "(I)I"⟩, 27) := ⟨⟨by decide +kernel, by decide +kernel⟩, List.mem_of_getElem? (i := 1538) (by decide +kernel), List.mem_of_getElem? (i := 1696) (by decide +kernel), List.mem_of_getElem? (i := 1697) (by decide +kernel)⟩
theorem lw_p50 : lw_okq (⟨"BalloonHarbourModel", "casts", "(I)I"⟩, 27) := ⟨⟨by decide +kernel, by decide +kernel⟩, List.mem_of_getElem? (i := 1538) (by decide +kernel), List.mem_of_getElem? (i := 1704) (by decide +kernel), List.mem_of_getElem? (i := 1705) (by decide +kernel)⟩
theorem lw_p51 : lw_okq (⟨"BalloonHarbourModel", "loads", "(II)I"⟩, 27) := ⟨⟨by decide +kernel, by decide +kernel⟩, List.mem_of_getElem? (i := 1538) (by decide +kernel), List.mem_of_getElem? (i := 1712) (by decide +kernel), List.mem_of_getElem? (i := 1713) (by decide +kernel)⟩
theorem lw_p52 : lw_okq (⟨"BalloonHarbourModel", "drops", "(II)I"⟩, 27) := ⟨⟨by decide +kernel, by decide +kernel⟩, List.mem_of_getElem? (i := 1538) (by decide +kernel), List.mem_of_getElem? (i := 1720) (by decide +kernel), List.mem_of_getElem? (i := 1721) (by decide +kernel)⟩
theorem lw_p53 : lw_okq (⟨"BalloonHarbourModel", "takesBag", "(II)V"⟩, 27) := ⟨⟨by decide +kernel, by decide +kernel⟩, List.mem_of_getElem? (i := 1538) (by decide +kernel), List.mem_of_getElem? (i := 1724) (by decide +kernel), List.mem_of_getElem? (i := 1725) (by decide +kernel)⟩
theorem lw_p54 : lw_okq (⟨"BalloonHarbourModel", "rises", "(II)I"⟩, 27) := ⟨⟨by decide +kernel, by decide +kernel⟩, List.mem_of_getElem? (i := 1538) (by decide +kernel), List.mem_of_getElem? (i := 1732) (by decide +kernel), List.mem_of_getElem? (i := 1733) (by decide +kernel)⟩
theorem lw_p55 : lw_okq (⟨"BalloonHarbourModel", "best", "(II)I"⟩, 27) := ⟨⟨by decide +kernel, by decide +kernel⟩, List.mem_of_getElem? (i := 1538) (by decide +kernel), List.mem_of_getElem? (i := 1736) (by decide +kernel), List.mem_of_getElem? (i := 1737) (by decide +kernel)⟩
theorem lw_p56 : lw_okq (⟨"BalloonHarbourModel", "isBetter", "(III)Z"⟩, 27) := ⟨⟨by decide +kernel, by decide +kernel⟩, List.mem_of_getElem? (i := 1538) (by decide +kernel), List.mem_of_getElem? (i := 1740) (by decide +kernel), List.mem_of_getElem? (i := 1741) (by decide +kernel)⟩
theorem lw_p57 : lw_okq (⟨"BalloonHarbourModel", "blows", "(II)I"⟩, 27) := ⟨⟨by decide +kernel, by decide +kernel⟩, List.mem_of_getElem? (i := 1538) (by decide +kernel), List.mem_of_getElem? (i := 1751) (by decide +kernel), List.mem_of_getElem? (i := 1752) (by decide +kernel)⟩
theorem lw_p58 : lw_okq (⟨"BalloonHarbourModel", "joins", "(III)I"⟩, 27) := ⟨⟨by decide +kernel, by decide +kernel⟩, List.mem_of_getElem? (i := 1538) (by decide +kernel), List.mem_of_getElem? (i := 1762) (by decide +kernel), List.mem_of_getElem? (i := 1763) (by decide +kernel)⟩
theorem lw_p59 : lw_okq (⟨"BalloonHarbourModel", "leaves", "(I)I"⟩, 27) := ⟨⟨by decide +kernel, by decide +kernel⟩, List.mem_of_getElem? (i := 1538) (by decide +kernel), List.mem_of_getElem? (i := 1770) (by decide +kernel), List.mem_of_getElem? (i := 1771) (by decide +kernel)⟩
theorem lw_p60 : lw_okq (⟨"BalloonHarbourModel", "isPilot", "(I)Z"⟩, 27) := ⟨⟨by decide +kernel, by decide +kernel⟩, List.mem_of_getElem? (i := 1538) (by decide +kernel), List.mem_of_getElem? (i := 1774) (by decide +kernel), List.mem_of_getElem? (i := 1775) (by decide +kernel)⟩
theorem lw_p61 : lw_okq (⟨"BalloonHarbourModel", "passes", "(I)I"⟩, 27) := ⟨⟨by decide +kernel, by decide +kernel⟩, List.mem_of_getElem? (i := 1538) (by decide +kernel), List.mem_of_getElem? (i := 1782) (by decide +kernel), List.mem_of_getElem? (i := 1783) (by decide +kernel)⟩
theorem lw_p62 : lw_okq (⟨"BalloonHarbourModel", "oneHour", "()I"⟩, 27) := ⟨⟨by decide +kernel, by decide +kernel⟩, List.mem_of_getElem? (i := 1538) (by decide +kernel), List.mem_of_getElem? (i := 1786) (by decide +kernel), List.mem_of_getElem? (i := 1787) (by decide +kernel)⟩
theorem lw_p63 : lw_okq (⟨"BalloonHarbourModel", "now", "()I"⟩, 27) := ⟨⟨by decide +kernel, by decide +kernel⟩, List.mem_of_getElem? (i := 1538) (by decide +kernel), List.mem_of_getElem? (i := 1790) (by decide +kernel), List.mem_of_getElem? (i := 1791) (by decide +kernel)⟩
def lw_privs_4 : List (MethodName × Nat) := [(⟨"BalloonHarbourModel", "changed", "(I)I"⟩, 27), (⟨"BalloonHarbourModel", "fails", "(I)I"⟩, 27), (⟨"BalloonHarbourModel", "casts", "(I)I"⟩, 27), (⟨"BalloonHarbourModel", "loads", "(II)I"⟩, 27), (⟨"BalloonHarbourModel", "drops", "(II)I"⟩, 27), (⟨"BalloonHarbourModel", "takesBag", "(II)V"⟩, 27), (⟨"BalloonHarbourModel", "rises", "(II)I"⟩, 27), (⟨"BalloonHarbourModel", "best", "(II)I"⟩, 27), (⟨"BalloonHarbourModel", "isBetter", "(III)Z"⟩, 27), (⟨"BalloonHarbourModel", "blows", "(II)I"⟩, 27), (⟨"BalloonHarbourModel", "joins", "(III)I"⟩, 27), (⟨"BalloonHarbourModel", "leaves", "(I)I"⟩, 27), (⟨"BalloonHarbourModel", "isPilot", "(I)Z"⟩, 27), (⟨"BalloonHarbourModel", "passes", "(I)I"⟩, 27), (⟨"BalloonHarbourModel", "oneHour", "()I"⟩, 27), (⟨"BalloonHarbourModel", "now", "()I"⟩, 27)]
theorem lw_r4 : ∀ q ∈ lw_privs_4, lw_okq q := List.forall_mem_cons.mpr ⟨lw_p48, List.forall_mem_cons.mpr ⟨lw_p49, List.forall_mem_cons.mpr ⟨lw_p50, List.forall_mem_cons.mpr ⟨lw_p51, List.forall_mem_cons.mpr ⟨lw_p52, List.forall_mem_cons.mpr ⟨lw_p53, List.forall_mem_cons.mpr ⟨lw_p54, List.forall_mem_cons.mpr ⟨lw_p55, List.forall_mem_cons.mpr ⟨lw_p56, List.forall_mem_cons.mpr ⟨lw_p57, List.forall_mem_cons.mpr ⟨lw_p58, List.forall_mem_cons.mpr ⟨lw_p59, List.forall_mem_cons.mpr ⟨lw_p60, List.forall_mem_cons.mpr ⟨lw_p61, List.forall_mem_cons.mpr ⟨lw_p62, List.forall_mem_cons.mpr ⟨lw_p63, fun _ h => absurd h List.not_mem_nil⟩⟩⟩⟩⟩⟩⟩⟩⟩⟩⟩⟩⟩⟩⟩⟩
theorem lw_p64 : lw_okq (⟨"BalloonHarbourModel", "isTooHigh", "(I)Z"⟩, 27) := ⟨⟨by decide +kernel, by decide +kernel⟩, List.mem_of_getElem? (i := 1538) (by decide +kernel), List.mem_of_getElem? (i := 1794) (by decide +kernel), List.mem_of_getElem? (i := 1795) (by decide +kernel)⟩
theorem lw_p65 : lw_okq (⟨"BalloonHarbourModel", "waits", "(I)V"⟩, 27) := ⟨⟨by decide +kernel, by decide +kernel⟩, List.mem_of_getElem? (i := 1538) (by decide +kernel), List.mem_of_getElem? (i := 1798) (by decide +kernel), List.mem_of_getElem? (i := 1799) (by decide +kernel)⟩
theorem lw_p66 : lw_okq (⟨"BalloonHarbourModel", "shakes", "(I)V"⟩, 27) := ⟨⟨by decide +kernel, by decide +kernel⟩, List.mem_of_getElem? (i := 1538) (by decide +kernel), List.mem_of_getElem? (i := 1802) (by decide +kernel), List.mem_of_getElem? (i := 1803) (by decide +kernel)⟩
theorem lw_p67 : lw_okq (⟨"BalloonHarbourModel", "isAsked", "(I)Z"⟩, 27) := ⟨⟨by decide +kernel, by decide +kernel⟩, List.mem_of_getElem? (i := 1538) (by decide +kernel), List.mem_of_getElem? (i := 1818) (by decide +kernel), List.mem_of_getElem? (i := 1819) (by decide +kernel)⟩
theorem lw_p68 : lw_okq (⟨"BalloonHarbourModel", "isAhead", "(II)Z"⟩, 27) := ⟨⟨by decide +kernel, by decide +kernel⟩, List.mem_of_getElem? (i := 1538) (by decide +kernel), List.mem_of_getElem? (i := 1838) (by decide +kernel), List.mem_of_getElem? (i := 1839) (by decide +kernel)⟩
theorem lw_p69 : lw_okq (⟨"BalloonHarbourModel", "asked", "(II)I"⟩, 27) := ⟨⟨by decide +kernel, by decide +kernel⟩, List.mem_of_getElem? (i := 1538) (by decide +kernel), List.mem_of_getElem? (i := 1854) (by decide +kernel), List.mem_of_getElem? (i := 1855) (by decide +kernel)⟩
theorem lw_p70 : lw_okq (⟨"BalloonHarbourModel", "topOf", "(I)I"⟩, 27) := ⟨⟨by decide +kernel, by decide +kernel⟩, List.mem_of_getElem? (i := 1538) (by decide +kernel), List.mem_of_getElem? (i := 1875) (by decide +kernel), List.mem_of_getElem? (i := 1876) (by decide +kernel)⟩
theorem lw_p71 : lw_okq (⟨"BalloonHarbourModel", "isOn", "(II)Z"⟩, 27) := ⟨⟨by decide +kernel, by decide +kernel⟩, List.mem_of_getElem? (i := 1538) (by decide +kernel), List.mem_of_getElem? (i := 1905) (by decide +kernel), List.mem_of_getElem? (i := 1906) (by decide +kernel)⟩
theorem lw_p72 : lw_okq (⟨"BalloonHarbourModel", "pilot", "(II)I"⟩, 27) := ⟨⟨by decide +kernel, by decide +kernel⟩, List.mem_of_getElem? (i := 1538) (by decide +kernel), List.mem_of_getElem? (i := 1909) (by decide +kernel), List.mem_of_getElem? (i := 1910) (by decide +kernel)⟩
theorem lw_p73 : lw_okq (⟨"BalloonHarbourModel", "crews", "(II)Z"⟩, 27) := ⟨⟨by decide +kernel, by decide +kernel⟩, List.mem_of_getElem? (i := 1538) (by decide +kernel), List.mem_of_getElem? (i := 1917) (by decide +kernel), List.mem_of_getElem? (i := 1918) (by decide +kernel)⟩
theorem lw_p74 : lw_okq (⟨"BalloonHarbourModel", "readsOne", "()V"⟩, 27) := ⟨⟨by decide +kernel, by decide +kernel⟩, List.mem_of_getElem? (i := 1538) (by decide +kernel), List.mem_of_getElem? (i := 1975) (by decide +kernel), List.mem_of_getElem? (i := 1976) (by decide +kernel)⟩
theorem lw_p75 : lw_okq (⟨"BalloonHarbourModel", "here", "(I)I"⟩, 27) := ⟨⟨by decide +kernel, by decide +kernel⟩, List.mem_of_getElem? (i := 1538) (by decide +kernel), List.mem_of_getElem? (i := 1979) (by decide +kernel), List.mem_of_getElem? (i := 1980) (by decide +kernel)⟩
theorem lw_p76 : lw_okq (⟨"BalloonHarbourModel", "number", "(Ljava/lang/String;II)V"⟩, 27) := ⟨⟨by decide +kernel, by decide +kernel⟩, List.mem_of_getElem? (i := 1538) (by decide +kernel), List.mem_of_getElem? (i := 1984) (by decide +kernel), List.mem_of_getElem? (i := 1985) (by decide +kernel)⟩
theorem lw_p77 : lw_okq (⟨"BalloonHarbourModel", "says", "(Ljava/lang/String;)V"⟩, 27) := ⟨⟨by decide +kernel, by decide +kernel⟩, List.mem_of_getElem? (i := 1538) (by decide +kernel), List.mem_of_getElem? (i := 1988) (by decide +kernel), List.mem_of_getElem? (i := 1989) (by decide +kernel)⟩
theorem lw_p78 : lw_okq (⟨"BalloonHarbourModel", "readsWind", "()V"⟩, 27) := ⟨⟨by decide +kernel, by decide +kernel⟩, List.mem_of_getElem? (i := 1538) (by decide +kernel), List.mem_of_getElem? (i := 2001) (by decide +kernel), List.mem_of_getElem? (i := 2002) (by decide +kernel)⟩
theorem lw_p79 : lw_okq (⟨"BalloonHarbourModel", "does", "(I)I"⟩, 27) := ⟨⟨by decide +kernel, by decide +kernel⟩, List.mem_of_getElem? (i := 1538) (by decide +kernel), List.mem_of_getElem? (i := 2010) (by decide +kernel), List.mem_of_getElem? (i := 2011) (by decide +kernel)⟩
def lw_privs_5 : List (MethodName × Nat) := [(⟨"BalloonHarbourModel", "isTooHigh", "(I)Z"⟩, 27), (⟨"BalloonHarbourModel", "waits", "(I)V"⟩, 27), (⟨"BalloonHarbourModel", "shakes", "(I)V"⟩, 27), (⟨"BalloonHarbourModel", "isAsked", "(I)Z"⟩, 27), (⟨"BalloonHarbourModel", "isAhead", "(II)Z"⟩, 27), (⟨"BalloonHarbourModel", "asked", "(II)I"⟩, 27), (⟨"BalloonHarbourModel", "topOf", "(I)I"⟩, 27), (⟨"BalloonHarbourModel", "isOn", "(II)Z"⟩, 27), (⟨"BalloonHarbourModel", "pilot", "(II)I"⟩, 27), (⟨"BalloonHarbourModel", "crews", "(II)Z"⟩, 27), (⟨"BalloonHarbourModel", "readsOne", "()V"⟩, 27), (⟨"BalloonHarbourModel", "here", "(I)I"⟩, 27), (⟨"BalloonHarbourModel", "number", "(Ljava/lang/String;II)V"⟩, 27), (⟨"BalloonHarbourModel", "says", "(Ljava/lang/String;)V"⟩, 27), (⟨"BalloonHarbourModel", "readsWind", "()V"⟩, 27), (⟨"BalloonHarbourModel", "does", "(I)I"⟩, 27)]
theorem lw_r5 : ∀ q ∈ lw_privs_5, lw_okq q := List.forall_mem_cons.mpr ⟨lw_p64, List.forall_mem_cons.mpr ⟨lw_p65, List.forall_mem_cons.mpr ⟨lw_p66, List.forall_mem_cons.mpr ⟨lw_p67, List.forall_mem_cons.mpr ⟨lw_p68, List.forall_mem_cons.mpr ⟨lw_p69, List.forall_mem_cons.mpr ⟨lw_p70, List.forall_mem_cons.mpr ⟨lw_p71, List.forall_mem_cons.mpr ⟨lw_p72, List.forall_mem_cons.mpr ⟨lw_p73, List.forall_mem_cons.mpr ⟨lw_p74, List.forall_mem_cons.mpr ⟨lw_p75, List.forall_mem_cons.mpr ⟨lw_p76, List.forall_mem_cons.mpr ⟨lw_p77, List.forall_mem_cons.mpr ⟨lw_p78, List.forall_mem_cons.mpr ⟨lw_p79, fun _ h => absurd h List.not_mem_nil⟩⟩⟩⟩⟩⟩⟩⟩⟩⟩⟩⟩⟩⟩⟩⟩
theorem lw_p80 : lw_okq (⟨"BalloonHarbourModel", "writesNumber", "(I)V"⟩, 27) := ⟨⟨by decide +kernel, by decide +kernel⟩, List.mem_of_getElem? (i := 1538) (by decide +kernel), List.mem_of_getElem? (i := 2022) (by decide +kernel), List.mem_of_getElem? (i := 2023) (by decide +kernel)⟩
theorem lw_p81 : lw_okq (⟨"BalloonHarbourModel", "writes", "(I)V"⟩, 27) := ⟨⟨by decide +kernel, by decide +kernel⟩, List.mem_of_getElem? (i := 1538) (by decide +kernel), List.mem_of_getElem? (i := 2026) (by decide +kernel), List.mem_of_getElem? (i := 2027) (by decide +kernel)⟩
def lw_privs_6 : List (MethodName × Nat) := [(⟨"BalloonHarbourModel", "writesNumber", "(I)V"⟩, 27), (⟨"BalloonHarbourModel", "writes", "(I)V"⟩, 27)]
theorem lw_r6 : ∀ q ∈ lw_privs_6, lw_okq q := List.forall_mem_cons.mpr ⟨lw_p80, List.forall_mem_cons.mpr ⟨lw_p81, fun _ h => absurd h List.not_mem_nil⟩⟩
def lw_privs : List (MethodName × Nat) := lw_privs_1 ++ (lw_privs_2 ++ (lw_privs_3 ++ (lw_privs_4 ++ (lw_privs_5 ++ (lw_privs_6)))))
/-- .. and of private methods of a class that stands under one that is made: another method of the same class is selected there -/
def lw_ASB (n d : String) : MethodName := ⟨"java/lang/AbstractStringBuilder", n, d⟩
def lw_subs : List Cond := [Cond.selects "java/lang/StringBuilder" (lw_ASB "ensureCapacityInternal" "(I)V") (lw_ASB "ensureCapacityInternal" "(I)V"), Cond.selects "java/lang/StringBuilder" (lw_ASB "newCapacity" "(I)I") (lw_ASB "newCapacity" "(I)I")]
def lw_tbl : List Cond := (k2_sels lw_privs ++ tables_1) ++ lw_subs
theorem lw_privs_ok : ∀ q ∈ lw_privs, lw_okq q := by
  show ∀ q ∈ lw_privs_1 ++ (lw_privs_2 ++ (lw_privs_3 ++ (lw_privs_4 ++ (lw_privs_5 ++ (lw_privs_6))))), lw_okq q
  exact List.forall_mem_append.mpr ⟨lw_r1, List.forall_mem_append.mpr ⟨lw_r2, List.forall_mem_append.mpr ⟨lw_r3, List.forall_mem_append.mpr ⟨lw_r4, List.forall_mem_append.mpr ⟨lw_r5, lw_r6⟩⟩⟩⟩⟩
/-- the streams that the claim lets the run draw from -/
abbrev lw_cs : List Choice := [Jvm.Choice.named "NaN.bits"]
theorem lw_bits : nanBits ∈ lw_cs := by first | decide | exact List.mem_cons_self | simp [lw_cs, nanBits]
-- ===== end of PART A; then your names; then what follows =====
end
section
/-! ===== BEGIN words of one list among another's, by their places ===== -/
theorem goodIn_r {big : List Cond} (ws : List Cond) (ps : List Nat) (hp : ws = ps.filterMap (fun i => big[i]?)) (h : ws.all goodWord = true) : GoodIn big ws := by
  intro w hw
  have h1 := List.all_eq_true.mp h w hw
  rw [hp] at hw
  obtain ⟨i, -, hi⟩ := List.mem_filterMap.mp hw
  have hm : w ∈ big := by first | exact List.mem_of_getElem? hi | exact List.getElem?_mem hi
  exact ⟨hm, good_of_word h1⟩
theorem goodIn_app {big a b : List Cond} (ha : GoodIn big a) (hb : GoodIn big b) : GoodIn big (a ++ b) := fun w h => (List.mem_append.mp h).elim (ha w) (hb w)
theorem goodIn_ca {big a b : List Cond} {c : Cond} (ha : GoodIn big (c :: a)) (hb : GoodIn big b) : GoodIn big (c :: (a ++ b)) := fun w h => (List.mem_cons.mp h).elim (fun e => ha w (List.mem_cons.mpr (Or.inl e))) (fun h => (List.mem_append.mp h).elim (fun h => ha w (List.mem_cons.mpr (Or.inr h))) (hb w))
theorem goodIn_sub {big ws : List Cond} (hm : ∀ w ∈ ws, w ∈ big) (h : ws.all goodWord = true) : GoodIn big ws := fun w hw => ⟨hm w hw, good_of_word (List.all_eq_true.mp h w hw)⟩
/-! ===== END ===== -/
/-! ===== BEGIN exceptions that leave a method, and their catching by the caller (launches without stack traces) ===== -/
section VXA
/-! The laws vx_back, vx_callV, vx_callS, vx_callSW, vx_throw0, vx_throwS follow proofs of the library, with one case more: JvmDerived/Free/Laws.lean (Back.of_free), Shelf42/LK1.lean (callV, callS), Shelf/KitTraced.lean (throwNew0V, throwNewS). -/
/-- where a method has thrown q: the class by its name, the cell, what was written, the world -/
def vx_T (XC : String → State → State → Prop) (st : State) (q : Addr) (t : State) (mc ms : Nat) (free : Addr → Prop) : Prop :=
  ∃ (E : String) (ce : Cell) (L : List Loc), XC E st t ∧ t.heap[q]? = some ce ∧ ce.vm = .none ∧ st.vm.findClass E = some ce.cls ∧ st.WarmedH t.vm ∧ st.sameButNew ({ t with vm := st.vm } : State) L mc ms ∧ ∀ z ∈ L, free z.base
def vx_Q (Qc : Array Value → State → Outcome → State → Prop) (XC : String → State → State → Prop) (mc ms : Nat) (free : Addr → Prop) : Array Value → State → Outcome → State → Prop := fun a st o t =>
  (Qc a st o t ∧ ∃ L, FrameEnd st o t L mc ms ∧ ∀ q ∈ L, free q.base) ∨ ∃ q, o = .threw q ∧ vx_T XC st q t mc ms free
/-- a callee that returns or throws -/
def vx_Met (l : Launch) (y : MethodName) (ws : List Cond) (rm : Room) (Pc : Array Value → State → Prop) (Qc : Array Value → State → Outcome → State → Prop) (XC : String → State → State → Prop) (mc ms : Nat) (free : Addr → Prop) : Prop :=
  MetFree l y (headSpec ws rm) Pc (fun _ _ _ _ _ => True) (vx_Q Qc XC mc ms free)
def vx_Post (XC : String → State → State → Prop) (mc ms : Nat) (free : Addr → Prop) : Pt → Array Value → Addr → Pt → Prop := fun A a q B =>
  ∃ (g : JFrame) (mk : MethodId) (t : State) (L : List Loc) (E : String) (ce : Cell), B.U.heap = t.heap ∧ B.U.vm = t.vm ∧ XC E (A.U.calling g mk a) t ∧ t.heap[q]? = some ce ∧ ce.vm = .none ∧ A.U.vm.findClass E = some ce.cls ∧ B.locs = A.locs ++ L ∧ (∀ z ∈ L, free z.base) ∧ B.cells = A.cells + mc ∧ B.slots = A.slots + ms
def vx_Back (l : Launch) (R : Room) (p : Program) (e : Env) (below : List Frame) (s : State) (sargs : Array Value) (y : MethodName) (len W9 : Nat)
    (Pre : Pt → Array Value → Prop) (Post : Pt → Array Value → Option Value → Pt → Prop) (PostX : Pt → Array Value → Addr → Pt → Prop) : Prop :=
  ∀ (m : MethodId) (meth : Method) (c : Code) (A : Pt) (g : JFrame) (ig : Instr) (mk : MethodId) (a : Array Value),
    Stand p l e R s m sargs below meth c A.U A.locs A.cells A.slots → g.method = m → g.locals.size = c.maxLocals → decode c.code g.pc = .ok (ig, len) →
    2 * g.monitorRoom + (g.stack.map fun v => v.category).sum ≤ W9 → A.U.methodNamed? y = some mk → Pre A a →
    (∃ (v : Option Value) (B : Pt), Stand p l e R s m sargs below meth c B.U B.locs B.cells B.slots ∧ Post A a v B ∧
      Steps p.tables e below (doInvoke e (A.U.setTop g) [] mk a).1 (B.U.setTop { g with pc := g.pc + len, stack := v.toList ++ g.stack })) ∨
    (∃ (q : Addr) (B : Pt), Stand p l e R s m sargs below meth c B.U B.locs B.cells B.slots ∧ PostX A a q B ∧
      Steps p.tables e below (doInvoke e (A.U.setTop g) [] mk a).1 ((B.U.setTop g).pushFrame (.throwing q)))
section Payer
variable {l : Launch} {R : Room} {p : Program} {e : Env} {below : List Frame} {s : State} {sargs : Array Value} {y : MethodName} {len W9 : Nat}
theorem vx_back {ws : List Cond} {rm : Room} {Pc : Array Value → State → Prop} {Qc : Array Value → State → Outcome → State → Prop} {XC : String → State → State → Prop} {mc ms : Nat} {free : Addr → Prop} {bytes : ByteArray} {maxL : Nat} {ret : Option FieldType}
    (hM : vx_Met l y ws rm Pc Qc XC mc ms free) (hblind : FrameBlind Pc) (hrc : rm.cells = mc) (hrs : rm.slots = ms)
    (hframes : rm.frames + 1 ≤ R.frames) (hlocals : W9 + (maxL + 11) + rm.locals ≤ R.locals)
    (hws : ∀ w ∈ ws, ∀ a' U, s.WarmedH U.vm → w.before a' U = true) (hcode : Cond.code y bytes maxL ret ∈ ws) (hinit : ∀ a' U, s.WarmedH U.vm → (Cond.initialized y.cls).before a' U = true) :
    vx_Back l R p e below s sargs y len W9 (PreOf R mc ms Pc) (PostOf Qc mc ms free) (vx_Post XC mc ms free) := by
  intro m meth c A g ig mk a X hg hsize hdg hW hn hp
  have h1 : (headSpec ws rm).pre.before a A.U = true := atoms_intro fun w hw => hws w hw _ _ X.warmed
  have h2 : (Cond.code y bytes maxL ret).before a A.U = true := hws _ hcode _ _ X.warmed
  have h3 : (Cond.initialized y.cls).before a A.U = true := hinit _ _ X.warmed
  have h4 : A.cells + (headSpec ws rm).room.cells ≤ R.cells := by rw [show (headSpec ws rm).room.cells = mc from hrc]; exact hp.1
  have h5 : A.slots + (headSpec ws rm).room.slots ≤ R.slots := by rw [show (headSpec ws rm).room.slots = ms from hrs]; exact hp.2.1
  have hPc : Pc a (A.U.calling g mk a) := hblind _ _ _ _ hp.2.2
  obtain ⟨U, Ls, c0, s0⟩ := A
  dsimp only [Pt.U, Pt.locs, Pt.cells, Pt.slots] at h1 h2 h3 h4 h5 X hn hPc ⊢
  obtain ⟨methY, cY, hmY, hcY, -, hlY, -, -, -, -⟩ := Cond.code_spec hn h2
  obtain ⟨kY, hkY, -⟩ := className_of_methodNamed hn
  have hinitY : kY.init = .initialized := Cond.initialized_spec (findClass_of_methodNamed hn) hkY h3
  have h : At U g.method c below := by rw [hg]; exact X.here
  have hlocals9 : W9 + (maxL + 11) + (headSpec ws rm).room.locals ≤ R.locals := hlocals
  have happ : (headSpec ws rm).appliesLoose y e.platform (U.calling g mk a) = true :=
    Spec.appliesLoose_calling (g := g) h hdg hn hkY hinitY
      (X.room_calling (g := g) (R' := (headSpec ws rm).room) hsize hmY hcY hframes (by rw [hlY]; omega) h4 h5) h1
  obtain ⟨mid, hmid⟩ := h.above
  have hfr : (U.setTop g).frames = (.java g :: mid) ++ below := by rw [State.frames_setTop' g h.top, hmid]; rfl
  obtain ⟨o, s₂, hsteps, -, hend, hq⟩ := Steps.callFree hM p X.admits X.cas X.clock (acts := []) hfr happ hPc trivial
  have hq' : vx_Q Qc XC mc ms free a (U.calling g mk a) o s₂ := hq
  rw [State.frames_setTop' g h.top] at hend
  obtain ⟨g₀, hg0⟩ := Option.isSome_iff_exists.mp h.top
  obtain ⟨r, hr⟩ := State.topJava?_eq_some.mp hg0
  have hr' : (({ U with heap := s₂.heap, slotsUsed := s₂.slotsUsed } : State).setVm s₂.vm).frames = .java g₀ :: r := hr
  rcases hq' with ⟨hqc, L, hfe, hL⟩ | ⟨q, rfl, E, ce, L, hx, hce, hcv, hcl, hW₂, hsm, hL⟩
  · obtain ⟨⟨v, rfl⟩, hW₂, e2, q2, q3, q4, q5, q6⟩ := id hfe
    have e3 : s₂ = ({ (U.calling g mk a).setFrames s₂.frames with heap := s₂.heap, slotsUsed := s₂.slotsUsed } : State).setVm s₂.vm := by
      have : s₂ = ({ s₂ with vm := (U.calling g mk a).vm } : State).setVm s₂.vm := rfl
      rw [e2] at this
      exact this
    obtain ⟨c₂, i₂, len₂, hc₂, hd₂, hf₂⟩ := hend
    have hW' : U.WarmedH s₂.vm := hW₂
    have hcc : c₂ = c := by
      have h1 : s₂.code? g.method = U.code? g.method := by
        rw [State.code?_eq, State.code?_eq, hW'.alike.method?]
      exact Option.some.inj (hc₂.symm.trans (h1.trans h.code))
    subst hcc
    have hlen : len₂ = len := by rw [hdg] at hd₂; cases hd₂; rfl
    subst hlen
    have hs₂ : s₂ = (({ U with heap := s₂.heap, slotsUsed := s₂.slotsUsed } : State).setVm s₂.vm).setTop { g with pc := g.pc + len₂, stack := v.toList ++ g.stack } := by
      refine e3.trans ?_
      rw [hf₂, State.calling_eq h.top, State.setFrames_setFrames, State.setTop_of_frames _ hr', hr]
      rfl
    have hsame : U.sameButNew ({ U with heap := s₂.heap, slotsUsed := s₂.slotsUsed } : State) L mc ms := by
      refine ⟨?_, q2, q3, q4, q5, q6⟩
      obtain ⟨t, ht, -⟩ := State.frames_cons hr
      show ({ U with heap := s₂.heap, slotsUsed := s₂.slotsUsed } : State) = { U.setFrames U.frames with heap := s₂.heap, slotsUsed := s₂.slotsUsed }
      rw [State.setFrames_self ht]
    subst hg
    refine Or.inl ⟨v, ⟨(({ U with heap := s₂.heap, slotsUsed := s₂.slotsUsed } : State).setVm s₂.vm), Ls ++ L, c0 + mc, s0 + ms⟩,
      ⟨X.admits, X.cas, X.clock, X.frames, X.room, X.hears, X.method, X.code, (X.here.setHeapUsed s₂.heap s₂.slotsUsed).setVm hW'.alike, X.tail, State.WarmedH.trans X.warmed hW', X.limits, X.bytes, X.same.trans (hsame.setVm s.vm)⟩,
      ⟨g, mk, s₂, L, rfl, rfl, hqc, rfl, hL, rfl, rfl⟩, ?_⟩
    show Steps p.tables e below _ ((({ U with heap := s₂.heap, slotsUsed := s₂.slotsUsed } : State).setVm s₂.vm).setTop { g with pc := g.pc + len₂, stack := v.toList ++ g.stack })
    rw [← hs₂]
    exact hsteps
  · obtain ⟨e2, q2, q3, q4, q5, q6⟩ := id hsm
    have e3 : s₂ = ({ (U.calling g mk a).setFrames s₂.frames with heap := s₂.heap, slotsUsed := s₂.slotsUsed } : State).setVm s₂.vm := by
      have : s₂ = ({ s₂ with vm := (U.calling g mk a).vm } : State).setVm s₂.vm := rfl
      rw [e2] at this
      exact this
    have hf₂ : s₂.frames = .throwing q :: .java g :: U.frames.tail := hend
    have hW' : U.WarmedH s₂.vm := hW₂
    have hs₂ : s₂ = ((({ U with heap := s₂.heap, slotsUsed := s₂.slotsUsed } : State).setVm s₂.vm).setTop g).pushFrame (.throwing q) := by
      refine e3.trans ?_
      rw [hf₂, State.calling_eq h.top, State.setFrames_setFrames, State.pushFrame, State.frames_setTop _ hr', State.setTop_of_frames _ hr', State.setFrames_setFrames, hr]
      rfl
    have hsame : U.sameButNew ({ U with heap := s₂.heap, slotsUsed := s₂.slotsUsed } : State) L mc ms := by
      refine ⟨?_, q2, q3, q4, q5, q6⟩
      obtain ⟨t, ht, -⟩ := State.frames_cons hr
      show ({ U with heap := s₂.heap, slotsUsed := s₂.slotsUsed } : State) = { U.setFrames U.frames with heap := s₂.heap, slotsUsed := s₂.slotsUsed }
      rw [State.setFrames_self ht]
    subst hg
    refine Or.inr ⟨q, ⟨(({ U with heap := s₂.heap, slotsUsed := s₂.slotsUsed } : State).setVm s₂.vm), Ls ++ L, c0 + mc, s0 + ms⟩,
      ⟨X.admits, X.cas, X.clock, X.frames, X.room, X.hears, X.method, X.code, (X.here.setHeapUsed s₂.heap s₂.slotsUsed).setVm hW'.alike, X.tail, State.WarmedH.trans X.warmed hW', X.limits, X.bytes, X.same.trans (hsame.setVm s.vm)⟩,
      ⟨g, mk, s₂, L, E, ce, rfl, rfl, hx, hce, hcv, hcl, rfl, hL, rfl, rfl⟩, ?_⟩
    show Steps p.tables e below _ (((({ U with heap := s₂.heap, slotsUsed := s₂.slotsUsed } : State).setVm s₂.vm).setTop g).pushFrame (.throwing q))
    rw [← hs₂]
    exact hsteps
end Payer
section Calls
variable {p : Program} {l : Launch} {e : Env} {R : Room} {s : State} {m : MethodId} {args : Array Value} {below : List Frame} {meth : Method} {c : Code} {T : State} {locs : List Loc} {cells slots : Nat}
theorem vx_callV (X : Stand p l e R s m args below meth c T locs cells slots) (hexec : p.tables.exec = Jvm.exec) {own C : String} {index : Nat} {y : MethodName} {bytes : ByteArray} {maxL : Nat} {ret : Option FieldType}
    (hown : s.vm.findClass own = some m.cls) (hlink : (Cond.methodLink own index y).before args s = true) (hinst : (Cond.instanceMethod y).before args s = true) (hsel : (Cond.selects C y y).before args s = true)
    (hcode : (Cond.code y bytes maxL ret).before args s = true) (hy : y.cls ≠ "java/lang/invoke/MethodHandle" ∧ y.cls ≠ "java/lang/invoke/VarHandle")
    {W9 : Nat} {Pre : Pt → Array Value → Prop} {Post : Pt → Array Value → Option Value → Pt → Prop} {PostX : Pt → Array Value → Addr → Pt → Prop} (hK : vx_Back l R p e below s args y 3 W9 Pre Post PostX)
    {b : Addr} {cellB : Cell} (hcell : T.heap[b]? = some cellB) (hobj : cellB.vm.isStatics = false) (hcls : s.vm.findClass C = some cellB.cls)
    {g : JFrame} (hg : g.method = m) (hsize : g.locals.size = c.maxLocals) {argsL rest : List Value} (hlen : ∀ sig, parseMethodDescriptor y.desc = some sig → argsL.length = sig.parameters.length)
    (hstack : g.stack = argsL.reverse ++ .ref b :: rest) (hW : 2 * g.monitorRoom + (rest.map fun v => v.category).sum ≤ W9) (hdg : decode c.code g.pc = .ok (.invokevirtual index, 3))
    (hpre : ∀ vm₁, s.WarmedH vm₁ → Pre ⟨T.setVm vm₁, locs, cells, slots⟩ (Value.ref b :: argsL).toArray) :
    (∃ (v : Option Value) (vm₁ : Vm) (B : Pt), s.WarmedH vm₁ ∧ Stand p l e R s m args below meth c B.U B.locs B.cells B.slots ∧ Post ⟨T.setVm vm₁, locs, cells, slots⟩ (Value.ref b :: argsL).toArray v B ∧
      ∀ target, Steps p.tables e below (B.U.setTop { g with pc := g.pc + 3, stack := v.toList ++ rest }) target → Steps p.tables e below (T.setTop g) target) ∨
    (∃ (q : Addr) (vm₁ : Vm) (B : Pt), s.WarmedH vm₁ ∧ Stand p l e R s m args below meth c B.U B.locs B.cells B.slots ∧ PostX ⟨T.setVm vm₁, locs, cells, slots⟩ (Value.ref b :: argsL).toArray q B ∧
      Steps p.tables e below (T.setTop g) ((B.U.setTop { g with stack := rest }).pushFrame (.throwing q))) := by
  obtain ⟨mk, methM, hnamed, hmethM, hstM, habM⟩ := Cond.instanceMethod_spec hinst
  obtain ⟨methM', cM, hmethM', -, -, -, -, -, -, hsigM⟩ := Cond.code_spec hnamed hcode
  cases hmethM.symm.trans hmethM'
  obtain ⟨c2, r2, m2, q1, q2, q3, q4, kP, hkP, hkPi⟩ := Cond.selects_spec hsel
  cases hcls.symm.trans q1
  cases (State.methodFound?_of_named hnamed hy).symm.trans q2
  cases hnamed.symm.trans q3
  have hselP : selectMethod e.platform s.vm cellB.cls mk = .method mk := by rw [Launch.admits_selectMethod X.admits]; exact q4
  obtain ⟨vm₁, X₁, hstep₁⟩ := X.invokevirtual hexec hown hlink hnamed hmethM hstM hkP hkPi hy (a := b) (cell := cellB) hcell
    (fun z h => by rw [h] at hobj; cases hobj) hselP hmethM habM hkP hkPi (g := g) hg (argsL := argsL) (rest := rest) (hlen _ hsigM) hstack hdg
  rcases hK m meth c ⟨T.setVm vm₁, locs, cells, slots⟩ { g with stack := rest } (.invokevirtual index) mk (Value.ref b :: argsL).toArray X₁ hg hsize hdg hW (X₁.named hnamed) (hpre vm₁ X₁.warmed) with ⟨v, B, X', hpost, hsteps⟩ | ⟨q, B, X', hpost, hsteps⟩
  · exact Or.inl ⟨v, vm₁, B, X₁.warmed, X', hpost, fun target h => hstep₁ _ fun acts => by rw [doInvoke_state]; exact hsteps.trans h⟩
  · exact Or.inr ⟨q, vm₁, B, X₁.warmed, X', hpost, hstep₁ _ fun acts => by rw [doInvoke_state]; exact hsteps⟩
theorem vx_callS (X : Stand p l e R s m args below meth c T locs cells slots) (hexec : p.tables.exec = Jvm.exec) {own : String} {index : Nat} {y : MethodName} {bytes : ByteArray} {maxL : Nat} {ret : Option FieldType}
    (hown : s.vm.findClass own = some m.cls) (hlink : (Cond.methodLink own index y).before args s = true) (hstat : (Cond.static y).before args s = true) (hinit : (Cond.initialized y.cls).before args s = true)
    (hcode : (Cond.code y bytes maxL ret).before args s = true) (hy : y.cls ≠ "java/lang/invoke/MethodHandle" ∧ y.cls ≠ "java/lang/invoke/VarHandle")
    {W9 : Nat} {Pre : Pt → Array Value → Prop} {Post : Pt → Array Value → Option Value → Pt → Prop} {PostX : Pt → Array Value → Addr → Pt → Prop} (hK : vx_Back l R p e below s args y 3 W9 Pre Post PostX)
    {g : JFrame} (hg : g.method = m) (hsize : g.locals.size = c.maxLocals) {argsL rest : List Value} (hlen : ∀ sig, parseMethodDescriptor y.desc = some sig → argsL.length = sig.parameters.length)
    (hstack : g.stack = argsL.reverse ++ rest) (hW : 2 * g.monitorRoom + (rest.map fun v => v.category).sum ≤ W9) (hdg : decode c.code g.pc = .ok (.invokestatic index, 3))
    (hpre : ∀ vm₁, s.WarmedH vm₁ → Pre ⟨T.setVm vm₁, locs, cells, slots⟩ argsL.toArray) :
    (∃ (v : Option Value) (vm₁ : Vm) (B : Pt), s.WarmedH vm₁ ∧ Stand p l e R s m args below meth c B.U B.locs B.cells B.slots ∧ Post ⟨T.setVm vm₁, locs, cells, slots⟩ argsL.toArray v B ∧
      ∀ target, Steps p.tables e below (B.U.setTop { g with pc := g.pc + 3, stack := v.toList ++ rest }) target → Steps p.tables e below (T.setTop g) target) ∨
    (∃ (q : Addr) (vm₁ : Vm) (B : Pt), s.WarmedH vm₁ ∧ Stand p l e R s m args below meth c B.U B.locs B.cells B.slots ∧ PostX ⟨T.setVm vm₁, locs, cells, slots⟩ argsL.toArray q B ∧
      Steps p.tables e below (T.setTop g) ((B.U.setTop { g with stack := rest }).pushFrame (.throwing q))) := by
  obtain ⟨mk, hnamed⟩ := Cond.code_named hcode
  obtain ⟨methM, cM, hmethM, -, -, -, -, -, -, hsigM⟩ := Cond.code_spec hnamed hcode
  have hstatic : methM.isStatic = true := Cond.static_spec hnamed hmethM hstat
  obtain ⟨kP, hkP, -⟩ := className_of_methodNamed hnamed
  have hinitP : kP.init = .initialized := Cond.initialized_spec (findClass_of_methodNamed hnamed) hkP hinit
  obtain ⟨vm₁, X₁, hstep₁⟩ := X.invokestatic hexec hown hlink hnamed hmethM hstatic hkP hinitP hy (g := g) hg (argsL := argsL) (rest := rest) (hlen _ hsigM) hstack hdg
  rcases hK m meth c ⟨T.setVm vm₁, locs, cells, slots⟩ { g with stack := rest } (.invokestatic index) mk argsL.toArray X₁ hg hsize hdg hW (X₁.named hnamed) (hpre vm₁ X₁.warmed) with ⟨v, B, X', hpost, hsteps⟩ | ⟨q, B, X', hpost, hsteps⟩
  · exact Or.inl ⟨v, vm₁, B, X₁.warmed, X', hpost, fun target h => hstep₁ _ fun acts => by rw [doInvoke_state]; exact hsteps.trans h⟩
  · exact Or.inr ⟨q, vm₁, B, X₁.warmed, X', hpost, hstep₁ _ fun acts => by rw [doInvoke_state]; exact hsteps⟩
end Calls
theorem vx_cls {s : State} {T : State} {vm₁ : Vm} {E : String} {k : ClassId} (hW : s.WarmedH vm₁) (h : (T.setVm vm₁).vm.findClass E = some k) : s.vm.findClass E = some k := by
  have h1 : vm₁.findClass E = some k := h
  rw [hW.alike.findClass] at h1
  exact h1
/-- the method's frame g, with q thrown over it -/
def vx_W (p : Program) (l : Launch) (e : Env) (R : Room) (s : State) (m : MethodId) (args : Array Value) (below : List Frame) (meth : Method) (c : Code) (H : Heap) (locs : List Loc) (cells slots : Nat) (Q : State → Prop) (g : JFrame) (q : Addr) : Prop :=
  ∀ T : State, T.heap = H → Stand p l e R s m args below meth c T locs cells slots → ∃ t, Steps p.tables e below ((T.setTop g).pushFrame (.throwing q)) t ∧ Q t
def vx_Run (p : Program) (l : Launch) (e : Env) (R : Room) (s : State) (m : MethodId) (args : Array Value) (below : List Frame) (meth : Method) (c : Code) (H : Heap) (locs : List Loc) (cells slots mc ms : Nat) (g : JFrame) (rest : List Value) (Qa : State → Outcome → State → Prop) (XC : String → State → State → Prop) (free : Addr → Prop) : Prop :=
  ∀ T : State, T.heap = H → Stand p l e R s m args below meth c T locs cells slots →
    (∃ (v : Option Value) (st₀ t T' : State) (L : List Loc), st₀.heap = H ∧ Stand p l e R s m args below meth c T' (locs ++ L) (cells + mc) (slots + ms) ∧ (∀ q ∈ L, free q.base) ∧ T'.heap = t.heap ∧ T'.vm = t.vm ∧ Qa st₀ (.returned v) t ∧
      Goes p e below T g T' { g with pc := g.pc + 3, stack := v.toList ++ rest }) ∨
    (∃ (q : Addr) (st₀ t T' : State) (L : List Loc) (E : String) (ce : Cell), st₀.heap = H ∧ Stand p l e R s m args below meth c T' (locs ++ L) (cells + mc) (slots + ms) ∧ (∀ z ∈ L, free z.base) ∧ T'.heap = t.heap ∧ T'.vm = t.vm ∧ XC E st₀ t ∧ t.heap[q]? = some ce ∧ ce.vm = .none ∧ s.vm.findClass E = some ce.cls ∧
      Steps p.tables e below (T.setTop g) ((T'.setTop { g with stack := rest }).pushFrame (.throwing q)))
def vx_X {S : Type} (px : S → Prop) (B : String → S → State → Prop) (A : Nat → Prop) : String → State → State → Prop := fun E st t => ∃ u : S, px u ∧ B E u t ∧ va_F A st t
section Runs
variable {p : Program} {l : Launch} {e : Env} {R : Room} {s : State} {m : MethodId} {args : Array Value} {below : List Frame} {meth : Method} {c : Code} {H : Heap} {locs : List Loc} {cells slots : Nat}
variable {y : MethodName} {bytes cc : ByteArray} {maxL nL mc ms n index : Nat} {ret : Option FieldType} {ws : List Cond} {rm : Room} {Pc : Array Value → State → Prop} {Qc : Array Value → State → Outcome → State → Prop} {XC : String → State → State → Prop} {free : Addr → Prop} {Ts : List Cond} {own C : String} {b : Addr} {As rest : List Value} {g : JFrame}
theorem vx_callBack (cb : CallB R s args own index y bytes maxL ret ws rm mc ms n) (hM : vx_Met l y ws rm Pc Qc XC mc ms free) (hbl : FrameBlind Pc) : vx_Back l R p e below s args y 3 8 (PreOf R mc ms Pc) (PostOf Qc mc ms free) (vx_Post XC mc ms free) := by
  obtain ⟨hrc, hrs, hfr, hlo, hws, hcw, -, hini, -⟩ := cb
  exact vx_back (bytes := bytes) (maxL := maxL) (ret := ret) hM hbl hrc hrs hfr hlo hws hcw (fun a' U hW => word_at hW (Or.inl (by first | rfl | simp [Cond.onTables, Cond.keeps, Cond.steady])) hini)
theorem vx_runV (S : CallFix p m c cc nL s args Ts own) (hM : vx_Met l y ws rm Pc Qc XC mc ms free) (cw : CallW R s args own C index y bytes maxL ret ws rm mc ms n) (hp : PreV s H C b Pc As)
    (hg : g.method = m) (hn : As.length = n) (hsize : g.locals.size = nL) (hstack : g.stack = As.reverse ++ .ref b :: rest) (hW : 2 * g.monitorRoom + (rest.map fun v => v.category).sum ≤ 8) (hdg : decode cc g.pc = .ok (.invokevirtual index, 3)) (hf : cells + mc ≤ R.cells ∧ slots + ms ≤ R.slots) :
    vx_Run p l e R s m args below meth c H locs cells slots mc ms g rest (Qc (Value.ref b :: As).toArray) XC free := by
  have hK : vx_Back l R p e below s args y 3 8 (PreOf R mc ms Pc) (PostOf Qc mc ms free) (vx_Post XC mc ms free) := vx_callBack cw.1 hM hp.1
  obtain ⟨⟨-, -, -, -, -, -, hcode, -, hy, hlen, hl⟩, hin, hse⟩ := cw
  obtain ⟨hx, hb, hml, ho, -⟩ := S
  obtain ⟨-, ⟨cellB, hcB, hoB, hclB⟩, hPc⟩ := hp
  intro T hT X
  rcases vx_callV X hx (C := C) (bytes := bytes) (maxL := maxL) (ret := ret) ho hl hin hse hcode hy hK (by rw [hT]; exact hcB) hoB hclB hg (hsize.trans hml.symm) (argsL := As) (rest := rest) (fun sig h => hn.trans (hlen sig h)) hstack hW (by rw [hb]; exact hdg)
    (fun vm₁ hW₁ => ⟨hf.1, hf.2, hPc (T.setVm vm₁) hT hW₁⟩) with ⟨v, vm₁, ⟨U', l2, c2, s2⟩, hW₁, X', ⟨g', mk, t, L, e1, e2, hq, h1, hL, h2, h3⟩, st⟩ | ⟨q, vm₁, ⟨U', l2, c2, s2⟩, hW₁, X', ⟨g', mk, t, L, E, ce, e1, e2, hq, hce, hcv, hcl, h1, hL, h2, h3⟩, st⟩
  · dsimp only [Pt.U, Pt.locs, Pt.cells, Pt.slots] at X' e1 e2 h1 h2 h3 st
    subst h1; subst h2; subst h3
    exact Or.inl ⟨v, (T.setVm vm₁).calling g' mk (Value.ref b :: As).toArray, t, U', L, hT, X', hL, e1, e2, hq, st⟩
  · dsimp only [Pt.U, Pt.locs, Pt.cells, Pt.slots] at X' e1 e2 h1 h2 h3 st hcl
    subst h1; subst h2; subst h3
    exact Or.inr ⟨q, (T.setVm vm₁).calling g' mk (Value.ref b :: As).toArray, t, U', L, E, ce, hT, X', hL, e1, e2, hq, hce, hcv, vx_cls hW₁ hcl, st⟩
theorem vx_runS (S : CallFix p m c cc nL s args Ts own) (hM : vx_Met l y ws rm Pc Qc XC mc ms free) (cw : CallB R s args own index y bytes maxL ret ws rm mc ms n ∧ (Cond.static y).before args s = true) (hp : PreS s H Pc As)
    (hg : g.method = m) (hn : As.length = n) (hsize : g.locals.size = nL) (hstack : g.stack = As.reverse ++ rest) (hW : 2 * g.monitorRoom + (rest.map fun v => v.category).sum ≤ 8) (hdg : decode cc g.pc = .ok (.invokestatic index, 3)) (hf : cells + mc ≤ R.cells ∧ slots + ms ≤ R.slots) :
    vx_Run p l e R s m args below meth c H locs cells slots mc ms g rest (Qc As.toArray) XC free := by
  have hK : vx_Back l R p e below s args y 3 8 (PreOf R mc ms Pc) (PostOf Qc mc ms free) (vx_Post XC mc ms free) := vx_callBack cw.1 hM hp.1
  obtain ⟨⟨-, -, -, -, -, -, hcode, hini, hy, hlen, hl⟩, hstt⟩ := cw
  obtain ⟨hx, hb, hml, ho, -⟩ := S
  intro T hT X
  rcases vx_callS X hx (bytes := bytes) (maxL := maxL) (ret := ret) ho hl hstt hini hcode hy hK hg (hsize.trans hml.symm) (argsL := As) (rest := rest) (fun sig h => hn.trans (hlen sig h)) hstack hW (by rw [hb]; exact hdg)
    (fun vm₁ hW₁ => ⟨hf.1, hf.2, hp.2 (T.setVm vm₁) hT hW₁⟩) with ⟨v, vm₁, ⟨U', l2, c2, s2⟩, hW₁, X', ⟨g', mk, t, L, e1, e2, hq, h1, hL, h2, h3⟩, st⟩ | ⟨q, vm₁, ⟨U', l2, c2, s2⟩, hW₁, X', ⟨g', mk, t, L, E, ce, e1, e2, hq, hce, hcv, hcl, h1, hL, h2, h3⟩, st⟩
  · dsimp only [Pt.U, Pt.locs, Pt.cells, Pt.slots] at X' e1 e2 h1 h2 h3 st
    subst h1; subst h2; subst h3
    exact Or.inl ⟨v, (T.setVm vm₁).calling g' mk As.toArray, t, U', L, hT, X', hL, e1, e2, hq, st⟩
  · dsimp only [Pt.U, Pt.locs, Pt.cells, Pt.slots] at X' e1 e2 h1 h2 h3 st hcl
    subst h1; subst h2; subst h3
    exact Or.inr ⟨q, (T.setVm vm₁).calling g' mk As.toArray, t, U', L, E, ce, hT, X', hL, e1, e2, hq, hce, hcv, vx_cls hW₁ hcl, st⟩
end Runs
section Rows
variable {p : Program} {l : Launch} {e : Env} {R : Room} {s : State} {m : MethodId} {args : Array Value} {below : List Frame} {meth : Method} {c : Code} {H : Heap} {locs : List Loc} {cells slots : Nat} {Q : State → Prop}
variable {mc ms : Nat} {free : Addr → Prop} {A0 A1 : Nat → Prop} {H0 : Heap} {a : Array Value} {pc : Nat} {ls : Array Slot} {st0 rest : List Value}
theorem vx_keep {st₀ t T' : State} {L : List Loc} (h0 : st₀.heap = H) (e1 : T'.heap = t.heap) (hS : va_S A0 H0 H locs) (hA : ∀ q, q < H.size → A1 q → A0 q) (hf : ∀ q, free q → A0 q) (hL : ∀ q ∈ L, free q.base) (hF : va_F A1 st₀ t) :
    H.size ≤ T'.heap.size ∧ (∀ q : Nat, q < H.size → ¬ A1 q → T'.heap[q]? = H[q]?) ∧ va_S A0 H0 T'.heap (locs ++ L) := by
  obtain ⟨hz, hk⟩ := hF
  rw [h0] at hz hk
  exact ⟨by rw [e1]; exact hz, fun q h1 h2 => by rw [e1]; exact hk q h1 h2,
    ⟨Nat.le_trans hS.1 (by rw [e1]; exact hz), fun q h1 h2 => by rw [e1, hk q (Nat.lt_of_lt_of_le h1 hS.1) (fun z => h2 (hA q (Nat.lt_of_lt_of_le h1 hS.1) z))]; exact hS.2.1 q h1 h2, fun q hq => by
      rcases List.mem_append.mp hq with h | h
      · exact hS.2.2 q h
      · exact hf _ (hL q h)⟩⟩
theorem vx_calli {S SX : Type} {post : Int32 → S → Prop} {px : SX → Prop} {B : S → State → Prop} {BX : String → SX → State → Prop} {AX : Nat → Prop} (hr : vx_Run p l e R s m args below meth c H locs cells slots mc ms (F0 m pc ls st0) rest (va_Qi post B A1 a) (vx_X px BX AX) free) (hS : va_S A0 H0 H locs) (hA : ∀ q, q < H.size → A1 q → A0 q) (hf : ∀ q, free q → A0 q) (hAX : ∀ q, q < H.size → AX q → A0 q)
    (kx : ∀ (E : String) (ce : Cell) (q9 : Addr) (u : SX) (t : State) (H1 : Heap) (locs1 : List Loc), t.heap = H1 → s.vm.Alike t.vm → px u → BX E u t → H.size ≤ H1.size → (∀ q : Nat, q < H.size → ¬ AX q → H1[q]? = H[q]?) → va_S A0 H0 H1 locs1 → H1[q9]? = some ce → ce.vm = .none → s.vm.findClass E = some ce.cls → vx_W p l e R s m args below meth c H1 locs1 (cells + mc) (slots + ms) Q (F0 m pc ls rest) q9)
    (kk : ∀ (r : Int32) (u : S) (t : State) (H1 : Heap) (locs1 : List Loc), t.heap = H1 → s.vm.Alike t.vm → post r u → B u t → H.size ≤ H1.size → (∀ q : Nat, q < H.size → ¬ A1 q → H1[q]? = H[q]?) → va_S A0 H0 H1 locs1 → W p l e R s m args below meth c H1 locs1 (cells + mc) (slots + ms) Q (F0 m (pc + 3) ls (.int r :: rest))) : W p l e R s m args below meth c H locs cells slots Q (F0 m pc ls st0) := by
  intro T hT X
  rcases hr T hT X with ⟨v, st₀, t, T', L, h0, X', hL, e1, e2, ⟨⟨r, u, hv, hp, hb⟩, hF⟩, st⟩ | ⟨q, st₀, t, T', L, E, ce, h0, X', hL, e1, e2, ⟨u, hp, hb, hF⟩, hce, hcv, hcl, st⟩
  · cases hv
    obtain ⟨k1, k2, k3⟩ := vx_keep h0 e1 hS hA hf hL hF
    obtain ⟨t2, a1, b1⟩ := kk r u t T'.heap (locs ++ L) e1.symm (by rw [← e2]; exact X'.warmed.alike) hp hb k1 k2 k3 T' rfl X'
    exact ⟨t2, st t2 a1, b1⟩
  · obtain ⟨k1, k2, k3⟩ := vx_keep h0 e1 hS hAX hf hL hF
    obtain ⟨t2, a1, b1⟩ := kx E ce q u t T'.heap (locs ++ L) e1.symm (by rw [← e2]; exact X'.warmed.alike) hp hb k1 k2 k3 (by rw [e1]; exact hce) hcv hcl T' rfl X'
    exact ⟨t2, st.trans a1, b1⟩
theorem vx_calll {S SX : Type} {post : Int64 → S → Prop} {px : SX → Prop} {B : S → State → Prop} {BX : String → SX → State → Prop} {AX : Nat → Prop} (hr : vx_Run p l e R s m args below meth c H locs cells slots mc ms (F0 m pc ls st0) rest (va_Ql post B A1 a) (vx_X px BX AX) free) (hS : va_S A0 H0 H locs) (hA : ∀ q, q < H.size → A1 q → A0 q) (hf : ∀ q, free q → A0 q) (hAX : ∀ q, q < H.size → AX q → A0 q)
    (kx : ∀ (E : String) (ce : Cell) (q9 : Addr) (u : SX) (t : State) (H1 : Heap) (locs1 : List Loc), t.heap = H1 → s.vm.Alike t.vm → px u → BX E u t → H.size ≤ H1.size → (∀ q : Nat, q < H.size → ¬ AX q → H1[q]? = H[q]?) → va_S A0 H0 H1 locs1 → H1[q9]? = some ce → ce.vm = .none → s.vm.findClass E = some ce.cls → vx_W p l e R s m args below meth c H1 locs1 (cells + mc) (slots + ms) Q (F0 m pc ls rest) q9)
    (kk : ∀ (r : Int64) (u : S) (t : State) (H1 : Heap) (locs1 : List Loc), t.heap = H1 → s.vm.Alike t.vm → post r u → B u t → H.size ≤ H1.size → (∀ q : Nat, q < H.size → ¬ A1 q → H1[q]? = H[q]?) → va_S A0 H0 H1 locs1 → W p l e R s m args below meth c H1 locs1 (cells + mc) (slots + ms) Q (F0 m (pc + 3) ls (.long r :: rest))) : W p l e R s m args below meth c H locs cells slots Q (F0 m pc ls st0) := by
  intro T hT X
  rcases hr T hT X with ⟨v, st₀, t, T', L, h0, X', hL, e1, e2, ⟨⟨r, u, hv, hp, hb⟩, hF⟩, st⟩ | ⟨q, st₀, t, T', L, E, ce, h0, X', hL, e1, e2, ⟨u, hp, hb, hF⟩, hce, hcv, hcl, st⟩
  · cases hv
    obtain ⟨k1, k2, k3⟩ := vx_keep h0 e1 hS hA hf hL hF
    obtain ⟨t2, a1, b1⟩ := kk r u t T'.heap (locs ++ L) e1.symm (by rw [← e2]; exact X'.warmed.alike) hp hb k1 k2 k3 T' rfl X'
    exact ⟨t2, st t2 a1, b1⟩
  · obtain ⟨k1, k2, k3⟩ := vx_keep h0 e1 hS hAX hf hL hF
    obtain ⟨t2, a1, b1⟩ := kx E ce q u t T'.heap (locs ++ L) e1.symm (by rw [← e2]; exact X'.warmed.alike) hp hb k1 k2 k3 (by rw [e1]; exact hce) hcv hcl T' rfl X'
    exact ⟨t2, st.trans a1, b1⟩
theorem vx_callf {S SX : Type} {post : UInt32 → S → Prop} {px : SX → Prop} {B : S → State → Prop} {BX : String → SX → State → Prop} {AX : Nat → Prop} (hr : vx_Run p l e R s m args below meth c H locs cells slots mc ms (F0 m pc ls st0) rest (va_Qf post B A1 a) (vx_X px BX AX) free) (hS : va_S A0 H0 H locs) (hA : ∀ q, q < H.size → A1 q → A0 q) (hf : ∀ q, free q → A0 q) (hAX : ∀ q, q < H.size → AX q → A0 q)
    (kx : ∀ (E : String) (ce : Cell) (q9 : Addr) (u : SX) (t : State) (H1 : Heap) (locs1 : List Loc), t.heap = H1 → s.vm.Alike t.vm → px u → BX E u t → H.size ≤ H1.size → (∀ q : Nat, q < H.size → ¬ AX q → H1[q]? = H[q]?) → va_S A0 H0 H1 locs1 → H1[q9]? = some ce → ce.vm = .none → s.vm.findClass E = some ce.cls → vx_W p l e R s m args below meth c H1 locs1 (cells + mc) (slots + ms) Q (F0 m pc ls rest) q9)
    (kk : ∀ (r : UInt32) (u : S) (t : State) (H1 : Heap) (locs1 : List Loc), t.heap = H1 → s.vm.Alike t.vm → post r u → B u t → H.size ≤ H1.size → (∀ q : Nat, q < H.size → ¬ A1 q → H1[q]? = H[q]?) → va_S A0 H0 H1 locs1 → W p l e R s m args below meth c H1 locs1 (cells + mc) (slots + ms) Q (F0 m (pc + 3) ls (.float r :: rest))) : W p l e R s m args below meth c H locs cells slots Q (F0 m pc ls st0) := by
  intro T hT X
  rcases hr T hT X with ⟨v, st₀, t, T', L, h0, X', hL, e1, e2, ⟨⟨r, u, hv, hp, hb⟩, hF⟩, st⟩ | ⟨q, st₀, t, T', L, E, ce, h0, X', hL, e1, e2, ⟨u, hp, hb, hF⟩, hce, hcv, hcl, st⟩
  · cases hv
    obtain ⟨k1, k2, k3⟩ := vx_keep h0 e1 hS hA hf hL hF
    obtain ⟨t2, a1, b1⟩ := kk r u t T'.heap (locs ++ L) e1.symm (by rw [← e2]; exact X'.warmed.alike) hp hb k1 k2 k3 T' rfl X'
    exact ⟨t2, st t2 a1, b1⟩
  · obtain ⟨k1, k2, k3⟩ := vx_keep h0 e1 hS hAX hf hL hF
    obtain ⟨t2, a1, b1⟩ := kx E ce q u t T'.heap (locs ++ L) e1.symm (by rw [← e2]; exact X'.warmed.alike) hp hb k1 k2 k3 (by rw [e1]; exact hce) hcv hcl T' rfl X'
    exact ⟨t2, st.trans a1, b1⟩
theorem vx_calld {S SX : Type} {post : UInt64 → S → Prop} {px : SX → Prop} {B : S → State → Prop} {BX : String → SX → State → Prop} {AX : Nat → Prop} (hr : vx_Run p l e R s m args below meth c H locs cells slots mc ms (F0 m pc ls st0) rest (va_Qd post B A1 a) (vx_X px BX AX) free) (hS : va_S A0 H0 H locs) (hA : ∀ q, q < H.size → A1 q → A0 q) (hf : ∀ q, free q → A0 q) (hAX : ∀ q, q < H.size → AX q → A0 q)
    (kx : ∀ (E : String) (ce : Cell) (q9 : Addr) (u : SX) (t : State) (H1 : Heap) (locs1 : List Loc), t.heap = H1 → s.vm.Alike t.vm → px u → BX E u t → H.size ≤ H1.size → (∀ q : Nat, q < H.size → ¬ AX q → H1[q]? = H[q]?) → va_S A0 H0 H1 locs1 → H1[q9]? = some ce → ce.vm = .none → s.vm.findClass E = some ce.cls → vx_W p l e R s m args below meth c H1 locs1 (cells + mc) (slots + ms) Q (F0 m pc ls rest) q9)
    (kk : ∀ (r : UInt64) (u : S) (t : State) (H1 : Heap) (locs1 : List Loc), t.heap = H1 → s.vm.Alike t.vm → post r u → B u t → H.size ≤ H1.size → (∀ q : Nat, q < H.size → ¬ A1 q → H1[q]? = H[q]?) → va_S A0 H0 H1 locs1 → W p l e R s m args below meth c H1 locs1 (cells + mc) (slots + ms) Q (F0 m (pc + 3) ls (.double r :: rest))) : W p l e R s m args below meth c H locs cells slots Q (F0 m pc ls st0) := by
  intro T hT X
  rcases hr T hT X with ⟨v, st₀, t, T', L, h0, X', hL, e1, e2, ⟨⟨r, u, hv, hp, hb⟩, hF⟩, st⟩ | ⟨q, st₀, t, T', L, E, ce, h0, X', hL, e1, e2, ⟨u, hp, hb, hF⟩, hce, hcv, hcl, st⟩
  · cases hv
    obtain ⟨k1, k2, k3⟩ := vx_keep h0 e1 hS hA hf hL hF
    obtain ⟨t2, a1, b1⟩ := kk r u t T'.heap (locs ++ L) e1.symm (by rw [← e2]; exact X'.warmed.alike) hp hb k1 k2 k3 T' rfl X'
    exact ⟨t2, st t2 a1, b1⟩
  · obtain ⟨k1, k2, k3⟩ := vx_keep h0 e1 hS hAX hf hL hF
    obtain ⟨t2, a1, b1⟩ := kx E ce q u t T'.heap (locs ++ L) e1.symm (by rw [← e2]; exact X'.warmed.alike) hp hb k1 k2 k3 (by rw [e1]; exact hce) hcv hcl T' rfl X'
    exact ⟨t2, st.trans a1, b1⟩
theorem vx_callv {S SX : Type} {post : S → Prop} {px : SX → Prop} {B : S → State → Prop} {BX : String → SX → State → Prop} {AX : Nat → Prop} (hr : vx_Run p l e R s m args below meth c H locs cells slots mc ms (F0 m pc ls st0) rest (va_Qv post B A1 a) (vx_X px BX AX) free) (hS : va_S A0 H0 H locs) (hA : ∀ q, q < H.size → A1 q → A0 q) (hf : ∀ q, free q → A0 q) (hAX : ∀ q, q < H.size → AX q → A0 q)
    (kx : ∀ (E : String) (ce : Cell) (q9 : Addr) (u : SX) (t : State) (H1 : Heap) (locs1 : List Loc), t.heap = H1 → s.vm.Alike t.vm → px u → BX E u t → H.size ≤ H1.size → (∀ q : Nat, q < H.size → ¬ AX q → H1[q]? = H[q]?) → va_S A0 H0 H1 locs1 → H1[q9]? = some ce → ce.vm = .none → s.vm.findClass E = some ce.cls → vx_W p l e R s m args below meth c H1 locs1 (cells + mc) (slots + ms) Q (F0 m pc ls rest) q9)
    (kk : ∀ (u : S) (t : State) (H1 : Heap) (locs1 : List Loc), t.heap = H1 → s.vm.Alike t.vm → post u → B u t → H.size ≤ H1.size → (∀ q : Nat, q < H.size → ¬ A1 q → H1[q]? = H[q]?) → va_S A0 H0 H1 locs1 → W p l e R s m args below meth c H1 locs1 (cells + mc) (slots + ms) Q (F0 m (pc + 3) ls (rest))) : W p l e R s m args below meth c H locs cells slots Q (F0 m pc ls st0) := by
  intro T hT X
  rcases hr T hT X with ⟨v, st₀, t, T', L, h0, X', hL, e1, e2, ⟨⟨u, hv, hp, hb⟩, hF⟩, st⟩ | ⟨q, st₀, t, T', L, E, ce, h0, X', hL, e1, e2, ⟨u, hp, hb, hF⟩, hce, hcv, hcl, st⟩
  · cases hv
    obtain ⟨k1, k2, k3⟩ := vx_keep h0 e1 hS hA hf hL hF
    obtain ⟨t2, a1, b1⟩ := kk u t T'.heap (locs ++ L) e1.symm (by rw [← e2]; exact X'.warmed.alike) hp hb k1 k2 k3 T' rfl X'
    exact ⟨t2, st t2 a1, b1⟩
  · obtain ⟨k1, k2, k3⟩ := vx_keep h0 e1 hS hAX hf hL hF
    obtain ⟨t2, a1, b1⟩ := kx E ce q u t T'.heap (locs ++ L) e1.symm (by rw [← e2]; exact X'.warmed.alike) hp hb k1 k2 k3 (by rw [e1]; exact hce) hcv hcl T' rfl X'
    exact ⟨t2, st.trans a1, b1⟩
/-- caught by the row x of this method's table; the rows ahead don't take it -/
theorem vx_catch {own name : String} {E : String} {ce : Cell} {q : Addr} (hown : s.vm.findClass own = some m.cls) (pre : List ExceptionTableEntry) (x : ExceptionTableEntry) (suf : List ExceptionTableEntry) (hsplit : c.exceptionTable.toList = pre ++ x :: suf)
    (hpass : ∀ z ∈ pre, covers z pc = false ∨ (z.catchType ≠ 0 ∧ ∃ nm : String, (Cond.classLink own z.catchType nm).before args s = true ∧ va_Nc E nm s)) (hx : covers x pc = true) (h0 : x.catchType ≠ 0)
    (hlink : (Cond.classLink own x.catchType name).before args s = true) (hcast : (Cond.castable E name).before args s = true) (hcell : H[q]? = some ce) (hv : ce.vm = .none) (hcl : s.vm.findClass E = some ce.cls)
    (kk : W p l e R s m args below meth c H locs cells slots Q (F0 m x.handlerPc ls [.ref q])) : vx_W p l e R s m args below meth c H locs cells slots Q (F0 m pc ls rest) q := by
  intro T hT X
  have hpl : e.platform.magicAccessors = ({} : Platform).magicAccessors := by rw [X.admits.platform]
  obtain ⟨c3, c4, hc3, hc4, hasg⟩ := Cond.castable_spec hcast
  cases Option.some.inj (hc3.symm.trans hcl)
  obtain ⟨c5, hc5, hcl5⟩ := Cond.classLink_spec hown hlink e.platform hpl
  cases Option.some.inj (hc4.symm.trans hc5)
  obtain ⟨vm', X', st⟩ := X.thenCaughtThrough q (g := F0 m pc ls rest) rfl (Steps.refl _) (by rw [hT]; exact hcell) (by rw [hv]; rfl) (by obtain ⟨k9, h9, -⟩ := Vm.findClass_spec hcl; exact ⟨k9, h9⟩) pre x suf hsplit
    (fun z hz => by
      rcases hpass z hz with h | ⟨hz0, nm, hl1, hn1⟩
      · exact Or.inl h
      · obtain ⟨c6, hc6, hcl6⟩ := Cond.classLink_spec hown hl1 e.platform hpl
        obtain ⟨a8, b8, h1, h2, h3⟩ := hn1
        cases Option.some.inj (h1.symm.trans hcl)
        cases Option.some.inj (h2.symm.trans hc6)
        exact Or.inr ⟨hz0, _, hcl6, h3⟩) hx (Or.inr ⟨h0, c4, hcl5, hasg⟩)
  obtain ⟨t, a1, b1⟩ := kk (T.setVm vm') hT X'
  exact ⟨t, st.trans a1, b1⟩
end Rows
section Ends
variable {p : Program} {l : Launch} {e : Env} {R : Room} {s : State} {m : MethodId} {args : Array Value} {below : List Frame} {meth : Method} {c : Code} {H : Heap} {locs : List Loc} {cells slots : Nat} {Q : State → Prop}
variable {mc ms : Nat} {free : Addr → Prop} {A0 A1 : Nat → Prop} {H0 : Heap} {a : Array Value} {ls : Array Slot} {st0 rest : List Value}
variable {Qc : Array Value → State → Outcome → State → Prop} {XC : String → State → State → Prop}
/-- what a body that may throw owes at its end -/
def vx_MQ (below : List Frame) (Qc : Array Value → State → Outcome → State → Prop) (XC : String → State → State → Prop) (a : Array Value) (s : State) (mc ms : Nat) (free : Addr → Prop) : State → Prop := fun t =>
  ∃ o, t.status = .running ∧ Ended t below o ∧ vx_Q Qc XC mc ms free a s o t
theorem vx_ret {g : JFrame} {mc ms : Nat} (k : W p l e R s m args below meth c H locs cells slots (MQ below Qc args s mc ms free) g) : W p l e R s m args below meth c H locs cells slots (vx_MQ below Qc XC args s mc ms free) g := by
  intro T hT X
  obtain ⟨t, a1, o, b1, b2, b3, b4⟩ := k T hT X
  exact ⟨t, a1, o, b1, b2, Or.inl ⟨b3, b4⟩⟩
/-- not caught here: it goes on to the caller -/
theorem vx_widen {g : JFrame} {q : Addr} {k n : Nat} (h1 : cells ≤ k) (h2 : slots ≤ n) (kk : vx_W p l e R s m args below meth c H locs k n Q g q) : vx_W p l e R s m args below meth c H locs cells slots Q g q := fun T hT X => kk T hT (stand_widen X h1 h2)
theorem vx_out {pc : Nat} {E : String} {ce : Cell} {q : Addr} {mc ms : Nat} (hout : ∀ x ∈ c.exceptionTable.toList, covers x pc = false) (hlocks : meth.locks = false) (hcell : H[q]? = some ce) (hv : ce.vm = .none) (hcl : s.vm.findClass E = some ce.cls)
    (hx : ∀ t : State, t.heap = H → s.vm.Alike t.vm → XC E s t) (hf : ∀ z ∈ locs, free z.base) (hc : cells ≤ mc) (hs : slots ≤ ms) :
    vx_W p l e R s m args below meth c H locs cells slots (vx_MQ below Qc XC args s mc ms free) (F0 m pc ls rest) q := by
  intro T hT X
  obtain ⟨st1, hrun, hend, hW, hsm⟩ := X.leaveThrown q (g := F0 m pc ls rest) rfl rfl rfl hout hlocks
  have hcell9 : (T.setFrames (.throwing q :: below)).heap[q]? = some ce := by
    show T.heap[q]? = some ce
    rw [hT]; exact hcell
  exact ⟨_, st1, .threw q, hrun, hend, Or.inr ⟨q, rfl, E, ce, locs, hx _ hT hW.alike, hcell9, hv, hcl, hW, hsm.mono hc hs, hf⟩⟩
theorem vx_frame {U : State} {k n : Nat} (h : s.sameButNew ({ U with vm := s.vm } : State) locs k n) : s.heap.size ≤ U.heap.size ∧ ∀ q : Nat, q < s.heap.size → (∀ z ∈ locs, z.base ≠ q) → U.heap[q]? = s.heap[q]? := by
  obtain ⟨-, h2, -, -, -, h6⟩ := h
  refine ⟨h2, fun q hq hz => ?_⟩
  obtain ⟨c9, e1, e2, e3, e4⟩ := h6 q _ (Array.getElem?_eq_getElem hq)
  have hs : c9.slots = (s.heap[q]).slots := Array.ext_getElem? fun i => e4 i fun hm => hz _ hm rfl
  have h9 : c9 = s.heap[q] := by
    rw [hs] at e2
    exact e2
  have e5 : U.heap[q]? = some c9 := e1
  rw [e5, h9, Array.getElem?_eq_getElem hq]
/-- the words of a throw but the four that speak of the heap -/
def vx_no (w : Cond) : Bool := decide (w ≠ .isRef (.static Bundle.tN "UNASSIGNED_STACK" Bundle.steD)) && decide (w ≠ .isRef (.static Bundle.tN "SUPPRESSED_SENTINEL" Bundle.listD)) && decide (w ≠ .laysStatic Bundle.tN "UNASSIGNED_STACK" Bundle.steD) && decide (w ≠ .laysStatic Bundle.tN "SUPPRESSED_SENTINEL" Bundle.listD)
def vx_at0 (own : String) (ic : Nat) (X : String) (names : List String) : List Cond := (Bundle.ownAtoms0 own ic X names).filter vx_no
def vx_atS (own : String) (ic : Nat) (X : String) (names : List String) : List Cond := (Bundle.ownAtoms own ic X names).filter vx_no
/-- a word that the tables alone decide, or a good one -/
def vx_ot (w : Cond) : Bool := w.onTables || goodWord w
theorem vx_ot_at {args a' : Array Value} {s U : State} {w : Cond} (hW : s.WarmedH U.vm) (hvm : s.vm = U.vm) (hg : vx_ot w = true) (h : w.before args s = true) : w.before a' U = true := by
  simp only [vx_ot, Bool.or_eq_true] at hg
  rcases hg with hg | hg
  · exact va_tabs hg hvm h
  · exact word_at hW (good_of_word hg) h
/-- a list's words: the good ones out of the method's own list, the others by premises of their own -/
theorem vx_hat {args : Array Value} {s : State} {L B : List Cond} (h1 : ∀ w ∈ L.filter goodWord, w.before args s = true) (h2 : ∀ w ∈ L.filter (fun w => !goodWord w), w ∈ B) (h3 : ∀ w ∈ B, w.before args s = true) : ∀ w ∈ L, w.before args s = true := by
  intro w hw
  by_cases g : goodWord w = true
  · exact h1 w (List.mem_filter.mpr ⟨hw, g⟩)
  · refine h3 w (h2 w (List.mem_filter.mpr ⟨hw, ?_⟩))
    show (!goodWord w) = true
    cases hgw : goodWord w
    · rfl
    · exact absurd hgw g
theorem vx_c {args : Array Value} {s : State} {w : Cond} {B : List Cond} (h : w.before args s = true) (t : ∀ w ∈ B, w.before args s = true) : ∀ w' ∈ w :: B, w'.before args s = true := fun w' h' => (List.mem_cons.mp h').elim (fun e => by rw [e]; exact h) (t w')
theorem vx_n {args : Array Value} {s : State} : ∀ w ∈ ([] : List Cond), w.before args s = true := fun _ h => nomatch h
theorem vx_own {args : Array Value} {s : State} {L : List Cond} (h1 : ∀ w ∈ L.filter vx_no, w.before args s = true)
    (hU : (Cond.isRef (.static Bundle.tN "UNASSIGNED_STACK" Bundle.steD)).before args s = true) (hN : (Cond.isRef (.static Bundle.tN "SUPPRESSED_SENTINEL" Bundle.listD)).before args s = true)
    (lU : (Cond.laysStatic Bundle.tN "UNASSIGNED_STACK" Bundle.steD).before args s = true) (lN : (Cond.laysStatic Bundle.tN "SUPPRESSED_SENTINEL" Bundle.listD).before args s = true) : ∀ w ∈ L, w.before args s = true := by
  intro w hw
  by_cases e1 : w = .isRef (.static Bundle.tN "UNASSIGNED_STACK" Bundle.steD)
  · rw [e1]; exact hU
  · by_cases e2 : w = .isRef (.static Bundle.tN "SUPPRESSED_SENTINEL" Bundle.listD)
    · rw [e2]; exact hN
    · by_cases e3 : w = .laysStatic Bundle.tN "UNASSIGNED_STACK" Bundle.steD
      · rw [e3]; exact lU
      · by_cases e4 : w = .laysStatic Bundle.tN "SUPPRESSED_SENTINEL" Bundle.listD
        · rw [e4]; exact lN
        · exact h1 w (List.mem_filter.mpr ⟨hw, by unfold vx_no; rw [decide_eq_true e1, decide_eq_true e2, decide_eq_true e3, decide_eq_true e4]; rfl⟩)
/-- where a static field lies, its class's statics cell in H -/
def vx_L (C n d : String) (A : Nat → Prop) (U : State) (H : Heap) : Prop := ∃ (c : ClassId) (k : Class) (i : Nat) (f : Field) (a : Nat) (cell : Cell), U.vm.findClass C = some c ∧ U.fieldFound? C n d = some (c, k, i, f) ∧ f.isStatic = true ∧ k.statics = some a ∧ H[a]? = some cell ∧ cell.vm.isStatics = true ∧ cell.cls = c ∧ f.slot < cell.slots.size ∧ k.staticTypes[f.slot]? = some f.type ∧ ¬ A a
theorem vx_L.moved {C n d : String} {A : Nat → Prop} {u U : State} {H : Heap} (hvm : u.vm.Alike U.vm) (h : vx_L C n d A u H) : vx_L C n d A U H := by
  obtain ⟨c, k, i, f, a, cell, h1, h2, h3, h4, h5, h6, h7, h8, h9, h10⟩ := h
  obtain ⟨k', hi', he⟩ := State.fieldFound?_setVm hvm h2
  exact ⟨c, k', i, f, a, cell, by rw [hvm.findClass]; exact h1, hi', h3, by rw [he]; exact h4, h5, h6, h7, h8, by rw [he]; exact h9, h10⟩
theorem vx_L.kept {C n d : String} {A : Nat → Prop} {U : State} {H H1 : Heap} (h : vx_L C n d A U H) (hq : ∀ a : Nat, a < H.size → ¬ A a → H1[a]? = H[a]?) : vx_L C n d A U H1 := by
  obtain ⟨c, k, i, f, a, cell, h1, h2, h3, h4, h5, h6, h7, h8, h9, h10⟩ := h
  exact ⟨c, k, i, f, a, cell, h1, h2, h3, h4, by rw [hq a (Array.getElem?_eq_some_iff.mp h5).1 h10]; exact h5, h6, h7, h8, h9, h10⟩
theorem vx_L.narrow {C n d : String} {A B : Nat → Prop} {U : State} {H : Heap} (h : vx_L C n d A U H) (hAB : ∀ q, B q → A q) : vx_L C n d B U H := by
  obtain ⟨c, k, i, f, a, cell, h1, h2, h3, h4, h5, h6, h7, h8, h9, h10⟩ := h
  exact ⟨c, k, i, f, a, cell, h1, h2, h3, h4, h5, h6, h7, h8, h9, fun z => h10 (hAB _ z)⟩
theorem vx_L.word {C n d : String} {A : Nat → Prop} {s : State} {args : Array Value} (h : vx_L C n d A s s.heap) : (Cond.laysStatic C n d).before args s = true := by
  obtain ⟨c, k, i, f, a, cell, h1, h2, h3, h4, h5, h6, h7, h8, h9, -⟩ := h
  show (Cond.laysStatic C n d).holds args s none s [] = true
  exact Cond.laysStatic_of h1 h2 h3 h4 h5 h6 h7 h8 h9
/-- .. and what it holds: null or some reference -/
def vx_Zq (C n d : String) (A : Nat → Prop) (U : State) (H : Heap) : Prop := va_Zq C n d A U H ∧ vx_L C n d A U H
theorem vx_Zq.moved {C n d : String} {A : Nat → Prop} {u U : State} {H : Heap} (hvm : u.vm.Alike U.vm) (h : vx_Zq C n d A u H) : vx_Zq C n d A U H := ⟨va_Zq.moved hvm h.1, vx_L.moved hvm h.2⟩
theorem vx_Zq.kept {C n d : String} {A : Nat → Prop} {U : State} {H H1 : Heap} (h : vx_Zq C n d A U H) (hq : ∀ a : Nat, a < H.size → ¬ A a → H1[a]? = H[a]?) : vx_Zq C n d A U H1 := ⟨va_Zq.kept h.1 hq, vx_L.kept h.2 hq⟩
theorem vx_Zq.narrow {C n d : String} {A B : Nat → Prop} {U : State} {H : Heap} (h : vx_Zq C n d A U H) (hAB : ∀ q, B q → A q) : vx_Zq C n d B U H := ⟨va_Zq.narrow h.1 hAB, vx_L.narrow h.2 hAB⟩
theorem vx_Zqof {args : Array Value} {s : State} {C n d : String} {A : Nat → Prop} (hl : (Cond.laysStatic C n d).before args s = true) (hini : (Cond.initialized C).before args s = true) (h : (Cond.isRef (.static C n d)).before args s = true) (hA : ∀ a : Nat, a < s.heap.size → ¬ A a) : vx_Zq C n d A s s.heap := by
  refine ⟨va_Zqof hl hini h hA, ?_⟩
  obtain ⟨c, k, i, f, a, cell, h1, h2, h3, h4, h5, h6, h7, h8, h9⟩ := Cond.laysStatic_spec hl
  exact ⟨c, k, i, f, a, cell, h1, h2, h3, h4, h5, h6, h7, h8, h9, hA a (Array.getElem?_eq_some_iff.mp h5).1⟩
theorem vx_isRef {C n d : String} {v : Value} {A : Nat → Prop} {s : State} {args : Array Value} (h : va_Z C n d v A s s.heap) (hv : v.isRef = true) : (Cond.isRef (.static C n d)).before args s = true := by
  obtain ⟨cf, kf, fi, f, a, cell, h1, h2, h3, h4, h5, h6, h7, -⟩ := h
  have he : (Term.static C n d).eval args s none [] s = some v := by
    simp [Term.eval, State.fieldNamed?, h1, h2, h4, h5, h6, h7]
  simp only [Cond.before, Cond.holds, Cond.value, he]
  cases v <;> simp_all [Value.isRef]
theorem vx_isRefq {C n d : String} {A : Nat → Prop} {s : State} {args : Array Value} (h : va_Zq C n d A s s.heap) : (Cond.isRef (.static C n d)).before args s = true := by
  rcases h with h | ⟨t, h⟩
  · exact vx_isRef h rfl
  · exact vx_isRef h rfl
/-- the same frame, seen from here: as if the method were called anew in this heap -/
theorem vx_rebase {T : State} (X : Stand p l e R s m args below meth c T locs cells slots) {R' : Room} (hf : R'.frames ≤ R.frames) (hl : R'.locals ≤ R.locals) (hc : cells + R'.cells ≤ R.cells) (hs : slots + R'.slots ≤ R.slots) :
    Stand p l e R' ((T.setVm s.vm).setFrames (.invoking m args :: below)) m args below meth c T [] 0 0 := by
  have htop : (T.setVm s.vm).topJava?.isSome := X.here.top
  have hF : ((T.setVm s.vm).setFrames (.invoking m args :: below)).frames = .invoking m args :: below := State.frames_setFrames _ (State.cur_lt_of_top htop)
  obtain ⟨g₀, hg0⟩ := Option.isSome_iff_exists.mp htop
  obtain ⟨r, hr⟩ := State.topJava?_eq_some.mp hg0
  have hl9 : e.platform.stackLimits (T.setVm s.vm).me = e.platform.stackLimits s.me := X.limits
  have hb9 : (T.setVm s.vm).me.stackBytes = s.me.stackBytes := X.bytes
  refine ⟨X.admits, X.cas, X.clock, hF, ?_, X.hears, X.method, X.code, X.here, X.tail, X.warmed, ?_, ?_, ?_⟩
  · have h := X.room
    have hU : ((T.setVm s.vm).setFrames (.invoking m args :: below)).localsInUse = s.localsInUse := by
      rw [State.localsInUse_invoking hF (meth := meth) (c := c) X.method X.code, State.localsInUse_invoking X.frames X.method X.code]
    simp only [State.hasRoom, Bool.and_eq_true, decide_eq_true_eq] at h ⊢
    obtain ⟨⟨⟨⟨h1, h2, h3, h4, h5, h6⟩, h7⟩, h8⟩, h9⟩ := h
    rw [X.frames, List.length_cons] at h2 h3
    have q1 := X.heapSize
    have q2 := X.used
    simp only [hF, hU, List.length_cons, State.stackLimits_setFrames, State.stackBytes_setFrames, hl9, hb9]
    refine ⟨⟨⟨⟨by omega, by omega, by omega, by omega, by omega, h6⟩, ?_⟩, ?_⟩, X.book⟩
    · show T.heap.size + R'.cells ≤ e.platform.maxCells
      omega
    · show T.slotsUsed + R'.slots ≤ e.platform.maxSlots
      omega
  · rw [State.stackLimits_setFrames]; rfl
  · rw [State.stackBytes_setFrames]; rfl
  · refine ⟨?_, Nat.le_refl _, Nat.le_refl _, ?_, ?_, fun a c9 h9 => ⟨c9, h9, rfl, rfl, fun _ _ => rfl⟩⟩
    · obtain ⟨t, ht, -⟩ := State.frames_cons hr
      show T.setVm s.vm = { ((T.setVm s.vm).setFrames (.invoking m args :: below)).setFrames (T.setVm s.vm).frames with heap := T.heap, slotsUsed := T.slotsUsed }
      rw [State.setFrames_setFrames, State.setFrames_self ht]
      rfl
    · show T.slotsUsed = T.slotsUsed + ((T.heap.toList.drop T.heap.size).map (·.slots.size)).sum
      rw [List.drop_eq_nil_of_le (Nat.le_of_eq Array.length_toList)]
      rfl
    · show ((T.heap.toList.drop T.heap.size).map (·.slots.size)).sum ≤ 0
      rw [List.drop_eq_nil_of_le (Nat.le_of_eq Array.length_toList)]
      exact Nat.le_refl _
/-- 'throw new E()': new; dup; invokespecial; athrow -/
theorem vx_throw0 {cc : ByteArray} {pc : Nat} (hexec : p.tables.exec = Jvm.exec) (hb : c.code = cc) (hl : l.stackTraces = false) {own cls : String} {names : List String} {ik ic mc ms : Nat} {A : Nat → Prop}
    (hown : s.vm.findClass own = some m.cls) (hcls : Bundle.fit cls = true) (hnames : ∀ n ∈ names, Bundle.fit n = true)
    (hk : (Cond.classLink own ik cls).before args s = true) (hini : (Cond.initialized cls).before args s = true) (hat : ∀ w ∈ vx_at0 own ic cls names, w.before args s = true)
    (hgood : ∀ w ∈ Cond.classLink own ik cls :: Cond.initialized cls :: vx_at0 own ic cls names, vx_ot w = true)
    (hU : vx_Zq Bundle.tN "UNASSIGNED_STACK" Bundle.steD A s s.heap) (hN : vx_Zq Bundle.tN "SUPPRESSED_SENTINEL" Bundle.listD A s s.heap) (hS : va_S A s.heap H locs) (hsize : ls.size = c.maxLocals)
    (d0 : decode cc pc = .ok (.new ik, 3)) (d3 : decode cc (pc + 3) = .ok (.dup, 1)) (d4 : decode cc (pc + 4) = .ok (.invokespecial ic, 3)) (d7 : decode cc (pc + 7) = .ok (.athrow, 1))
    (hout : ∀ x ∈ c.exceptionTable.toList, covers x (pc + 7) = false)
    (hRframes : names.length + 3 < R.frames) (hRlocals : (rest.map fun v => v.category).sum + (13 * (names.length + 1) + 42) ≤ R.locals) (hRcells : cells + 1 ≤ R.cells) (hRslots : slots + 6 ≤ R.slots) (hlocks : meth.locks = false)
    (hx : ∀ t : State, s.vm.Alike t.vm → H.size ≤ t.heap.size → (∀ q : Nat, q < H.size → t.heap[q]? = H[q]?) → XC cls s t)
    (hf : ∀ z ∈ locs, free z.base) (hc : cells + 1 ≤ mc) (hs : slots + 6 ≤ ms) :
    W p l e R s m args below meth c H locs cells slots (vx_MQ below Qc XC args s mc ms free) (F0 m pc ls rest) := by
  intro T hT X
  have htr : e.platform.stackTraces = false := (show e.platform.stackTraces = l.stackTraces by rw [X.admits.platform]).trans hl
  have Y := vx_rebase X (R' := { frames := R.frames, locals := R.locals, cells := 1, slots := 6 }) (Nat.le_refl _) (Nat.le_refl _) hRcells hRslots
  obtain ⟨s', hA⟩ : ∃ z, z = (T.setVm s.vm).setFrames (.invoking m args :: below) := ⟨_, rfl⟩
  rw [← hA] at Y
  have hvm : s'.vm = s.vm := by rw [hA]; rfl
  have hhp : s'.heap = H := by rw [hA]; exact hT
  have hW0 : s.WarmedH s'.vm := by rw [hvm]; exact State.WarmedH.refl s
  have hat' : ∀ w ∈ vx_at0 own ic cls names, w.before args s' = true := fun w hw => vx_ot_at hW0 hvm.symm (hgood w (List.mem_cons_of_mem _ (List.mem_cons_of_mem _ hw))) (hat w hw)
  have hk' : (Cond.classLink own ik cls).before args s' = true := vx_ot_at hW0 hvm.symm (hgood _ List.mem_cons_self) hk
  have hini' : (Cond.initialized cls).before args s' = true := vx_ot_at hW0 hvm.symm (hgood _ (List.mem_cons_of_mem _ List.mem_cons_self)) hini
  have hU' : vx_Zq Bundle.tN "UNASSIGNED_STACK" Bundle.steD A s' s'.heap := by rw [hhp]; exact vx_Zq.moved hW0.alike (hU.kept hS.2.1)
  have hN' : vx_Zq Bundle.tN "SUPPRESSED_SENTINEL" Bundle.listD A s' s'.heap := by rw [hhp]; exact vx_Zq.moved hW0.alike (hN.kept hS.2.1)
  have h : ∀ w ∈ Bundle.ownAtoms0 own ic cls names, w.before args s' = true := vx_own hat' (vx_isRefq hU'.1) (vx_isRefq hN'.1) hU'.2.word hN'.2.word
  have hown' : s'.vm.findClass own = some m.cls := by rw [hvm]; exact hown
  have hins : (Cond.instantiable cls 6).before args s' = true := h _ (by simp [Bundle.ownAtoms0])
  obtain ⟨vm₁, cX, kX, hfX, hkX, -, -, X₁, st1⟩ := Y.newCold hexec (own := own) (C := cls) (index := ik) (n := 6) hown' hk' hins hini'
    (g := F0 m pc ls rest) rfl (by rw [hb]; exact d0) (Nat.le_refl _) (Nat.le_refl _)
  generalize hT1 : (T.setVm vm₁).pushCell { cls := cX, slots := kX.instanceTypes.map defaultValue, vm := .none } = T1 at X₁ st1
  have hcat : (Value.ref T.heap.size).category = 1 := rfl
  have hcellA : T1.heap[T.heap.size]? = some (freshCell cX kX) := by rw [← hT1]; exact State.heap_pushCell_size _ _
  have d3' : decode c.code (pc + 3) = .ok (.dup, 1) := by rw [hb]; exact d3
  obtain ⟨U, hsteps, hrun, hend, hW, hsame, ce, hce, hO⟩ := X₁.ctorThrow0 hexec htr (own := own) (cls := cls) (names := names) (ic := ic) hown' hcls hnames h (fun x hx => nomatch hx) hfX hkX hcellA (by rw [hhp, hT]; exact Nat.le_refl _)
    (g := { method := m, pc := pc + 4, locals := ls, stack := .ref T.heap.size :: .ref T.heap.size :: rest, locked := none }) rfl hsize rfl rfl (rest := rest) rfl
    (by rw [hb]; exact d4) (by rw [hb]; exact d7) hout hRframes (by simp only [List.map_cons, List.sum_cons, hcat]; omega) hlocks
  obtain ⟨f1, f2⟩ := vx_frame hsame
  rw [hhp] at f1 f2
  have hWs : s.WarmedH U.vm := State.WarmedH.trans hW0 hW
  have hcl : s.vm.findClass cls = some ce.cls := by
    have h9 := hO.cls
    rw [hvm] at h9
    exact h9
  have hall : s.sameButNew ({ U with vm := s.vm } : State) locs mc ms := by
    subst hA
    obtain ⟨e1, e2⟩ := hsame
    rw [State.setFrames_setFrames] at e1
    have h2 : (T.setVm s.vm).sameButNew ({ U with vm := s.vm } : State) [] (0 + 1) (0 + 6) := ⟨e1, e2⟩
    have h3 := X.same.trans h2
    rw [List.append_nil] at h3
    exact h3.mono hc hs
  refine ⟨U, ?_, .threw T.heap.size, hrun, hend, Or.inr ⟨T.heap.size, rfl, cls, ce, locs, hx U hWs.alike f1 (fun q hq => f2 q hq (fun z hz => nomatch hz)), hce, hO.vm, hcl, hWs, hall, hf⟩⟩
  refine st1 _ ?_
  show Steps p.tables e below (T1.setTop { method := m, pc := pc + 3, locals := ls, stack := .ref T.heap.size :: rest, locked := none }) _
  jvm_step X₁.here [X₁.here.top, hexec, d3', Value.category]
  exact hsteps
/-- 'throw new E("text")': new; dup; ldc; invokespecial; athrow -/
theorem vx_throwS {cc : ByteArray} {pc : Nat} (hexec : p.tables.exec = Jvm.exec) (hb : c.code = cc) (hl : l.stackTraces = false) {own cls text : String} {names : List String} {ik is ic mc ms sa : Nat} {A : Nat → Prop}
    (hown : s.vm.findClass own = some m.cls) (hcls : Bundle.fit cls = true) (hnames : ∀ n ∈ names, Bundle.fit n = true)
    (hk : (Cond.classLink own ik cls).before args s = true) (hini : (Cond.initialized cls).before args s = true) (hstr : vk_R own is text sa s) (hat : ∀ w ∈ vx_atS own ic cls names, w.before args s = true)
    (hgood : ∀ w ∈ Cond.classLink own ik cls :: Cond.initialized cls :: vx_atS own ic cls names, vx_ot w = true)
    (hU : vx_Zq Bundle.tN "UNASSIGNED_STACK" Bundle.steD A s s.heap) (hN : vx_Zq Bundle.tN "SUPPRESSED_SENTINEL" Bundle.listD A s s.heap) (hS : va_S A s.heap H locs) (hsize : ls.size = c.maxLocals)
    (d0 : decode cc pc = .ok (.new ik, 3)) (d3 : decode cc (pc + 3) = .ok (.dup, 1)) (d4 : decode cc (pc + 4) = .ok (.ldc is, 2)) (d6 : decode cc (pc + 6) = .ok (.invokespecial ic, 3)) (d9 : decode cc (pc + 9) = .ok (.athrow, 1))
    (hout : ∀ x ∈ c.exceptionTable.toList, covers x (pc + 9) = false)
    (hRframes : names.length + 3 < R.frames) (hRlocals : (rest.map fun v => v.category).sum + (13 * (names.length + 1) + 43) ≤ R.locals) (hRcells : cells + 1 ≤ R.cells) (hRslots : slots + 6 ≤ R.slots) (hlocks : meth.locks = false)
    (hx : ∀ t : State, s.vm.Alike t.vm → H.size ≤ t.heap.size → (∀ q : Nat, q < H.size → t.heap[q]? = H[q]?) → XC cls s t)
    (hf : ∀ z ∈ locs, free z.base) (hc : cells + 1 ≤ mc) (hs : slots + 6 ≤ ms) :
    W p l e R s m args below meth c H locs cells slots (vx_MQ below Qc XC args s mc ms free) (F0 m pc ls rest) := by
  intro T hT X
  have htr : e.platform.stackTraces = false := (show e.platform.stackTraces = l.stackTraces by rw [X.admits.platform]).trans hl
  have Y := vx_rebase X (R' := { frames := R.frames, locals := R.locals, cells := 1, slots := 6 }) (Nat.le_refl _) (Nat.le_refl _) hRcells hRslots
  obtain ⟨s', hA⟩ : ∃ z, z = (T.setVm s.vm).setFrames (.invoking m args :: below) := ⟨_, rfl⟩
  rw [← hA] at Y
  have hvm : s'.vm = s.vm := by rw [hA]; rfl
  have hhp : s'.heap = H := by rw [hA]; exact hT
  have hW0 : s.WarmedH s'.vm := by rw [hvm]; exact State.WarmedH.refl s
  have hat' : ∀ w ∈ vx_atS own ic cls names, w.before args s' = true := fun w hw => vx_ot_at hW0 hvm.symm (hgood w (List.mem_cons_of_mem _ (List.mem_cons_of_mem _ hw))) (hat w hw)
  have hk' : (Cond.classLink own ik cls).before args s' = true := vx_ot_at hW0 hvm.symm (hgood _ List.mem_cons_self) hk
  have hini' : (Cond.initialized cls).before args s' = true := vx_ot_at hW0 hvm.symm (hgood _ (List.mem_cons_of_mem _ List.mem_cons_self)) hini
  have hU' : vx_Zq Bundle.tN "UNASSIGNED_STACK" Bundle.steD A s' s'.heap := by rw [hhp]; exact vx_Zq.moved hW0.alike (hU.kept hS.2.1)
  have hN' : vx_Zq Bundle.tN "SUPPRESSED_SENTINEL" Bundle.listD A s' s'.heap := by rw [hhp]; exact vx_Zq.moved hW0.alike (hN.kept hS.2.1)
  have h : ∀ w ∈ Bundle.ownAtoms own ic cls names, w.before args s' = true := vx_own hat' (vx_isRefq hU'.1) (vx_isRefq hN'.1) hU'.2.word hN'.2.word
  have hown' : s'.vm.findClass own = some m.cls := by rw [hvm]; exact hown
  have hins : (Cond.instantiable cls 6).before args s' = true := h _ (by simp [Bundle.ownAtoms])
  obtain ⟨vm₁, cX, kX, hfX, hkX, -, -, X₁, st1⟩ := Y.newCold hexec (own := own) (C := cls) (index := ik) (n := 6) hown' hk' hins hini'
    (g := F0 m pc ls rest) rfl (by rw [hb]; exact d0) (Nat.le_refl _) (Nat.le_refl _)
  generalize hT1 : (T.setVm vm₁).pushCell { cls := cX, slots := kX.instanceTypes.map defaultValue, vm := .none } = T1 at X₁ st1
  have hcat : (Value.ref T.heap.size).category = 1 := rfl
  have hcellA : T1.heap[T.heap.size]? = some (freshCell cX kX) := by rw [← hT1]; exact State.heap_pushCell_size _ _
  have d3' : decode c.code (pc + 3) = .ok (.dup, 1) := by rw [hb]; exact d3
  have d4' : decode c.code (pc + 4) = .ok (.ldc is, 2) := by rw [hb]; exact d4
  have hstr' : vk_R own is text sa s' := vk_R.warm hW0 hstr
  obtain ⟨U, hsteps, hrun, hend, hW, hsame, ce, hce, hO⟩ := X₁.ctorThrowS hexec htr (own := own) (cls := cls) (names := names) (ic := ic) hown' hcls hnames h (fun x hx => nomatch hx) hfX hkX hcellA (by rw [hhp, hT]; exact Nat.le_refl _) (msg := .ref sa) rfl
    (g := { method := m, pc := pc + 6, locals := ls, stack := .ref sa :: .ref T.heap.size :: .ref T.heap.size :: rest, locked := none }) rfl hsize rfl rfl (rest := rest) rfl
    (by rw [hb]; exact d6) (by rw [hb]; exact d9) hout hRframes (by simp only [List.map_cons, List.sum_cons, hcat]; omega) hlocks
  obtain ⟨f1, f2⟩ := vx_frame hsame
  rw [hhp] at f1 f2
  have hWs : s.WarmedH U.vm := State.WarmedH.trans hW0 hW
  have hcl : s.vm.findClass cls = some ce.cls := by
    have h9 := hO.cls
    rw [hvm] at h9
    exact h9
  have hall : s.sameButNew ({ U with vm := s.vm } : State) locs mc ms := by
    subst hA
    obtain ⟨e1, e2⟩ := hsame
    rw [State.setFrames_setFrames] at e1
    have h2 : (T.setVm s.vm).sameButNew ({ U with vm := s.vm } : State) [] (0 + 1) (0 + 6) := ⟨e1, e2⟩
    have h3 := X.same.trans h2
    rw [List.append_nil] at h3
    exact h3.mono hc hs
  refine ⟨U, ?_, .threw T.heap.size, hrun, hend, Or.inr ⟨T.heap.size, rfl, cls, ce, locs, hx U hWs.alike f1 (fun q hq => f2 q hq (fun z hz => nomatch hz)), hce, hO.vm, hcl, hWs, hall, hf⟩⟩
  refine st1 _ ?_
  show Steps p.tables e below (T1.setTop { method := m, pc := pc + 3, locals := ls, stack := .ref T.heap.size :: rest, locked := none }) _
  jvm_step X₁.here [X₁.here.top, hexec, d3', Value.category]
  exact X₁.ldcString hexec (own := own) (text := text) (index := is) (a := sa) hown' hstr'.1 hstr'.2
    (g := { method := m, pc := pc + 4, locals := ls, stack := .ref T.heap.size :: .ref T.heap.size :: rest, locked := none }) rfl d4' _ hsteps
/-- 'throw new E("text")', the text by a wide index -/
theorem vx_throwSW {cc : ByteArray} {pc : Nat} (hexec : p.tables.exec = Jvm.exec) (hb : c.code = cc) (hl : l.stackTraces = false) {own cls text : String} {names : List String} {ik is ic mc ms sa : Nat} {A : Nat → Prop}
    (hown : s.vm.findClass own = some m.cls) (hcls : Bundle.fit cls = true) (hnames : ∀ n ∈ names, Bundle.fit n = true)
    (hk : (Cond.classLink own ik cls).before args s = true) (hini : (Cond.initialized cls).before args s = true) (hstr : vk_R own is text sa s) (hat : ∀ w ∈ vx_atS own ic cls names, w.before args s = true)
    (hgood : ∀ w ∈ Cond.classLink own ik cls :: Cond.initialized cls :: vx_atS own ic cls names, vx_ot w = true)
    (hU : vx_Zq Bundle.tN "UNASSIGNED_STACK" Bundle.steD A s s.heap) (hN : vx_Zq Bundle.tN "SUPPRESSED_SENTINEL" Bundle.listD A s s.heap) (hS : va_S A s.heap H locs) (hsize : ls.size = c.maxLocals)
    (d0 : decode cc pc = .ok (.new ik, 3)) (d3 : decode cc (pc + 3) = .ok (.dup, 1)) (d4 : decode cc (pc + 4) = .ok (.ldc_w is, 3)) (d7 : decode cc (pc + 7) = .ok (.invokespecial ic, 3)) (d10 : decode cc (pc + 10) = .ok (.athrow, 1))
    (hout : ∀ x ∈ c.exceptionTable.toList, covers x (pc + 10) = false)
    (hRframes : names.length + 3 < R.frames) (hRlocals : (rest.map fun v => v.category).sum + (13 * (names.length + 1) + 43) ≤ R.locals) (hRcells : cells + 1 ≤ R.cells) (hRslots : slots + 6 ≤ R.slots) (hlocks : meth.locks = false)
    (hx : ∀ t : State, s.vm.Alike t.vm → H.size ≤ t.heap.size → (∀ q : Nat, q < H.size → t.heap[q]? = H[q]?) → XC cls s t)
    (hf : ∀ z ∈ locs, free z.base) (hc : cells + 1 ≤ mc) (hs : slots + 6 ≤ ms) :
    W p l e R s m args below meth c H locs cells slots (vx_MQ below Qc XC args s mc ms free) (F0 m pc ls rest) := by
  intro T hT X
  have htr : e.platform.stackTraces = false := (show e.platform.stackTraces = l.stackTraces by rw [X.admits.platform]).trans hl
  have Y := vx_rebase X (R' := { frames := R.frames, locals := R.locals, cells := 1, slots := 6 }) (Nat.le_refl _) (Nat.le_refl _) hRcells hRslots
  obtain ⟨s', hA⟩ : ∃ z, z = (T.setVm s.vm).setFrames (.invoking m args :: below) := ⟨_, rfl⟩
  rw [← hA] at Y
  have hvm : s'.vm = s.vm := by rw [hA]; rfl
  have hhp : s'.heap = H := by rw [hA]; exact hT
  have hW0 : s.WarmedH s'.vm := by rw [hvm]; exact State.WarmedH.refl s
  have hat' : ∀ w ∈ vx_atS own ic cls names, w.before args s' = true := fun w hw => vx_ot_at hW0 hvm.symm (hgood w (List.mem_cons_of_mem _ (List.mem_cons_of_mem _ hw))) (hat w hw)
  have hk' : (Cond.classLink own ik cls).before args s' = true := vx_ot_at hW0 hvm.symm (hgood _ List.mem_cons_self) hk
  have hini' : (Cond.initialized cls).before args s' = true := vx_ot_at hW0 hvm.symm (hgood _ (List.mem_cons_of_mem _ List.mem_cons_self)) hini
  have hU' : vx_Zq Bundle.tN "UNASSIGNED_STACK" Bundle.steD A s' s'.heap := by rw [hhp]; exact vx_Zq.moved hW0.alike (hU.kept hS.2.1)
  have hN' : vx_Zq Bundle.tN "SUPPRESSED_SENTINEL" Bundle.listD A s' s'.heap := by rw [hhp]; exact vx_Zq.moved hW0.alike (hN.kept hS.2.1)
  have h : ∀ w ∈ Bundle.ownAtoms own ic cls names, w.before args s' = true := vx_own hat' (vx_isRefq hU'.1) (vx_isRefq hN'.1) hU'.2.word hN'.2.word
  have hown' : s'.vm.findClass own = some m.cls := by rw [hvm]; exact hown
  have hins : (Cond.instantiable cls 6).before args s' = true := h _ (by simp [Bundle.ownAtoms])
  obtain ⟨vm₁, cX, kX, hfX, hkX, -, -, X₁, st1⟩ := Y.newCold hexec (own := own) (C := cls) (index := ik) (n := 6) hown' hk' hins hini'
    (g := F0 m pc ls rest) rfl (by rw [hb]; exact d0) (Nat.le_refl _) (Nat.le_refl _)
  generalize hT1 : (T.setVm vm₁).pushCell { cls := cX, slots := kX.instanceTypes.map defaultValue, vm := .none } = T1 at X₁ st1
  have hcat : (Value.ref T.heap.size).category = 1 := rfl
  have hcellA : T1.heap[T.heap.size]? = some (freshCell cX kX) := by rw [← hT1]; exact State.heap_pushCell_size _ _
  have d3' : decode c.code (pc + 3) = .ok (.dup, 1) := by rw [hb]; exact d3
  have d4' : decode c.code (pc + 4) = .ok (.ldc_w is, 3) := by rw [hb]; exact d4
  have hstr' : vk_R own is text sa s' := vk_R.warm hW0 hstr
  obtain ⟨U, hsteps, hrun, hend, hW, hsame, ce, hce, hO⟩ := X₁.ctorThrowS hexec htr (own := own) (cls := cls) (names := names) (ic := ic) hown' hcls hnames h (fun x hx => nomatch hx) hfX hkX hcellA (by rw [hhp, hT]; exact Nat.le_refl _) (msg := .ref sa) rfl
    (g := { method := m, pc := pc + 7, locals := ls, stack := .ref sa :: .ref T.heap.size :: .ref T.heap.size :: rest, locked := none }) rfl hsize rfl rfl (rest := rest) rfl
    (by rw [hb]; exact d7) (by rw [hb]; exact d10) hout hRframes (by simp only [List.map_cons, List.sum_cons, hcat]; omega) hlocks
  obtain ⟨f1, f2⟩ := vx_frame hsame
  rw [hhp] at f1 f2
  have hWs : s.WarmedH U.vm := State.WarmedH.trans hW0 hW
  have hcl : s.vm.findClass cls = some ce.cls := by
    have h9 := hO.cls
    rw [hvm] at h9
    exact h9
  have hall : s.sameButNew ({ U with vm := s.vm } : State) locs mc ms := by
    subst hA
    obtain ⟨e1, e2⟩ := hsame
    rw [State.setFrames_setFrames] at e1
    have h2 : (T.setVm s.vm).sameButNew ({ U with vm := s.vm } : State) [] (0 + 1) (0 + 6) := ⟨e1, e2⟩
    have h3 := X.same.trans h2
    rw [List.append_nil] at h3
    exact h3.mono hc hs
  refine ⟨U, ?_, .threw T.heap.size, hrun, hend, Or.inr ⟨T.heap.size, rfl, cls, ce, locs, hx U hWs.alike f1 (fun q hq => f2 q hq (fun z hz => nomatch hz)), hce, hO.vm, hcl, hWs, hall, hf⟩⟩
  refine st1 _ ?_
  show Steps p.tables e below (T1.setTop { method := m, pc := pc + 3, locals := ls, stack := .ref T.heap.size :: rest, locked := none }) _
  jvm_step X₁.here [X₁.here.top, hexec, d3', Value.category]
  exact X₁.ldcStringW hexec (own := own) (text := text) (index := is) (a := sa) hown' hstr'.1 hstr'.2
    (g := { method := m, pc := pc + 4, locals := ls, stack := .ref T.heap.size :: .ref T.heap.size :: rest, locked := none }) rfl d4' _ hsteps
end Ends
section Bodies
variable {l : Launch}
theorem vx_ofW {y : MethodName} {ws ws' : List Cond} {rm : Room} {Pc : Array Value → State → Prop} {Qc : Array Value → State → Outcome → State → Prop} {XC : String → State → State → Prop} {mc ms : Nat} {free : Addr → Prop} {cc : ByteArray} {maxL : Nat} {ret : Option FieldType}
    (hy : plainName y.cls = true) (hw : ws = Cond.code y cc maxL ret :: ws')
    (body : ∀ p e s m args below meth c s₁, BodyLoose p l y (headSpec ws rm) cc maxL ret e s m args below meth c s₁ → c.maxLocals = maxL → (∀ x ∈ c.exceptionTable.toList, False) → Pc args s →
      W p l e (headSpec ws rm).room s m args below meth c s.heap [] 0 0 (vx_MQ below Qc XC args s mc ms free) (entryFrame m args maxL)) : vx_Met l y ws rm Pc Qc XC mc ms free := by
  refine MetFree.of_bodyS (code := cc) (maxLocals := maxL) (ret := ret) hy ?_ ?_
  · intro args s m h hn
    obtain ⟨meth, c, h1, h2, h3, h4, h5, h6, -, -⟩ := Cond.code_spec hn (atoms_spec (ws := ws) h _ (by rw [hw]; exact List.mem_cons_self))
    exact ⟨meth, c, h1, h2, h3, h4, h5, h6⟩
  · intro p e s m args below meth c s₁ B hml hP _
    have hh0 : s₁.heap = s.heap := by rw [B.state]; rfl
    have ht : ∀ x ∈ c.exceptionTable.toList, False := by
      obtain ⟨meth9, c9, h1, h2, -, -, -, -, h7, -⟩ := Cond.code_spec B.named (atoms_spec (ws := ws) B.pre _ (by rw [hw]; exact List.mem_cons_self))
      cases Option.some.inj (h1.symm.trans B.method)
      cases Option.some.inj (h2.symm.trans (Stand.of_body B).code)
      intro x hx
      rw [Array.isEmpty_iff.mp h7] at hx
      cases hx
    obtain ⟨t, a1, o, b1, b2, b3⟩ := body p e s m args below meth c s₁ B hml ht hP s₁ hh0 (Stand.of_body B)
    exact ⟨t, o, a1, b1, b2, b3⟩
/-- the table of a body with handlers -/
theorem vx_table {p : Program} {x y : MethodName} {S : Spec} {cc bytes : ByteArray} {maxL maxL' : Nat} {ret ret' : Option FieldType} {e : Env} {s s₁ : State} {m : MethodId} {args : Array Value} {below : List Frame} {meth : Method} {c : Code} {hh : List (Nat × Nat × Nat × Nat)}
    (B : BodyLoose p l y S cc maxL ret e s m args below meth c s₁) (h : (Cond.codeWith y bytes maxL' ret' hh).before args s = true) : c.exceptionTable.toList = tableOf hh := by
  obtain ⟨m9, meth9, c9, hn9, h1, h2, -, -, h6, -⟩ := Cond.codeWith_spec h
  cases Option.some.inj (hn9.symm.trans B.named)
  cases Option.some.inj (h1.symm.trans B.method)
  cases Option.some.inj (h2.symm.trans (Stand.of_body B).code)
  rw [← h6, table_eq]
end Bodies
end VXA
/-! ===== END ===== -/
/-! ===== BEGIN a static call of a method with an exception table ===== -/
section VXS
variable {p : Program} {l : Launch} {e : Env} {R : Room} {s : State} {m : MethodId} {args : Array Value} {below : List Frame} {meth : Method} {c : Code} {T : State} {H : Heap} {locs : List Loc} {cells slots : Nat}
abbrev vx_CSW (R : Room) (s : State) (args : Array Value) (own : String) (index : Nat) (y : MethodName) (bytes : ByteArray) (maxL : Nat) (ret : Option FieldType) (hh : List (Nat × Nat × Nat × Nat)) (ws : List Cond) (rm : Room) (mc ms n : Nat) : Prop :=
  (rm.cells = mc ∧ rm.slots = ms ∧ rm.frames + 1 ≤ R.frames ∧ 8 + (maxL + 11) + rm.locals ≤ R.locals ∧ (∀ w ∈ ws, ∀ (a' : Array Value) (U : State), s.WarmedH U.vm → w.before a' U = true) ∧ Cond.codeWith y bytes maxL ret hh ∈ ws) ∧
  (Cond.codeWith y bytes maxL ret hh).before args s = true ∧ (Cond.initialized y.cls).before args s = true ∧ (y.cls ≠ "java/lang/invoke/MethodHandle" ∧ y.cls ≠ "java/lang/invoke/VarHandle") ∧
  (∀ sig, parseMethodDescriptor y.desc = some sig → n = sig.parameters.length) ∧ (Cond.methodLink own index y).before args s = true ∧ (Cond.static y).before args s = true
theorem vx_cwSW {own : String} {index maxL mc ms : Nat} {y : MethodName} {bytes : ByteArray} {ret : Option FieldType} {hh : List (Nat × Nat × Nat × Nat)} {Ts ws ws' : List Cond} {rm : Room} (n : Nat) (ht : ∀ w ∈ Ts, w.before args s = true) (hT : GoodIn Ts (va_wsS own index y ws)) (hw : ws = Cond.codeWith y bytes maxL ret hh :: ws') (hrc : rm.cells = mc) (hrs : rm.slots = ms)
    (hd : y.cls ≠ "java/lang/invoke/MethodHandle" ∧ y.cls ≠ "java/lang/invoke/VarHandle" ∧ (parseMethodDescriptor y.desc).map (fun d => d.parameters.length) = some n) (hR : rm.frames + 1 ≤ R.frames ∧ 8 + (maxL + 11) + rm.locals ≤ R.locals) :
    vx_CSW R s args own index y bytes maxL ret hh ws rm mc ms n := by
  have ok : ∀ w ∈ va_wsS own index y ws, w.before args s = true := fun w h => ht w (hT w h).1
  have hG : GoodIn Ts ws := fun w h => hT w (by unfold va_wsS; exact List.mem_append_right _ h)
  have hc : Cond.codeWith y bytes maxL ret hh ∈ ws := by rw [hw]; exact List.mem_cons_self
  refine ⟨⟨hrc, hrs, hR.1, hR.2, pay_in ht hG, hc⟩, ht _ (hG _ hc).1, ok _ (by simp [va_wsS]), ⟨hd.1, hd.2.1⟩, fun sig h => ?_, ok _ (by simp [va_wsS]), ok _ (by simp [va_wsS])⟩
  have h2 := hd.2.2
  rw [h] at h2
  exact (Option.some.inj h2).symm
theorem vx_callSW (X : Stand p l e R s m args below meth c T locs cells slots) (hexec : p.tables.exec = Jvm.exec) {own : String} {index : Nat} {y : MethodName} {bytes : ByteArray} {maxL : Nat} {ret : Option FieldType} {hh : List (Nat × Nat × Nat × Nat)}
    (hown : s.vm.findClass own = some m.cls) (hlink : (Cond.methodLink own index y).before args s = true) (hstat : (Cond.static y).before args s = true) (hinit : (Cond.initialized y.cls).before args s = true)
    (hcode : (Cond.codeWith y bytes maxL ret hh).before args s = true) (hy : y.cls ≠ "java/lang/invoke/MethodHandle" ∧ y.cls ≠ "java/lang/invoke/VarHandle")
    {W9 : Nat} {Pre : Pt → Array Value → Prop} {Post : Pt → Array Value → Option Value → Pt → Prop} (hK : Back l R p e below s args y 3 W9 Pre Post)
    {g : JFrame} (hg : g.method = m) (hsize : g.locals.size = c.maxLocals) {argsL rest : List Value} (hlen : ∀ sig, parseMethodDescriptor y.desc = some sig → argsL.length = sig.parameters.length)
    (hstack : g.stack = argsL.reverse ++ rest) (hW : 2 * g.monitorRoom + (rest.map fun v => v.category).sum ≤ W9) (hdg : decode c.code g.pc = .ok (.invokestatic index, 3))
    (hpre : ∀ vm₁, s.WarmedH vm₁ → Pre ⟨T.setVm vm₁, locs, cells, slots⟩ argsL.toArray) :
    ∃ (v : Option Value) (vm₁ : Vm) (B : Pt), s.WarmedH vm₁ ∧ Stand p l e R s m args below meth c B.U B.locs B.cells B.slots ∧ Post ⟨T.setVm vm₁, locs, cells, slots⟩ argsL.toArray v B ∧
      ∀ target, Steps p.tables e below (B.U.setTop { g with pc := g.pc + 3, stack := v.toList ++ rest }) target → Steps p.tables e below (T.setTop g) target := by
  obtain ⟨mk, methM, cM, hnamed, hmethM, -, -, -, -, -, -, hsigM⟩ := Cond.codeWith_spec hcode
  have hstatic : methM.isStatic = true := Cond.static_spec hnamed hmethM hstat
  obtain ⟨kP, hkP, -⟩ := className_of_methodNamed hnamed
  have hinitP : kP.init = .initialized := Cond.initialized_spec (findClass_of_methodNamed hnamed) hkP hinit
  obtain ⟨vm₁, X₁, hstep₁⟩ := X.invokestatic hexec hown hlink hnamed hmethM hstatic hkP hinitP hy (g := g) hg (argsL := argsL) (rest := rest) (hlen _ hsigM) hstack hdg
  obtain ⟨v, B, X', hpost, hsteps⟩ := hK m meth c ⟨T.setVm vm₁, locs, cells, slots⟩ { g with stack := rest } (.invokestatic index) mk argsL.toArray X₁ hg hsize hdg hW (X₁.named hnamed) (hpre vm₁ X₁.warmed)
  exact ⟨v, vm₁, B, X₁.warmed, X', hpost, fun target h => hstep₁ _ fun acts => by rw [doInvoke_state]; exact hsteps.trans h⟩
theorem vx_runSW {y : MethodName} {bytes cc : ByteArray} {maxL nL mc ms n index : Nat} {ret : Option FieldType} {hh : List (Nat × Nat × Nat × Nat)} {ws : List Cond} {rm : Room} {Pc : Array Value → State → Prop} {Qc : Array Value → State → Outcome → State → Prop} {free : Addr → Prop} {Ts : List Cond} {own : String} {As rest : List Value} {g : JFrame}
    (S : CallFix p m c cc nL s args Ts own) (hM : Met l y ws rm Pc Qc mc ms free) (cw : vx_CSW R s args own index y bytes maxL ret hh ws rm mc ms n) (hp : PreS s H Pc As)
    (hg : g.method = m) (hn : As.length = n) (hsize : g.locals.size = nL) (hstack : g.stack = As.reverse ++ rest) (hW : 2 * g.monitorRoom + (rest.map fun v => v.category).sum ≤ 8) (hdg : decode cc g.pc = .ok (.invokestatic index, 3)) (hf : cells + mc ≤ R.cells ∧ slots + ms ≤ R.slots) :
    va_Run p l e R s m args below meth c H locs cells slots mc ms g rest (Qc As.toArray) (free) := by
  obtain ⟨⟨hrc, hrs, hfr, hlo, hws, hcw⟩, hcode, hini, hy, hlen, hl, hstt⟩ := cw
  have hK : Back l R p e below s args y 3 8 (PreOf R mc ms Pc) (PostOf Qc mc ms free) := va_backW (hh := hh) (bytes := bytes) (maxL := maxL) (ret := ret) hM hp.1 hrc hrs hfr hlo hws hcw (fun a' U hW => word_at hW (Or.inl (by first | rfl | simp [Cond.onTables, Cond.keeps, Cond.steady])) hini)
  obtain ⟨hx, hb, hml, ho, -⟩ := S
  intro T hT X
  obtain ⟨v, vm₁, ⟨U', l2, c2, s2⟩, hW₁, X', ⟨g', mk, t, L, e1, e2, hq, h1, hL, h2, h3⟩, st⟩ := vx_callSW X hx (hh := hh) (bytes := bytes) (maxL := maxL) (ret := ret) ho hl hstt hini hcode hy hK hg (hsize.trans hml.symm) (argsL := As) (rest := rest) (fun sig h => hn.trans (hlen sig h)) hstack hW (by rw [hb]; exact hdg)
    (fun vm₁ hW₁ => ⟨hf.1, hf.2, hp.2 (T.setVm vm₁) hT hW₁⟩)
  dsimp only [Pt.U, Pt.locs, Pt.cells, Pt.slots] at X' e1 e2 h1 h2 h3 st
  subst h1; subst h2; subst h3
  exact ⟨v, (T.setVm vm₁).calling g' mk As.toArray, t, U', L, hT, X', hL, e1, e2, hq, st⟩
/-- not caught here, past rows that name other classes: it goes on to the caller -/
theorem vx_outP {p : Program} {l : Launch} {e : Env} {R : Room} {s : State} {m : MethodId} {args : Array Value} {below : List Frame} {meth : Method} {c : Code} {H : Heap} {locs : List Loc} {cells slots : Nat} {free : Addr → Prop} {ls : Array Slot} {rest : List Value} {Qc : Array Value → State → Outcome → State → Prop} {XC : String → State → State → Prop}
    {pc : Nat} {own E : String} {ce : Cell} {q : Addr} {mc ms : Nat} (hown : s.vm.findClass own = some m.cls) (hlocks : meth.locks = false)
    (hpass : ∀ z ∈ c.exceptionTable.toList, covers z pc = false ∨ (z.catchType ≠ 0 ∧ ∃ nm : String, (Cond.classLink own z.catchType nm).before args s = true ∧ va_Nc E nm s)) (hcell : H[q]? = some ce) (hv : ce.vm = .none) (hcl : s.vm.findClass E = some ce.cls)
    (hx : ∀ t : State, t.heap = H → s.vm.Alike t.vm → XC E s t) (hf : ∀ z ∈ locs, free z.base) (hc : cells ≤ mc) (hs : slots ≤ ms) :
    vx_W p l e R s m args below meth c H locs cells slots (vx_MQ below Qc XC args s mc ms free) (F0 m pc ls rest) q := by
  intro T hT X
  have hpl : e.platform.magicAccessors = ({} : Platform).magicAccessors := by rw [X.admits.platform]
  obtain ⟨vm', hW', X', st⟩ := X.outThrough hlocks q (g := F0 m pc ls rest) rfl rfl rfl (cell := ce) (by rw [hT]; exact hcell) (by rw [hv]; rfl)
    (by obtain ⟨k9, h9, -⟩ := Vm.findClass_spec hcl; exact ⟨k9, h9⟩) (fun z hz => by
      rcases hpass z hz with h | ⟨hz0, nm, hl1, hn1⟩
      · exact Or.inl h
      · obtain ⟨c6, hc6, hcl6⟩ := Cond.classLink_spec hown hl1 e.platform hpl
        obtain ⟨a8, b8, h1, h2, h3⟩ := hn1
        cases Option.some.inj (h1.symm.trans hcl)
        cases Option.some.inj (h2.symm.trans hc6)
        exact Or.inr ⟨hz0, _, hcl6, h3⟩)
  obtain ⟨g₀, hfr⟩ := X'.frames_eq
  have hcell9 : ((T.setVm vm').setFrames (.throwing q :: below)).heap[q]? = some ce := by
    show T.heap[q]? = some ce
    rw [hT]; exact hcell
  have hend : Ended ((T.setVm vm').setFrames (.throwing q :: below)) below (.threw q) := State.frames_setFrames _ (State.cur_lt_of_frames hfr)
  refine ⟨(T.setVm vm').setFrames (.throwing q :: below), ?_, .threw q, X'.here.running, hend, Or.inr ⟨q, rfl, E, ce, locs, hx _ hT (X'.ends _).1.alike, hcell9, hv, hcl, (X'.ends _).1, (X'.ends _).2.mono hc hs, hf⟩⟩
  rw [X.pushThrowing_eq]
  exact st
/-- a thing of a world lies in the heap -/
theorem vx_lt {D : va_G} {cl : List vw_C} {ws : va_W} {H1 : Heap} (h : va_P D cl ws H1) {k : Nat} {q : Nat × va_E} (hk : ws[k]? = some q) : q.1 < H1.size := (h k q hk).lt
end VXS
/-! ===== END ===== -/
/-! ===== BEGIN methods with a table of their own: called by a name, returning or throwing ===== -/
section VXH
/-! vx_backW, vx_callVX, vx_callSX, vx_callVW, vx_runVW, vx_runVX, vx_runSX, vx_ofWH follow the same proofs as their sisters above (Free/Laws.lean, Shelf42/LK1.lean); vx_outP calls Shelf42/NT130.lean (outThrough). -/
section
variable {l : Launch} {R : Room} {p : Program} {e : Env} {below : List Frame} {s : State} {sargs : Array Value} {y : MethodName} {len W9 : Nat}
theorem vx_backW {ws : List Cond} {rm : Room} {Pc : Array Value → State → Prop} {Qc : Array Value → State → Outcome → State → Prop} {XC : String → State → State → Prop} {mc ms : Nat} {free : Addr → Prop} {bytes : ByteArray} {maxL : Nat} {ret : Option FieldType} {hh : List (Nat × Nat × Nat × Nat)}
    (hM : vx_Met l y ws rm Pc Qc XC mc ms free) (hblind : FrameBlind Pc) (hrc : rm.cells = mc) (hrs : rm.slots = ms)
    (hframes : rm.frames + 1 ≤ R.frames) (hlocals : W9 + (maxL + 11) + rm.locals ≤ R.locals)
    (hws : ∀ w ∈ ws, ∀ a' U, s.WarmedH U.vm → w.before a' U = true) (hcode : Cond.codeWith y bytes maxL ret hh ∈ ws) (hinit : ∀ a' U, s.WarmedH U.vm → (Cond.initialized y.cls).before a' U = true) :
    vx_Back l R p e below s sargs y len W9 (PreOf R mc ms Pc) (PostOf Qc mc ms free) (vx_Post XC mc ms free) := by
  intro m meth c A g ig mk a X hg hsize hdg hW hn hp
  have h1 : (headSpec ws rm).pre.before a A.U = true := atoms_intro fun w hw => hws w hw _ _ X.warmed
  have h2 : (Cond.codeWith y bytes maxL ret hh).before a A.U = true := hws _ hcode _ _ X.warmed
  have h3 : (Cond.initialized y.cls).before a A.U = true := hinit _ _ X.warmed
  have h4 : A.cells + (headSpec ws rm).room.cells ≤ R.cells := by rw [show (headSpec ws rm).room.cells = mc from hrc]; exact hp.1
  have h5 : A.slots + (headSpec ws rm).room.slots ≤ R.slots := by rw [show (headSpec ws rm).room.slots = ms from hrs]; exact hp.2.1
  have hPc : Pc a (A.U.calling g mk a) := hblind _ _ _ _ hp.2.2
  obtain ⟨U, Ls, c0, s0⟩ := A
  dsimp only [Pt.U, Pt.locs, Pt.cells, Pt.slots] at h1 h2 h3 h4 h5 X hn hPc ⊢
  obtain ⟨m9, methY, cY, hn9, hmY, hcY, -, hlY, -⟩ := Cond.codeWith_spec h2
  cases Option.some.inj (hn9.symm.trans hn)
  obtain ⟨kY, hkY, -⟩ := className_of_methodNamed hn
  have hinitY : kY.init = .initialized := Cond.initialized_spec (findClass_of_methodNamed hn) hkY h3
  have h : At U g.method c below := by rw [hg]; exact X.here
  have hlocals9 : W9 + (maxL + 11) + (headSpec ws rm).room.locals ≤ R.locals := hlocals
  have happ : (headSpec ws rm).appliesLoose y e.platform (U.calling g mk a) = true :=
    Spec.appliesLoose_calling (g := g) h hdg hn hkY hinitY
      (X.room_calling (g := g) (R' := (headSpec ws rm).room) hsize hmY hcY hframes (by rw [hlY]; omega) h4 h5) h1
  obtain ⟨mid, hmid⟩ := h.above
  have hfr : (U.setTop g).frames = (.java g :: mid) ++ below := by rw [State.frames_setTop' g h.top, hmid]; rfl
  obtain ⟨o, s₂, hsteps, -, hend, hq⟩ := Steps.callFree hM p X.admits X.cas X.clock (acts := []) hfr happ hPc trivial
  have hq' : vx_Q Qc XC mc ms free a (U.calling g mk a) o s₂ := hq
  rw [State.frames_setTop' g h.top] at hend
  obtain ⟨g₀, hg0⟩ := Option.isSome_iff_exists.mp h.top
  obtain ⟨r, hr⟩ := State.topJava?_eq_some.mp hg0
  have hr' : (({ U with heap := s₂.heap, slotsUsed := s₂.slotsUsed } : State).setVm s₂.vm).frames = .java g₀ :: r := hr
  rcases hq' with ⟨hqc, L, hfe, hL⟩ | ⟨q, rfl, E, ce, L, hx, hce, hcv, hcl, hW₂, hsm, hL⟩
  · obtain ⟨⟨v, rfl⟩, hW₂, e2, q2, q3, q4, q5, q6⟩ := id hfe
    have e3 : s₂ = ({ (U.calling g mk a).setFrames s₂.frames with heap := s₂.heap, slotsUsed := s₂.slotsUsed } : State).setVm s₂.vm := by
      have : s₂ = ({ s₂ with vm := (U.calling g mk a).vm } : State).setVm s₂.vm := rfl
      rw [e2] at this
      exact this
    obtain ⟨c₂, i₂, len₂, hc₂, hd₂, hf₂⟩ := hend
    have hW' : U.WarmedH s₂.vm := hW₂
    have hcc : c₂ = c := by
      have h1 : s₂.code? g.method = U.code? g.method := by
        rw [State.code?_eq, State.code?_eq, hW'.alike.method?]
      exact Option.some.inj (hc₂.symm.trans (h1.trans h.code))
    subst hcc
    have hlen : len₂ = len := by rw [hdg] at hd₂; cases hd₂; rfl
    subst hlen
    have hs₂ : s₂ = (({ U with heap := s₂.heap, slotsUsed := s₂.slotsUsed } : State).setVm s₂.vm).setTop { g with pc := g.pc + len₂, stack := v.toList ++ g.stack } := by
      refine e3.trans ?_
      rw [hf₂, State.calling_eq h.top, State.setFrames_setFrames, State.setTop_of_frames _ hr', hr]
      rfl
    have hsame : U.sameButNew ({ U with heap := s₂.heap, slotsUsed := s₂.slotsUsed } : State) L mc ms := by
      refine ⟨?_, q2, q3, q4, q5, q6⟩
      obtain ⟨t, ht, -⟩ := State.frames_cons hr
      show ({ U with heap := s₂.heap, slotsUsed := s₂.slotsUsed } : State) = { U.setFrames U.frames with heap := s₂.heap, slotsUsed := s₂.slotsUsed }
      rw [State.setFrames_self ht]
    subst hg
    refine Or.inl ⟨v, ⟨(({ U with heap := s₂.heap, slotsUsed := s₂.slotsUsed } : State).setVm s₂.vm), Ls ++ L, c0 + mc, s0 + ms⟩,
      ⟨X.admits, X.cas, X.clock, X.frames, X.room, X.hears, X.method, X.code, (X.here.setHeapUsed s₂.heap s₂.slotsUsed).setVm hW'.alike, X.tail, State.WarmedH.trans X.warmed hW', X.limits, X.bytes, X.same.trans (hsame.setVm s.vm)⟩,
      ⟨g, mk, s₂, L, rfl, rfl, hqc, rfl, hL, rfl, rfl⟩, ?_⟩
    show Steps p.tables e below _ ((({ U with heap := s₂.heap, slotsUsed := s₂.slotsUsed } : State).setVm s₂.vm).setTop { g with pc := g.pc + len₂, stack := v.toList ++ g.stack })
    rw [← hs₂]
    exact hsteps
  · obtain ⟨e2, q2, q3, q4, q5, q6⟩ := id hsm
    have e3 : s₂ = ({ (U.calling g mk a).setFrames s₂.frames with heap := s₂.heap, slotsUsed := s₂.slotsUsed } : State).setVm s₂.vm := by
      have : s₂ = ({ s₂ with vm := (U.calling g mk a).vm } : State).setVm s₂.vm := rfl
      rw [e2] at this
      exact this
    have hf₂ : s₂.frames = .throwing q :: .java g :: U.frames.tail := hend
    have hW' : U.WarmedH s₂.vm := hW₂
    have hs₂ : s₂ = ((({ U with heap := s₂.heap, slotsUsed := s₂.slotsUsed } : State).setVm s₂.vm).setTop g).pushFrame (.throwing q) := by
      refine e3.trans ?_
      rw [hf₂, State.calling_eq h.top, State.setFrames_setFrames, State.pushFrame, State.frames_setTop _ hr', State.setTop_of_frames _ hr', State.setFrames_setFrames, hr]
      rfl
    have hsame : U.sameButNew ({ U with heap := s₂.heap, slotsUsed := s₂.slotsUsed } : State) L mc ms := by
      refine ⟨?_, q2, q3, q4, q5, q6⟩
      obtain ⟨t, ht, -⟩ := State.frames_cons hr
      show ({ U with heap := s₂.heap, slotsUsed := s₂.slotsUsed } : State) = { U.setFrames U.frames with heap := s₂.heap, slotsUsed := s₂.slotsUsed }
      rw [State.setFrames_self ht]
    subst hg
    refine Or.inr ⟨q, ⟨(({ U with heap := s₂.heap, slotsUsed := s₂.slotsUsed } : State).setVm s₂.vm), Ls ++ L, c0 + mc, s0 + ms⟩,
      ⟨X.admits, X.cas, X.clock, X.frames, X.room, X.hears, X.method, X.code, (X.here.setHeapUsed s₂.heap s₂.slotsUsed).setVm hW'.alike, X.tail, State.WarmedH.trans X.warmed hW', X.limits, X.bytes, X.same.trans (hsame.setVm s.vm)⟩,
      ⟨g, mk, s₂, L, E, ce, rfl, rfl, hx, hce, hcv, hcl, rfl, hL, rfl, rfl⟩, ?_⟩
    show Steps p.tables e below _ (((({ U with heap := s₂.heap, slotsUsed := s₂.slotsUsed } : State).setVm s₂.vm).setTop g).pushFrame (.throwing q))
    rw [← hs₂]
    exact hsteps
end
variable {p : Program} {l : Launch} {e : Env} {R : Room} {s : State} {m : MethodId} {args : Array Value} {below : List Frame} {meth : Method} {c : Code} {T : State} {H : Heap} {locs : List Loc} {cells slots : Nat}
theorem vx_callVX (X : Stand p l e R s m args below meth c T locs cells slots) (hexec : p.tables.exec = Jvm.exec) {own C : String} {index : Nat} {y : MethodName} {bytes : ByteArray} {maxL : Nat} {ret : Option FieldType} {hh : List (Nat × Nat × Nat × Nat)}
    (hown : s.vm.findClass own = some m.cls) (hlink : (Cond.methodLink own index y).before args s = true) (hinst : (Cond.instanceMethod y).before args s = true) (hsel : (Cond.selects C y y).before args s = true)
    (hcode : (Cond.codeWith y bytes maxL ret hh).before args s = true) (hy : y.cls ≠ "java/lang/invoke/MethodHandle" ∧ y.cls ≠ "java/lang/invoke/VarHandle")
    {W9 : Nat} {Pre : Pt → Array Value → Prop} {Post : Pt → Array Value → Option Value → Pt → Prop} {PostX : Pt → Array Value → Addr → Pt → Prop} (hK : vx_Back l R p e below s args y 3 W9 Pre Post PostX)
    {b : Addr} {cellB : Cell} (hcell : T.heap[b]? = some cellB) (hobj : cellB.vm.isStatics = false) (hcls : s.vm.findClass C = some cellB.cls)
    {g : JFrame} (hg : g.method = m) (hsize : g.locals.size = c.maxLocals) {argsL rest : List Value} (hlen : ∀ sig, parseMethodDescriptor y.desc = some sig → argsL.length = sig.parameters.length)
    (hstack : g.stack = argsL.reverse ++ .ref b :: rest) (hW : 2 * g.monitorRoom + (rest.map fun v => v.category).sum ≤ W9) (hdg : decode c.code g.pc = .ok (.invokevirtual index, 3))
    (hpre : ∀ vm₁, s.WarmedH vm₁ → Pre ⟨T.setVm vm₁, locs, cells, slots⟩ (Value.ref b :: argsL).toArray) :
    (∃ (v : Option Value) (vm₁ : Vm) (B : Pt), s.WarmedH vm₁ ∧ Stand p l e R s m args below meth c B.U B.locs B.cells B.slots ∧ Post ⟨T.setVm vm₁, locs, cells, slots⟩ (Value.ref b :: argsL).toArray v B ∧
      ∀ target, Steps p.tables e below (B.U.setTop { g with pc := g.pc + 3, stack := v.toList ++ rest }) target → Steps p.tables e below (T.setTop g) target) ∨
    (∃ (q : Addr) (vm₁ : Vm) (B : Pt), s.WarmedH vm₁ ∧ Stand p l e R s m args below meth c B.U B.locs B.cells B.slots ∧ PostX ⟨T.setVm vm₁, locs, cells, slots⟩ (Value.ref b :: argsL).toArray q B ∧
      Steps p.tables e below (T.setTop g) ((B.U.setTop { g with stack := rest }).pushFrame (.throwing q))) := by
  obtain ⟨mk, methM, hnamed, hmethM, hstM, habM⟩ := Cond.instanceMethod_spec hinst
  obtain ⟨m8, methM', cM, hn8, hmethM', -, -, -, -, -, -, hsigM⟩ := Cond.codeWith_spec hcode
  cases Option.some.inj (hn8.symm.trans hnamed)
  cases hmethM.symm.trans hmethM'
  obtain ⟨c2, r2, m2, q1, q2, q3, q4, kP, hkP, hkPi⟩ := Cond.selects_spec hsel
  cases hcls.symm.trans q1
  cases (State.methodFound?_of_named hnamed hy).symm.trans q2
  cases hnamed.symm.trans q3
  have hselP : selectMethod e.platform s.vm cellB.cls mk = .method mk := by rw [Launch.admits_selectMethod X.admits]; exact q4
  obtain ⟨vm₁, X₁, hstep₁⟩ := X.invokevirtual hexec hown hlink hnamed hmethM hstM hkP hkPi hy (a := b) (cell := cellB) hcell
    (fun z h => by rw [h] at hobj; cases hobj) hselP hmethM habM hkP hkPi (g := g) hg (argsL := argsL) (rest := rest) (hlen _ hsigM) hstack hdg
  rcases hK m meth c ⟨T.setVm vm₁, locs, cells, slots⟩ { g with stack := rest } (.invokevirtual index) mk (Value.ref b :: argsL).toArray X₁ hg hsize hdg hW (X₁.named hnamed) (hpre vm₁ X₁.warmed) with ⟨v, B, X', hpost, hsteps⟩ | ⟨q, B, X', hpost, hsteps⟩
  · exact Or.inl ⟨v, vm₁, B, X₁.warmed, X', hpost, fun target h => hstep₁ _ fun acts => by rw [doInvoke_state]; exact hsteps.trans h⟩
  · exact Or.inr ⟨q, vm₁, B, X₁.warmed, X', hpost, hstep₁ _ fun acts => by rw [doInvoke_state]; exact hsteps⟩
theorem vx_callSX (X : Stand p l e R s m args below meth c T locs cells slots) (hexec : p.tables.exec = Jvm.exec) {own : String} {index : Nat} {y : MethodName} {bytes : ByteArray} {maxL : Nat} {ret : Option FieldType} {hh : List (Nat × Nat × Nat × Nat)}
    (hown : s.vm.findClass own = some m.cls) (hlink : (Cond.methodLink own index y).before args s = true) (hstat : (Cond.static y).before args s = true) (hinit : (Cond.initialized y.cls).before args s = true)
    (hcode : (Cond.codeWith y bytes maxL ret hh).before args s = true) (hy : y.cls ≠ "java/lang/invoke/MethodHandle" ∧ y.cls ≠ "java/lang/invoke/VarHandle")
    {W9 : Nat} {Pre : Pt → Array Value → Prop} {Post : Pt → Array Value → Option Value → Pt → Prop} {PostX : Pt → Array Value → Addr → Pt → Prop} (hK : vx_Back l R p e below s args y 3 W9 Pre Post PostX)
    {g : JFrame} (hg : g.method = m) (hsize : g.locals.size = c.maxLocals) {argsL rest : List Value} (hlen : ∀ sig, parseMethodDescriptor y.desc = some sig → argsL.length = sig.parameters.length)
    (hstack : g.stack = argsL.reverse ++ rest) (hW : 2 * g.monitorRoom + (rest.map fun v => v.category).sum ≤ W9) (hdg : decode c.code g.pc = .ok (.invokestatic index, 3))
    (hpre : ∀ vm₁, s.WarmedH vm₁ → Pre ⟨T.setVm vm₁, locs, cells, slots⟩ argsL.toArray) :
    (∃ (v : Option Value) (vm₁ : Vm) (B : Pt), s.WarmedH vm₁ ∧ Stand p l e R s m args below meth c B.U B.locs B.cells B.slots ∧ Post ⟨T.setVm vm₁, locs, cells, slots⟩ argsL.toArray v B ∧
      ∀ target, Steps p.tables e below (B.U.setTop { g with pc := g.pc + 3, stack := v.toList ++ rest }) target → Steps p.tables e below (T.setTop g) target) ∨
    (∃ (q : Addr) (vm₁ : Vm) (B : Pt), s.WarmedH vm₁ ∧ Stand p l e R s m args below meth c B.U B.locs B.cells B.slots ∧ PostX ⟨T.setVm vm₁, locs, cells, slots⟩ argsL.toArray q B ∧
      Steps p.tables e below (T.setTop g) ((B.U.setTop { g with stack := rest }).pushFrame (.throwing q))) := by
  obtain ⟨mk, methM, cM, hnamed, hmethM, -, -, -, -, -, -, hsigM⟩ := Cond.codeWith_spec hcode
  have hstatic : methM.isStatic = true := Cond.static_spec hnamed hmethM hstat
  obtain ⟨kP, hkP, -⟩ := className_of_methodNamed hnamed
  have hinitP : kP.init = .initialized := Cond.initialized_spec (findClass_of_methodNamed hnamed) hkP hinit
  obtain ⟨vm₁, X₁, hstep₁⟩ := X.invokestatic hexec hown hlink hnamed hmethM hstatic hkP hinitP hy (g := g) hg (argsL := argsL) (rest := rest) (hlen _ hsigM) hstack hdg
  rcases hK m meth c ⟨T.setVm vm₁, locs, cells, slots⟩ { g with stack := rest } (.invokestatic index) mk argsL.toArray X₁ hg hsize hdg hW (X₁.named hnamed) (hpre vm₁ X₁.warmed) with ⟨v, B, X', hpost, hsteps⟩ | ⟨q, B, X', hpost, hsteps⟩
  · exact Or.inl ⟨v, vm₁, B, X₁.warmed, X', hpost, fun target h => hstep₁ _ fun acts => by rw [doInvoke_state]; exact hsteps.trans h⟩
  · exact Or.inr ⟨q, vm₁, B, X₁.warmed, X', hpost, hstep₁ _ fun acts => by rw [doInvoke_state]; exact hsteps⟩
theorem vx_callVW (X : Stand p l e R s m args below meth c T locs cells slots) (hexec : p.tables.exec = Jvm.exec) {own C : String} {index : Nat} {y : MethodName} {bytes : ByteArray} {maxL : Nat} {ret : Option FieldType} {hh : List (Nat × Nat × Nat × Nat)}
    (hown : s.vm.findClass own = some m.cls) (hlink : (Cond.methodLink own index y).before args s = true) (hinst : (Cond.instanceMethod y).before args s = true) (hsel : (Cond.selects C y y).before args s = true)
    (hcode : (Cond.codeWith y bytes maxL ret hh).before args s = true) (hy : y.cls ≠ "java/lang/invoke/MethodHandle" ∧ y.cls ≠ "java/lang/invoke/VarHandle")
    {W9 : Nat} {Pre : Pt → Array Value → Prop} {Post : Pt → Array Value → Option Value → Pt → Prop} (hK : Back l R p e below s args y 3 W9 Pre Post)
    {b : Addr} {cellB : Cell} (hcell : T.heap[b]? = some cellB) (hobj : cellB.vm.isStatics = false) (hcls : s.vm.findClass C = some cellB.cls)
    {g : JFrame} (hg : g.method = m) (hsize : g.locals.size = c.maxLocals) {argsL rest : List Value} (hlen : ∀ sig, parseMethodDescriptor y.desc = some sig → argsL.length = sig.parameters.length)
    (hstack : g.stack = argsL.reverse ++ .ref b :: rest) (hW : 2 * g.monitorRoom + (rest.map fun v => v.category).sum ≤ W9) (hdg : decode c.code g.pc = .ok (.invokevirtual index, 3))
    (hpre : ∀ vm₁, s.WarmedH vm₁ → Pre ⟨T.setVm vm₁, locs, cells, slots⟩ (Value.ref b :: argsL).toArray) :
    ∃ (v : Option Value) (vm₁ : Vm) (B : Pt), s.WarmedH vm₁ ∧ Stand p l e R s m args below meth c B.U B.locs B.cells B.slots ∧ Post ⟨T.setVm vm₁, locs, cells, slots⟩ (Value.ref b :: argsL).toArray v B ∧
      ∀ target, Steps p.tables e below (B.U.setTop { g with pc := g.pc + 3, stack := v.toList ++ rest }) target → Steps p.tables e below (T.setTop g) target := by
  obtain ⟨mk, methM, hnamed, hmethM, hstM, habM⟩ := Cond.instanceMethod_spec hinst
  obtain ⟨m8, methM', cM, hn8, hmethM', -, -, -, -, -, -, hsigM⟩ := Cond.codeWith_spec hcode
  cases Option.some.inj (hn8.symm.trans hnamed)
  cases hmethM.symm.trans hmethM'
  obtain ⟨c2, r2, m2, q1, q2, q3, q4, kP, hkP, hkPi⟩ := Cond.selects_spec hsel
  cases hcls.symm.trans q1
  cases (State.methodFound?_of_named hnamed hy).symm.trans q2
  cases hnamed.symm.trans q3
  have hselP : selectMethod e.platform s.vm cellB.cls mk = .method mk := by rw [Launch.admits_selectMethod X.admits]; exact q4
  obtain ⟨vm₁, X₁, hstep₁⟩ := X.invokevirtual hexec hown hlink hnamed hmethM hstM hkP hkPi hy (a := b) (cell := cellB) hcell
    (fun z h => by rw [h] at hobj; cases hobj) hselP hmethM habM hkP hkPi (g := g) hg (argsL := argsL) (rest := rest) (hlen _ hsigM) hstack hdg
  obtain ⟨v, B, X', hpost, hsteps⟩ := hK m meth c ⟨T.setVm vm₁, locs, cells, slots⟩ { g with stack := rest } (.invokevirtual index) mk (Value.ref b :: argsL).toArray X₁ hg hsize hdg hW (X₁.named hnamed) (hpre vm₁ X₁.warmed)
  exact ⟨v, vm₁, B, X₁.warmed, X', hpost, fun target h => hstep₁ _ fun acts => by rw [doInvoke_state]; exact hsteps.trans h⟩
abbrev vx_CVW (R : Room) (s : State) (args : Array Value) (own C : String) (index : Nat) (y : MethodName) (bytes : ByteArray) (maxL : Nat) (ret : Option FieldType) (hh : List (Nat × Nat × Nat × Nat)) (ws : List Cond) (rm : Room) (mc ms n : Nat) : Prop :=
  (rm.cells = mc ∧ rm.slots = ms ∧ rm.frames + 1 ≤ R.frames ∧ 8 + (maxL + 11) + rm.locals ≤ R.locals ∧ (∀ w ∈ ws, ∀ (a' : Array Value) (U : State), s.WarmedH U.vm → w.before a' U = true) ∧ Cond.codeWith y bytes maxL ret hh ∈ ws) ∧
  (Cond.codeWith y bytes maxL ret hh).before args s = true ∧ (Cond.initialized y.cls).before args s = true ∧ (y.cls ≠ "java/lang/invoke/MethodHandle" ∧ y.cls ≠ "java/lang/invoke/VarHandle") ∧
  (∀ sig, parseMethodDescriptor y.desc = some sig → n = sig.parameters.length) ∧ (Cond.methodLink own index y).before args s = true ∧ (Cond.instanceMethod y).before args s = true ∧ (Cond.selects C y y).before args s = true
theorem vx_cwVW {own C : String} {index maxL mc ms : Nat} {y : MethodName} {bytes : ByteArray} {ret : Option FieldType} {hh : List (Nat × Nat × Nat × Nat)} {Ts ws ws' : List Cond} {rm : Room} (n : Nat) (ht : ∀ w ∈ Ts, w.before args s = true) (hT : GoodIn Ts (wsV own index C y ws)) (hw : ws = Cond.codeWith y bytes maxL ret hh :: ws') (hrc : rm.cells = mc) (hrs : rm.slots = ms)
    (hd : y.cls = C ∧ y.cls ≠ "java/lang/invoke/MethodHandle" ∧ y.cls ≠ "java/lang/invoke/VarHandle" ∧ (parseMethodDescriptor y.desc).map (fun d => d.parameters.length) = some n) (hR : rm.frames + 1 ≤ R.frames ∧ 8 + (maxL + 11) + rm.locals ≤ R.locals) :
    vx_CVW R s args own C index y bytes maxL ret hh ws rm mc ms n := by
  obtain ⟨hC, hd⟩ := hd
  subst hC
  have ok : ∀ w ∈ wsV own index y.cls y ws, w.before args s = true := fun w h => ht w (hT w h).1
  have hG : GoodIn Ts ws := fun w h => hT w (by unfold wsV; exact List.mem_append_right _ h)
  have hc : Cond.codeWith y bytes maxL ret hh ∈ ws := by rw [hw]; exact List.mem_cons_self
  refine ⟨⟨hrc, hrs, hR.1, hR.2, pay_in ht hG, hc⟩, ht _ (hG _ hc).1, ok _ (by simp [wsV]), ⟨hd.1, hd.2.1⟩, fun sig h => ?_, ok _ (by simp [wsV]), ok _ (by simp [wsV]), ok _ (by simp [wsV])⟩
  have h2 := hd.2.2
  rw [h] at h2
  exact (Option.some.inj h2).symm
theorem vx_runVW {y : MethodName} {bytes cc : ByteArray} {maxL nL mc ms n index : Nat} {ret : Option FieldType} {hh : List (Nat × Nat × Nat × Nat)} {ws : List Cond} {rm : Room} {Pc : Array Value → State → Prop} {Qc : Array Value → State → Outcome → State → Prop} {free : Addr → Prop} {Ts : List Cond} {own C : String} {b : Addr} {As rest : List Value} {g : JFrame}
    (S : CallFix p m c cc nL s args Ts own) (hM : Met l y ws rm Pc Qc mc ms free) (cw : vx_CVW R s args own C index y bytes maxL ret hh ws rm mc ms n) (hp : PreV s H C b Pc As)
    (hg : g.method = m) (hn : As.length = n) (hsize : g.locals.size = nL) (hstack : g.stack = As.reverse ++ .ref b :: rest) (hW : 2 * g.monitorRoom + (rest.map fun v => v.category).sum ≤ 8) (hdg : decode cc g.pc = .ok (.invokevirtual index, 3)) (hf : cells + mc ≤ R.cells ∧ slots + ms ≤ R.slots) :
    va_Run p l e R s m args below meth c H locs cells slots mc ms g rest (Qc (Value.ref b :: As).toArray) free := by
  obtain ⟨⟨hrc, hrs, hfr, hlo, hws, hcw⟩, hcode, hini, hy, hlen, hl, hin, hse⟩ := cw
  have hK : Back l R p e below s args y 3 8 (PreOf R mc ms Pc) (PostOf Qc mc ms free) := va_backW (hh := hh) (bytes := bytes) (maxL := maxL) (ret := ret) hM hp.1 hrc hrs hfr hlo hws hcw (fun a' U hW => word_at hW (Or.inl (by first | rfl | simp [Cond.onTables, Cond.keeps, Cond.steady])) hini)
  obtain ⟨hx, hb, hml, ho, -⟩ := S
  obtain ⟨-, ⟨cellB, hcB, hoB, hclB⟩, hPc⟩ := hp
  intro T hT X
  obtain ⟨v, vm₁, ⟨U', l2, c2, s2⟩, hW₁, X', ⟨g', mk, t, L, e1, e2, hq, h1, hL, h2, h3⟩, st⟩ := vx_callVW X hx (C := C) (hh := hh) (bytes := bytes) (maxL := maxL) (ret := ret) ho hl hin hse hcode hy hK (by rw [hT]; exact hcB) hoB hclB hg (hsize.trans hml.symm) (argsL := As) (rest := rest) (fun sig h => hn.trans (hlen sig h)) hstack hW (by rw [hb]; exact hdg)
    (fun vm₁ hW₁ => ⟨hf.1, hf.2, hPc (T.setVm vm₁) hT hW₁⟩)
  dsimp only [Pt.U, Pt.locs, Pt.cells, Pt.slots] at X' e1 e2 h1 h2 h3 st
  subst h1; subst h2; subst h3
  exact ⟨v, (T.setVm vm₁).calling g' mk (Value.ref b :: As).toArray, t, U', L, hT, X', hL, e1, e2, hq, st⟩
section
variable {y : MethodName} {bytes cc : ByteArray} {maxL nL mc ms n index : Nat} {ret : Option FieldType} {ws : List Cond} {rm : Room} {Pc : Array Value → State → Prop} {Qc : Array Value → State → Outcome → State → Prop} {XC : String → State → State → Prop} {free : Addr → Prop} {Ts : List Cond} {own C : String} {b : Addr} {As rest : List Value} {g : JFrame}
theorem vx_runVX {hh : List (Nat × Nat × Nat × Nat)} (S : CallFix p m c cc nL s args Ts own) (hM : vx_Met l y ws rm Pc Qc XC mc ms free) (cw : vx_CVW R s args own C index y bytes maxL ret hh ws rm mc ms n) (hp : PreV s H C b Pc As)
    (hg : g.method = m) (hn : As.length = n) (hsize : g.locals.size = nL) (hstack : g.stack = As.reverse ++ .ref b :: rest) (hW : 2 * g.monitorRoom + (rest.map fun v => v.category).sum ≤ 8) (hdg : decode cc g.pc = .ok (.invokevirtual index, 3)) (hf : cells + mc ≤ R.cells ∧ slots + ms ≤ R.slots) :
    vx_Run p l e R s m args below meth c H locs cells slots mc ms g rest (Qc (Value.ref b :: As).toArray) XC free := by
  obtain ⟨⟨hrc, hrs, hfr, hlo, hws, hcw⟩, hcode, hini, hy, hlen, hl, hin, hse⟩ := cw
  have hK : vx_Back l R p e below s args y 3 8 (PreOf R mc ms Pc) (PostOf Qc mc ms free) (vx_Post XC mc ms free) := vx_backW (hh := hh) (bytes := bytes) (maxL := maxL) (ret := ret) hM hp.1 hrc hrs hfr hlo hws hcw (fun a' U hW => word_at hW (Or.inl (by first | rfl | simp [Cond.onTables, Cond.keeps, Cond.steady])) hini)
  obtain ⟨hx, hb, hml, ho, -⟩ := S
  obtain ⟨-, ⟨cellB, hcB, hoB, hclB⟩, hPc⟩ := hp
  intro T hT X
  rcases vx_callVX X hx (C := C) (hh := hh) (bytes := bytes) (maxL := maxL) (ret := ret) ho hl hin hse hcode hy hK (by rw [hT]; exact hcB) hoB hclB hg (hsize.trans hml.symm) (argsL := As) (rest := rest) (fun sig h => hn.trans (hlen sig h)) hstack hW (by rw [hb]; exact hdg)
    (fun vm₁ hW₁ => ⟨hf.1, hf.2, hPc (T.setVm vm₁) hT hW₁⟩) with ⟨v, vm₁, ⟨U', l2, c2, s2⟩, hW₁, X', ⟨g', mk, t, L, e1, e2, hq, h1, hL, h2, h3⟩, st⟩ | ⟨q, vm₁, ⟨U', l2, c2, s2⟩, hW₁, X', ⟨g', mk, t, L, E, ce, e1, e2, hq, hce, hcv, hcl, h1, hL, h2, h3⟩, st⟩
  · dsimp only [Pt.U, Pt.locs, Pt.cells, Pt.slots] at X' e1 e2 h1 h2 h3 st
    subst h1; subst h2; subst h3
    exact Or.inl ⟨v, (T.setVm vm₁).calling g' mk (Value.ref b :: As).toArray, t, U', L, hT, X', hL, e1, e2, hq, st⟩
  · dsimp only [Pt.U, Pt.locs, Pt.cells, Pt.slots] at X' e1 e2 h1 h2 h3 st hcl
    subst h1; subst h2; subst h3
    exact Or.inr ⟨q, (T.setVm vm₁).calling g' mk (Value.ref b :: As).toArray, t, U', L, E, ce, hT, X', hL, e1, e2, hq, hce, hcv, vx_cls hW₁ hcl, st⟩
theorem vx_runSX {hh : List (Nat × Nat × Nat × Nat)} (S : CallFix p m c cc nL s args Ts own) (hM : vx_Met l y ws rm Pc Qc XC mc ms free) (cw : vx_CSW R s args own index y bytes maxL ret hh ws rm mc ms n) (hp : PreS s H Pc As)
    (hg : g.method = m) (hn : As.length = n) (hsize : g.locals.size = nL) (hstack : g.stack = As.reverse ++ rest) (hW : 2 * g.monitorRoom + (rest.map fun v => v.category).sum ≤ 8) (hdg : decode cc g.pc = .ok (.invokestatic index, 3)) (hf : cells + mc ≤ R.cells ∧ slots + ms ≤ R.slots) :
    vx_Run p l e R s m args below meth c H locs cells slots mc ms g rest (Qc As.toArray) XC free := by
  obtain ⟨⟨hrc, hrs, hfr, hlo, hws, hcw⟩, hcode, hini, hy, hlen, hl, hstt⟩ := cw
  have hK : vx_Back l R p e below s args y 3 8 (PreOf R mc ms Pc) (PostOf Qc mc ms free) (vx_Post XC mc ms free) := vx_backW (hh := hh) (bytes := bytes) (maxL := maxL) (ret := ret) hM hp.1 hrc hrs hfr hlo hws hcw (fun a' U hW => word_at hW (Or.inl (by first | rfl | simp [Cond.onTables, Cond.keeps, Cond.steady])) hini)
  obtain ⟨hx, hb, hml, ho, -⟩ := S
  intro T hT X
  rcases vx_callSX X hx (hh := hh) (bytes := bytes) (maxL := maxL) (ret := ret) ho hl hstt hini hcode hy hK hg (hsize.trans hml.symm) (argsL := As) (rest := rest) (fun sig h => hn.trans (hlen sig h)) hstack hW (by rw [hb]; exact hdg)
    (fun vm₁ hW₁ => ⟨hf.1, hf.2, hp.2 (T.setVm vm₁) hT hW₁⟩) with ⟨v, vm₁, ⟨U', l2, c2, s2⟩, hW₁, X', ⟨g', mk, t, L, e1, e2, hq, h1, hL, h2, h3⟩, st⟩ | ⟨q, vm₁, ⟨U', l2, c2, s2⟩, hW₁, X', ⟨g', mk, t, L, E, ce, e1, e2, hq, hce, hcv, hcl, h1, hL, h2, h3⟩, st⟩
  · dsimp only [Pt.U, Pt.locs, Pt.cells, Pt.slots] at X' e1 e2 h1 h2 h3 st
    subst h1; subst h2; subst h3
    exact Or.inl ⟨v, (T.setVm vm₁).calling g' mk As.toArray, t, U', L, hT, X', hL, e1, e2, hq, st⟩
  · dsimp only [Pt.U, Pt.locs, Pt.cells, Pt.slots] at X' e1 e2 h1 h2 h3 st hcl
    subst h1; subst h2; subst h3
    exact Or.inr ⟨q, (T.setVm vm₁).calling g' mk As.toArray, t, U', L, E, ce, hT, X', hL, e1, e2, hq, hce, hcv, vx_cls hW₁ hcl, st⟩
end
end VXH
theorem vx_ofWH {l : Launch} {y : MethodName} {ws ws' : List Cond} {rm : Room} {Pc : Array Value → State → Prop} {Qc : Array Value → State → Outcome → State → Prop} {XC : String → State → State → Prop} {mc ms : Nat} {free : Addr → Prop} {cc : ByteArray} {maxL : Nat} {ret : Option FieldType} {hh : List (Nat × Nat × Nat × Nat)}
    (hy : plainName y.cls = true) (hw : ws = Cond.codeWith y cc maxL ret hh :: ws')
    (body : ∀ p e s m args below meth c s₁, BodyLoose p l y (headSpec ws rm) cc maxL ret e s m args below meth c s₁ → c.maxLocals = maxL → Pc args s →
      W p l e (headSpec ws rm).room s m args below meth c s.heap [] 0 0 (vx_MQ below Qc XC args s mc ms free) (entryFrame m args maxL)) : vx_Met l y ws rm Pc Qc XC mc ms free := by
  refine MetFree.of_bodyS (code := cc) (maxLocals := maxL) (ret := ret) hy ?_ ?_
  · intro args s m h hn
    obtain ⟨m9, meth, c, hn9, h1, h2, h3, h4, -, h5, h6, -⟩ := Cond.codeWith_spec (atoms_spec (ws := ws) h _ (by rw [hw]; exact List.mem_cons_self))
    cases hn.symm.trans hn9
    exact ⟨meth, c, h1, h2, h3, h4, h5, h6⟩
  · intro p e s m args below meth c s₁ B hml hP _
    have hh0 : s₁.heap = s.heap := by rw [B.state]; rfl
    obtain ⟨t, a1, o, b1, b2, b3⟩ := body p e s m args below meth c s₁ B hml hP s₁ hh0 (Stand.of_body B)
    exact ⟨t, o, a1, b1, b2, b3⟩
/-! ===== END ===== -/
/-! ===== BEGIN a constructor that throws (launches without stack traces) ===== -/
section VXIA
variable {p : Program} {l : Launch} {e : Env} {R : Room} {s : State} {m : MethodId} {args : Array Value} {below : List Frame} {meth : Method} {c : Code} {T : State} {locs : List Loc} {cells slots : Nat}
theorem vx_callI (X : Stand p l e R s m args below meth c T locs cells slots) (hexec : p.tables.exec = Jvm.exec) {own : String} {index : Nat} {y : MethodName} {bytes : ByteArray} {maxL : Nat}
    (hown : s.vm.findClass own = some m.cls) (hy1 : y.name = "<init>") (hlink : (Cond.methodLink own index y).before args s = true) (hinst : (Cond.instanceMethod y).before args s = true)
    (hcode : (Cond.code y bytes maxL none).before args s = true) (hy : y.cls ≠ "java/lang/invoke/MethodHandle" ∧ y.cls ≠ "java/lang/invoke/VarHandle")
    {W9 : Nat} {Pre : Pt → Array Value → Prop} {Post : Pt → Array Value → Option Value → Pt → Prop} {PostX : Pt → Array Value → Addr → Pt → Prop} (hK : vx_Back l R p e below s args y 3 W9 Pre Post PostX)
    {g : JFrame} (hg : g.method = m) (hsize : g.locals.size = c.maxLocals) {a : Addr} {argsL rest : List Value} (hlen : ∀ sig, parseMethodDescriptor y.desc = some sig → argsL.length = sig.parameters.length)
    (hstack : g.stack = argsL.reverse ++ .ref a :: rest) (hW : 2 * g.monitorRoom + (rest.map fun v => v.category).sum ≤ W9) (hdg : decode c.code g.pc = .ok (.invokespecial index, 3))
    (hpre : ∀ vm₁, s.WarmedH vm₁ → Pre ⟨T.setVm vm₁, locs, cells, slots⟩ (Value.ref a :: argsL).toArray) :
    (∃ (v : Option Value) (vm₁ : Vm) (B : Pt), s.WarmedH vm₁ ∧ Stand p l e R s m args below meth c B.U B.locs B.cells B.slots ∧ Post ⟨T.setVm vm₁, locs, cells, slots⟩ (Value.ref a :: argsL).toArray v B ∧
      ∀ target, Steps p.tables e below (B.U.setTop { g with pc := g.pc + 3, stack := v.toList ++ rest }) target → Steps p.tables e below (T.setTop g) target) ∨
    (∃ (q : Addr) (vm₁ : Vm) (B : Pt), s.WarmedH vm₁ ∧ Stand p l e R s m args below meth c B.U B.locs B.cells B.slots ∧ PostX ⟨T.setVm vm₁, locs, cells, slots⟩ (Value.ref a :: argsL).toArray q B ∧
      Steps p.tables e below (T.setTop g) ((B.U.setTop { g with stack := rest }).pushFrame (.throwing q))) := by
  subst hg
  have hpl : e.platform.magicAccessors = ({} : Platform).magicAccessors := by rw [X.admits.platform]
  obtain ⟨mk, methM, cM, kP, vm₁, hnamed, hmethM, hcodeM, -, hlocalsM, -, hkP, -, hW₁, hstep₁⟩ := Steps.initColdArgs (e := e) X.here hexec X.warmed hpl hown hy1 hy hlink hinst hcode (f := g) rfl hlen hstack hdg
  have X₁ := X.noted hW₁
  rcases hK g.method meth c ⟨T.setVm vm₁, locs, cells, slots⟩ { g with stack := rest } (.invokespecial index) mk (Value.ref a :: argsL).toArray X₁ rfl hsize hdg hW (X₁.named hnamed) (hpre vm₁ X₁.warmed) with ⟨v, B, X', hpost, hsteps⟩ | ⟨q, B, X', hpost, hsteps⟩
  · exact Or.inl ⟨v, vm₁, B, X₁.warmed, X', hpost, fun target h => hstep₁ _ fun acts => by rw [doInvoke_state]; exact hsteps.trans h⟩
  · exact Or.inr ⟨q, vm₁, B, X₁.warmed, X', hpost, hstep₁ _ fun acts => by rw [doInvoke_state]; exact hsteps⟩
end VXIA
section VXIB
variable {p : Program} {l : Launch} {e : Env} {R : Room} {s : State} {m : MethodId} {args : Array Value} {below : List Frame} {meth : Method} {c : Code} {H : Heap} {locs : List Loc} {cells slots : Nat}
variable {y : MethodName} {bytes cc : ByteArray} {maxL nL mc ms n index : Nat} {ret : Option FieldType} {ws : List Cond} {rm : Room} {Pc : Array Value → State → Prop} {Qc : Array Value → State → Outcome → State → Prop} {XC : String → State → State → Prop} {free : Addr → Prop} {Ts : List Cond} {own C : String} {b : Addr} {As rest : List Value} {g : JFrame}
theorem vx_runI (S : CallFix p m c cc nL s args Ts own) (hM : vx_Met l y ws rm Pc Qc XC mc ms free) (cw : CallB R s args own index y bytes maxL none ws rm mc ms n ∧ y.name = "<init>" ∧ (Cond.instanceMethod y).before args s = true) (hp : PreS s H Pc (.ref b :: As))
    (hg : g.method = m) (hn : As.length = n) (hsize : g.locals.size = nL) (hstack : g.stack = As.reverse ++ .ref b :: rest) (hW : 2 * g.monitorRoom + (rest.map fun v => v.category).sum ≤ 8) (hdg : decode cc g.pc = .ok (.invokespecial index, 3)) (hf : cells + mc ≤ R.cells ∧ slots + ms ≤ R.slots) :
    vx_Run p l e R s m args below meth c H locs cells slots mc ms g rest (Qc (Value.ref b :: As).toArray) XC free := by
  have hK : vx_Back l R p e below s args y 3 8 (PreOf R mc ms Pc) (PostOf Qc mc ms free) (vx_Post XC mc ms free) := vx_callBack cw.1 hM hp.1
  obtain ⟨⟨-, -, -, -, -, -, hcode, -, hy, hlen, hl⟩, hy1, hin⟩ := cw
  obtain ⟨hx, hb, hml, ho, -⟩ := S
  have hPc := hp.2
  intro T hT X
  rcases vx_callI X hx (bytes := bytes) (maxL := maxL) ho hy1 hl hin hcode hy hK hg (hsize.trans hml.symm) (a := b) (argsL := As) (rest := rest) (fun sig h => hn.trans (hlen sig h)) hstack hW (by rw [hb]; exact hdg)
    (fun vm₁ hW₁ => ⟨hf.1, hf.2, hPc (T.setVm vm₁) hT hW₁⟩) with ⟨v, vm₁, ⟨U', l2, c2, s2⟩, hW₁, X', ⟨g', mk, t, L, e1, e2, hq, h1, hL, h2, h3⟩, st⟩ | ⟨q, vm₁, ⟨U', l2, c2, s2⟩, hW₁, X', ⟨g', mk, t, L, E, ce, e1, e2, hq, hce, hcv, hcl, h1, hL, h2, h3⟩, st⟩
  · dsimp only [Pt.U, Pt.locs, Pt.cells, Pt.slots] at X' e1 e2 h1 h2 h3 st
    subst h1; subst h2; subst h3
    exact Or.inl ⟨v, (T.setVm vm₁).calling g' mk (Value.ref b :: As).toArray, t, U', L, hT, X', hL, e1, e2, hq, st⟩
  · dsimp only [Pt.U, Pt.locs, Pt.cells, Pt.slots] at X' e1 e2 h1 h2 h3 st hcl
    subst h1; subst h2; subst h3
    exact Or.inr ⟨q, (T.setVm vm₁).calling g' mk (Value.ref b :: As).toArray, t, U', L, E, ce, hT, X', hL, e1, e2, hq, hce, hcv, vx_cls hW₁ hcl, st⟩
end VXIB
/-! ===== END ===== -/
/-! ===== BEGIN a private constructor of a nest mate that throws ===== -/
section VXIC
variable {p : Program} {l : Launch} {e : Env} {R : Room} {s : State} {m : MethodId} {args : Array Value} {below : List Frame} {meth : Method} {c : Code} {T : State} {locs : List Loc} {cells slots : Nat}
theorem vx_callIN (X : Stand p l e R s m args below meth c T locs cells slots) (hexec : p.tables.exec = Jvm.exec) {own : String} {index : Nat} {host : String} {y : MethodName} {bytes : ByteArray} {maxL : Nat}
    (hown : s.vm.findClass own = some m.cls) (hy1 : y.name = "<init>") (hlink : (Cond.methodLinkNest own index y host).before args s = true) (hinst : (Cond.instanceMethod y).before args s = true)
    (hcode : (Cond.code y bytes maxL none).before args s = true) (hy : y.cls ≠ "java/lang/invoke/MethodHandle" ∧ y.cls ≠ "java/lang/invoke/VarHandle")
    {W9 : Nat} {Pre : Pt → Array Value → Prop} {Post : Pt → Array Value → Option Value → Pt → Prop} {PostX : Pt → Array Value → Addr → Pt → Prop} (hK : vx_Back l R p e below s args y 3 W9 Pre Post PostX)
    {g : JFrame} (hg : g.method = m) (hsize : g.locals.size = c.maxLocals) {a : Addr} {argsL rest : List Value} (hlen : ∀ sig, parseMethodDescriptor y.desc = some sig → argsL.length = sig.parameters.length)
    (hstack : g.stack = argsL.reverse ++ .ref a :: rest) (hW : 2 * g.monitorRoom + (rest.map fun v => v.category).sum ≤ W9) (hdg : decode c.code g.pc = .ok (.invokespecial index, 3))
    (hpre : ∀ vm₁, s.WarmedH vm₁ → Pre ⟨T.setVm vm₁, locs, cells, slots⟩ (Value.ref a :: argsL).toArray) :
    (∃ (v : Option Value) (vm₁ : Vm) (B : Pt), s.WarmedH vm₁ ∧ Stand p l e R s m args below meth c B.U B.locs B.cells B.slots ∧ Post ⟨T.setVm vm₁, locs, cells, slots⟩ (Value.ref a :: argsL).toArray v B ∧
      ∀ target, Steps p.tables e below (B.U.setTop { g with pc := g.pc + 3, stack := v.toList ++ rest }) target → Steps p.tables e below (T.setTop g) target) ∨
    (∃ (q : Addr) (vm₁ : Vm) (B : Pt), s.WarmedH vm₁ ∧ Stand p l e R s m args below meth c B.U B.locs B.cells B.slots ∧ PostX ⟨T.setVm vm₁, locs, cells, slots⟩ (Value.ref a :: argsL).toArray q B ∧
      Steps p.tables e below (T.setTop g) ((B.U.setTop { g with stack := rest }).pushFrame (.throwing q))) := by
  subst hg
  have hpl : e.platform.magicAccessors = ({} : Platform).magicAccessors := by rw [X.admits.platform]
  obtain ⟨mk, methM, cM, kP, vm₁, hnamed, hmethM, hcodeM, -, hlocalsM, -, hkP, -, hW₁, hstep₁⟩ := Steps.initColdArgsNest (e := e) X.here hexec X.warmed hpl hown hy1 hy hlink hinst hcode (f := g) rfl hlen hstack hdg
  have X₁ := X.noted hW₁
  rcases hK g.method meth c ⟨T.setVm vm₁, locs, cells, slots⟩ { g with stack := rest } (.invokespecial index) mk (Value.ref a :: argsL).toArray X₁ rfl hsize hdg hW (X₁.named hnamed) (hpre vm₁ X₁.warmed) with ⟨v, B, X', hpost, hsteps⟩ | ⟨q, B, X', hpost, hsteps⟩
  · exact Or.inl ⟨v, vm₁, B, X₁.warmed, X', hpost, fun target h => hstep₁ _ fun acts => by rw [doInvoke_state]; exact hsteps.trans h⟩
  · exact Or.inr ⟨q, vm₁, B, X₁.warmed, X', hpost, hstep₁ _ fun acts => by rw [doInvoke_state]; exact hsteps⟩
end VXIC
section VXID
variable {p : Program} {l : Launch} {e : Env} {R : Room} {s : State} {m : MethodId} {args : Array Value} {below : List Frame} {meth : Method} {c : Code} {H : Heap} {locs : List Loc} {cells slots : Nat}
theorem vx_runIN {y : MethodName} {bytes cc : ByteArray} {maxL nL mc ms n index : Nat} {ws : List Cond} {rm : Room} {Pc : Array Value → State → Prop} {Qc : Array Value → State → Outcome → State → Prop} {XC : String → State → State → Prop} {free : Addr → Prop} {Ts : List Cond} {own host : String} {b : Addr} {As rest : List Value} {g : JFrame}
    (S : CallFix p m c cc nL s args Ts own) (hM : vx_Met l y ws rm Pc Qc XC mc ms free) (cw : va_CN R s args own index y host bytes maxL none ws rm mc ms n ∧ y.name = "<init>" ∧ (Cond.instanceMethod y).before args s = true) (hp : PreS s H Pc (.ref b :: As))
    (hg : g.method = m) (hn : As.length = n) (hsize : g.locals.size = nL) (hstack : g.stack = As.reverse ++ .ref b :: rest) (hW : 2 * g.monitorRoom + (rest.map fun v => v.category).sum ≤ 8) (hdg : decode cc g.pc = .ok (.invokespecial index, 3)) (hf : cells + mc ≤ R.cells ∧ slots + ms ≤ R.slots) :
    vx_Run p l e R s m args below meth c H locs cells slots mc ms g rest (Qc (Value.ref b :: As).toArray) XC free := by
  obtain ⟨⟨⟨hrc, hrs, hfr, hlo, hws, hcw⟩, hcode, hini, hy, hlen, hl⟩, hx1, hx2⟩ := cw
  have hK : vx_Back l R p e below s args y 3 8 (PreOf R mc ms Pc) (PostOf Qc mc ms free) (vx_Post XC mc ms free) := vx_back (bytes := bytes) (maxL := maxL) (ret := none) hM hp.1 hrc hrs hfr hlo hws hcw (fun a' U hW => word_at hW (Or.inl (by first | rfl | simp [Cond.onTables, Cond.keeps, Cond.steady])) hini)
  obtain ⟨hx, hb, hml, ho, -⟩ := S
  have hPc := hp.2
  intro T hT X
  rcases vx_callIN X hx (bytes := bytes) (maxL := maxL) ho hx1 hl hx2 hcode hy hK hg (hsize.trans hml.symm) (a := b) (argsL := As) (rest := rest) (fun sig h => hn.trans (hlen sig h)) hstack hW (by rw [hb]; exact hdg)
    (fun vm₁ hW₁ => ⟨hf.1, hf.2, hPc (T.setVm vm₁) hT hW₁⟩) with ⟨v, vm₁, ⟨U', l2, c2, s2⟩, hW₁, X', ⟨g', mk, t, L, e1, e2, hq, h1, hL, h2, h3⟩, st⟩ | ⟨q, vm₁, ⟨U', l2, c2, s2⟩, hW₁, X', ⟨g', mk, t, L, E, ce, e1, e2, hq, hce, hcv, hcl, h1, hL, h2, h3⟩, st⟩
  · dsimp only [Pt.U, Pt.locs, Pt.cells, Pt.slots] at X' e1 e2 h1 h2 h3 st
    subst h1; subst h2; subst h3
    exact Or.inl ⟨v, (T.setVm vm₁).calling g' mk (Value.ref b :: As).toArray, t, U', L, hT, X', hL, e1, e2, hq, st⟩
  · dsimp only [Pt.U, Pt.locs, Pt.cells, Pt.slots] at X' e1 e2 h1 h2 h3 st hcl
    subst h1; subst h2; subst h3
    exact Or.inr ⟨q, (T.setVm vm₁).calling g' mk (Value.ref b :: As).toArray, t, U', L, E, ce, hT, X', hL, e1, e2, hq, hce, hcv, vx_cls hW₁ hcl, st⟩
end VXID
/-! ===== END ===== -/
/-! ===== BEGIN a method of a class above, found by the receiver, that may throw (follows va_callVU, va_runU of this kit) ===== -/
section
variable {p : Program} {l : Launch} {e : Env} {R : Room} {s : State} {m : MethodId} {args : Array Value} {below : List Frame} {meth : Method} {c : Code} {H : Heap} {locs : List Loc} {cells slots : Nat}
theorem vx_callVU {T : State} {locs : List Loc} {cells slots : Nat} (X : Stand p l e R s m args below meth c T locs cells slots) (hexec : p.tables.exec = Jvm.exec) {own C owner : String} {index : Nat} {x y : MethodName} {bytes : ByteArray} {maxL : Nat} {ret : Option FieldType}
    (hown : s.vm.findClass own = some m.cls) (hlink : (Cond.methodLink own index x).before args s = true) (hsame : (Cond.sameMethod x.cls owner x.name x.desc).before args s = true)
    (hd0 : va_Decl s ⟨owner, x.name, x.desc⟩) (howner : owner ≠ "java/lang/invoke/MethodHandle" ∧ owner ≠ "java/lang/invoke/VarHandle")
    (hsel : (Cond.selects C x y).before args s = true) (hinst : (Cond.instanceMethod y).before args s = true) (hcode : (Cond.code y bytes maxL ret).before args s = true)
    {W : Nat} {Pre : Pt → Array Value → Prop} {Post : Pt → Array Value → Option Value → Pt → Prop} {PostX : Pt → Array Value → Addr → Pt → Prop} (hK : vx_Back l R p e below s args y 3 W Pre Post PostX)
    {b : Addr} {cellB : Cell} (hcell : T.heap[b]? = some cellB) (hobj : cellB.vm.isStatics = false) (hcls : s.vm.findClass C = some cellB.cls)
    {g : JFrame} (hg : g.method = m) (hsize : g.locals.size = c.maxLocals) {argsL rest : List Value} (hlen : ∀ sig, parseMethodDescriptor x.desc = some sig → argsL.length = sig.parameters.length)
    (hstack : g.stack = argsL.reverse ++ .ref b :: rest) (hW : 2 * g.monitorRoom + (rest.map fun v => v.category).sum ≤ W) (hdg : decode c.code g.pc = .ok (.invokevirtual index, 3))
    (hpre : ∀ vm₁, s.WarmedH vm₁ → Pre ⟨T.setVm vm₁, locs, cells, slots⟩ (Value.ref b :: argsL).toArray) :
    (∃ (v : Option Value) (vm₁ : Vm) (B : Pt), s.WarmedH vm₁ ∧ Stand p l e R s m args below meth c B.U B.locs B.cells B.slots ∧ Post ⟨T.setVm vm₁, locs, cells, slots⟩ (Value.ref b :: argsL).toArray v B ∧
      ∀ target, Steps p.tables e below (B.U.setTop { g with pc := g.pc + 3, stack := v.toList ++ rest }) target → Steps p.tables e below (T.setTop g) target) ∨
    (∃ (q : Addr) (vm₁ : Vm) (B : Pt), s.WarmedH vm₁ ∧ Stand p l e R s m args below meth c B.U B.locs B.cells B.slots ∧ PostX ⟨T.setVm vm₁, locs, cells, slots⟩ (Value.ref b :: argsL).toArray q B ∧
      Steps p.tables e below (T.setTop g) ((B.U.setTop { g with stack := rest }).pushFrame (.throwing q))) := by
  obtain ⟨r0, r, hn, hrm, hstR, hsigR⟩ := hd0
  obtain ⟨cn, ck, r1, hcn, hck, hni, hf, hn1⟩ := Cond.sameMethod_found hsame
  cases hn.symm.trans hn1
  obtain ⟨mk, methM, hnamed, hmethM, -, habM⟩ := Cond.instanceMethod_spec hinst
  obtain ⟨c2, r2, m2, q1, q2, q3, q4, kP, hkP, hkPi⟩ := Cond.selects_spec hsel
  cases hcls.symm.trans q1
  cases hf.symm.trans q2
  cases hnamed.symm.trans q3
  have hselP : selectMethod e.platform s.vm cellB.cls r0 = .method mk := by rw [Launch.admits_selectMethod X.admits]; exact q4
  obtain ⟨vm₁, X₁, hstep₁⟩ := X.invokevirtualUp hexec hown hlink hsame howner hn hrm hstR (a := b) (cell := cellB) hcell
    (fun z h => by rw [h] at hobj; cases hobj) hselP hmethM habM hkP hkPi (g := g) hg (argsL := argsL) (rest := rest) (hlen _ hsigR) hstack hdg
  rcases hK m meth c ⟨T.setVm vm₁, locs, cells, slots⟩ { g with stack := rest } (.invokevirtual index) mk (Value.ref b :: argsL).toArray X₁ hg hsize hdg hW (X₁.named hnamed) (hpre vm₁ X₁.warmed) with ⟨v, B, X', hpost, hsteps⟩ | ⟨q, B, X', hpost, hsteps⟩
  · exact Or.inl ⟨v, vm₁, B, X₁.warmed, X', hpost, fun target h => hstep₁ _ fun acts => by rw [doInvoke_state]; exact hsteps.trans h⟩
  · exact Or.inr ⟨q, vm₁, B, X₁.warmed, X', hpost, hstep₁ _ fun acts => by rw [doInvoke_state]; exact hsteps⟩
theorem vx_runU {x y : MethodName} {bytes cc : ByteArray} {maxL nL mc ms n index : Nat} {ret : Option FieldType} {ws : List Cond} {rm : Room} {Pc : Array Value → State → Prop} {Qc : Array Value → State → Outcome → State → Prop} {XC : String → State → State → Prop} {free : Addr → Prop} {Ts : List Cond} {own C owner : String} {b : Addr} {As rest : List Value} {g : JFrame}
    (S : CallFix p m c cc nL s args Ts own) (hM : vx_Met l y ws rm Pc Qc XC mc ms free) (cw : va_CU R s args own C owner index x y bytes maxL ret ws rm mc ms n) (hp : PreV s H C b Pc As)
    (hg : g.method = m) (hn : As.length = n) (hsize : g.locals.size = nL) (hstack : g.stack = As.reverse ++ .ref b :: rest) (hW : 2 * g.monitorRoom + (rest.map fun v => v.category).sum ≤ 8) (hdg : decode cc g.pc = .ok (.invokevirtual index, 3)) (hf : cells + mc ≤ R.cells ∧ slots + ms ≤ R.slots) :
    vx_Run p l e R s m args below meth c H locs cells slots mc ms g rest (Qc (Value.ref b :: As).toArray) XC free := by
  obtain ⟨hrc, hrs, hfr, hlo, hws, hcw⟩ := cw.back
  have hini := cw.init
  have hK : vx_Back l R p e below s args y 3 8 (PreOf R mc ms Pc) (PostOf Qc mc ms free) (vx_Post XC mc ms free) := vx_back (bytes := bytes) (maxL := maxL) (ret := ret) hM hp.1 hrc hrs hfr hlo hws hcw (fun a' U hW => word_at hW (Or.inl (by first | rfl | simp [Cond.onTables, Cond.keeps, Cond.steady])) hini)
  obtain ⟨hx, hb, hml, ho, -⟩ := S
  obtain ⟨-, ⟨cellB, hcB, hoB, hclB⟩, hPc⟩ := hp
  intro T hT X
  rcases vx_callVU X hx (C := C) (owner := owner) (bytes := bytes) (maxL := maxL) (ret := ret) ho cw.link cw.same cw.decl cw.notMH cw.sel cw.inst cw.code hK (by rw [hT]; exact hcB) hoB hclB hg (hsize.trans hml.symm) (argsL := As) (rest := rest) (fun sig h => hn.trans (cw.len sig h)) hstack hW (by rw [hb]; exact hdg)
    (fun vm₁ hW₁ => ⟨hf.1, hf.2, hPc (T.setVm vm₁) hT hW₁⟩) with ⟨v, vm₁, ⟨U', l2, c2, s2⟩, hW₁, X', ⟨g', mk, t, L, e1, e2, hq, h1, hL, h2, h3⟩, st⟩ | ⟨q, vm₁, ⟨U', l2, c2, s2⟩, hW₁, X', ⟨g', mk, t, L, E, ce, e1, e2, hq, hce, hcv, hcl, h1, hL, h2, h3⟩, st⟩
  · dsimp only [Pt.U, Pt.locs, Pt.cells, Pt.slots] at X' e1 e2 h1 h2 h3 st
    subst h1; subst h2; subst h3
    exact Or.inl ⟨v, (T.setVm vm₁).calling g' mk (Value.ref b :: As).toArray, t, U', L, hT, X', hL, e1, e2, hq, st⟩
  · dsimp only [Pt.U, Pt.locs, Pt.cells, Pt.slots] at X' e1 e2 h1 h2 h3 st hcl
    subst h1; subst h2; subst h3
    exact Or.inr ⟨q, (T.setVm vm₁).calling g' mk (Value.ref b :: As).toArray, t, U', L, E, ce, hT, X', hL, e1, e2, hq, hce, hcv, vx_cls hW₁ hcl, st⟩
end
/-! ===== END ===== -/
/-! ===== BEGIN super.m(..) that may throw (follows va_callSU, va_runSU) ===== -/
section
variable {p : Program} {l : Launch} {e : Env} {R : Room} {s : State} {m : MethodId} {args : Array Value} {below : List Frame} {meth : Method} {c : Code} {H : Heap} {locs : List Loc} {cells slots : Nat}
theorem vx_callSU {T : State} {locs : List Loc} {cells slots : Nat} (X : Stand p l e R s m args below meth c T locs cells slots) (hexec : p.tables.exec = Jvm.exec) {own : String} {index : Nat} {y : MethodName} {bytes : ByteArray} {maxL : Nat} {ret : Option FieldType}
    (hown : s.vm.findClass own = some m.cls) (hlink : (Cond.methodLink own index y).before args s = true) (hsame : (Cond.sameMethod y.cls y.cls y.name y.desc).before args s = true) (hsup : (Cond.superclass own y.cls).before args s = true)
    (hinst : (Cond.instanceMethod y).before args s = true) (hcode : (Cond.code y bytes maxL ret).before args s = true) (hno : y.name ≠ "<init>")
    {W : Nat} {Pre : Pt → Array Value → Prop} {Post : Pt → Array Value → Option Value → Pt → Prop} {PostX : Pt → Array Value → Addr → Pt → Prop} (hK : vx_Back l R p e below s args y 3 W Pre Post PostX)
    {b : Addr} {cellB : Cell} {kB : Class} (hcell : T.heap[b]? = some cellB) (hobj : cellB.vm.isStatics = false) (hkB : s.vm.classes[cellB.cls]? = some kB)
    {g : JFrame} (hg : g.method = m) (hsize : g.locals.size = c.maxLocals) {argsL rest : List Value} (hlen : ∀ sig, parseMethodDescriptor y.desc = some sig → argsL.length = sig.parameters.length)
    (hstack : g.stack = argsL.reverse ++ .ref b :: rest) (hW : 2 * g.monitorRoom + (rest.map fun v => v.category).sum ≤ W) (hdg : decode c.code g.pc = .ok (.invokespecial index, 3))
    (hpre : ∀ vm₁, s.WarmedH vm₁ → Pre ⟨T.setVm vm₁, locs, cells, slots⟩ (Value.ref b :: argsL).toArray) :
    (∃ (v : Option Value) (vm₁ : Vm) (B : Pt), s.WarmedH vm₁ ∧ Stand p l e R s m args below meth c B.U B.locs B.cells B.slots ∧ Post ⟨T.setVm vm₁, locs, cells, slots⟩ (Value.ref b :: argsL).toArray v B ∧
      ∀ target, Steps p.tables e below (B.U.setTop { g with pc := g.pc + 3, stack := v.toList ++ rest }) target → Steps p.tables e below (T.setTop g) target) ∨
    (∃ (q : Addr) (vm₁ : Vm) (B : Pt), s.WarmedH vm₁ ∧ Stand p l e R s m args below meth c B.U B.locs B.cells B.slots ∧ PostX ⟨T.setVm vm₁, locs, cells, slots⟩ (Value.ref b :: argsL).toArray q B ∧
      Steps p.tables e below (T.setTop g) ((B.U.setTop { g with stack := rest }).pushFrame (.throwing q))) := by
  obtain ⟨mk, methM, hnamed, hmethM, hstM, habM⟩ := Cond.instanceMethod_spec hinst
  obtain ⟨methM', cM, hmethM', -, -, -, -, -, -, hsigM⟩ := Cond.code_spec hnamed hcode
  cases hmethM.symm.trans hmethM'
  obtain ⟨ps, dk, kp, hps, hdk, hkp, hsuper, -, -, hnid⟩ := Cond.superclass_spec hown hsup
  have hn : s.methodNamed? ⟨y.cls, y.name, y.desc⟩ = some mk := hnamed
  have hpm : ps = mk.cls := Option.some.inj (hps.symm.trans (findClass_of_methodNamed hnamed))
  have hsub : s.vm.isSubclass ps mk.cls = true := by rw [hpm]; simp [Vm.isSubclass, Vm.isSubclassAux]
  obtain ⟨vm₁, X₁, hstep₁⟩ := X.invokespecialUp hexec hown hlink hsame hn hmethM hstM habM hno hdk hnid hps hsuper hsub (a := b) (cell := cellB) hcell
    (fun z h => by rw [h] at hobj; cases hobj) hkB (g := g) hg (argsL := argsL) (rest := rest) (hlen _ hsigM) hstack hdg
  rcases hK m meth c ⟨T.setVm vm₁, locs, cells, slots⟩ { g with stack := rest } (.invokespecial index) mk (Value.ref b :: argsL).toArray X₁ hg hsize hdg hW (X₁.named hnamed) (hpre vm₁ X₁.warmed) with ⟨v, B, X', hpost, hsteps⟩ | ⟨q, B, X', hpost, hsteps⟩
  · exact Or.inl ⟨v, vm₁, B, X₁.warmed, X', hpost, fun target h => hstep₁ _ (by rw [doInvoke_state]; exact hsteps.trans h)⟩
  · exact Or.inr ⟨q, vm₁, B, X₁.warmed, X', hpost, hstep₁ _ (by rw [doInvoke_state]; exact hsteps)⟩
theorem vx_runSU {y : MethodName} {bytes cc : ByteArray} {maxL nL mc ms n index : Nat} {ret : Option FieldType} {ws : List Cond} {rm : Room} {Pc : Array Value → State → Prop} {Qc : Array Value → State → Outcome → State → Prop} {XC : String → State → State → Prop} {free : Addr → Prop} {Ts : List Cond} {own C : String} {cC : ClassId} {b : Addr} {As rest : List Value} {g : JFrame}
    (hat : ClassAt s C cC) (S : CallFix p m c cc nL s args Ts own) (hM : vx_Met l y ws rm Pc Qc XC mc ms free) (cw : va_CS R s args own index y bytes maxL ret ws rm mc ms n) (hp : PreV s H C b Pc As)
    (hg : g.method = m) (hn : As.length = n) (hsize : g.locals.size = nL) (hstack : g.stack = As.reverse ++ .ref b :: rest) (hW : 2 * g.monitorRoom + (rest.map fun v => v.category).sum ≤ 8) (hdg : decode cc g.pc = .ok (.invokespecial index, 3)) (hf : cells + mc ≤ R.cells ∧ slots + ms ≤ R.slots) :
    vx_Run p l e R s m args below meth c H locs cells slots mc ms g rest (Qc (Value.ref b :: As).toArray) XC free := by
  obtain ⟨⟨hrc, hrs, hfr, hlo, hws, hcw⟩, hl1, hl2, hl3, hl4, hini, hcode, hno, hlen⟩ := cw
  have hK : vx_Back l R p e below s args y 3 8 (PreOf R mc ms Pc) (PostOf Qc mc ms free) (vx_Post XC mc ms free) := vx_back (bytes := bytes) (maxL := maxL) (ret := ret) hM hp.1 hrc hrs hfr hlo hws hcw (fun a' U hW => word_at hW (Or.inl (by first | rfl | simp [Cond.onTables, Cond.keeps, Cond.steady])) hini)
  obtain ⟨hx, hb, hml, ho, -⟩ := S
  obtain ⟨-, ⟨cellB, hcB, hoB, hclB⟩, hPc⟩ := hp
  obtain ⟨hfc, kB, hkB, -⟩ := hat
  cases hfc.symm.trans hclB
  intro T hT X
  rcases vx_callSU X hx (bytes := bytes) (maxL := maxL) (ret := ret) ho hl1 hl2 hl3 hl4 hcode hno hK (by rw [hT]; exact hcB) hoB hkB hg (hsize.trans hml.symm) (argsL := As) (rest := rest) (fun sig h => hn.trans (hlen sig h)) hstack hW (by rw [hb]; exact hdg)
    (fun vm₁ hW₁ => ⟨hf.1, hf.2, hPc (T.setVm vm₁) hT hW₁⟩) with ⟨v, vm₁, ⟨U', l2, c2, s2⟩, hW₁, X', ⟨g', mk, t, L, e1, e2, hq, h1, hL, h2, h3⟩, st⟩ | ⟨q, vm₁, ⟨U', l2, c2, s2⟩, hW₁, X', ⟨g', mk, t, L, E, ce, e1, e2, hq, hce, hcv, hcl, h1, hL, h2, h3⟩, st⟩
  · dsimp only [Pt.U, Pt.locs, Pt.cells, Pt.slots] at X' e1 e2 h1 h2 h3 st
    subst h1; subst h2; subst h3
    exact Or.inl ⟨v, (T.setVm vm₁).calling g' mk (Value.ref b :: As).toArray, t, U', L, hT, X', hL, e1, e2, hq, st⟩
  · dsimp only [Pt.U, Pt.locs, Pt.cells, Pt.slots] at X' e1 e2 h1 h2 h3 st hcl
    subst h1; subst h2; subst h3
    exact Or.inr ⟨q, (T.setVm vm₁).calling g' mk (Value.ref b :: As).toArray, t, U', L, E, ce, hT, X', hL, e1, e2, hq, hce, hcv, vx_cls hW₁ hcl, st⟩
end
/-! ===== END ===== -/
/-! ===== BEGIN a private method of a nest mate that may throw (follows va_callVN, va_callSN, va_runVN, va_runSN) ===== -/
section
variable {p : Program} {l : Launch} {e : Env} {R : Room} {s : State} {m : MethodId} {args : Array Value} {below : List Frame} {meth : Method} {c : Code} {H : Heap} {locs : List Loc} {cells slots : Nat}
variable {T : State}
theorem vx_callVN (X : Stand p l e R s m args below meth c T locs cells slots) (hexec : p.tables.exec = Jvm.exec) {own C : String} {index : Nat} {host : String} {y : MethodName} {bytes : ByteArray} {maxL : Nat} {ret : Option FieldType}
    (hown : s.vm.findClass own = some m.cls) (hlink : (Cond.methodLinkNest own index y host).before args s = true) (hinst : (Cond.instanceMethod y).before args s = true) (hsel : (Cond.selects C y y).before args s = true)
    (hcode : (Cond.code y bytes maxL ret).before args s = true) (hy : y.cls ≠ "java/lang/invoke/MethodHandle" ∧ y.cls ≠ "java/lang/invoke/VarHandle")
    {W : Nat} {Pre : Pt → Array Value → Prop} {Post : Pt → Array Value → Option Value → Pt → Prop} {PostX : Pt → Array Value → Addr → Pt → Prop} (hK : vx_Back l R p e below s args y 3 W Pre Post PostX)
    {b : Addr} {cellB : Cell} (hcell : T.heap[b]? = some cellB) (hobj : cellB.vm.isStatics = false) (hcls : s.vm.findClass C = some cellB.cls)
    {g : JFrame} (hg : g.method = m) (hsize : g.locals.size = c.maxLocals) {argsL rest : List Value} (hlen : ∀ sig, parseMethodDescriptor y.desc = some sig → argsL.length = sig.parameters.length)
    (hstack : g.stack = argsL.reverse ++ .ref b :: rest) (hW : 2 * g.monitorRoom + (rest.map fun v => v.category).sum ≤ W) (hdg : decode c.code g.pc = .ok (.invokevirtual index, 3))
    (hpre : ∀ vm₁, s.WarmedH vm₁ → Pre ⟨T.setVm vm₁, locs, cells, slots⟩ (Value.ref b :: argsL).toArray) :
    (∃ (v : Option Value) (vm₁ : Vm) (B : Pt), s.WarmedH vm₁ ∧ Stand p l e R s m args below meth c B.U B.locs B.cells B.slots ∧ Post ⟨T.setVm vm₁, locs, cells, slots⟩ (Value.ref b :: argsL).toArray v B ∧
      ∀ target, Steps p.tables e below (B.U.setTop { g with pc := g.pc + 3, stack := v.toList ++ rest }) target → Steps p.tables e below (T.setTop g) target) ∨
    (∃ (q : Addr) (vm₁ : Vm) (B : Pt), s.WarmedH vm₁ ∧ Stand p l e R s m args below meth c B.U B.locs B.cells B.slots ∧ PostX ⟨T.setVm vm₁, locs, cells, slots⟩ (Value.ref b :: argsL).toArray q B ∧
      Steps p.tables e below (T.setTop g) ((B.U.setTop { g with stack := rest }).pushFrame (.throwing q))) := by
  obtain ⟨mk, methM, hnamed, hmethM, hstM, habM⟩ := Cond.instanceMethod_spec hinst
  obtain ⟨methM', cM, hmethM', -, -, -, -, -, -, hsigM⟩ := Cond.code_spec hnamed hcode
  cases hmethM.symm.trans hmethM'
  obtain ⟨c2, r2, m2, q1, q2, q3, q4, kP, hkP, hkPi⟩ := Cond.selects_spec hsel
  cases hcls.symm.trans q1
  cases (State.methodFound?_of_named hnamed hy).symm.trans q2
  cases hnamed.symm.trans q3
  have hselP : selectMethod e.platform s.vm cellB.cls mk = .method mk := by rw [Launch.admits_selectMethod X.admits]; exact q4
  obtain ⟨vm₁, X₁, hstep₁⟩ := X.invokevirtualNest hexec hown hlink hnamed hmethM hstM hkP hkPi hy (a := b) (cell := cellB) hcell
    (fun z h => by rw [h] at hobj; cases hobj) hselP hmethM habM hkP hkPi (g := g) hg (argsL := argsL) (rest := rest) (hlen _ hsigM) hstack hdg
  rcases hK m meth c ⟨T.setVm vm₁, locs, cells, slots⟩ { g with stack := rest } (.invokevirtual index) mk (Value.ref b :: argsL).toArray X₁ hg hsize hdg hW (X₁.named hnamed) (hpre vm₁ X₁.warmed) with ⟨v, B, X', hpost, hsteps⟩ | ⟨q, B, X', hpost, hsteps⟩
  · exact Or.inl ⟨v, vm₁, B, X₁.warmed, X', hpost, fun target h => hstep₁ _ fun acts => by rw [doInvoke_state]; exact hsteps.trans h⟩
  · exact Or.inr ⟨q, vm₁, B, X₁.warmed, X', hpost, hstep₁ _ fun acts => by rw [doInvoke_state]; exact hsteps⟩
theorem vx_callSN (X : Stand p l e R s m args below meth c T locs cells slots) (hexec : p.tables.exec = Jvm.exec) {own : String} {index : Nat} {host : String} {y : MethodName} {bytes : ByteArray} {maxL : Nat} {ret : Option FieldType}
    (hown : s.vm.findClass own = some m.cls) (hlink : (Cond.methodLinkNest own index y host).before args s = true) (hstat : (Cond.static y).before args s = true) (hinit : (Cond.initialized y.cls).before args s = true)
    (hcode : (Cond.code y bytes maxL ret).before args s = true) (hy : y.cls ≠ "java/lang/invoke/MethodHandle" ∧ y.cls ≠ "java/lang/invoke/VarHandle")
    {W : Nat} {Pre : Pt → Array Value → Prop} {Post : Pt → Array Value → Option Value → Pt → Prop} {PostX : Pt → Array Value → Addr → Pt → Prop} (hK : vx_Back l R p e below s args y 3 W Pre Post PostX)
    {g : JFrame} (hg : g.method = m) (hsize : g.locals.size = c.maxLocals) {argsL rest : List Value} (hlen : ∀ sig, parseMethodDescriptor y.desc = some sig → argsL.length = sig.parameters.length)
    (hstack : g.stack = argsL.reverse ++ rest) (hW : 2 * g.monitorRoom + (rest.map fun v => v.category).sum ≤ W) (hdg : decode c.code g.pc = .ok (.invokestatic index, 3))
    (hpre : ∀ vm₁, s.WarmedH vm₁ → Pre ⟨T.setVm vm₁, locs, cells, slots⟩ argsL.toArray) :
    (∃ (v : Option Value) (vm₁ : Vm) (B : Pt), s.WarmedH vm₁ ∧ Stand p l e R s m args below meth c B.U B.locs B.cells B.slots ∧ Post ⟨T.setVm vm₁, locs, cells, slots⟩ argsL.toArray v B ∧
      ∀ target, Steps p.tables e below (B.U.setTop { g with pc := g.pc + 3, stack := v.toList ++ rest }) target → Steps p.tables e below (T.setTop g) target) ∨
    (∃ (q : Addr) (vm₁ : Vm) (B : Pt), s.WarmedH vm₁ ∧ Stand p l e R s m args below meth c B.U B.locs B.cells B.slots ∧ PostX ⟨T.setVm vm₁, locs, cells, slots⟩ argsL.toArray q B ∧
      Steps p.tables e below (T.setTop g) ((B.U.setTop { g with stack := rest }).pushFrame (.throwing q))) := by
  obtain ⟨mk, hnamed⟩ := Cond.code_named hcode
  obtain ⟨methM, cM, hmethM, -, -, -, -, -, -, hsigM⟩ := Cond.code_spec hnamed hcode
  have hstatic : methM.isStatic = true := Cond.static_spec hnamed hmethM hstat
  obtain ⟨kP, hkP, -⟩ := className_of_methodNamed hnamed
  have hinitP : kP.init = .initialized := Cond.initialized_spec (findClass_of_methodNamed hnamed) hkP hinit
  obtain ⟨vm₁, X₁, hstep₁⟩ := X.invokestaticNest hexec hown hlink hnamed hmethM hstatic hkP hinitP hy (g := g) hg (argsL := argsL) (rest := rest) (hlen _ hsigM) hstack hdg
  rcases hK m meth c ⟨T.setVm vm₁, locs, cells, slots⟩ { g with stack := rest } (.invokestatic index) mk argsL.toArray X₁ hg hsize hdg hW (X₁.named hnamed) (hpre vm₁ X₁.warmed) with ⟨v, B, X', hpost, hsteps⟩ | ⟨q, B, X', hpost, hsteps⟩
  · exact Or.inl ⟨v, vm₁, B, X₁.warmed, X', hpost, fun target h => hstep₁ _ fun acts => by rw [doInvoke_state]; exact hsteps.trans h⟩
  · exact Or.inr ⟨q, vm₁, B, X₁.warmed, X', hpost, hstep₁ _ fun acts => by rw [doInvoke_state]; exact hsteps⟩
theorem vx_runVN {y : MethodName} {bytes cc : ByteArray} {maxL nL mc ms n index : Nat} {ret : Option FieldType} {ws : List Cond} {rm : Room} {Pc : Array Value → State → Prop} {Qc : Array Value → State → Outcome → State → Prop} {XC : String → State → State → Prop} {free : Addr → Prop} {Ts : List Cond} {own C host : String} {b : Addr} {As rest : List Value} {g : JFrame}
    (S : CallFix p m c cc nL s args Ts own) (hM : vx_Met l y ws rm Pc Qc XC mc ms free) (cw : va_CN R s args own index y host bytes maxL ret ws rm mc ms n ∧ (Cond.instanceMethod y).before args s = true ∧ (Cond.selects C y y).before args s = true) (hp : PreV s H C b Pc As)
    (hg : g.method = m) (hn : As.length = n) (hsize : g.locals.size = nL) (hstack : g.stack = As.reverse ++ .ref b :: rest) (hW : 2 * g.monitorRoom + (rest.map fun v => v.category).sum ≤ 8) (hdg : decode cc g.pc = .ok (.invokevirtual index, 3)) (hf : cells + mc ≤ R.cells ∧ slots + ms ≤ R.slots) :
    vx_Run p l e R s m args below meth c H locs cells slots mc ms g rest (Qc (Value.ref b :: As).toArray) XC free := by
  obtain ⟨⟨⟨hrc, hrs, hfr, hlo, hws, hcw⟩, hcode, hini, hy, hlen, hl⟩, hx1, hx2⟩ := cw
  have hK : vx_Back l R p e below s args y 3 8 (PreOf R mc ms Pc) (PostOf Qc mc ms free) (vx_Post XC mc ms free) := vx_back (bytes := bytes) (maxL := maxL) (ret := ret) hM hp.1 hrc hrs hfr hlo hws hcw (fun a' U hW => word_at hW (Or.inl (by first | rfl | simp [Cond.onTables, Cond.keeps, Cond.steady])) hini)
  obtain ⟨hx, hb, hml, ho, -⟩ := S
  obtain ⟨-, ⟨cellB, hcB, hoB, hclB⟩, hPc⟩ := hp
  intro T hT X
  rcases vx_callVN X hx (C := C) (bytes := bytes) (maxL := maxL) (ret := ret) ho hl hx1 hx2 hcode hy hK (by rw [hT]; exact hcB) hoB hclB hg (hsize.trans hml.symm) (argsL := As) (rest := rest) (fun sig h => hn.trans (hlen sig h)) hstack hW (by rw [hb]; exact hdg)
    (fun vm₁ hW₁ => ⟨hf.1, hf.2, hPc (T.setVm vm₁) hT hW₁⟩) with ⟨v, vm₁, ⟨U', l2, c2, s2⟩, hW₁, X', ⟨g', mk, t, L, e1, e2, hq, h1, hL, h2, h3⟩, st⟩ | ⟨q, vm₁, ⟨U', l2, c2, s2⟩, hW₁, X', ⟨g', mk, t, L, E, ce, e1, e2, hq, hce, hcv, hcl, h1, hL, h2, h3⟩, st⟩
  · dsimp only [Pt.U, Pt.locs, Pt.cells, Pt.slots] at X' e1 e2 h1 h2 h3 st
    subst h1; subst h2; subst h3
    exact Or.inl ⟨v, (T.setVm vm₁).calling g' mk (Value.ref b :: As).toArray, t, U', L, hT, X', hL, e1, e2, hq, st⟩
  · dsimp only [Pt.U, Pt.locs, Pt.cells, Pt.slots] at X' e1 e2 h1 h2 h3 st hcl
    subst h1; subst h2; subst h3
    exact Or.inr ⟨q, (T.setVm vm₁).calling g' mk (Value.ref b :: As).toArray, t, U', L, E, ce, hT, X', hL, e1, e2, hq, hce, hcv, vx_cls hW₁ hcl, st⟩
theorem vx_runSN {y : MethodName} {bytes cc : ByteArray} {maxL nL mc ms n index : Nat} {ret : Option FieldType} {ws : List Cond} {rm : Room} {Pc : Array Value → State → Prop} {Qc : Array Value → State → Outcome → State → Prop} {XC : String → State → State → Prop} {free : Addr → Prop} {Ts : List Cond} {own host : String} {As rest : List Value} {g : JFrame}
    (S : CallFix p m c cc nL s args Ts own) (hM : vx_Met l y ws rm Pc Qc XC mc ms free) (cw : va_CN R s args own index y host bytes maxL ret ws rm mc ms n ∧ (Cond.static y).before args s = true ∧ True) (hp : PreS s H Pc As)
    (hg : g.method = m) (hn : As.length = n) (hsize : g.locals.size = nL) (hstack : g.stack = As.reverse ++ rest) (hW : 2 * g.monitorRoom + (rest.map fun v => v.category).sum ≤ 8) (hdg : decode cc g.pc = .ok (.invokestatic index, 3)) (hf : cells + mc ≤ R.cells ∧ slots + ms ≤ R.slots) :
    vx_Run p l e R s m args below meth c H locs cells slots mc ms g rest (Qc As.toArray) XC free := by
  obtain ⟨⟨⟨hrc, hrs, hfr, hlo, hws, hcw⟩, hcode, hini, hy, hlen, hl⟩, hx1, hx2⟩ := cw
  have hK : vx_Back l R p e below s args y 3 8 (PreOf R mc ms Pc) (PostOf Qc mc ms free) (vx_Post XC mc ms free) := vx_back (bytes := bytes) (maxL := maxL) (ret := ret) hM hp.1 hrc hrs hfr hlo hws hcw (fun a' U hW => word_at hW (Or.inl (by first | rfl | simp [Cond.onTables, Cond.keeps, Cond.steady])) hini)
  obtain ⟨hx, hb, hml, ho, -⟩ := S
  have hPc := hp.2
  intro T hT X
  rcases vx_callSN X hx (bytes := bytes) (maxL := maxL) (ret := ret) ho hl hx1 hini hcode hy hK hg (hsize.trans hml.symm) (argsL := As) (rest := rest) (fun sig h => hn.trans (hlen sig h)) hstack hW (by rw [hb]; exact hdg)
    (fun vm₁ hW₁ => ⟨hf.1, hf.2, hPc (T.setVm vm₁) hT hW₁⟩) with ⟨v, vm₁, ⟨U', l2, c2, s2⟩, hW₁, X', ⟨g', mk, t, L, e1, e2, hq, h1, hL, h2, h3⟩, st⟩ | ⟨q, vm₁, ⟨U', l2, c2, s2⟩, hW₁, X', ⟨g', mk, t, L, E, ce, e1, e2, hq, hce, hcv, hcl, h1, hL, h2, h3⟩, st⟩
  · dsimp only [Pt.U, Pt.locs, Pt.cells, Pt.slots] at X' e1 e2 h1 h2 h3 st
    subst h1; subst h2; subst h3
    exact Or.inl ⟨v, (T.setVm vm₁).calling g' mk As.toArray, t, U', L, hT, X', hL, e1, e2, hq, st⟩
  · dsimp only [Pt.U, Pt.locs, Pt.cells, Pt.slots] at X' e1 e2 h1 h2 h3 st hcl
    subst h1; subst h2; subst h3
    exact Or.inr ⟨q, (T.setVm vm₁).calling g' mk As.toArray, t, U', L, E, ce, hT, X', hL, e1, e2, hq, hce, hcv, vx_cls hW₁ hcl, st⟩
end
/-! ===== END ===== -/
end
section
def RJ0 : String := "java/lang/String"
def RJ1 : String := "java/lang/StringLatin1"
def RJ3 : String := "jdk/internal/util/Preconditions"
def RJ4 : String := "java/lang/StringBuilder"
def RJ5 : String := "java/lang/AbstractStringBuilder"
def RJ6 : String := "java/lang/Integer"
def RJ7 : String := "java/util/Arrays"
def RJ8 : String := "jdk/internal/util/ArraysSupport"
def RJ9 : String := "java/lang/Math"
def RJx00060 : String := "java/lang/ArrayIndexOutOfBoundsException"
def RJx7c733 : String := "java/lang/StringIndexOutOfBoundsException"
def RL : String := "BalloonHarbourLaw"
def RX0 : String := "BalloonHarbour$Balloon"
def RX1 : String := "BalloonHarbour$Command"
def RX2 : String := "BalloonHarbour$Crews"
def RX3 : String := "BalloonHarbour$Harbour"
def RX4 : String := "BalloonHarbour$History"
def RX5 : String := "BalloonHarbour$Pilot"
def RX6 : String := "BalloonHarbour$Text"
def RX7 : String := "BalloonHarbour$Tops"
def RX8 : String := "BalloonHarbour"
def RX9 : String := "BalloonHarbourModel"
def TJ0 : u_T := fun k => match k with
  | 0 => ("java/lang/String", "value", "[B", true)
  | _ => ("java/lang/String", "coder", "B", true)
def tyJ0 : Nat → FieldType := fun k => match k with
  | 0 => .array .byte
  | _ => .byte
def TJ4 : u_T := fun k => match k with
  | 0 => ("java/lang/AbstractStringBuilder", "value", "[B", false)
  | 1 => ("java/lang/AbstractStringBuilder", "coder", "B", false)
  | 2 => ("java/lang/AbstractStringBuilder", "maybeLatin1", "Z", false)
  | _ => ("java/lang/AbstractStringBuilder", "count", "I", false)
def tyJ4 : Nat → FieldType := fun k => match k with
  | 0 => .array .byte
  | 1 => .byte
  | 2 => .boolean
  | _ => .int
def TJx00060 : u_T := fun k => match k with
  | 0 => ("java/lang/Throwable", "backtrace", "Ljava/lang/Object;", false)
  | 1 => ("java/lang/Throwable", "detailMessage", "Ljava/lang/String;", false)
  | 2 => ("java/lang/Throwable", "cause", "Ljava/lang/Throwable;", false)
  | 3 => ("java/lang/Throwable", "stackTrace", "[Ljava/lang/StackTraceElement;", false)
  | 4 => ("java/lang/Throwable", "depth", "I", false)
  | _ => ("java/lang/Throwable", "suppressedExceptions", "Ljava/util/List;", false)
def tyJx00060 : Nat → FieldType := fun k => match k with
  | 0 => .object "java/lang/Object"
  | 1 => .object "java/lang/String"
  | 2 => .object "java/lang/Throwable"
  | 3 => .array (.object "java/lang/StackTraceElement")
  | 4 => .int
  | _ => .object "java/util/List"
def TJx7c733 : u_T := fun k => match k with
  | 0 => ("java/lang/Throwable", "backtrace", "Ljava/lang/Object;", false)
  | 1 => ("java/lang/Throwable", "detailMessage", "Ljava/lang/String;", false)
  | 2 => ("java/lang/Throwable", "cause", "Ljava/lang/Throwable;", false)
  | 3 => ("java/lang/Throwable", "stackTrace", "[Ljava/lang/StackTraceElement;", false)
  | 4 => ("java/lang/Throwable", "depth", "I", false)
  | _ => ("java/lang/Throwable", "suppressedExceptions", "Ljava/util/List;", false)
def tyJx7c733 : Nat → FieldType := fun k => match k with
  | 0 => .object "java/lang/Object"
  | 1 => .object "java/lang/String"
  | 2 => .object "java/lang/Throwable"
  | 3 => .array (.object "java/lang/StackTraceElement")
  | 4 => .int
  | _ => .object "java/util/List"
def TX0 : u_T := fun k => match k with
  | 0 => ("BalloonHarbour$Balloon", "moored", "Z", false)
  | 1 => ("BalloonHarbour$Balloon", "lift", "I", false)
  | 2 => ("BalloonHarbour$Balloon", "string", "I", false)
  | 3 => ("BalloonHarbour$Balloon", "strength", "I", false)
  | 4 => ("BalloonHarbour$Balloon", "ballast", "I", false)
  | 5 => ("BalloonHarbour$Balloon", "bagCount", "I", false)
  | _ => ("BalloonHarbour$Balloon", "bags", "[I", true)
def tyX0 : Nat → FieldType := fun k => match k with
  | 0 => .boolean
  | 1 => .int
  | 2 => .int
  | 3 => .int
  | 4 => .int
  | 5 => .int
  | _ => .array .int
def TX1 : u_T := fun k => match k with
  | 0 => ("BalloonHarbour$Command", "kind", "I", false)
  | 1 => ("BalloonHarbour$Command", "valueCount", "I", false)
  | _ => ("BalloonHarbour$Command", "values", "[I", true)
def tyX1 : Nat → FieldType := fun k => match k with
  | 0 => .int
  | 1 => .int
  | _ => .array .int
def TX2 : u_T := fun k => match k with
  | 0 => ("BalloonHarbour$Crews", "pilotOf", "[I", true)
  | 1 => ("BalloonHarbour$Crews", "asked", "[I", true)
  | _ => ("BalloonHarbour$Crews", "reachable", "[I", true)
def tyX2 : Nat → FieldType := fun k => match k with
  | 0 => .array .int
  | 1 => .array .int
  | _ => .array .int
def TX3 : u_T := fun k => match k with
  | 0 => ("BalloonHarbour$Harbour", "balloons", "[LBalloonHarbour$Balloon;", true)
  | 1 => ("BalloonHarbour$Harbour", "winds", "[I", true)
  | 2 => ("BalloonHarbour$Harbour", "pilots", "[LBalloonHarbour$Pilot;", true)
  | 3 => ("BalloonHarbour$Harbour", "pilotCount", "I", false)
  | 4 => ("BalloonHarbour$Harbour", "hours", "I", false)
  | 5 => ("BalloonHarbour$Harbour", "burstCount", "I", false)
  | 6 => ("BalloonHarbour$Harbour", "loadedWeight", "I", false)
  | 7 => ("BalloonHarbour$Harbour", "droppedWeight", "I", false)
  | 8 => ("BalloonHarbour$Harbour", "lostWeight", "I", false)
  | 9 => ("BalloonHarbour$Harbour", "queue", "[I", true)
  | 10 => ("BalloonHarbour$Harbour", "queueLength", "I", false)
  | _ => ("BalloonHarbour$Harbour", "queuedBerths", "I", false)
def tyX3 : Nat → FieldType := fun k => match k with
  | 0 => .array (.object "BalloonHarbour$Balloon")
  | 1 => .array .int
  | 2 => .array (.object "BalloonHarbour$Pilot")
  | 3 => .int
  | 4 => .int
  | 5 => .int
  | 6 => .int
  | 7 => .int
  | 8 => .int
  | 9 => .array .int
  | 10 => .int
  | _ => .int
def TX4 : u_T := fun k => match k with
  | 0 => ("BalloonHarbour$History", "earlier", "[LBalloonHarbour$Harbour;", true)
  | 1 => ("BalloonHarbour$History", "next", "I", false)
  | _ => ("BalloonHarbour$History", "count", "I", false)
def tyX4 : Nat → FieldType := fun k => match k with
  | 0 => .array (.object "BalloonHarbour$Harbour")
  | 1 => .int
  | _ => .int
def TX5 : u_T := fun k => match k with
  | 0 => ("BalloonHarbour$Pilot", "weight", "I", false)
  | 1 => ("BalloonHarbour$Pilot", "from", "I", false)
  | _ => ("BalloonHarbour$Pilot", "to", "I", false)
def tyX5 : Nat → FieldType := fun k => match k with
  | 0 => .int
  | 1 => .int
  | _ => .int
def TX6 : u_T := fun k => match k with
  | 0 => ("BalloonHarbour$Text", "characters", "[C", true)
  | 1 => ("BalloonHarbour$Text", "length", "I", false)
  | 2 => ("BalloonHarbour$Text", "commands", "[LBalloonHarbour$Command;", true)
  | 3 => ("BalloonHarbour$Text", "commandCount", "I", false)
  | _ => ("BalloonHarbour$Text", "position", "I", false)
def tyX6 : Nat → FieldType := fun k => match k with
  | 0 => .array .char
  | 1 => .int
  | 2 => .array (.object "BalloonHarbour$Command")
  | 3 => .int
  | _ => .int
def TX7 : u_T := fun k => match k with
  | 0 => ("BalloonHarbour$Tops", "tops", "[I", true)
  | _ => ("BalloonHarbour$Tops", "merged", "[I", true)
def tyX7 : Nat → FieldType := fun k => match k with
  | 0 => .array .int
  | _ => .array .int
def TX8 : u_T := fun k => match k with
  | 0 => ("BalloonHarbour", "harbour", "LBalloonHarbour$Harbour;", true)
  | 1 => ("BalloonHarbour", "trial", "LBalloonHarbour$Harbour;", true)
  | 2 => ("BalloonHarbour", "snapshot", "LBalloonHarbour$Harbour;", true)
  | 3 => ("BalloonHarbour", "snapshotSaved", "Z", false)
  | 4 => ("BalloonHarbour", "history", "LBalloonHarbour$History;", true)
  | 5 => ("BalloonHarbour", "direct", "LBalloonHarbour$Command;", true)
  | 6 => ("BalloonHarbour", "text", "LBalloonHarbour$Text;", true)
  | 7 => ("BalloonHarbour", "line", "Ljava/lang/StringBuilder;", true)
  | 8 => ("BalloonHarbour", "tops", "LBalloonHarbour$Tops;", true)
  | 9 => ("BalloonHarbour", "crews", "LBalloonHarbour$Crews;", true)
  | 10 => ("BalloonHarbour", "keptFault", "I", false)
  | 11 => ("BalloonHarbour", "latestDenial", "I", false)
  | 12 => ("BalloonHarbour", "latestDetail", "I", false)
  | _ => ("BalloonHarbour", "latestCause", "I", false)
def tyX8 : Nat → FieldType := fun k => match k with
  | 0 => .object "BalloonHarbour$Harbour"
  | 1 => .object "BalloonHarbour$Harbour"
  | 2 => .object "BalloonHarbour$Harbour"
  | 3 => .boolean
  | 4 => .object "BalloonHarbour$History"
  | 5 => .object "BalloonHarbour$Command"
  | 6 => .object "BalloonHarbour$Text"
  | 7 => .object "java/lang/StringBuilder"
  | 8 => .object "BalloonHarbour$Tops"
  | 9 => .object "BalloonHarbour$Crews"
  | 10 => .int
  | 11 => .int
  | 12 => .int
  | _ => .int
def TX9 : u_T := fun k => match k with
  | 0 => ("BalloonHarbourModel", "thrown", "I", false)
  | 1 => ("BalloonHarbourModel", "s", "[I", true)
  | 2 => ("BalloonHarbourModel", "frame", "[I", true)
  | 3 => ("BalloonHarbourModel", "saved", "[I", true)
  | 4 => ("BalloonHarbourModel", "history", "[I", true)
  | 5 => ("BalloonHarbourModel", "thought", "[I", true)
  | 6 => ("BalloonHarbourModel", "kept", "I", false)
  | 7 => ("BalloonHarbourModel", "hasSaved", "Z", false)
  | 8 => ("BalloonHarbourModel", "text", "[I", true)
  | 9 => ("BalloonHarbourModel", "told", "[I", true)
  | 10 => ("BalloonHarbourModel", "out", "[I", true)
  | 11 => ("BalloonHarbourModel", "queue", "[I", true)
  | 12 => ("BalloonHarbourModel", "queued", "[I", true)
  | 13 => ("BalloonHarbourModel", "most", "[I", true)
  | 14 => ("BalloonHarbourModel", "next", "[I", true)
  | 15 => ("BalloonHarbourModel", "fed", "I", false)
  | 16 => ("BalloonHarbourModel", "outLength", "I", false)
  | 17 => ("BalloonHarbourModel", "faultAt", "I", false)
  | 18 => ("BalloonHarbourModel", "answer", "I", false)
  | 19 => ("BalloonHarbourModel", "why", "I", false)
  | 20 => ("BalloonHarbourModel", "detail", "I", false)
  | 21 => ("BalloonHarbourModel", "cause", "I", false)
  | 22 => ("BalloonHarbourModel", "waiting", "I", false)
  | 23 => ("BalloonHarbourModel", "spot", "I", false)
  | 24 => ("BalloonHarbourModel", "end", "I", false)
  | 25 => ("BalloonHarbourModel", "commands", "I", false)
  | _ => ("BalloonHarbourModel", "isWrong", "Z", false)
def tyX9 : Nat → FieldType := fun k => match k with
  | 0 => .int
  | 1 => .array .int
  | 2 => .array .int
  | 3 => .array .int
  | 4 => .array .int
  | 5 => .array .int
  | 6 => .int
  | 7 => .boolean
  | 8 => .array .int
  | 9 => .array .int
  | 10 => .array .int
  | 11 => .array .int
  | 12 => .array .int
  | 13 => .array .int
  | 14 => .array .int
  | 15 => .int
  | 16 => .int
  | 17 => .int
  | 18 => .int
  | 19 => .int
  | 20 => .int
  | 21 => .int
  | 22 => .int
  | 23 => .int
  | 24 => .int
  | 25 => .int
  | _ => .boolean
abbrev vwCl : List vw_C := [(RJ0, TJ0, 2), (RJ4, TJ4, 4), (RJx00060, TJx00060, 6), (RJx7c733, TJx7c733, 6), (RX0, TX0, 7), (RX1, TX1, 3), (RX2, TX2, 3), (RX3, TX3, 12), (RX4, TX4, 3), (RX5, TX5, 3), (RX6, TX6, 5), (RX7, TX7, 2), (RX8, TX8, 14), (RX9, TX9, 27)]
def mv_cn (n : Nat) : String := match n with
  | 0 => RJ0
  | 1 => RJ4
  | 2 => RJx00060
  | 3 => RJx7c733
  | 4 => RX0
  | 5 => RX1
  | 6 => RX2
  | 7 => RX3
  | 8 => RX4
  | 9 => RX5
  | 10 => RX6
  | 11 => RX7
  | 12 => RX8
  | 13 => RX9
  | _ => ""
def mv_df (n : Nat) : List Value := match n with
  | 0 => [.null, .int 0]
  | 1 => [.null, .int 0, .int 0, .int 0]
  | 2 => [.null, .null, .null, .null, .int 0, .null]
  | 3 => [.null, .null, .null, .null, .int 0, .null]
  | 4 => [.int 0, .int 0, .int 0, .int 0, .int 0, .int 0, .null]
  | 5 => [.int 0, .int 0, .null]
  | 6 => [.null, .null, .null]
  | 7 => [.null, .null, .null, .int 0, .int 0, .int 0, .int 0, .int 0, .int 0, .null, .int 0, .int 0]
  | 8 => [.null, .int 0, .int 0]
  | 9 => [.int 0, .int 0, .int 0]
  | 10 => [.null, .int 0, .null, .int 0, .int 0]
  | 11 => [.null, .null]
  | 12 => [.null, .null, .null, .int 0, .null, .null, .null, .null, .null, .null, .int 0, .int 0, .int 0, .int 0]
  | 13 => [.int 0, .null, .null, .null, .null, .null, .int 0, .int 0, .null, .null, .null, .null, .null, .null, .null, .int 0, .int 0, .int 0, .int 0, .int 0, .int 0, .int 0, .int 0, .int 0, .int 0, .int 0, .int 0]
  | _ => []
def mv_en (n : Nat) : String := match n with
  | 0 => "java/lang/IllegalArgumentException"
  | 1 => "java/util/NoSuchElementException"
  | 2 => "java/lang/IndexOutOfBoundsException"
  | 3 => "java/lang/UnsupportedOperationException"
  | 4 => "java/lang/IllegalStateException"
  | 5 => "java/lang/ArithmeticException"
  | _ => ""
def mv_sn (n : Nat) : Option (String × Nat × String) := match n with
  | 0 => some ("BalloonHarbour", 95, "no such berth")
  | 1 => some ("BalloonHarbour", 129, "no such rank")
  | 2 => some ("BalloonHarbour", 140, "no such bag")
  | 3 => some ("BalloonHarbour", 154, "no drop set")
  | 4 => some ("BalloonHarbour", 168, "no such hour")
  | 5 => some ("BalloonHarbour", 244, "no balloons")
  | 6 => some ("BalloonHarbour", 258, "the text buffer is full")
  | 7 => some ("BalloonHarbour", 271, "the text does not match the grammar")
  | 8 => some ("BalloonHarbour", 290, "a command failed")
  | 9 => some ("BalloonHarbour", 299, "no fault position was kept")
  | 10 => some ("BalloonHarbour", 315, "no such index")
  | 11 => some ("BalloonHarbour", 324, "the latest denial has no cause")
  | 12 => some ("BalloonHarbour", 329, "nothing can be undone")
  | 13 => some ("BalloonHarbour", 334, "there is no snapshot")
  | 14 => some ("BalloonHarbour", 343, "a parameter is out of range")
  | 15 => some ("BalloonHarbour", 345, "no balloon is moored there")
  | 16 => some ("BalloonHarbour", 351, "denied")
  | 17 => some ("BalloonHarbour", 360, "no such pilot")
  | 18 => some ("BalloonHarbour", 362, "nothing was denied")
  | 19 => some ("BalloonHarbour", 364, "the height is out of range")
  | 20 => some ("BalloonHarbour", 366, "the strength is out of range")
  | 21 => some ("BalloonHarbour$Text", 71, "moor D N N N")
  | 22 => some ("BalloonHarbour$Text", 73, "cast D")
  | 23 => some ("BalloonHarbour$Text", 75, "load D N")
  | 24 => some ("BalloonHarbour$Text", 77, "drop D D")
  | 25 => some ("BalloonHarbour$Text", 79, "rise D N")
  | 26 => some ("BalloonHarbour$Text", 81, "wind N=S")
  | 27 => some ("BalloonHarbour$Text", 83, "wait N")
  | 28 => some ("BalloonHarbour$Text", 85, "pilot N N-N")
  | 29 => some ("BalloonHarbour$Text", 87, "leave D")
  | 30 => some ("BalloonHarbourModel", 258, "wind ")
  | 31 => some ("BalloonHarbourModel", 264, "=")
  | 32 => some ("BalloonHarbourModel", 266, "-")
  | 33 => some ("BalloonHarbourModel", 268, "")
  | 34 => some ("BalloonHarbourModel", 270, "moor ")
  | 35 => some ("BalloonHarbourModel", 272, " ")
  | 36 => some ("BalloonHarbourModel", 274, "cast ")
  | 37 => some ("BalloonHarbourModel", 276, "leave ")
  | 38 => some ("BalloonHarbourModel", 278, "load ")
  | 39 => some ("BalloonHarbourModel", 280, "drop ")
  | 40 => some ("BalloonHarbourModel", 282, "rise ")
  | 41 => some ("BalloonHarbourModel", 284, "wait ")
  | 42 => some ("BalloonHarbourModel", 289, "pilot ")
  | _ => none
def mv_tn (n : Nat) : Option (String × String × String) := match n with
  | 0 => some ("java/lang/String", "COMPACT_STRINGS", "Z")
  | 1 => some ("java/lang/Integer", "DigitOnes", "[B")
  | 2 => some ("java/lang/Integer", "DigitTens", "[B")
  | 3 => some ("jdk/internal/util/Preconditions", "SIOOBE_FORMATTER", "Ljava/util/function/BiFunction;")
  | _ => none
def mv_ao (n : Nat) : Bool := match n with
  | 4 => true
  | 5 => true
  | 7 => true
  | 9 => true
  | _ => false
abbrev cX0_init : ByteArray := prog_2_method_1_code
def yX0_init : MethodName := ⟨RX0, "<init>", "()V"⟩
abbrev cX0_copyFrom : ByteArray := prog_2_method_2_code
def yX0_copyFrom : MethodName := ⟨RX0, "copyFrom", "(LBalloonHarbour$Balloon;)V"⟩
abbrev cX0_begin : ByteArray := prog_2_method_3_code
def yX0_begin : MethodName := ⟨RX0, "begin", "(III)V"⟩
abbrev cX0_spareLift : ByteArray := prog_2_method_4_code
def yX0_spareLift : MethodName := ⟨RX0, "spareLift", "()I"⟩
abbrev cX0_heightWith : ByteArray := prog_2_method_5_code
def yX0_heightWith : MethodName := ⟨RX0, "heightWith", "(I)I"⟩
abbrev cX0_presentHeight : ByteArray := prog_2_method_6_code
def yX0_presentHeight : MethodName := ⟨RX0, "presentHeight", "()I"⟩
abbrev cX0_isOverstrained : ByteArray := prog_2_method_7_code
def yX0_isOverstrained : MethodName := ⟨RX0, "isOverstrained", "()Z"⟩
abbrev cX0_changeLift : ByteArray := prog_2_method_8_code
def yX0_changeLift : MethodName := ⟨RX0, "changeLift", "(I)V"⟩
abbrev cX0_hasBag : ByteArray := prog_2_method_9_code
def yX0_hasBag : MethodName := ⟨RX0, "hasBag", "(I)Z"⟩
abbrev cX0_addBag : ByteArray := prog_2_method_10_code
def yX0_addBag : MethodName := ⟨RX0, "addBag", "(I)V"⟩
abbrev cX0_removeBag : ByteArray := prog_2_method_11_code
def yX0_removeBag : MethodName := ⟨RX0, "removeBag", "(I)I"⟩
abbrev cX0_weightOf : ByteArray := prog_2_method_12_code
def yX0_weightOf : MethodName := ⟨RX0, "weightOf", "(I)I"⟩
abbrev cX0_bestDropSet : ByteArray := prog_2_method_13_code
def yX0_bestDropSet : MethodName := ⟨RX0, "bestDropSet", "(I)I"⟩
abbrev cX0_isBetter : ByteArray := prog_2_method_14_code
def yX0_isBetter : MethodName := ⟨RX0, "isBetter", "(II)Z"⟩
abbrev cX0_fewestBagsByWeight : ByteArray := prog_2_method_15_code
def yX0_fewestBagsByWeight : MethodName := ⟨RX0, "fewestBagsByWeight", "(I)I"⟩
abbrev cX0_heaviestOutside : ByteArray := prog_2_method_16_code
def yX0_heaviestOutside : MethodName := ⟨RX0, "heaviestOutside", "(I)I"⟩
abbrev cX1_init : ByteArray := prog_3_method_1_code
def yX1_init : MethodName := ⟨RX1, "<init>", "()V"⟩
abbrev cX1_begin : ByteArray := prog_3_method_2_code
def yX1_begin : MethodName := ⟨RX1, "begin", "(I)V"⟩
abbrev cX1_add : ByteArray := prog_3_method_3_code
def yX1_add : MethodName := ⟨RX1, "add", "(I)V"⟩
abbrev cX1_set : ByteArray := prog_3_method_4_code
def yX1_set : MethodName := ⟨RX1, "set", "(IIIII)V"⟩
abbrev cX2_init : ByteArray := prog_4_method_1_code
def yX2_init : MethodName := ⟨RX2, "<init>", "()V"⟩
abbrev cX2_mostByChanging : ByteArray := prog_4_method_2_code
def yX2_mostByChanging : MethodName := ⟨RX2, "mostByChanging", "(LBalloonHarbour$Harbour;)I"⟩
abbrev cX2_findsBalloon : ByteArray := prog_4_method_3_code
def yX2_findsBalloon : MethodName := ⟨RX2, "findsBalloon", "(LBalloonHarbour$Harbour;I[I[II)Z"⟩
abbrev cX2_mostBySets : ByteArray := prog_4_method_4_code
def yX2_mostBySets : MethodName := ⟨RX2, "mostBySets", "(LBalloonHarbour$Harbour;)I"⟩
abbrev cX2_giveToOnePilot : ByteArray := prog_4_method_5_code
def yX2_giveToOnePilot : MethodName := ⟨RX2, "giveToOnePilot", "(LBalloonHarbour$Harbour;I)V"⟩
abbrev cX3_init : ByteArray := prog_5_method_1_code
def yX3_init : MethodName := ⟨RX3, "<init>", "()V"⟩
abbrev cX3_copyFrom : ByteArray := prog_5_method_2_code
def yX3_copyFrom : MethodName := ⟨RX3, "copyFrom", "(LBalloonHarbour$Harbour;)V"⟩
abbrev cX3_hasBalloon : ByteArray := prog_5_method_3_code
def yX3_hasBalloon : MethodName := ⟨RX3, "hasBalloon", "(I)Z"⟩
abbrev cX3_hasPilot : ByteArray := prog_5_method_4_code
def yX3_hasPilot : MethodName := ⟨RX3, "hasPilot", "(I)Z"⟩
abbrev cX3_hourOfDay : ByteArray := prog_5_method_5_code
def yX3_hourOfDay : MethodName := ⟨RX3, "hourOfDay", "()I"⟩
abbrev cX3_countBalloons : ByteArray := prog_5_method_6_code
def yX3_countBalloons : MethodName := ⟨RX3, "countBalloons", "()I"⟩
abbrev cX3_weightAboard : ByteArray := prog_5_method_7_code
def yX3_weightAboard : MethodName := ⟨RX3, "weightAboard", "()I"⟩
abbrev cX3_sumOfHeights : ByteArray := prog_5_method_8_code
def yX3_sumOfHeights : MethodName := ⟨RX3, "sumOfHeights", "()I"⟩
abbrev cX3_berthAtRank : ByteArray := prog_5_method_9_code
def yX3_berthAtRank : MethodName := ⟨RX3, "berthAtRank", "(I)I"⟩
abbrev cX3_countAhead : ByteArray := prog_5_method_10_code
def yX3_countAhead : MethodName := ⟨RX3, "countAhead", "(I)I"⟩
abbrev cX3_isAhead : ByteArray := prog_5_method_11_code
def yX3_isAhead : MethodName := ⟨RX3, "isAhead", "(II)Z"⟩
abbrev cX3_topOf : ByteArray := prog_5_method_12_code
def yX3_topOf : MethodName := ⟨RX3, "topOf", "(I)I"⟩
abbrev cX3_calmOfTwoDays : ByteArray := prog_5_method_13_code
def yX3_calmOfTwoDays : MethodName := ⟨RX3, "calmOfTwoDays", "(I)I"⟩
abbrev cX3_calmByTrying : ByteArray := prog_5_method_14_code
def yX3_calmByTrying : MethodName := ⟨RX3, "calmByTrying", "(I)I"⟩
abbrev cX3_fitsCrew : ByteArray := prog_5_method_15_code
def yX3_fitsCrew : MethodName := ⟨RX3, "fitsCrew", "(II)Z"⟩
abbrev cX3_refusalOf : ByteArray := prog_5_method_16_code
def yX3_refusalOf : MethodName := ⟨RX3, "refusalOf", "(LBalloonHarbour$Command;)I"⟩
abbrev cX3_refusalToMoor : ByteArray := prog_5_method_17_code
def yX3_refusalToMoor : MethodName := ⟨RX3, "refusalToMoor", "(IIII)I"⟩
abbrev cX3_refusalToLoad : ByteArray := prog_5_method_18_code
def yX3_refusalToLoad : MethodName := ⟨RX3, "refusalToLoad", "(II)I"⟩
abbrev cX3_refusalToDrop : ByteArray := prog_5_method_19_code
def yX3_refusalToDrop : MethodName := ⟨RX3, "refusalToDrop", "(II)I"⟩
abbrev cX3_refusalToRise : ByteArray := prog_5_method_20_code
def yX3_refusalToRise : MethodName := ⟨RX3, "refusalToRise", "(II)I"⟩
abbrev cX3_refusalOfWind : ByteArray := prog_5_method_21_code
def yX3_refusalOfWind : MethodName := ⟨RX3, "refusalOfWind", "(II)I"⟩
abbrev cX3_refusalOfPilot : ByteArray := prog_5_method_22_code
def yX3_refusalOfPilot : MethodName := ⟨RX3, "refusalOfPilot", "(III)I"⟩
abbrev cX3_detailOf : ByteArray := prog_5_method_23_code
def yX3_detailOf : MethodName := ⟨RX3, "detailOf", "(ILBalloonHarbour$Command;)I"⟩
abbrev cX3_carryOut : ByteArray := prog_5_method_24_code
def yX3_carryOut : MethodName := ⟨RX3, "carryOut", "(LBalloonHarbour$Command;)I"⟩
abbrev cX3_putBalloon : ByteArray := prog_5_method_25_code
def yX3_putBalloon : MethodName := ⟨RX3, "putBalloon", "(IIII)I"⟩
abbrev cX3_removeBalloon : ByteArray := prog_5_method_26_code
def yX3_removeBalloon : MethodName := ⟨RX3, "removeBalloon", "(I)I"⟩
abbrev cX3_loadBag : ByteArray := prog_5_method_27_code
def yX3_loadBag : MethodName := ⟨RX3, "loadBag", "(II)I"⟩
abbrev cX3_dropBag : ByteArray := prog_5_method_28_code
def yX3_dropBag : MethodName := ⟨RX3, "dropBag", "(II)I"⟩
abbrev cX3_dropBestSet : ByteArray := prog_5_method_29_code
def yX3_dropBestSet : MethodName := ⟨RX3, "dropBestSet", "(II)I"⟩
abbrev cX3_replaceWind : ByteArray := prog_5_method_30_code
def yX3_replaceWind : MethodName := ⟨RX3, "replaceWind", "(II)I"⟩
abbrev cX3_putPilot : ByteArray := prog_5_method_31_code
def yX3_putPilot : MethodName := ⟨RX3, "putPilot", "(III)I"⟩
abbrev cX3_takePilot : ByteArray := prog_5_method_32_code
def yX3_takePilot : MethodName := ⟨RX3, "takePilot", "(I)I"⟩
abbrev cX3_passHours : ByteArray := prog_5_method_33_code
def yX3_passHours : MethodName := ⟨RX3, "passHours", "(I)I"⟩
abbrev cX3_burstBalloons : ByteArray := prog_5_method_34_code
def yX3_burstBalloons : MethodName := ⟨RX3, "burstBalloons", "()I"⟩
abbrev cX3_shake : ByteArray := prog_5_method_35_code
def yX3_shake : MethodName := ⟨RX3, "shake", "(I)V"⟩
abbrev cX3_queueIfOverstrained : ByteArray := prog_5_method_36_code
def yX3_queueIfOverstrained : MethodName := ⟨RX3, "queueIfOverstrained", "(I)V"⟩
abbrev cX4_init : ByteArray := prog_6_method_1_code
def yX4_init : MethodName := ⟨RX4, "<init>", "()V"⟩
abbrev cX4_remember : ByteArray := prog_6_method_2_code
def yX4_remember : MethodName := ⟨RX4, "remember", "(LBalloonHarbour$Harbour;)V"⟩
abbrev cX4_bringBack : ByteArray := prog_6_method_3_code
def yX4_bringBack : MethodName := ⟨RX4, "bringBack", "(LBalloonHarbour$Harbour;)V"⟩
abbrev cX5_init : ByteArray := prog_7_method_1_code
def yX5_init : MethodName := ⟨RX5, "<init>", "()V"⟩
abbrev cX5_set : ByteArray := prog_7_method_2_code
def yX5_set : MethodName := ⟨RX5, "set", "(III)V"⟩
abbrev cX5_copyFrom : ByteArray := prog_7_method_3_code
def yX5_copyFrom : MethodName := ⟨RX5, "copyFrom", "(LBalloonHarbour$Pilot;)V"⟩
abbrev cX5_worksAt : ByteArray := prog_7_method_4_code
def yX5_worksAt : MethodName := ⟨RX5, "worksAt", "(I)Z"⟩
abbrev cX6_init : ByteArray := prog_8_method_1_code
def yX6_init : MethodName := ⟨RX6, "<init>", "()V"⟩
abbrev cX6_append : ByteArray := prog_8_method_2_code
def yX6_append : MethodName := ⟨RX6, "append", "(C)V"⟩
abbrev cX6_read : ByteArray := prog_8_method_3_code
def yX6_read : MethodName := ⟨RX6, "read", "()Z"⟩
abbrev cX6_readCommand : ByteArray := prog_8_method_4_code
def yX6_readCommand : MethodName := ⟨RX6, "readCommand", "(LBalloonHarbour$Command;)Z"⟩
abbrev cX6_readAs : ByteArray := prog_8_method_5_code
def yX6_readAs : MethodName := ⟨RX6, "readAs", "(ILBalloonHarbour$Command;)Z"⟩
abbrev cX6_formOf : ByteArray := prog_8_method_6_code
def yX6_formOf : MethodName := ⟨RX6, "formOf", "(I)Ljava/lang/String;"⟩
abbrev cX6_readPart : ByteArray := prog_8_method_7_code
def yX6_readPart : MethodName := ⟨RX6, "readPart", "(CLBalloonHarbour$Command;)Z"⟩
abbrev cX6_readNumber : ByteArray := prog_8_method_8_code
def yX6_readNumber : MethodName := ⟨RX6, "readNumber", "(IILBalloonHarbour$Command;)Z"⟩
abbrev cX6_readCharacter : ByteArray := prog_8_method_9_code
def yX6_readCharacter : MethodName := ⟨RX6, "readCharacter", "(C)Z"⟩
abbrev cX7_init : ByteArray := prog_9_method_1_code
def yX7_init : MethodName := ⟨RX7, "<init>", "()V"⟩
abbrev cX7_collect : ByteArray := prog_9_method_2_code
def yX7_collect : MethodName := ⟨RX7, "collect", "(LBalloonHarbour$Harbour;)I"⟩
abbrev cX7_tangledByPairs : ByteArray := prog_9_method_3_code
def yX7_tangledByPairs : MethodName := ⟨RX7, "tangledByPairs", "(LBalloonHarbour$Harbour;)I"⟩
abbrev cX7_tangledByMerging : ByteArray := prog_9_method_4_code
def yX7_tangledByMerging : MethodName := ⟨RX7, "tangledByMerging", "(LBalloonHarbour$Harbour;)I"⟩
abbrev cX7_sortAndCount : ByteArray := prog_9_method_5_code
def yX7_sortAndCount : MethodName := ⟨RX7, "sortAndCount", "([I[IIII)I"⟩
abbrev cX7_mergeAndCount : ByteArray := prog_9_method_6_code
def yX7_mergeAndCount : MethodName := ⟨RX7, "mergeAndCount", "([I[IIII)I"⟩
abbrev cX8_init : ByteArray := prog_1_method_1_code
def yX8_init : MethodName := ⟨RX8, "<init>", "()V"⟩
abbrev cX8_moor : ByteArray := prog_1_method_2_code
def yX8_moor : MethodName := ⟨RX8, "moor", "(IIII)I"⟩
abbrev cX8_castOff : ByteArray := prog_1_method_3_code
def yX8_castOff : MethodName := ⟨RX8, "castOff", "(I)I"⟩
abbrev cX8_balloonCount : ByteArray := prog_1_method_4_code
def yX8_balloonCount : MethodName := ⟨RX8, "balloonCount", "()I"⟩
abbrev cX8_isMoored : ByteArray := prog_1_method_5_code
def yX8_isMoored : MethodName := ⟨RX8, "isMoored", "(I)Z"⟩
abbrev cX8_lift : ByteArray := prog_1_method_6_code
def yX8_lift : MethodName := ⟨RX8, "lift", "(I)I"⟩
abbrev cX8_ballast : ByteArray := prog_1_method_7_code
def yX8_ballast : MethodName := ⟨RX8, "ballast", "(I)I"⟩
abbrev cX8_height : ByteArray := prog_1_method_8_code
def yX8_height : MethodName := ⟨RX8, "height", "(I)I"⟩
abbrev cX8_isBursting : ByteArray := prog_1_method_9_code
def yX8_isBursting : MethodName := ⟨RX8, "isBursting", "(I)Z"⟩
abbrev cX8_berthByHeight : ByteArray := prog_1_method_10_code
def yX8_berthByHeight : MethodName := ⟨RX8, "berthByHeight", "(I)I"⟩
abbrev cX8_load : ByteArray := prog_1_method_11_code
def yX8_load : MethodName := ⟨RX8, "load", "(II)I"⟩
abbrev cX8_drop : ByteArray := prog_1_method_12_code
def yX8_drop : MethodName := ⟨RX8, "drop", "(II)I"⟩
abbrev cX8_rise : ByteArray := prog_1_method_13_code
def yX8_rise : MethodName := ⟨RX8, "rise", "(II)I"⟩
abbrev cX8_bagCount : ByteArray := prog_1_method_14_code
def yX8_bagCount : MethodName := ⟨RX8, "bagCount", "(I)I"⟩
abbrev cX8_bagWeight : ByteArray := prog_1_method_15_code
def yX8_bagWeight : MethodName := ⟨RX8, "bagWeight", "(II)I"⟩
abbrev cX8_fewestDrops : ByteArray := prog_1_method_16_code
def yX8_fewestDrops : MethodName := ⟨RX8, "fewestDrops", "(II)I"⟩
abbrev cX8_fewestDropsBySets : ByteArray := prog_1_method_17_code
def yX8_fewestDropsBySets : MethodName := ⟨RX8, "fewestDropsBySets", "(II)I"⟩
abbrev cX8_dropWeight : ByteArray := prog_1_method_18_code
def yX8_dropWeight : MethodName := ⟨RX8, "dropWeight", "(II)I"⟩
abbrev cX8_setWind : ByteArray := prog_1_method_19_code
def yX8_setWind : MethodName := ⟨RX8, "setWind", "(II)I"⟩
abbrev cX8_wind : ByteArray := prog_1_method_20_code
def yX8_wind : MethodName := ⟨RX8, "wind", "(I)I"⟩
abbrev cX8_top : ByteArray := prog_1_method_21_code
def yX8_top : MethodName := ⟨RX8, "top", "(I)I"⟩
abbrev cX8_tangles : ByteArray := prog_1_method_22_code
def yX8_tangles : MethodName := ⟨RX8, "tangles", "()I"⟩
abbrev cX8_tanglesByMerging : ByteArray := prog_1_method_23_code
def yX8_tanglesByMerging : MethodName := ⟨RX8, "tanglesByMerging", "()I"⟩
abbrev cX8_longestCalm : ByteArray := prog_1_method_24_code
def yX8_longestCalm : MethodName := ⟨RX8, "longestCalm", "(I)I"⟩
abbrev cX8_longestCalmByTrying : ByteArray := prog_1_method_25_code
def yX8_longestCalmByTrying : MethodName := ⟨RX8, "longestCalmByTrying", "(I)I"⟩
abbrev cX8_addPilot : ByteArray := prog_1_method_26_code
def yX8_addPilot : MethodName := ⟨RX8, "addPilot", "(III)I"⟩
abbrev cX8_removePilot : ByteArray := prog_1_method_27_code
def yX8_removePilot : MethodName := ⟨RX8, "removePilot", "(I)I"⟩
abbrev cX8_pilotCount : ByteArray := prog_1_method_28_code
def yX8_pilotCount : MethodName := ⟨RX8, "pilotCount", "()I"⟩
abbrev cX8_isOnDuty : ByteArray := prog_1_method_29_code
def yX8_isOnDuty : MethodName := ⟨RX8, "isOnDuty", "(II)Z"⟩
abbrev cX8_canCrew : ByteArray := prog_1_method_30_code
def yX8_canCrew : MethodName := ⟨RX8, "canCrew", "(II)Z"⟩
abbrev cX8_mostCrewed : ByteArray := prog_1_method_31_code
def yX8_mostCrewed : MethodName := ⟨RX8, "mostCrewed", "()I"⟩
abbrev cX8_mostCrewedBySets : ByteArray := prog_1_method_32_code
def yX8_mostCrewedBySets : MethodName := ⟨RX8, "mostCrewedBySets", "()I"⟩
abbrev cX8_pass : ByteArray := prog_1_method_33_code
def yX8_pass : MethodName := ⟨RX8, "pass", "(I)I"⟩
abbrev cX8_burstsAhead : ByteArray := prog_1_method_34_code
def yX8_burstsAhead : MethodName := ⟨RX8, "burstsAhead", "()I"⟩
abbrev cX8_hour : ByteArray := prog_1_method_35_code
def yX8_hour : MethodName := ⟨RX8, "hour", "()I"⟩
abbrev cX8_bursts : ByteArray := prog_1_method_36_code
def yX8_bursts : MethodName := ⟨RX8, "bursts", "()I"⟩
abbrev cX8_loaded : ByteArray := prog_1_method_37_code
def yX8_loaded : MethodName := ⟨RX8, "loaded", "()I"⟩
abbrev cX8_aboard : ByteArray := prog_1_method_38_code
def yX8_aboard : MethodName := ⟨RX8, "aboard", "()I"⟩
abbrev cX8_dropped : ByteArray := prog_1_method_39_code
def yX8_dropped : MethodName := ⟨RX8, "dropped", "()I"⟩
abbrev cX8_lost : ByteArray := prog_1_method_40_code
def yX8_lost : MethodName := ⟨RX8, "lost", "()I"⟩
abbrev cX8_meanHeight : ByteArray := prog_1_method_41_code
def yX8_meanHeight : MethodName := ⟨RX8, "meanHeight", "()D"⟩
abbrev cX8_strain : ByteArray := prog_1_method_42_code
def yX8_strain : MethodName := ⟨RX8, "strain", "(I)F"⟩
abbrev cX8_feed : ByteArray := prog_1_method_43_code
def yX8_feed : MethodName := ⟨RX8, "feed", "(C)I"⟩
abbrev cX8_execute : ByteArray := prog_1_method_44_code
def yX8_execute : MethodName := ⟨RX8, "execute", "()I"⟩
abbrev cX8_faultPosition : ByteArray := prog_1_method_45_code
def yX8_faultPosition : MethodName := ⟨RX8, "faultPosition", "()I"⟩
abbrev cX8_writeBalloon : ByteArray := prog_1_method_46_code
def yX8_writeBalloon : MethodName := ⟨RX8, "writeBalloon", "(I)I"⟩
abbrev cX8_lineCharacter : ByteArray := prog_1_method_47_code
def yX8_lineCharacter : MethodName := ⟨RX8, "lineCharacter", "(I)C"⟩
abbrev cX8_denial : ByteArray := prog_1_method_48_code
def yX8_denial : MethodName := ⟨RX8, "denial", "()I"⟩
abbrev cX8_denialDetail : ByteArray := prog_1_method_49_code
def yX8_denialDetail : MethodName := ⟨RX8, "denialDetail", "()I"⟩
abbrev cX8_denialCause : ByteArray := prog_1_method_50_code
def yX8_denialCause : MethodName := ⟨RX8, "denialCause", "()I"⟩
abbrev cX8_undo : ByteArray := prog_1_method_51_code
def yX8_undo : MethodName := ⟨RX8, "undo", "()I"⟩
abbrev cX8_undoCount : ByteArray := prog_1_method_52_code
def yX8_undoCount : MethodName := ⟨RX8, "undoCount", "()I"⟩
abbrev cX8_saveSnapshot : ByteArray := prog_1_method_53_code
def yX8_saveSnapshot : MethodName := ⟨RX8, "saveSnapshot", "()I"⟩
abbrev cX8_restoreSnapshot : ByteArray := prog_1_method_54_code
def yX8_restoreSnapshot : MethodName := ⟨RX8, "restoreSnapshot", "()I"⟩
abbrev cX8_change : ByteArray := prog_1_method_55_code
def yX8_change : MethodName := ⟨RX8, "change", "(IIIII)I"⟩
abbrev cX8_refuse : ByteArray := prog_1_method_56_code
def yX8_refuse : MethodName := ⟨RX8, "refuse", "(I)V"⟩
abbrev cX8_keepDenial : ByteArray := prog_1_method_57_code
def yX8_keepDenial : MethodName := ⟨RX8, "keepDenial", "(III)V"⟩
abbrev cX8_balloonAt : ByteArray := prog_1_method_58_code
def yX8_balloonAt : MethodName := ⟨RX8, "balloonAt", "(I)LBalloonHarbour$Balloon;"⟩
abbrev cX8_requirePilot : ByteArray := prog_1_method_59_code
def yX8_requirePilot : MethodName := ⟨RX8, "requirePilot", "(I)V"⟩
abbrev cX8_requireDenial : ByteArray := prog_1_method_60_code
def yX8_requireDenial : MethodName := ⟨RX8, "requireDenial", "()V"⟩
abbrev cX8_requireHeight : ByteArray := prog_1_method_61_code
def yX8_requireHeight : MethodName := ⟨RX8, "requireHeight", "(I)V"⟩
abbrev cX8_requireWindStrength : ByteArray := prog_1_method_62_code
def yX8_requireWindStrength : MethodName := ⟨RX8, "requireWindStrength", "(I)V"⟩
abbrev cX8_requireDropSet : ByteArray := prog_1_method_63_code
def yX8_requireDropSet : MethodName := ⟨RX8, "requireDropSet", "(LBalloonHarbour$Balloon;I)I"⟩
abbrev cX8_isWithin : ByteArray := prog_1_method_64_code
def yX8_isWithin : MethodName := ⟨RX8, "isWithin", "(III)Z"⟩
abbrev cX9_init : ByteArray := prog_11_method_1_code
def yX9_init : MethodName := ⟨RX9, "<init>", "()V"⟩
abbrev cX9_thrown : ByteArray := prog_11_method_2_code
def yX9_thrown : MethodName := ⟨RX9, "thrown", "()I"⟩
abbrev cX9_fails : ByteArray := prog_11_method_3_code
def yX9_fails : MethodName := ⟨RX9, "fails", "(I)I"⟩
abbrev cX9_in : ByteArray := prog_11_method_4_code
def yX9_in : MethodName := ⟨RX9, "in", "(III)Z"⟩
abbrev cX9_remembers : ByteArray := prog_11_method_5_code
def yX9_remembers : MethodName := ⟨RX9, "remembers", "()V"⟩
abbrev cX9_changed : ByteArray := prog_11_method_6_code
def yX9_changed : MethodName := ⟨RX9, "changed", "(I)I"⟩
abbrev cX9_done : ByteArray := prog_11_method_7_code
def yX9_done : MethodName := ⟨RX9, "done", "(I)I"⟩
abbrev cX9_denied : ByteArray := prog_11_method_8_code
def yX9_denied : MethodName := ⟨RX9, "denied", "(II)I"⟩
abbrev cX9_ends : ByteArray := prog_11_method_9_code
def yX9_ends : MethodName := ⟨RX9, "ends", "(II)I"⟩
abbrev cX9_isBerth : ByteArray := prog_11_method_10_code
def yX9_isBerth : MethodName := ⟨RX9, "isBerth", "(I)Z"⟩
abbrev cX9_isHour : ByteArray := prog_11_method_11_code
def yX9_isHour : MethodName := ⟨RX9, "isHour", "(I)Z"⟩
abbrev cX9_of : ByteArray := prog_11_method_12_code
def yX9_of : MethodName := ⟨RX9, "of", "(II)I"⟩
abbrev cX9_sets : ByteArray := prog_11_method_13_code
def yX9_sets : MethodName := ⟨RX9, "sets", "(III)V"⟩
abbrev cX9_isHere : ByteArray := prog_11_method_14_code
def yX9_isHere : MethodName := ⟨RX9, "isHere", "(I)Z"⟩
abbrev cX9_isPilot : ByteArray := prog_11_method_15_code
def yX9_isPilot : MethodName := ⟨RX9, "isPilot", "(I)Z"⟩
abbrev cX9_pilot : ByteArray := prog_11_method_16_code
def yX9_pilot : MethodName := ⟨RX9, "pilot", "(II)I"⟩
abbrev cX9_now : ByteArray := prog_11_method_17_code
def yX9_now : MethodName := ⟨RX9, "now", "()I"⟩
abbrev cX9_ballastWithout : ByteArray := prog_11_method_18_code
def yX9_ballastWithout : MethodName := ⟨RX9, "ballastWithout", "(II)I"⟩
abbrev cX9_spare : ByteArray := prog_11_method_19_code
def yX9_spare : MethodName := ⟨RX9, "spare", "(II)I"⟩
abbrev cX9_highOf : ByteArray := prog_11_method_20_code
def yX9_highOf : MethodName := ⟨RX9, "highOf", "(II)I"⟩
abbrev cX9_high : ByteArray := prog_11_method_21_code
def yX9_high : MethodName := ⟨RX9, "high", "(I)I"⟩
abbrev cX9_isTooHigh : ByteArray := prog_11_method_22_code
def yX9_isTooHigh : MethodName := ⟨RX9, "isTooHigh", "(I)Z"⟩
abbrev cX9_topOf : ByteArray := prog_11_method_23_code
def yX9_topOf : MethodName := ⟨RX9, "topOf", "(I)I"⟩
abbrev cX9_bits : ByteArray := prog_11_method_24_code
def yX9_bits : MethodName := ⟨RX9, "bits", "(I)I"⟩
abbrev cX9_isBetter : ByteArray := prog_11_method_25_code
def yX9_isBetter : MethodName := ⟨RX9, "isBetter", "(III)Z"⟩
abbrev cX9_best : ByteArray := prog_11_method_26_code
def yX9_best : MethodName := ⟨RX9, "best", "(II)I"⟩
abbrev cX9_takesBag : ByteArray := prog_11_method_27_code
def yX9_takesBag : MethodName := ⟨RX9, "takesBag", "(II)V"⟩
abbrev cX9_clears : ByteArray := prog_11_method_28_code
def yX9_clears : MethodName := ⟨RX9, "clears", "(I)V"⟩
abbrev cX9_waits : ByteArray := prog_11_method_29_code
def yX9_waits : MethodName := ⟨RX9, "waits", "(I)V"⟩
abbrev cX9_shakes : ByteArray := prog_11_method_30_code
def yX9_shakes : MethodName := ⟨RX9, "shakes", "(I)V"⟩
abbrev cX9_oneHour : ByteArray := prog_11_method_31_code
def yX9_oneHour : MethodName := ⟨RX9, "oneHour", "()I"⟩
abbrev cX9_moors : ByteArray := prog_11_method_32_code
def yX9_moors : MethodName := ⟨RX9, "moors", "(IIII)I"⟩
abbrev cX9_casts : ByteArray := prog_11_method_33_code
def yX9_casts : MethodName := ⟨RX9, "casts", "(I)I"⟩
abbrev cX9_loads : ByteArray := prog_11_method_34_code
def yX9_loads : MethodName := ⟨RX9, "loads", "(II)I"⟩
abbrev cX9_drops : ByteArray := prog_11_method_35_code
def yX9_drops : MethodName := ⟨RX9, "drops", "(II)I"⟩
abbrev cX9_rises : ByteArray := prog_11_method_36_code
def yX9_rises : MethodName := ⟨RX9, "rises", "(II)I"⟩
abbrev cX9_blows : ByteArray := prog_11_method_37_code
def yX9_blows : MethodName := ⟨RX9, "blows", "(II)I"⟩
abbrev cX9_passes : ByteArray := prog_11_method_38_code
def yX9_passes : MethodName := ⟨RX9, "passes", "(I)I"⟩
abbrev cX9_joins : ByteArray := prog_11_method_39_code
def yX9_joins : MethodName := ⟨RX9, "joins", "(III)I"⟩
abbrev cX9_leaves : ByteArray := prog_11_method_40_code
def yX9_leaves : MethodName := ⟨RX9, "leaves", "(I)I"⟩
abbrev cX9_moor : ByteArray := prog_11_method_41_code
def yX9_moor : MethodName := ⟨RX9, "moor", "(IIII)I"⟩
abbrev cX9_castOff : ByteArray := prog_11_method_42_code
def yX9_castOff : MethodName := ⟨RX9, "castOff", "(I)I"⟩
abbrev cX9_load : ByteArray := prog_11_method_43_code
def yX9_load : MethodName := ⟨RX9, "load", "(II)I"⟩
abbrev cX9_drop : ByteArray := prog_11_method_44_code
def yX9_drop : MethodName := ⟨RX9, "drop", "(II)I"⟩
abbrev cX9_rise : ByteArray := prog_11_method_45_code
def yX9_rise : MethodName := ⟨RX9, "rise", "(II)I"⟩
abbrev cX9_setWind : ByteArray := prog_11_method_46_code
def yX9_setWind : MethodName := ⟨RX9, "setWind", "(II)I"⟩
abbrev cX9_addPilot : ByteArray := prog_11_method_47_code
def yX9_addPilot : MethodName := ⟨RX9, "addPilot", "(III)I"⟩
abbrev cX9_removePilot : ByteArray := prog_11_method_48_code
def yX9_removePilot : MethodName := ⟨RX9, "removePilot", "(I)I"⟩
abbrev cX9_pass : ByteArray := prog_11_method_49_code
def yX9_pass : MethodName := ⟨RX9, "pass", "(I)I"⟩
abbrev cX9_balloonCount : ByteArray := prog_11_method_50_code
def yX9_balloonCount : MethodName := ⟨RX9, "balloonCount", "()I"⟩
abbrev cX9_isMoored : ByteArray := prog_11_method_51_code
def yX9_isMoored : MethodName := ⟨RX9, "isMoored", "(I)Z"⟩
abbrev cX9_isAsked : ByteArray := prog_11_method_52_code
def yX9_isAsked : MethodName := ⟨RX9, "isAsked", "(I)Z"⟩
abbrev cX9_lift : ByteArray := prog_11_method_53_code
def yX9_lift : MethodName := ⟨RX9, "lift", "(I)I"⟩
abbrev cX9_ballast : ByteArray := prog_11_method_54_code
def yX9_ballast : MethodName := ⟨RX9, "ballast", "(I)I"⟩
abbrev cX9_height : ByteArray := prog_11_method_55_code
def yX9_height : MethodName := ⟨RX9, "height", "(I)I"⟩
abbrev cX9_isBursting : ByteArray := prog_11_method_56_code
def yX9_isBursting : MethodName := ⟨RX9, "isBursting", "(I)Z"⟩
abbrev cX9_isAhead : ByteArray := prog_11_method_57_code
def yX9_isAhead : MethodName := ⟨RX9, "isAhead", "(II)Z"⟩
abbrev cX9_berthByHeight : ByteArray := prog_11_method_58_code
def yX9_berthByHeight : MethodName := ⟨RX9, "berthByHeight", "(I)I"⟩
abbrev cX9_bagCount : ByteArray := prog_11_method_59_code
def yX9_bagCount : MethodName := ⟨RX9, "bagCount", "(I)I"⟩
abbrev cX9_bagWeight : ByteArray := prog_11_method_60_code
def yX9_bagWeight : MethodName := ⟨RX9, "bagWeight", "(II)I"⟩
abbrev cX9_asked : ByteArray := prog_11_method_61_code
def yX9_asked : MethodName := ⟨RX9, "asked", "(II)I"⟩
abbrev cX9_fewestDrops : ByteArray := prog_11_method_62_code
def yX9_fewestDrops : MethodName := ⟨RX9, "fewestDrops", "(II)I"⟩
abbrev cX9_fewestDropsBySets : ByteArray := prog_11_method_63_code
def yX9_fewestDropsBySets : MethodName := ⟨RX9, "fewestDropsBySets", "(II)I"⟩
abbrev cX9_dropWeight : ByteArray := prog_11_method_64_code
def yX9_dropWeight : MethodName := ⟨RX9, "dropWeight", "(II)I"⟩
abbrev cX9_wind : ByteArray := prog_11_method_65_code
def yX9_wind : MethodName := ⟨RX9, "wind", "(I)I"⟩
abbrev cX9_top : ByteArray := prog_11_method_66_code
def yX9_top : MethodName := ⟨RX9, "top", "(I)I"⟩
abbrev cX9_tangles : ByteArray := prog_11_method_67_code
def yX9_tangles : MethodName := ⟨RX9, "tangles", "()I"⟩
abbrev cX9_tanglesByMerging : ByteArray := prog_11_method_68_code
def yX9_tanglesByMerging : MethodName := ⟨RX9, "tanglesByMerging", "()I"⟩
abbrev cX9_longestCalm : ByteArray := prog_11_method_69_code
def yX9_longestCalm : MethodName := ⟨RX9, "longestCalm", "(I)I"⟩
abbrev cX9_longestCalmByTrying : ByteArray := prog_11_method_70_code
def yX9_longestCalmByTrying : MethodName := ⟨RX9, "longestCalmByTrying", "(I)I"⟩
abbrev cX9_pilotCount : ByteArray := prog_11_method_71_code
def yX9_pilotCount : MethodName := ⟨RX9, "pilotCount", "()I"⟩
abbrev cX9_isOn : ByteArray := prog_11_method_72_code
def yX9_isOn : MethodName := ⟨RX9, "isOn", "(II)Z"⟩
abbrev cX9_crews : ByteArray := prog_11_method_73_code
def yX9_crews : MethodName := ⟨RX9, "crews", "(II)Z"⟩
abbrev cX9_isOnDuty : ByteArray := prog_11_method_74_code
def yX9_isOnDuty : MethodName := ⟨RX9, "isOnDuty", "(II)Z"⟩
abbrev cX9_canCrew : ByteArray := prog_11_method_75_code
def yX9_canCrew : MethodName := ⟨RX9, "canCrew", "(II)Z"⟩
abbrev cX9_mostCrewed : ByteArray := prog_11_method_76_code
def yX9_mostCrewed : MethodName := ⟨RX9, "mostCrewed", "()I"⟩
abbrev cX9_mostCrewedBySets : ByteArray := prog_11_method_77_code
def yX9_mostCrewedBySets : MethodName := ⟨RX9, "mostCrewedBySets", "()I"⟩
abbrev cX9_burstsAhead : ByteArray := prog_11_method_78_code
def yX9_burstsAhead : MethodName := ⟨RX9, "burstsAhead", "()I"⟩
abbrev cX9_hour : ByteArray := prog_11_method_79_code
def yX9_hour : MethodName := ⟨RX9, "hour", "()I"⟩
abbrev cX9_bursts : ByteArray := prog_11_method_80_code
def yX9_bursts : MethodName := ⟨RX9, "bursts", "()I"⟩
abbrev cX9_loaded : ByteArray := prog_11_method_81_code
def yX9_loaded : MethodName := ⟨RX9, "loaded", "()I"⟩
abbrev cX9_aboard : ByteArray := prog_11_method_82_code
def yX9_aboard : MethodName := ⟨RX9, "aboard", "()I"⟩
abbrev cX9_dropped : ByteArray := prog_11_method_83_code
def yX9_dropped : MethodName := ⟨RX9, "dropped", "()I"⟩
abbrev cX9_lost : ByteArray := prog_11_method_84_code
def yX9_lost : MethodName := ⟨RX9, "lost", "()I"⟩
abbrev cX9_meanHeight : ByteArray := prog_11_method_85_code
def yX9_meanHeight : MethodName := ⟨RX9, "meanHeight", "()D"⟩
abbrev cX9_strain : ByteArray := prog_11_method_86_code
def yX9_strain : MethodName := ⟨RX9, "strain", "(I)F"⟩
abbrev cX9_feed : ByteArray := prog_11_method_87_code
def yX9_feed : MethodName := ⟨RX9, "feed", "(C)I"⟩
abbrev cX9_here : ByteArray := prog_11_method_88_code
def yX9_here : MethodName := ⟨RX9, "here", "(I)I"⟩
abbrev cX9_says : ByteArray := prog_11_method_89_code
def yX9_says : MethodName := ⟨RX9, "says", "(Ljava/lang/String;)V"⟩
abbrev cX9_number : ByteArray := prog_11_method_90_code
def yX9_number : MethodName := ⟨RX9, "number", "(Ljava/lang/String;II)V"⟩
abbrev cX9_readsWind : ByteArray := prog_11_method_91_code
def yX9_readsWind : MethodName := ⟨RX9, "readsWind", "()V"⟩
abbrev cX9_readsOne : ByteArray := prog_11_method_92_code
def yX9_readsOne : MethodName := ⟨RX9, "readsOne", "()V"⟩
abbrev cX9_does : ByteArray := prog_11_method_93_code
def yX9_does : MethodName := ⟨RX9, "does", "(I)I"⟩
abbrev cX9_execute : ByteArray := prog_11_method_94_code
def yX9_execute : MethodName := ⟨RX9, "execute", "()I"⟩
abbrev cX9_faultPosition : ByteArray := prog_11_method_95_code
def yX9_faultPosition : MethodName := ⟨RX9, "faultPosition", "()I"⟩
abbrev cX9_writes : ByteArray := prog_11_method_96_code
def yX9_writes : MethodName := ⟨RX9, "writes", "(I)V"⟩
abbrev cX9_writesNumber : ByteArray := prog_11_method_97_code
def yX9_writesNumber : MethodName := ⟨RX9, "writesNumber", "(I)V"⟩
abbrev cX9_writeBalloon : ByteArray := prog_11_method_98_code
def yX9_writeBalloon : MethodName := ⟨RX9, "writeBalloon", "(I)I"⟩
abbrev cX9_lineCharacter : ByteArray := prog_11_method_99_code
def yX9_lineCharacter : MethodName := ⟨RX9, "lineCharacter", "(I)C"⟩
abbrev cX9_denial : ByteArray := prog_11_method_100_code
def yX9_denial : MethodName := ⟨RX9, "denial", "()I"⟩
abbrev cX9_denialDetail : ByteArray := prog_11_method_101_code
def yX9_denialDetail : MethodName := ⟨RX9, "denialDetail", "()I"⟩
abbrev cX9_denialCause : ByteArray := prog_11_method_102_code
def yX9_denialCause : MethodName := ⟨RX9, "denialCause", "()I"⟩
abbrev cX9_undo : ByteArray := prog_11_method_103_code
def yX9_undo : MethodName := ⟨RX9, "undo", "()I"⟩
abbrev cX9_undoCount : ByteArray := prog_11_method_104_code
def yX9_undoCount : MethodName := ⟨RX9, "undoCount", "()I"⟩
abbrev cX9_saveSnapshot : ByteArray := prog_11_method_105_code
def yX9_saveSnapshot : MethodName := ⟨RX9, "saveSnapshot", "()I"⟩
abbrev cX9_restoreSnapshot : ByteArray := prog_11_method_106_code
def yX9_restoreSnapshot : MethodName := ⟨RX9, "restoreSnapshot", "()I"⟩
abbrev cJ5_init_d00df : ByteArray := prog_13_method_2_code
def yJ5_init_d00df : MethodName := ⟨RJ5, "<init>", "(I)V"⟩
abbrev cJ5_length_8abf5 : ByteArray := prog_13_method_6_code
def yJ5_length_8abf5 : MethodName := ⟨RJ5, "length", "()I"⟩
abbrev cJ5_ensureCapacityInternal_d00df : ByteArray := prog_13_method_9_code
def yJ5_ensureCapacityInternal_d00df : MethodName := ⟨RJ5, "ensureCapacityInternal", "(I)V"⟩
abbrev cJ5_newCapacity_0f7a4 : ByteArray := prog_13_method_10_code
def yJ5_newCapacity_0f7a4 : MethodName := ⟨RJ5, "newCapacity", "(I)I"⟩
abbrev cJ5_setLength_d00df : ByteArray := prog_13_method_13_code
def yJ5_setLength_d00df : MethodName := ⟨RJ5, "setLength", "(I)V"⟩
abbrev cJ5_charAt_5068e : ByteArray := prog_13_method_14_code
def yJ5_charAt_5068e : MethodName := ⟨RJ5, "charAt", "(I)C"⟩
abbrev cJ5_append_3fe6f : ByteArray := prog_13_method_31_code
def yJ5_append_3fe6f : MethodName := ⟨RJ5, "append", "(C)Ljava/lang/AbstractStringBuilder;"⟩
abbrev cJ5_append_c97b9 : ByteArray := prog_13_method_32_code
def yJ5_append_c97b9 : MethodName := ⟨RJ5, "append", "(I)Ljava/lang/AbstractStringBuilder;"⟩
abbrev cJ5_isLatin1_aae02 : ByteArray := prog_13_method_68_code
def yJ5_isLatin1_aae02 : MethodName := ⟨RJ5, "isLatin1", "()Z"⟩
abbrev cJ6_getChars_ba4f3 : ByteArray := prog_24_method_12_code
def yJ6_getChars_ba4f3 : MethodName := ⟨RJ6, "getChars", "(II[B)I"⟩
abbrev cJ6_stringSize_0f7a4 : ByteArray := prog_24_method_13_code
def yJ6_stringSize_0f7a4 : MethodName := ⟨RJ6, "stringSize", "(I)I"⟩
abbrev cJ6_bitCount_0f7a4 : ByteArray := prog_24_method_49_code
def yJ6_bitCount_0f7a4 : MethodName := ⟨RJ6, "bitCount", "(I)I"⟩
abbrev cJ9_abs_0f7a4 : ByteArray := prog_25_method_59_code
def yJ9_abs_0f7a4 : MethodName := ⟨RJ9, "abs", "(I)I"⟩
abbrev cJ9_max_7cf53 : ByteArray := prog_25_method_65_code
def yJ9_max_7cf53 : MethodName := ⟨RJ9, "max", "(II)I"⟩
abbrev cJ9_min_7cf53 : ByteArray := prog_25_method_69_code
def yJ9_min_7cf53 : MethodName := ⟨RJ9, "min", "(II)I"⟩
abbrev cJ0_length_8abf5 : ByteArray := prog_28_method_54_code
def yJ0_length_8abf5 : MethodName := ⟨RJ0, "length", "()I"⟩
abbrev cJ0_charAt_5068e : ByteArray := prog_28_method_56_code
def yJ0_charAt_5068e : MethodName := ⟨RJ0, "charAt", "(I)C"⟩
abbrev cJ0_coder_7d493 : ByteArray := prog_28_method_152_code
def yJ0_coder_7d493 : MethodName := ⟨RJ0, "coder", "()B"⟩
abbrev cJ0_isLatin1_aae02 : ByteArray := prog_28_method_154_code
def yJ0_isLatin1_aae02 : MethodName := ⟨RJ0, "isLatin1", "()Z"⟩
abbrev cJ0_checkIndex_df160 : ByteArray := prog_28_method_155_code
def yJ0_checkIndex_df160 : MethodName := ⟨RJ0, "checkIndex", "(II)V"⟩
abbrev cJ4_init_da8c8 : ByteArray := prog_29_method_1_code
def yJ4_init_da8c8 : MethodName := ⟨RJ4, "<init>", "()V"⟩
abbrev cJ4_append_cf468 : ByteArray := prog_29_method_14_code
def yJ4_append_cf468 : MethodName := ⟨RJ4, "append", "(C)Ljava/lang/StringBuilder;"⟩
abbrev cJ4_append_bf812 : ByteArray := prog_29_method_15_code
def yJ4_append_bf812 : MethodName := ⟨RJ4, "append", "(I)Ljava/lang/StringBuilder;"⟩
abbrev cJ4_charAt_5068e : ByteArray := prog_29_method_88_code
def yJ4_charAt_5068e : MethodName := ⟨RJ4, "charAt", "(I)C"⟩
abbrev cJ4_setLength_d00df : ByteArray := prog_29_method_89_code
def yJ4_setLength_d00df : MethodName := ⟨RJ4, "setLength", "(I)V"⟩
abbrev cJ4_length_8abf5 : ByteArray := prog_29_method_93_code
def yJ4_length_8abf5 : MethodName := ⟨RJ4, "length", "()I"⟩
abbrev cJ1_charAt_3b067 : ByteArray := prog_31_method_2_code
def yJ1_charAt_3b067 : MethodName := ⟨RJ1, "charAt", "([BI)C"⟩
abbrev cJ1_canEncode_fc78d : ByteArray := prog_31_method_3_code
def yJ1_canEncode_fc78d : MethodName := ⟨RJ1, "canEncode", "(C)Z"⟩
abbrev cJ7_fill_53178 : ByteArray := prog_38_method_103_code
def yJ7_fill_53178 : MethodName := ⟨RJ7, "fill", "([II)V"⟩
abbrev cJ7_copyOf_9075b : ByteArray := prog_38_method_121_code
def yJ7_copyOf_9075b : MethodName := ⟨RJ7, "copyOf", "([BI)[B"⟩
abbrev cJ8_newLength_cabcc : ByteArray := prog_40_method_27_code
def yJ8_newLength_cabcc : MethodName := ⟨RJ8, "newLength", "(III)I"⟩
abbrev cJ3_checkIndex_8e157 : ByteArray := prog_41_method_11_code
def yJ3_checkIndex_8e157 : MethodName := ⟨RJ3, "checkIndex", "(IILjava/util/function/BiFunction;)I"⟩
abbrev cL_moor : ByteArray := method_3_code
def yL_moor : MethodName := ⟨RL, "moor", "(LBalloonHarbour;IIII[J)I"⟩
abbrev cL_castOff : ByteArray := method_4_code
def yL_castOff : MethodName := ⟨RL, "castOff", "(LBalloonHarbour;I[J)I"⟩
abbrev cL_isMoored : ByteArray := method_5_code
def yL_isMoored : MethodName := ⟨RL, "isMoored", "(LBalloonHarbour;I[J)I"⟩
abbrev cL_lift : ByteArray := method_6_code
def yL_lift : MethodName := ⟨RL, "lift", "(LBalloonHarbour;I[J)I"⟩
abbrev cL_ballast : ByteArray := method_7_code
def yL_ballast : MethodName := ⟨RL, "ballast", "(LBalloonHarbour;I[J)I"⟩
abbrev cL_height : ByteArray := method_8_code
def yL_height : MethodName := ⟨RL, "height", "(LBalloonHarbour;I[J)I"⟩
abbrev cL_isBursting : ByteArray := method_9_code
def yL_isBursting : MethodName := ⟨RL, "isBursting", "(LBalloonHarbour;I[J)I"⟩
abbrev cL_berthByHeight : ByteArray := method_10_code
def yL_berthByHeight : MethodName := ⟨RL, "berthByHeight", "(LBalloonHarbour;I[J)I"⟩
abbrev cL_load : ByteArray := method_11_code
def yL_load : MethodName := ⟨RL, "load", "(LBalloonHarbour;II[J)I"⟩
abbrev cL_drop : ByteArray := method_12_code
def yL_drop : MethodName := ⟨RL, "drop", "(LBalloonHarbour;II[J)I"⟩
abbrev cL_rise : ByteArray := method_13_code
def yL_rise : MethodName := ⟨RL, "rise", "(LBalloonHarbour;II[J)I"⟩
abbrev cL_bagCount : ByteArray := method_14_code
def yL_bagCount : MethodName := ⟨RL, "bagCount", "(LBalloonHarbour;I[J)I"⟩
abbrev cL_bagWeight : ByteArray := method_15_code
def yL_bagWeight : MethodName := ⟨RL, "bagWeight", "(LBalloonHarbour;II[J)I"⟩
abbrev cL_fewestDrops : ByteArray := method_16_code
def yL_fewestDrops : MethodName := ⟨RL, "fewestDrops", "(LBalloonHarbour;II[J)I"⟩
abbrev cL_fewestDropsBySets : ByteArray := method_17_code
def yL_fewestDropsBySets : MethodName := ⟨RL, "fewestDropsBySets", "(LBalloonHarbour;II[J)I"⟩
abbrev cL_dropWeight : ByteArray := method_18_code
def yL_dropWeight : MethodName := ⟨RL, "dropWeight", "(LBalloonHarbour;II[J)I"⟩
abbrev cL_setWind : ByteArray := method_19_code
def yL_setWind : MethodName := ⟨RL, "setWind", "(LBalloonHarbour;II[J)I"⟩
abbrev cL_wind : ByteArray := method_20_code
def yL_wind : MethodName := ⟨RL, "wind", "(LBalloonHarbour;I[J)I"⟩
abbrev cL_top : ByteArray := method_21_code
def yL_top : MethodName := ⟨RL, "top", "(LBalloonHarbour;I[J)I"⟩
abbrev cL_longestCalm : ByteArray := method_22_code
def yL_longestCalm : MethodName := ⟨RL, "longestCalm", "(LBalloonHarbour;I[J)I"⟩
abbrev cL_longestCalmByTrying : ByteArray := method_23_code
def yL_longestCalmByTrying : MethodName := ⟨RL, "longestCalmByTrying", "(LBalloonHarbour;I[J)I"⟩
abbrev cL_addPilot : ByteArray := method_24_code
def yL_addPilot : MethodName := ⟨RL, "addPilot", "(LBalloonHarbour;III[J)I"⟩
abbrev cL_removePilot : ByteArray := method_25_code
def yL_removePilot : MethodName := ⟨RL, "removePilot", "(LBalloonHarbour;I[J)I"⟩
abbrev cL_isOnDuty : ByteArray := method_26_code
def yL_isOnDuty : MethodName := ⟨RL, "isOnDuty", "(LBalloonHarbour;II[J)I"⟩
abbrev cL_canCrew : ByteArray := method_27_code
def yL_canCrew : MethodName := ⟨RL, "canCrew", "(LBalloonHarbour;II[J)I"⟩
abbrev cL_pass : ByteArray := method_28_code
def yL_pass : MethodName := ⟨RL, "pass", "(LBalloonHarbour;I[J)I"⟩
abbrev cL_meanHeight : ByteArray := method_29_code
def yL_meanHeight : MethodName := ⟨RL, "meanHeight", "(LBalloonHarbour;[D)I"⟩
abbrev cL_strain : ByteArray := method_30_code
def yL_strain : MethodName := ⟨RL, "strain", "(LBalloonHarbour;I[D)I"⟩
abbrev cL_feed : ByteArray := method_31_code
def yL_feed : MethodName := ⟨RL, "feed", "(LBalloonHarbour;C[J)I"⟩
abbrev cL_execute : ByteArray := method_32_code
def yL_execute : MethodName := ⟨RL, "execute", "(LBalloonHarbour;[J)I"⟩
abbrev cL_faultPosition : ByteArray := method_33_code
def yL_faultPosition : MethodName := ⟨RL, "faultPosition", "(LBalloonHarbour;[J)I"⟩
abbrev cL_writeBalloon : ByteArray := method_34_code
def yL_writeBalloon : MethodName := ⟨RL, "writeBalloon", "(LBalloonHarbour;I[J)I"⟩
abbrev cL_lineCharacter : ByteArray := method_35_code
def yL_lineCharacter : MethodName := ⟨RL, "lineCharacter", "(LBalloonHarbour;I[J)I"⟩
abbrev cL_denial : ByteArray := method_36_code
def yL_denial : MethodName := ⟨RL, "denial", "(LBalloonHarbour;[J)I"⟩
abbrev cL_denialDetail : ByteArray := method_37_code
def yL_denialDetail : MethodName := ⟨RL, "denialDetail", "(LBalloonHarbour;[J)I"⟩
abbrev cL_denialCause : ByteArray := method_38_code
def yL_denialCause : MethodName := ⟨RL, "denialCause", "(LBalloonHarbour;[J)I"⟩
abbrev cL_undo : ByteArray := method_39_code
def yL_undo : MethodName := ⟨RL, "undo", "(LBalloonHarbour;[J)I"⟩
abbrev cL_restoreSnapshot : ByteArray := method_40_code
def yL_restoreSnapshot : MethodName := ⟨RL, "restoreSnapshot", "(LBalloonHarbour;[J)I"⟩
abbrev cL_law : ByteArray := code
def yL_law : MethodName := ⟨RL, "law", "([I)Z"⟩
end
section
/-! THE SMALL MACHINE: a cell is an object (class number, fields) or an array (element type, length, contents); a heap is a partial map of addresses, its size, the slots made so far; an answer is a value or an exception (its number, its address) with the heap behind it. -/
abbrev mv_C : Type := (Nat × List Value) ⊕ (FieldType × Nat × (Nat → Value))
abbrev mv_H : Type := (Nat → Option mv_C) × Nat × Nat
abbrev mv_R : Type := ((Option Value) ⊕ (Nat × Nat)) × mv_H
/-- what stands outside: cells that are only read, the addresses of text constants, statics -/
abbrev mv_X : Type := (Nat → Option mv_C) × (Nat → Nat) × (Nat → Value)
abbrev mv_I : Type := Instr × Nat × List (Int × Nat)
abbrev mv_L : Type := Nat × Nat × Nat × Nat × Nat
/-- a method: its locals, whether it has wide ones, its kind of answer, its code, its links, its handlers -/
abbrev mv_M : Type := Nat × Bool × Nat × List (List (Nat × mv_I)) × List (List (Nat × mv_L)) × List (Nat × Nat × Nat × Nat × Nat)
abbrev mv_K : Type := Nat → List Value → List Value → mv_H → Option mv_R
abbrev mv_G : Type := Nat → List Value → mv_H → Option mv_R
def nZ (z : Int) : Int32 := Int32.ofInt z
def mv_find {α : Type} : List (Nat × α) → Nat → Option α
  | [], _ => none
  | q :: r, n => bif Nat.beq q.1 n then some q.2 else mv_find r n
def mv_look {α : Type} (t : List (List (Nat × α))) (sh n : Nat) : Option α := match t[n / sh]? with
  | some l => mv_find l n
  | none => none
def mv_up {α : Type} (o : Nat → α) (a : Nat) (c : α) : Nat → α := fun q => if q = a then c else o q
-- the stack, the locals
def mv_popI (st : List Value) (f : Int32 → List Value → Option mv_R) : Option mv_R := match st with
  | .int x :: r => f x r
  | _ => none
def mv_popR (st : List Value) (f : Nat → List Value → Option mv_R) : Option mv_R := match st with
  | .ref x :: r => f x r
  | _ => none
def mv_popL (st : List Value) (f : Int64 → List Value → Option mv_R) : Option mv_R := match st with
  | .long x :: r => f x r
  | _ => none
def mv_popF (st : List Value) (f : UInt32 → List Value → Option mv_R) : Option mv_R := match st with
  | .float x :: r => f x r
  | _ => none
def mv_popD (st : List Value) (f : UInt64 → List Value → Option mv_R) : Option mv_R := match st with
  | .double x :: r => f x r
  | _ => none
def mv_pop1 (st : List Value) (f : Value → List Value → Option mv_R) : Option mv_R := match st with
  | v :: r => bif Nat.beq v.category 1 then f v r else none
  | _ => none
def mv_ld (ls : List Value) (i : Nat) (f : Value → Option mv_R) : Option mv_R := match ls[i]? with
  | some v => f v
  | none => none
def mv_int (v : Value) (f : Int32 → Option mv_R) : Option mv_R := match v with
  | .int x => f x
  | _ => none
def mv_ref (v : Value) (f : Nat → Option mv_R) : Option mv_R := match v with
  | .ref x => f x
  | _ => none
def mv_lng (v : Value) (f : Int64 → Option mv_R) : Option mv_R := match v with
  | .long x => f x
  | _ => none
def mv_flt (v : Value) (f : UInt32 → Option mv_R) : Option mv_R := match v with
  | .float x => f x
  | _ => none
def mv_dbl (v : Value) (f : UInt64 → Option mv_R) : Option mv_R := match v with
  | .double x => f x
  | _ => none
def mv_wid (v : Value) : Bool := match v with
  | .long _ => true
  | .double _ => true
  | _ => false
/-- a reference, or none -/
def mv_nr (v : Value) : Bool := match v with
  | .ref _ => true
  | .null => true
  | _ => false
def mv_chk (b : Bool) (f : Option mv_R) : Option mv_R := bif b then f else none
def mv_st (w : Bool) (ls : List Value) (i : Nat) (v : Value) (f : List Value → Option mv_R) : Option mv_R :=
  mv_chk (Nat.blt i ls.length) (mv_chk (bif w then !(mv_wid (ls.getD (i - 1) .null)) else true) (f (ls.set i v)))
def mv_st2 (w : Bool) (ls : List Value) (i : Nat) (v : Value) (f : List Value → Option mv_R) : Option mv_R :=
  mv_chk (Nat.blt (i + 1) ls.length) (mv_chk (w && !(mv_wid (ls.getD (i - 1) .null))) (f ((ls.set i v).set (i + 1) (.retAddr 0))))
-- the heap
def mv_cell (X : mv_X) (h : mv_H) (a : Nat) : Option mv_C := match h.1 a with
  | some c => some c
  | none => X.1 a
def mv_gf (X : mv_X) (h : mv_H) (a ci n : Nat) (f : Value → Option mv_R) : Option mv_R := match mv_cell X h a with
  | some (.inl (c, fs)) => if c = ci then (match fs[n]? with
    | some v => f v
    | none => none) else none
  | _ => none
def mv_gI (X : mv_X) (h : mv_H) (a ci n : Nat) (f : Int32 → Option mv_R) : Option mv_R := mv_gf X h a ci n fun v => mv_int v f
def mv_gR (X : mv_X) (h : mv_H) (a ci n : Nat) (f : Nat → Option mv_R) : Option mv_R := mv_gf X h a ci n fun v => mv_ref v f
def mv_ok (t : Nat) (x : Int32) : Bool := match t with
  | 1 => true
  | 6 => x == 0 || x == 1
  | 7 => decide (0 ≤ x) && decide (x ≤ 65535)
  | 8 => decide (-128 ≤ x) && decide (x ≤ 127)
  | _ => false
def mv_pf (h : mv_H) (a ci n : Nat) (v : Value) (f : mv_H → Option mv_R) : Option mv_R := match h.1 a with
  | some (.inl (c, fs)) => if c = ci then (if n < fs.length then f (mv_up h.1 a (some (.inl (ci, fs.set n v))), h.2) else none) else none
  | _ => none
/-- an array's kinds: 1 int, 2 references, 3 long, 5 double, 7 char, 8 byte -/
def mv_ak (k : Nat) (t : FieldType) : Bool := match k, t with
  | 1, .int => true
  | 2, .object _ => true
  | 3, .long => true
  | 5, .double => true
  | 7, .char => true
  | 8, .byte => true
  | _, _ => false
def mv_ar (X : mv_X) (h : mv_H) (k a : Nat) (i : Int32) (f : Value → Option mv_R) : Option mv_R := match mv_cell X h a with
  | some (.inr (t, n, g)) => mv_chk (mv_ak k t) (if 0 ≤ i.toInt ∧ i.toInt < n then f (g i.toInt.toNat) else none)
  | _ => none
def mv_aI (X : mv_X) (h : mv_H) (k a : Nat) (i : Int32) (f : Int32 → Option mv_R) : Option mv_R := mv_ar X h k a i fun v => mv_int v f
def mv_aR (X : mv_X) (h : mv_H) (a : Nat) (i : Int32) (f : Nat → Option mv_R) : Option mv_R := mv_ar X h 2 a i fun v => mv_ref v f
def mv_aL (X : mv_X) (h : mv_H) (a : Nat) (i : Int32) (f : Int64 → Option mv_R) : Option mv_R := mv_ar X h 3 a i fun v => mv_lng v f
def mv_aD (X : mv_X) (h : mv_H) (a : Nat) (i : Int32) (f : UInt64 → Option mv_R) : Option mv_R := mv_ar X h 5 a i fun v => mv_dbl v f
def mv_len (X : mv_X) (h : mv_H) (a : Nat) (f : Int32 → Option mv_R) : Option mv_R := match mv_cell X h a with
  | some (.inr (_, n, _)) => f (nZ n)
  | _ => none
def mv_as (h : mv_H) (k a : Nat) (i : Int32) (v : Value) (f : mv_H → Option mv_R) : Option mv_R := match h.1 a with
  | some (.inr (t, n, g)) => mv_chk (mv_ak k t) (if 0 ≤ i.toInt ∧ i.toInt < n then f (mv_up h.1 a (some (.inr (t, n, mv_up g i.toInt.toNat v))), h.2) else none)
  | _ => none
/-- an object into an array of its class -/
def mv_aa (h : mv_H) (a : Nat) (i : Int32) (b : Nat) (f : mv_H → Option mv_R) : Option mv_R := match h.1 b with
  | some (.inl (c, _)) => (match h.1 a with
    | some (.inr (.object C, n, g)) => mv_chk (mv_cn c == C) (if 0 ≤ i.toInt ∧ i.toInt < n then f (mv_up h.1 a (some (.inr (.object C, n, mv_up g i.toInt.toNat (.ref b)))), h.2) else none)
    | _ => none)
  | _ => none
def mv_new (h : mv_H) (c : mv_C) (sl : Nat) (f : Nat → mv_H → Option mv_R) : Option mv_R := f h.2.1 (mv_up h.1 h.2.1 (some c), h.2.1 + 1, h.2.2 + sl)
def mv_newa (h : mv_H) (t : FieldType) (v : Value) (n : Int32) (f : Nat → mv_H → Option mv_R) : Option mv_R :=
  if 0 ≤ n.toInt ∧ n.toInt ≤ 65536 then mv_new h (.inr (t, n.toInt.toNat, fun _ => v)) n.toInt.toNat f else none
def mv_cpf (f g : Nat → Value) (sp dp n : Nat) : Nat → Value := fun k => if dp ≤ k ∧ k < dp + n then f (sp + (k - dp)) else g k
def mv_prim (t : FieldType) : Bool := match t with
  | .int => true
  | .byte => true
  | _ => false
def mv_cpy (h : mv_H) (a0 : Nat) (sp : Int32) (a1 : Nat) (dp n : Int32) (f : mv_H → Option mv_R) : Option mv_R := match h.1 a0, h.1 a1 with
  | some (.inr (t0, n0, g0)), some (.inr (t1, n1, g1)) => mv_chk (mv_prim t0) (if t0 = t1 then (if 0 ≤ sp.toInt ∧ 0 ≤ dp.toInt ∧ 0 ≤ n.toInt ∧ sp.toInt + n.toInt ≤ n0 ∧ dp.toInt + n.toInt ≤ n1 then
      f (mv_up h.1 a1 (some (.inr (t1, n1, mv_cpf g0 g1 sp.toInt.toNat dp.toInt.toNat n.toInt.toNat))), h.2) else none) else none)
  | _, _ => none
-- calls
def mv_raise (e q : Nat) (h : mv_H) : Option mv_R := some (.inr (e, q), h)
/-- a handler: from, to, where it goes on behind its first store, the exception's number, that store's local (what is stored there is never read) -/
def mv_hs : List (Nat × Nat × Nat × Nat × Nat) → Nat → Nat → Option (Nat × Nat)
  | [], _, _ => none
  | x :: r, pc, e => bif Nat.ble x.1 pc && Nat.blt pc x.2.1 && Nat.beq x.2.2.2.1 e then some (x.2.2.1, x.2.2.2.2) else mv_hs r pc e
def mv_thr (hs : List (Nat × Nat × Nat × Nat × Nat)) (pc : Nat) (ls : List Value) (k : mv_K) : Nat → Nat → mv_H → Option mv_R := match hs with
  | [] => mv_raise
  | x :: r => fun e q h => match mv_hs (x :: r) pc e with
    | some t => k t.1 (ls.set t.2 (.retAddr 0)) [] h
    | none => mv_raise e q h
def mv_cl (call : mv_G) (y : Nat) (as : List Value) (h : mv_H) (g : Nat → Nat → mv_H → Option mv_R) (f : Option Value → mv_H → Option mv_R) : Option mv_R := match call y as h with
  | some (.inl v, h') => f v h'
  | some (.inr (e, q), h') => g e q h'
  | none => none
def mv_clV (call : mv_G) (y : Nat) (as : List Value) (h : mv_H) (g : Nat → Nat → mv_H → Option mv_R) (f : mv_H → Option mv_R) : Option mv_R := mv_cl call y as h g fun v h' => match v with
  | none => f h'
  | _ => none
def mv_clI (call : mv_G) (y : Nat) (as : List Value) (h : mv_H) (g : Nat → Nat → mv_H → Option mv_R) (f : Int32 → mv_H → Option mv_R) : Option mv_R := mv_cl call y as h g fun v h' => match v with
  | some (.int x) => f x h'
  | _ => none
def mv_clR (call : mv_G) (y : Nat) (as : List Value) (h : mv_H) (g : Nat → Nat → mv_H → Option mv_R) (f : Nat → mv_H → Option mv_R) : Option mv_R := mv_cl call y as h g fun v h' => match v with
  | some (.ref x) => f x h'
  | _ => none
def mv_clF (call : mv_G) (y : Nat) (as : List Value) (h : mv_H) (g : Nat → Nat → mv_H → Option mv_R) (f : UInt32 → mv_H → Option mv_R) : Option mv_R := mv_cl call y as h g fun v h' => match v with
  | some (.float x) => f x h'
  | _ => none
def mv_clD (call : mv_G) (y : Nat) (as : List Value) (h : mv_H) (g : Nat → Nat → mv_H → Option mv_R) (f : UInt64 → mv_H → Option mv_R) : Option mv_R := mv_cl call y as h g fun v h' => match v with
  | some (.double x) => f x h'
  | _ => none
def mv_cal (rk : Nat) (call : mv_G) (y : Nat) (as : List Value) (h : mv_H) (g : Nat → Nat → mv_H → Option mv_R) (f : List Value → mv_H → Option mv_R) : Option mv_R := match rk with
  | 0 => mv_clV call y as h g fun h' => f [] h'
  | 1 => mv_clI call y as h g fun x h' => f [.int x] h'
  | 2 => mv_clR call y as h g fun x h' => f [.ref x] h'
  | 4 => mv_clF call y as h g fun x h' => f [.float x] h'
  | 5 => mv_clD call y as h g fun x h' => f [.double x] h'
  | _ => none
def mv_args (st : List Value) (n : Nat) (f : List Value → List Value → Option mv_R) : Option mv_R :=
  mv_chk (Nat.ble n st.length && Nat.ble st.length (n + 8) && st.all fun v => Nat.beq v.category 1) (f (st.take n).reverse (st.drop n))
def mv_rcv (X : mv_X) (h : mv_H) (as : List Value) (c : Nat) (f : Option mv_R) : Option mv_R := match as with
  | .ref a :: _ => (match mv_cell X h a with
    | some (.inl (c', _)) => if c' = c then f else none
    | _ => none)
  | _ => none
def mv_isr (as : List Value) (f : Option mv_R) : Option mv_R := match as with
  | .ref _ :: _ => f
  | _ => none
def mv_lk (M : mv_M) (i : Nat) (f : mv_L → Option mv_R) : Option mv_R := match mv_look M.2.2.2.2.1 16 i with
  | some q => f q
  | none => none
def mv_sw (x : Int32) (t : Nat) (f : Nat → Option mv_R) : List (Int × Nat) → Option mv_R
  | [] => f t
  | q :: r => if x = nZ q.1 then f q.2 else mv_sw x t f r
def mv_icmp (c : ClassFile.Cond) (x y : Int32) (A B : Option mv_R) : Option mv_R := match c with
  | .eq => if x = y then A else B
  | .ne => if x = y then B else A
  | .lt => if x < y then A else B
  | .ge => if y ≤ x then A else B
  | .gt => if y < x then A else B
  | .le => if x ≤ y then A else B
def mv_inv (X : mv_X) (call : mv_G) (M : mv_M) (k : mv_K) (pc : Nat) (ls st : List Value) (h : mv_H) (tag y n c rk : Nat) : Option mv_R := match tag with
  | 20 => mv_args st (n + 1) fun as rest => mv_rcv X h as c (mv_cal rk call y as h (mv_thr M.2.2.2.2.2 pc ls k) fun vs h' => k (pc + 3) ls (vs ++ rest) h')
  | 25 => mv_args st (n + 1) fun as rest => mv_rcv X h as c (mv_cal rk call y as h (mv_thr M.2.2.2.2.2 pc ls k) fun vs h' => k (pc + 3) ls (vs ++ rest) h')
  | 21 => mv_args st n fun as rest => mv_cal rk call y as h (mv_thr M.2.2.2.2.2 pc ls k) fun vs h' => k (pc + 3) ls (vs ++ rest) h'
  | 22 => mv_args st (n + 1) fun as rest => mv_isr as (mv_cal rk call y as h (mv_thr M.2.2.2.2.2 pc ls k) fun vs h' => k (pc + 3) ls (vs ++ rest) h')
  | 23 => mv_args st 1 fun as rest => match as with
    | [.ref _] => k (pc + 3) ls rest h
    | _ => none
  | 24 => mv_args st 5 fun as rest => match as with
    | [.ref a0, .int sp, .ref a1, .int dp, .int n] => mv_cpy h a0 sp a1 dp n fun h' => k (pc + 3) ls rest h'
    | _ => none
  | _ => none
/-- one instruction -/
def mv_E (X : mv_X) (call : mv_G) (M : mv_M) (k : mv_K) (i : Instr) (t : Nat) (sw : List (Int × Nat)) (pc : Nat) (ls st : List Value) (h : mv_H) : Option mv_R :=
  match i with
  | .iload_n j => mv_ld ls j fun v => mv_int v fun x => k (pc + 1) ls (.int x :: st) h
  | .iload j => mv_ld ls j fun v => mv_int v fun x => k (pc + 2) ls (.int x :: st) h
  | .aload_n j => mv_ld ls j fun v => mv_ref v fun x => k (pc + 1) ls (.ref x :: st) h
  | .aload j => mv_ld ls j fun v => mv_ref v fun x => k (pc + 2) ls (.ref x :: st) h
  | .fload j => mv_ld ls j fun v => mv_flt v fun x => k (pc + 2) ls (.float x :: st) h
  | .dload j => mv_ld ls j fun v => mv_dbl v fun x => k (pc + 2) ls (.double x :: st) h
  | .istore_n j => mv_popI st fun x st => mv_st M.2.1 ls j (.int x) fun ls => k (pc + 1) ls st h
  | .istore j => mv_popI st fun x st => mv_st M.2.1 ls j (.int x) fun ls => k (pc + 2) ls st h
  | .astore_n j => mv_popR st fun x st => mv_st M.2.1 ls j (.ref x) fun ls => k (pc + 1) ls st h
  | .astore j => mv_popR st fun x st => mv_st M.2.1 ls j (.ref x) fun ls => k (pc + 2) ls st h
  | .fstore j => mv_popF st fun x st => mv_st M.2.1 ls j (.float x) fun ls => k (pc + 2) ls st h
  | .dstore j => mv_popD st fun x st => mv_st2 M.2.1 ls j (.double x) fun ls => k (pc + 2) ls st h
  | .iinc j n => mv_ld ls j fun v => mv_int v fun x => mv_st M.2.1 ls j (.int (x + nZ n)) fun ls => k (pc + 3) ls st h
  | .iconst n => k (pc + 1) ls (.int (nZ n) :: st) h
  | .bipush n => k (pc + 2) ls (.int (nZ n) :: st) h
  | .sipush n => k (pc + 3) ls (.int (nZ n) :: st) h
  | .lconst n => k (pc + 1) ls (.long (Int64.ofNat n) :: st) h
  | .fconst _ => k (pc + 1) ls (.float FP.fconst0 :: st) h
  | .dconst _ => k (pc + 1) ls (.double FP.dconst0 :: st) h
  | .ldc j => (match sw with
    | q :: _ => k (pc + 2) ls (.int (nZ q.1) :: st) h
    | [] => mv_lk M j fun q => mv_chk (Nat.beq q.1 14) (k (pc + 2) ls (.ref (X.2.1 q.2.1) :: st) h))
  | .ldc_w j => (match sw with
    | q :: _ => k (pc + 3) ls (.int (nZ q.1) :: st) h
    | [] => mv_lk M j fun q => mv_chk (Nat.beq q.1 14) (k (pc + 3) ls (.ref (X.2.1 q.2.1) :: st) h))
  | .iadd => mv_popI st fun y st => mv_popI st fun x st => k (pc + 1) ls (.int (x + y) :: st) h
  | .isub => mv_popI st fun y st => mv_popI st fun x st => k (pc + 1) ls (.int (x - y) :: st) h
  | .imul => mv_popI st fun y st => mv_popI st fun x st => k (pc + 1) ls (.int (x * y) :: st) h
  | .idiv => mv_popI st fun y st => mv_popI st fun x st => if y = 0 then none else k (pc + 1) ls (.int (x / y) :: st) h
  | .irem => mv_popI st fun y st => mv_popI st fun x st => if y = 0 then none else k (pc + 1) ls (.int (x - x / y * y) :: st) h
  | .iand => mv_popI st fun y st => mv_popI st fun x st => k (pc + 1) ls (.int (x &&& y) :: st) h
  | .ior => mv_popI st fun y st => mv_popI st fun x st => k (pc + 1) ls (.int (x ||| y) :: st) h
  | .ixor => mv_popI st fun y st => mv_popI st fun x st => k (pc + 1) ls (.int (x ^^^ y) :: st) h
  | .ishl => mv_popI st fun y st => mv_popI st fun x st => k (pc + 1) ls (.int (x <<< (y &&& 31)) :: st) h
  | .ishr => mv_popI st fun y st => mv_popI st fun x st => k (pc + 1) ls (.int (x >>> (y &&& 31)) :: st) h
  | .iushr => mv_popI st fun y st => mv_popI st fun x st => k (pc + 1) ls (.int (x.toUInt32 >>> (y.toUInt32 &&& Int32.toUInt32 31)).toInt32 :: st) h
  | .ineg => mv_popI st fun x st => k (pc + 1) ls (.int (-x) :: st) h
  | .i2l => mv_popI st fun x st => k (pc + 1) ls (.long x.toInt64 :: st) h
  | .i2b => mv_popI st fun x st => k (pc + 1) ls (.int x.toInt8.toInt32 :: st) h
  | .i2c => mv_popI st fun x st => k (pc + 1) ls (.int (x.toUInt32 % 65536).toInt32 :: st) h
  | .i2d => mv_popI st fun x st => k (pc + 1) ls (.double (FP.i2d x) :: st) h
  | .i2f => mv_popI st fun x st => k (pc + 1) ls (.float (FP.i2f x) :: st) h
  | .f2d => mv_popF st fun x st => mv_chk (decide (FP.f2d x &&& 0x7fffffffffffffff ≤ 0x7ff0000000000000)) (k (pc + 1) ls (.double (FP.f2d x) :: st) h)
  | .ddiv => mv_popD st fun y st => mv_popD st fun x st => mv_chk (decide (FP.ddiv x y &&& 0x7fffffffffffffff ≤ 0x7ff0000000000000)) (k (pc + 1) ls (.double (FP.ddiv x y) :: st) h)
  | .fdiv => mv_popF st fun y st => mv_popF st fun x st => mv_chk (decide (FP.fdiv x y &&& 0x7fffffff ≤ 0x7f800000)) (k (pc + 1) ls (.float (FP.fdiv x y) :: st) h)
  | .lcmp => mv_popL st fun y st => mv_popL st fun x st => k (pc + 1) ls (.int (lg_cmp x y) :: st) h
  | .dcmp op => mv_popD st fun y st => mv_popD st fun x st => k (pc + 1) ls (.int (Op.cmpValue (FP.dcmp x y) op) :: st) h
  | .fcmp op => mv_popF st fun y st => mv_popF st fun x st => k (pc + 1) ls (.int (Op.cmpValue (FP.fcmp x y) op) :: st) h
  | .dup => mv_pop1 st fun v st => k (pc + 1) ls (v :: v :: st) h
  | .pop => mv_pop1 st fun _ st => k (pc + 1) ls st h
  | .dup_x1 => mv_pop1 st fun v st => mv_pop1 st fun w st => k (pc + 1) ls (v :: w :: v :: st) h
  | .dup2 => mv_pop1 st fun v st => mv_pop1 st fun w st => k (pc + 1) ls (v :: w :: v :: w :: st) h
  | .goto _ => k t ls st h
  | .ifCond c _ => mv_popI st fun x st => mv_icmp c x 0 (k t ls st h) (k (pc + 3) ls st h)
  | .if_icmp c _ => mv_popI st fun y st => mv_popI st fun x st => mv_icmp c x y (k t ls st h) (k (pc + 3) ls st h)
  | .tableswitch _ _ _ _ => mv_popI st fun x st => mv_sw x t (fun t => k t ls st h) sw
  | .lookupswitch _ _ => mv_popI st fun x st => mv_sw x t (fun t => k t ls st h) sw
  | .getfield j => mv_popR st fun a st => mv_lk M j fun q => mv_chk (Nat.beq q.1 1) (match q.2.2.2.1 with
    | 2 => mv_gR X h a q.2.1 q.2.2.1 fun x => k (pc + 3) ls (.ref x :: st) h
    | _ => mv_gI X h a q.2.1 q.2.2.1 fun x => k (pc + 3) ls (.int x :: st) h)
  | .putfield j => mv_lk M j fun q => mv_chk (Nat.beq q.1 1) (match q.2.2.2.1 with
    | 2 => mv_popR st fun x st => mv_popR st fun a st => mv_pf h a q.2.1 q.2.2.1 (.ref x) fun h => k (pc + 3) ls st h
    | t => mv_popI st fun x st => mv_popR st fun a st => mv_chk (mv_ok t x) (mv_pf h a q.2.1 q.2.2.1 (.int x) fun h => k (pc + 3) ls st h))
  | .getstatic j => mv_lk M j fun q => mv_chk (Nat.beq q.1 13) (match q.2.2.1 with
    | 2 => mv_ref (X.2.2 q.2.1) fun x => k (pc + 3) ls (.ref x :: st) h
    | 9 => mv_chk (mv_nr (X.2.2 q.2.1)) (k (pc + 3) ls (X.2.2 q.2.1 :: st) h)
    | _ => mv_int (X.2.2 q.2.1) fun x => k (pc + 3) ls (.int x :: st) h)
  | .iaload => mv_popI st fun i st => mv_popR st fun a st => mv_aI X h 1 a i fun x => k (pc + 1) ls (.int x :: st) h
  | .caload => mv_popI st fun i st => mv_popR st fun a st => mv_aI X h 7 a i fun x => k (pc + 1) ls (.int x :: st) h
  | .baload => mv_popI st fun i st => mv_popR st fun a st => mv_aI X h 8 a i fun x => k (pc + 1) ls (.int x :: st) h
  | .aaload => mv_popI st fun i st => mv_popR st fun a st => mv_aR X h a i fun x => k (pc + 1) ls (.ref x :: st) h
  | .laload => mv_popI st fun i st => mv_popR st fun a st => mv_aL X h a i fun x => k (pc + 1) ls (.long x :: st) h
  | .daload => mv_popI st fun i st => mv_popR st fun a st => mv_aD X h a i fun x => k (pc + 1) ls (.double x :: st) h
  | .iastore => mv_popI st fun x st => mv_popI st fun i st => mv_popR st fun a st => mv_as h 1 a i (.int x) fun h => k (pc + 1) ls st h
  | .castore => mv_popI st fun x st => mv_popI st fun i st => mv_popR st fun a st => mv_as h 7 a i (.int (vp_nar .char x)) fun h => k (pc + 1) ls st h
  | .bastore => mv_popI st fun x st => mv_popI st fun i st => mv_popR st fun a st => mv_as h 8 a i (.int x.toInt8.toInt32) fun h => k (pc + 1) ls st h
  | .lastore => mv_popL st fun x st => mv_popI st fun i st => mv_popR st fun a st => mv_as h 3 a i (.long x) fun h => k (pc + 1) ls st h
  | .dastore => mv_popD st fun x st => mv_popI st fun i st => mv_popR st fun a st => mv_as h 5 a i (.double x) fun h => k (pc + 1) ls st h
  | .aastore => mv_popR st fun b st => mv_popI st fun i st => mv_popR st fun a st => mv_aa h a i b fun h => k (pc + 1) ls st h
  | .arraylength => mv_popR st fun a st => mv_len X h a fun x => k (pc + 1) ls (.int x :: st) h
  | .new j => mv_lk M j fun q => (match q.1 with
    | 10 => mv_new h (.inl (q.2.1, mv_df q.2.1)) (mv_df q.2.1).length fun a h => k (pc + 3) ls (.ref a :: st) h
    | 11 => mv_chk (Nat.blt 0 t && Nat.ble st.length 8 && (st.all fun v => Nat.beq v.category 1) && M.2.2.2.2.2.isEmpty) (mv_raise q.2.1 h.2.1 (h.1, h.2.1 + 1, h.2.2 + 6))
    | _ => none)
  | .newarray ty => mv_popI st fun n st => mv_newa h (newarray.typeOf ty) (defaultValue (newarray.typeOf ty)) n fun a h => k (pc + 2) ls (.ref a :: st) h
  | .anewarray j => mv_popI st fun n st => mv_lk M j fun q => mv_chk (Nat.beq q.1 10) (mv_newa h (.object (mv_cn q.2.1)) .null n fun a h => k (pc + 3) ls (.ref a :: st) h)
  | .invokevirtual j => mv_lk M j fun q => mv_inv X call M k pc ls st h q.1 q.2.1 q.2.2.1 q.2.2.2.1 q.2.2.2.2
  | .invokespecial j => mv_lk M j fun q => mv_inv X call M k pc ls st h q.1 q.2.1 q.2.2.1 q.2.2.2.1 q.2.2.2.2
  | .invokestatic j => mv_lk M j fun q => mv_inv X call M k pc ls st h q.1 q.2.1 q.2.2.1 q.2.2.2.1 q.2.2.2.2
  | .ireturn => mv_popI st fun x r => mv_chk (r.isEmpty && mv_ok M.2.2.1 x) (some (.inl (some (.int x)), h))
  | .areturn => mv_popR st fun x r => mv_chk (r.isEmpty && Nat.beq M.2.2.1 2) (some (.inl (some (.ref x)), h))
  | .freturn => mv_popF st fun x r => mv_chk (r.isEmpty && Nat.beq M.2.2.1 4) (some (.inl (some (.float x)), h))
  | .dreturn => mv_popD st fun x r => mv_chk (r.isEmpty && Nat.beq M.2.2.1 5) (some (.inl (some (.double x)), h))
  | .return_ => mv_chk (st.isEmpty && Nat.beq M.2.2.1 0) (some (.inl none, h))
  | _ => none
/-- one step -/
def mv_F (X : mv_X) (call : mv_G) (M : mv_M) (k : mv_K) (pc : Nat) (ls st : List Value) (h : mv_H) : Option mv_R :=
  match mv_look M.2.2.2.1 32 pc with
  | none => none
  | some q => mv_E X call M k q.1 q.2.1 q.2.2 pc ls st h
end
section
def lk_X8 : List (List (Nat × mv_L)) := [[(1, 23, 0, 0, 0, 0), (7, 10, 7, 0, 0, 0), (9, 22, 25, 0, 0, 0), (10, 1, 12, 0, 2, 0)],
  [(16, 1, 12, 1, 2, 0), (19, 1, 12, 2, 2, 0), (22, 1, 12, 3, 6, 0), (26, 10, 8, 0, 0, 0), (28, 22, 61, 0, 0, 0), (29, 1, 12, 4, 2, 0)],
  [(33, 10, 5, 0, 0, 0), (35, 22, 16, 0, 0, 0), (36, 1, 12, 5, 2, 0), (40, 10, 10, 0, 0, 0), (42, 22, 68, 0, 0, 0), (43, 1, 12, 6, 2, 0), (47, 10, 1, 0, 0, 0)],
  [(49, 22, 273, 0, 0, 0), (50, 1, 12, 7, 2, 0), (54, 10, 11, 0, 0, 0), (56, 22, 77, 0, 0, 0), (57, 1, 12, 8, 2, 0), (61, 10, 6, 0, 0, 0), (63, 22, 20, 0, 0, 0)],
  [(64, 1, 12, 9, 2, 0), (68, 1, 12, 10, 1, 0), (72, 1, 12, 11, 1, 0), (75, 1, 12, 12, 1, 0), (78, 1, 12, 13, 1, 0)],
  [(81, 20, 137, 5, 12, 1), (85, 20, 30, 0, 7, 1), (89, 21, 146, 3, 0, 1), (93, 11, 0, 0, 0, 0), (95, 14, 0, 0, 0, 0)],
  [(100, 20, 27, 1, 7, 1), (104, 20, 140, 1, 12, 2), (108, 1, 4, 1, 1, 0)],
  [(113, 1, 4, 4, 1, 0), (116, 20, 5, 0, 4, 1), (119, 20, 6, 0, 4, 1), (123, 20, 33, 1, 7, 1), (127, 11, 1, 0, 0, 0)],
  [(129, 14, 1, 0, 0, 0), (132, 1, 4, 5, 1, 0), (135, 20, 8, 1, 4, 1), (138, 11, 2, 0, 0, 0), (140, 14, 2, 0, 0, 0), (143, 1, 4, 6, 2, 0)],
  [(147, 21, 143, 1, 0, 0), (151, 20, 14, 1, 4, 1), (154, 14, 3, 0, 0, 0), (156, 21, 145, 2, 0, 1)],
  [(160, 21, 264, 1, 0, 1), (165, 20, 11, 1, 4, 1), (168, 14, 4, 0, 0, 0), (170, 1, 7, 1, 2, 0), (173, 20, 36, 1, 7, 1)],
  [(176, 20, 79, 1, 11, 1), (180, 20, 80, 1, 11, 1), (183, 21, 144, 1, 0, 0), (186, 20, 37, 1, 7, 1), (189, 20, 38, 1, 7, 1)],
  [(192, 1, 7, 3, 1, 0), (195, 20, 141, 1, 12, 0), (198, 1, 7, 2, 2, 0), (202, 20, 67, 1, 9, 1), (207, 20, 39, 2, 7, 1)],
  [(211, 20, 21, 1, 6, 1), (214, 20, 23, 1, 6, 1), (217, 20, 26, 1, 7, 0), (221, 20, 57, 1, 7, 1)],
  [(224, 1, 7, 4, 1, 0), (227, 1, 7, 5, 1, 0), (230, 1, 7, 6, 1, 0), (233, 20, 31, 0, 7, 1), (236, 1, 7, 7, 1, 0), (239, 1, 7, 8, 1, 0)],
  [(242, 11, 5, 0, 0, 0), (244, 14, 5, 0, 0, 0), (247, 20, 32, 0, 7, 1), (250, 1, 4, 3, 1, 0), (253, 1, 10, 1, 1, 0)],
  [(256, 11, 4, 0, 0, 0), (258, 14, 6, 0, 0, 0), (261, 20, 69, 1, 10, 0), (265, 20, 70, 0, 10, 1), (268, 1, 10, 4, 1, 0), (271, 14, 7, 0, 0, 0)],
  [(273, 1, 10, 3, 1, 0), (276, 1, 10, 2, 2, 0), (280, 20, 40, 1, 7, 1), (284, 20, 139, 3, 12, 0)],
  [(288, 11, 3, 0, 0, 0), (290, 14, 8, 0, 0, 0), (293, 20, 48, 1, 7, 1), (296, 20, 62, 1, 8, 0), (299, 14, 9, 0, 0, 0), (301, 20, 277, 1, 1, 0)],
  [(304, 20, 275, 1, 1, 2), (307, 20, 274, 1, 1, 2), (310, 1, 4, 2, 1, 0), (313, 20, 278, 0, 1, 1), (315, 14, 10, 0, 0, 0), (317, 20, 276, 1, 1, 1)],
  [(321, 20, 142, 0, 12, 0), (324, 14, 11, 0, 0, 0), (326, 1, 8, 2, 1, 0), (329, 14, 12, 0, 0, 0), (331, 20, 63, 1, 8, 0), (334, 14, 13, 0, 0, 0)],
  [(336, 20, 19, 5, 5, 0), (340, 20, 138, 1, 12, 0), (343, 14, 14, 0, 0, 0), (345, 14, 15, 0, 0, 0), (347, 20, 47, 2, 7, 1), (351, 14, 16, 0, 0, 0)],
  [(353, 1, 7, 0, 2, 0), (357, 20, 28, 1, 7, 1), (360, 14, 17, 0, 0, 0), (362, 14, 18, 0, 0, 0), (364, 14, 19, 0, 0, 0), (366, 14, 20, 0, 0, 0)],
  [(368, 20, 12, 1, 4, 1)]]
def lk_X0 : List (List (Nat × mv_L)) := [[(3, 23, 0, 0, 0, 0), (9, 1, 4, 0, 6, 0), (15, 1, 4, 1, 1, 0)],
  [(19, 1, 4, 2, 1, 0), (22, 1, 4, 3, 1, 0), (25, 1, 4, 4, 1, 0), (28, 1, 4, 5, 1, 0), (31, 1, 4, 6, 2, 0)],
  [(35, 24, 0, 0, 0, 0), (41, 20, 4, 1, 4, 1), (45, 20, 5, 0, 4, 1)],
  [(49, 21, 146, 3, 0, 1), (53, 20, 8, 1, 4, 1), (57, 20, 11, 1, 4, 1), (60, 20, 13, 2, 4, 1)],
  [(64, 21, 264, 1, 0, 1), (69, 20, 15, 1, 4, 1)]]
def lk_X1 : List (List (Nat × mv_L)) := [[(3, 23, 0, 0, 0, 0), (9, 1, 5, 0, 1, 0), (15, 1, 5, 1, 1, 0)],
  [(18, 1, 5, 2, 2, 0), (22, 20, 17, 1, 5, 0), (26, 20, 18, 1, 5, 0)]]
def lk_X2 : List (List (Nat × mv_L)) := [[(3, 23, 0, 0, 0, 0), (9, 1, 6, 0, 2, 0), (15, 1, 6, 1, 2, 0)],
  [(18, 1, 6, 2, 2, 0), (21, 21, 281, 2, 0, 0), (27, 1, 7, 3, 1, 0)],
  [(33, 21, 22, 5, 0, 1), (37, 20, 39, 2, 7, 1), (41, 20, 24, 2, 6, 0), (45, 21, 264, 1, 0, 1)],
  [(51, 21, 266, 2, 0, 1)]]
def lk_X3 : List (List (Nat × mv_L)) := [[(3, 23, 0, 0, 0, 0), (9, 10, 4, 0, 0, 0), (11, 1, 7, 0, 2, 0)],
  [(17, 1, 7, 1, 2, 0), (21, 10, 9, 0, 0, 0), (23, 1, 7, 2, 2, 0), (27, 1, 7, 3, 1, 0), (31, 1, 7, 4, 1, 0)],
  [(34, 1, 7, 5, 1, 0), (37, 1, 7, 6, 1, 0), (40, 1, 7, 7, 1, 0), (43, 1, 7, 8, 1, 0), (46, 1, 7, 9, 2, 0)],
  [(49, 1, 7, 10, 1, 0), (52, 1, 7, 11, 1, 0), (55, 22, 0, 0, 0, 0), (56, 22, 64, 0, 0, 0), (57, 20, 1, 1, 4, 0), (61, 24, 0, 0, 0, 0)],
  [(67, 20, 66, 1, 9, 0), (70, 1, 4, 0, 6, 0), (74, 1, 4, 4, 1, 0), (77, 20, 5, 0, 4, 1)],
  [(81, 20, 34, 1, 7, 1), (85, 20, 35, 2, 7, 1), (89, 20, 29, 0, 7, 1), (92, 21, 265, 1, 0, 1)],
  [(97, 21, 266, 2, 0, 1), (101, 21, 267, 2, 0, 1), (104, 20, 28, 1, 7, 1), (108, 20, 27, 1, 7, 1), (111, 20, 67, 1, 9, 1)],
  [(114, 20, 3, 0, 4, 1), (117, 1, 9, 0, 1, 0), (120, 1, 5, 2, 2, 0), (125, 1, 5, 0, 1, 0)],
  [(128, 20, 41, 4, 7, 1), (132, 20, 42, 2, 7, 1), (135, 20, 43, 2, 7, 1), (138, 20, 44, 2, 7, 1), (141, 20, 45, 2, 7, 1)],
  [(144, 21, 146, 3, 0, 1), (148, 20, 46, 3, 7, 1), (152, 1, 4, 5, 1, 0), (155, 20, 8, 1, 4, 1), (158, 20, 4, 1, 4, 1)],
  [(161, 20, 49, 4, 7, 1), (164, 20, 50, 1, 7, 1), (167, 20, 51, 2, 7, 1), (170, 20, 52, 2, 7, 1), (173, 20, 53, 2, 7, 1)],
  [(176, 20, 54, 2, 7, 1), (179, 20, 57, 1, 7, 1), (182, 20, 55, 3, 7, 1), (185, 20, 56, 1, 7, 1), (188, 20, 2, 3, 4, 0)],
  [(192, 20, 9, 1, 4, 0), (196, 20, 10, 1, 4, 1), (199, 20, 12, 1, 4, 1), (202, 21, 264, 1, 0, 1), (207, 20, 65, 3, 9, 0)],
  [(210, 20, 7, 1, 4, 0), (213, 20, 58, 0, 7, 1), (216, 20, 60, 1, 7, 0), (219, 20, 59, 1, 7, 0), (222, 20, 6, 0, 4, 1)]]
def lk_X4 : List (List (Nat × mv_L)) := [[(3, 23, 0, 0, 0, 0), (9, 10, 7, 0, 0, 0), (11, 1, 8, 0, 2, 0)],
  [(17, 1, 8, 1, 1, 0), (21, 1, 8, 2, 1, 0), (24, 22, 25, 0, 0, 0), (25, 20, 26, 1, 7, 0), (29, 21, 267, 2, 0, 1)]]
def lk_X5 : List (List (Nat × mv_L)) := [[(1, 23, 0, 0, 0, 0), (7, 1, 9, 0, 1, 0), (13, 1, 9, 1, 1, 0)],
  [(16, 1, 9, 2, 1, 0), (19, 20, 65, 3, 9, 0)]]
def lk_X6 : List (List (Nat × mv_L)) := [[(3, 23, 0, 0, 0, 0), (9, 1, 10, 0, 2, 0), (15, 1, 10, 1, 1, 0)],
  [(19, 10, 5, 0, 0, 0), (21, 1, 10, 2, 2, 0), (25, 1, 10, 3, 1, 0), (28, 1, 10, 4, 1, 0), (31, 22, 16, 0, 0, 0)],
  [(32, 20, 71, 1, 10, 1), (36, 20, 76, 1, 10, 1), (40, 20, 72, 2, 10, 1), (44, 21, 266, 2, 0, 1)],
  [(50, 21, 73, 1, 0, 2), (54, 20, 17, 1, 5, 0), (58, 20, 268, 0, 0, 1), (63, 20, 269, 1, 0, 1)],
  [(67, 20, 74, 2, 10, 1), (71, 14, 21, 0, 0, 0), (73, 14, 22, 0, 0, 0), (75, 14, 23, 0, 0, 0), (77, 14, 24, 0, 0, 0), (79, 14, 25, 0, 0, 0)],
  [(81, 14, 26, 0, 0, 0), (83, 14, 27, 0, 0, 0), (85, 14, 28, 0, 0, 0), (87, 14, 29, 0, 0, 0), (89, 20, 75, 3, 10, 1), (93, 21, 146, 3, 0, 1)],
  [(97, 20, 18, 1, 5, 0)]]
def lk_X7 : List (List (Nat × mv_L)) := [[(3, 23, 0, 0, 0, 0), (9, 1, 11, 0, 2, 0), (15, 1, 11, 1, 2, 0)],
  [(18, 20, 27, 1, 7, 1), (24, 20, 36, 1, 7, 1), (28, 20, 78, 1, 11, 1)],
  [(32, 21, 81, 5, 0, 1), (36, 21, 82, 5, 0, 1), (39, 24, 0, 0, 0, 0)]]
def lk_L : List (List (Nat × mv_L)) := [[(7, 20, 84, 4, 12, 1), (8, 10, 12, 0, 0, 0)],
  [(17, 20, 85, 1, 12, 1), (23, 20, 87, 1, 12, 1), (27, 20, 88, 1, 12, 1), (30, 20, 89, 1, 12, 1)],
  [(33, 20, 90, 1, 12, 1), (36, 20, 91, 1, 12, 1), (39, 20, 92, 1, 12, 1), (42, 20, 93, 2, 12, 1), (46, 20, 94, 2, 12, 1)],
  [(51, 20, 95, 2, 12, 1), (54, 20, 96, 1, 12, 1), (57, 20, 97, 2, 12, 1), (60, 20, 98, 2, 12, 1), (63, 20, 99, 2, 12, 1)],
  [(66, 20, 100, 2, 12, 1), (69, 20, 101, 2, 12, 1), (72, 20, 102, 1, 12, 1), (75, 20, 103, 1, 12, 1), (78, 20, 106, 1, 12, 1)],
  [(81, 20, 107, 1, 12, 1), (84, 20, 108, 3, 12, 1), (88, 20, 109, 1, 12, 1), (91, 20, 111, 2, 12, 1), (95, 20, 112, 2, 12, 1)],
  [(98, 20, 115, 1, 12, 1), (101, 20, 123, 0, 12, 5), (107, 20, 124, 1, 12, 4), (111, 20, 125, 1, 12, 1)],
  [(117, 20, 126, 0, 12, 1), (121, 20, 127, 0, 12, 1), (124, 20, 128, 1, 12, 1), (127, 20, 129, 1, 12, 1)],
  [(131, 20, 130, 0, 12, 1), (134, 20, 131, 0, 12, 1), (137, 20, 132, 0, 12, 1), (140, 20, 133, 0, 12, 1), (143, 20, 136, 0, 12, 1)],
  [(146, 22, 83, 0, 0, 0), (147, 10, 13, 0, 0, 0), (149, 22, 147, 0, 0, 0), (150, 21, 285, 6, 0, 1), (155, 20, 187, 4, 13, 1), (156, 20, 148, 0, 13, 1), (159, 21, 286, 3, 0, 1)],
  [(162, 20, 188, 1, 13, 1), (163, 20, 86, 0, 12, 1), (166, 20, 196, 0, 13, 1), (167, 21, 287, 3, 0, 1), (169, 20, 197, 1, 13, 1), (170, 21, 288, 3, 0, 1), (172, 20, 199, 1, 13, 1), (173, 21, 289, 3, 0, 1), (175, 20, 200, 1, 13, 1)],
  [(176, 21, 290, 3, 0, 1), (178, 20, 201, 1, 13, 1), (179, 21, 291, 3, 0, 1), (181, 20, 202, 1, 13, 1), (182, 21, 292, 3, 0, 1), (184, 20, 204, 1, 13, 1), (185, 21, 293, 4, 0, 1), (188, 20, 189, 2, 13, 1), (189, 21, 294, 4, 0, 1), (191, 20, 190, 2, 13, 1)],
  [(192, 21, 295, 4, 0, 1), (194, 20, 191, 2, 13, 1), (195, 21, 296, 3, 0, 1), (197, 20, 205, 1, 13, 1), (198, 21, 297, 4, 0, 1), (200, 20, 206, 2, 13, 1), (201, 21, 298, 4, 0, 1), (203, 20, 208, 2, 13, 1), (204, 21, 299, 4, 0, 1), (206, 20, 209, 2, 13, 1), (207, 21, 300, 4, 0, 1)],
  [(209, 20, 210, 2, 13, 1), (210, 21, 301, 4, 0, 1), (212, 20, 192, 2, 13, 1), (213, 21, 302, 3, 0, 1), (215, 20, 211, 1, 13, 1), (216, 21, 303, 3, 0, 1), (218, 20, 212, 1, 13, 1), (219, 20, 104, 0, 12, 1), (222, 20, 213, 0, 13, 1), (223, 20, 105, 0, 12, 1)],
  [(226, 20, 214, 0, 13, 1), (227, 21, 304, 3, 0, 1), (229, 20, 215, 1, 13, 1), (230, 21, 305, 3, 0, 1), (232, 20, 216, 1, 13, 1), (233, 21, 306, 5, 0, 1), (236, 20, 193, 3, 13, 1), (237, 21, 307, 3, 0, 1), (239, 20, 194, 1, 13, 1)],
  [(240, 20, 110, 0, 12, 1), (243, 20, 217, 0, 13, 1), (244, 21, 308, 4, 0, 1), (246, 20, 220, 2, 13, 1), (247, 21, 309, 4, 0, 1), (249, 20, 221, 2, 13, 1), (250, 20, 113, 0, 12, 1), (253, 20, 222, 0, 13, 1), (254, 20, 114, 0, 12, 1)],
  [(257, 20, 223, 0, 13, 1), (258, 21, 310, 3, 0, 1), (260, 20, 195, 1, 13, 1), (261, 20, 116, 0, 12, 1), (264, 20, 224, 0, 13, 1), (265, 20, 117, 0, 12, 1), (268, 20, 225, 0, 13, 1), (269, 20, 118, 0, 12, 1)],
  [(272, 20, 226, 0, 13, 1), (273, 20, 119, 0, 12, 1), (276, 20, 227, 0, 13, 1), (277, 20, 120, 0, 12, 1), (280, 20, 228, 0, 13, 1), (281, 20, 121, 0, 12, 1), (284, 20, 229, 0, 13, 1), (285, 20, 122, 0, 12, 1)],
  [(288, 20, 230, 0, 13, 1), (289, 21, 311, 2, 0, 1), (292, 20, 231, 0, 13, 5), (293, 21, 312, 3, 0, 1), (296, 20, 232, 1, 13, 4), (297, 21, 313, 3, 0, 1), (300, 20, 233, 1, 13, 1), (301, 21, 314, 2, 0, 1)],
  [(304, 20, 240, 0, 13, 1), (305, 21, 315, 2, 0, 1), (307, 20, 241, 0, 13, 1), (308, 21, 316, 3, 0, 1), (310, 20, 244, 1, 13, 1), (311, 21, 317, 3, 0, 1), (313, 20, 245, 1, 13, 1), (314, 21, 318, 2, 0, 1), (316, 20, 246, 0, 13, 1), (317, 21, 319, 2, 0, 1), (319, 20, 247, 0, 13, 1)],
  [(320, 21, 320, 2, 0, 1), (322, 20, 248, 0, 13, 1), (323, 21, 321, 2, 0, 1), (325, 20, 249, 0, 13, 1), (326, 20, 134, 0, 12, 1), (329, 20, 250, 0, 13, 1), (330, 20, 135, 0, 12, 1), (333, 20, 251, 0, 13, 1), (334, 21, 322, 2, 0, 1)],
  [(336, 20, 252, 0, 13, 1)]]
def lk_X9 : List (List (Nat × mv_L)) := [[(1, 23, 0, 0, 0, 0), (7, 1, 13, 1, 2, 0), (13, 1, 13, 2, 2, 0)],
  [(16, 1, 13, 3, 2, 0), (19, 1, 13, 4, 2, 0), (22, 1, 13, 5, 2, 0), (25, 1, 13, 8, 2, 0), (28, 1, 13, 9, 2, 0), (31, 1, 13, 10, 2, 0)],
  [(34, 1, 13, 11, 2, 0), (37, 1, 13, 12, 2, 0), (40, 1, 13, 13, 2, 0), (43, 1, 13, 14, 2, 0), (46, 1, 13, 17, 1, 0)],
  [(50, 1, 13, 0, 1, 0), (53, 1, 13, 6, 1, 0), (56, 1, 13, 18, 1, 0), (59, 1, 13, 19, 1, 0), (62, 1, 13, 20, 1, 0)],
  [(65, 1, 13, 21, 1, 0), (68, 20, 152, 1, 13, 1), (72, 20, 149, 1, 13, 1), (75, 21, 150, 3, 0, 1), (79, 21, 156, 1, 0, 1)],
  [(83, 20, 158, 2, 13, 1), (87, 20, 164, 2, 13, 1), (90, 20, 165, 2, 13, 1), (93, 20, 166, 2, 13, 1)],
  [(96, 20, 167, 1, 13, 1), (99, 20, 163, 0, 13, 1), (103, 21, 170, 1, 0, 1), (106, 20, 171, 3, 13, 1), (109, 20, 159, 3, 13, 0)],
  [(113, 1, 13, 22, 1, 0), (116, 20, 160, 1, 13, 1), (119, 20, 173, 2, 13, 0), (123, 20, 168, 1, 13, 1), (126, 20, 175, 1, 13, 0)],
  [(130, 20, 174, 1, 13, 0), (133, 20, 176, 1, 13, 0), (136, 20, 154, 2, 13, 1), (139, 20, 153, 1, 13, 1), (142, 20, 172, 2, 13, 1)],
  [(145, 21, 157, 1, 0, 1), (148, 20, 177, 0, 13, 1), (151, 20, 161, 1, 13, 1), (154, 20, 151, 0, 13, 0), (157, 20, 178, 4, 13, 1)],
  [(161, 20, 155, 2, 13, 1), (164, 20, 179, 1, 13, 1), (167, 20, 180, 2, 13, 1), (170, 20, 181, 2, 13, 1), (173, 20, 182, 2, 13, 1)],
  [(176, 20, 183, 2, 13, 1), (179, 20, 185, 3, 13, 1), (183, 20, 186, 1, 13, 1), (186, 20, 184, 1, 13, 1), (189, 20, 198, 1, 13, 1)],
  [(192, 20, 203, 2, 13, 1), (196, 20, 207, 2, 13, 1), (199, 20, 208, 2, 13, 1), (202, 20, 169, 1, 13, 1), (205, 20, 213, 0, 13, 1)],
  [(208, 20, 215, 1, 13, 1), (211, 20, 162, 2, 13, 1), (214, 20, 218, 2, 13, 1), (217, 20, 219, 2, 13, 1), (220, 20, 222, 0, 13, 1), (223, 20, 196, 0, 13, 1)],
  [(226, 1, 13, 15, 1, 0), (229, 1, 13, 23, 1, 0), (232, 1, 13, 24, 1, 0), (235, 20, 268, 0, 0, 1)],
  [(240, 1, 13, 26, 6, 0), (244, 20, 234, 1, 13, 1), (247, 20, 269, 1, 0, 1), (251, 20, 235, 1, 13, 0), (255, 1, 13, 25, 1, 0)],
  [(258, 14, 30, 0, 0, 0), (260, 20, 236, 3, 13, 0), (264, 14, 31, 0, 0, 0), (266, 14, 32, 0, 0, 0), (268, 14, 33, 0, 0, 0), (270, 14, 34, 0, 0, 0)],
  [(272, 14, 35, 0, 0, 0), (274, 14, 36, 0, 0, 0), (276, 14, 37, 0, 0, 0), (278, 14, 38, 0, 0, 0), (280, 14, 39, 0, 0, 0), (282, 14, 40, 0, 0, 0), (284, 14, 41, 0, 0, 0), (286, 20, 237, 0, 13, 0)],
  [(289, 14, 42, 0, 0, 0), (291, 20, 238, 0, 13, 0), (294, 20, 239, 1, 13, 1), (297, 1, 13, 16, 1, 0), (300, 20, 242, 1, 13, 0), (303, 20, 243, 1, 13, 0)],
  [(306, 1, 13, 7, 6, 0)]]
def lk_J5 : List (List (Nat × mv_L)) := [[(3, 23, 0, 0, 0, 0), (15, 1, 1, 0, 2, 0)],
  [(18, 13, 0, 6, 0, 0), (22, 1, 1, 1, 8, 0)],
  [(39, 15, 2147483647, 0, 0, 0)],
  [],
  [(73, 1, 1, 2, 6, 0), (79, 1, 1, 3, 1, 0)],
  [(83, 20, 261, 0, 1, 1)],
  [(100, 20, 255, 1, 1, 0), (104, 20, 256, 1, 1, 1), (108, 21, 282, 2, 0, 2)],
  [(114, 21, 283, 3, 0, 1)],
  [(129, 10, 3, 0, 0, 0), (138, 21, 267, 2, 0, 1)],
  [(144, 21, 272, 2, 0, 0)],
  [],
  [(191, 21, 280, 1, 0, 1)],
  [],
  [],
  [],
  [(245, 21, 263, 1, 0, 1), (248, 21, 262, 3, 0, 1)]]
def lk_J6 : List (List (Nat × mv_L)) := [[],
  [],
  [],
  [],
  [],
  [(83, 13, 1, 2, 0, 0), (87, 13, 2, 2, 0, 0)],
  [],
  [],
  [],
  [],
  [],
  [],
  [],
  [],
  [],
  [],
  [(265, 15, 1431655765, 0, 0, 0), (266, 15, 858993459, 0, 0, 0), (267, 15, 252645135, 0, 0, 0)]]
def lk_J0 : List (List (Nat × mv_L)) := [[(9, 1, 0, 0, 2, 0), (15, 1, 0, 1, 8, 0)],
  [],
  [(38, 13, 0, 6, 0, 0)],
  [],
  [],
  [],
  [],
  [],
  [],
  [],
  [],
  [],
  [],
  [],
  [],
  [],
  [],
  [],
  [],
  [],
  [(335, 20, 270, 0, 0, 1)],
  [],
  [],
  [],
  [],
  [],
  [],
  [],
  [],
  [],
  [(492, 20, 271, 0, 0, 1), (495, 21, 279, 2, 0, 1)],
  [],
  [],
  [],
  [],
  [],
  [],
  [],
  [],
  [],
  [],
  [],
  [],
  [],
  [],
  [],
  [],
  [],
  [],
  [],
  [],
  [],
  [],
  [],
  [],
  [],
  [],
  [],
  [],
  [],
  [],
  [],
  [],
  [],
  [],
  [(1053, 13, 3, 9, 0, 0)],
  [(1059, 21, 284, 3, 0, 1)]]
def lk_J4 : List (List (Nat × mv_L)) := [[(1, 22, 253, 1, 0, 0)],
  [],
  [],
  [(50, 25, 259, 1, 1, 2), (53, 25, 260, 1, 1, 2)],
  [],
  [],
  [],
  [],
  [],
  [],
  [],
  [],
  [],
  [],
  [],
  [],
  [],
  [],
  [],
  [],
  [(329, 25, 258, 1, 1, 1), (333, 25, 257, 1, 1, 0)],
  [(343, 25, 254, 0, 1, 1)]]
def lk_J1 : List (List (Nat × mv_L)) := [[(9, 21, 272, 2, 0, 0)]]
def lk_J7 : List (List (Nat × mv_L)) := [[],
  [],
  [],
  [],
  [],
  [],
  [],
  [],
  [],
  [(150, 24, 0, 0, 0, 0)],
  [],
  [],
  [],
  [],
  [],
  [],
  [],
  [],
  [],
  [(304, 21, 267, 2, 0, 1)]]
def lk_J8 : List (List (Nat × mv_L)) := [[],
  [],
  [],
  [],
  [],
  [],
  [],
  [],
  [],
  [],
  [],
  [],
  [(194, 21, 266, 2, 0, 1), (200, 15, 2147483639, 0, 0, 0)]]
def cd_X0_init : List (List (Nat × mv_I)) := [[(0, .aload_n 0, 0, []), (1, .invokespecial 3, 0, []), (4, .aload_n 0, 0, []), (5, .iconst 0, 0, []), (6, .putfield 9, 0, []), (9, .aload_n 0, 0, []), (10, .iconst 1, 0, []), (11, .putfield 15, 0, []), (14, .aload_n 0, 0, []), (15, .iconst 1, 0, []), (16, .putfield 19, 0, []), (19, .aload_n 0, 0, []), (20, .iconst 1, 0, []), (21, .putfield 22, 0, []), (24, .aload_n 0, 0, []), (25, .iconst 0, 0, []), (26, .putfield 25, 0, []), (29, .aload_n 0, 0, []), (30, .iconst 0, 0, []), (31, .putfield 28, 0, [])],
  [(34, .aload_n 0, 0, []), (35, .bipush 6, 0, []), (37, .newarray .int, 0, []), (39, .putfield 31, 0, []), (42, .return_, 0, [])]]
def m_X0_init : mv_M := (1, false, 0, cd_X0_init, lk_X0, [])
def cd_X0_copyFrom : List (List (Nat × mv_I)) := [[(0, .aload_n 0, 0, []), (1, .aload_n 1, 0, []), (2, .getfield 9, 0, []), (5, .putfield 9, 0, []), (8, .aload_n 0, 0, []), (9, .aload_n 1, 0, []), (10, .getfield 15, 0, []), (13, .putfield 15, 0, []), (16, .aload_n 0, 0, []), (17, .aload_n 1, 0, []), (18, .getfield 19, 0, []), (21, .putfield 19, 0, []), (24, .aload_n 0, 0, []), (25, .aload_n 1, 0, []), (26, .getfield 22, 0, []), (29, .putfield 22, 0, [])],
  [(32, .aload_n 0, 0, []), (33, .aload_n 1, 0, []), (34, .getfield 25, 0, []), (37, .putfield 25, 0, []), (40, .aload_n 0, 0, []), (41, .aload_n 1, 0, []), (42, .getfield 28, 0, []), (45, .putfield 28, 0, []), (48, .aload_n 1, 0, []), (49, .getfield 31, 0, []), (52, .iconst 0, 0, []), (53, .aload_n 0, 0, []), (54, .getfield 31, 0, []), (57, .iconst 0, 0, []), (58, .bipush 6, 0, []), (60, .invokestatic 35, 0, []), (63, .return_, 0, [])]]
def m_X0_copyFrom : mv_M := (2, false, 0, cd_X0_copyFrom, lk_X0, [])
def cd_X0_begin : List (List (Nat × mv_I)) := [[(0, .aload_n 0, 0, []), (1, .iconst 1, 0, []), (2, .putfield 9, 0, []), (5, .aload_n 0, 0, []), (6, .iload_n 1, 0, []), (7, .putfield 15, 0, []), (10, .aload_n 0, 0, []), (11, .iload_n 2, 0, []), (12, .putfield 19, 0, []), (15, .aload_n 0, 0, []), (16, .iload_n 3, 0, []), (17, .putfield 22, 0, []), (20, .aload_n 0, 0, []), (21, .iconst 0, 0, []), (22, .putfield 25, 0, []), (25, .aload_n 0, 0, []), (26, .iconst 0, 0, []), (27, .putfield 28, 0, []), (30, .return_, 0, [])]]
def m_X0_begin : mv_M := (4, false, 0, cd_X0_begin, lk_X0, [])
def cd_X0_spareLift : List (List (Nat × mv_I)) := [[(0, .aload_n 0, 0, []), (1, .getfield 15, 0, []), (4, .aload_n 0, 0, []), (5, .getfield 25, 0, []), (8, .if_icmp .le 15, 23, []), (11, .aload_n 0, 0, []), (12, .getfield 15, 0, []), (15, .aload_n 0, 0, []), (16, .getfield 25, 0, []), (19, .isub, 0, []), (20, .goto 4, 24, []), (23, .iconst 0, 0, []), (24, .ireturn, 0, [])]]
def m_X0_spareLift : mv_M := (1, false, 1, cd_X0_spareLift, lk_X0, [])
def cd_X0_heightWith : List (List (Nat × mv_I)) := [[(0, .aload_n 0, 0, []), (1, .getfield 15, 0, []), (4, .iload_n 1, 0, []), (5, .if_icmp .le 12, 17, []), (8, .aload_n 0, 0, []), (9, .getfield 15, 0, []), (12, .iload_n 1, 0, []), (13, .isub, 0, []), (14, .goto 4, 18, []), (17, .iconst 0, 0, []), (18, .istore_n 2, 0, []), (19, .iload_n 2, 0, []), (20, .aload_n 0, 0, []), (21, .getfield 19, 0, []), (24, .if_icmp .ge 7, 31, []), (27, .iload_n 2, 0, []), (28, .goto 7, 35, []), (31, .aload_n 0, 0, [])],
  [(32, .getfield 19, 0, []), (35, .ireturn, 0, [])]]
def m_X0_heightWith : mv_M := (3, false, 1, cd_X0_heightWith, lk_X0, [])
def cd_X0_presentHeight : List (List (Nat × mv_I)) := [[(0, .aload_n 0, 0, []), (1, .aload_n 0, 0, []), (2, .getfield 25, 0, []), (5, .invokevirtual 41, 0, []), (8, .ireturn, 0, [])]]
def m_X0_presentHeight : mv_M := (1, false, 1, cd_X0_presentHeight, lk_X0, [])
def cd_X0_isOverstrained : List (List (Nat × mv_I)) := [[(0, .aload_n 0, 0, []), (1, .invokevirtual 45, 0, []), (4, .aload_n 0, 0, []), (5, .getfield 22, 0, []), (8, .if_icmp .le 7, 15, []), (11, .iconst 1, 0, []), (12, .goto 4, 16, []), (15, .iconst 0, 0, []), (16, .ireturn, 0, [])]]
def m_X0_isOverstrained : mv_M := (1, false, 6, cd_X0_isOverstrained, lk_X0, [])
def cd_X0_changeLift : List (List (Nat × mv_I)) := [[(0, .aload_n 0, 0, []), (1, .getfield 15, 0, []), (4, .iload_n 1, 0, []), (5, .iadd, 0, []), (6, .iconst 1, 0, []), (7, .bipush 99, 0, []), (9, .invokestatic 49, 0, []), (12, .ifCond .eq 13, 25, []), (15, .aload_n 0, 0, []), (16, .dup, 0, []), (17, .getfield 15, 0, []), (20, .iload_n 1, 0, []), (21, .iadd, 0, []), (22, .putfield 15, 0, []), (25, .return_, 0, [])]]
def m_X0_changeLift : mv_M := (2, false, 0, cd_X0_changeLift, lk_X0, [])
def cd_X0_hasBag : List (List (Nat × mv_I)) := [[(0, .iload_n 1, 0, []), (1, .ifCond .lt 15, 16, []), (4, .iload_n 1, 0, []), (5, .aload_n 0, 0, []), (6, .getfield 28, 0, []), (9, .if_icmp .ge 7, 16, []), (12, .iconst 1, 0, []), (13, .goto 4, 17, []), (16, .iconst 0, 0, []), (17, .ireturn, 0, [])]]
def m_X0_hasBag : mv_M := (2, false, 6, cd_X0_hasBag, lk_X0, [])
def cd_X0_addBag : List (List (Nat × mv_I)) := [[(0, .aload_n 0, 0, []), (1, .getfield 28, 0, []), (4, .bipush 6, 0, []), (6, .if_icmp .ge 33, 39, []), (9, .aload_n 0, 0, []), (10, .getfield 31, 0, []), (13, .aload_n 0, 0, []), (14, .getfield 28, 0, []), (17, .iload_n 1, 0, []), (18, .iastore, 0, []), (19, .aload_n 0, 0, []), (20, .dup, 0, []), (21, .getfield 28, 0, []), (24, .iconst 1, 0, []), (25, .iadd, 0, []), (26, .putfield 28, 0, []), (29, .aload_n 0, 0, []), (30, .dup, 0, []), (31, .getfield 25, 0, [])],
  [(34, .iload_n 1, 0, []), (35, .iadd, 0, []), (36, .putfield 25, 0, []), (39, .return_, 0, [])]]
def m_X0_addBag : mv_M := (2, false, 0, cd_X0_addBag, lk_X0, [])
def cd_X0_removeBag : List (List (Nat × mv_I)) := [[(0, .aload_n 0, 0, []), (1, .iload_n 1, 0, []), (2, .invokevirtual 53, 0, []), (5, .ifCond .ne 5, 10, []), (8, .iconst 0, 0, []), (9, .ireturn, 0, []), (10, .aload_n 0, 0, []), (11, .getfield 31, 0, []), (14, .iload_n 1, 0, []), (15, .iaload, 0, []), (16, .istore_n 2, 0, []), (17, .iload_n 1, 0, []), (18, .iconst 1, 0, []), (19, .iadd, 0, []), (20, .istore_n 3, 0, []), (21, .iload_n 3, 0, []), (22, .aload_n 0, 0, []), (23, .getfield 28, 0, []), (26, .if_icmp .ge 23, 49, []), (29, .aload_n 0, 0, []), (30, .getfield 31, 0, [])],
  [(33, .iload_n 3, 0, []), (34, .iconst 1, 0, []), (35, .isub, 0, []), (36, .aload_n 0, 0, []), (37, .getfield 31, 0, []), (40, .iload_n 3, 0, []), (41, .iaload, 0, []), (42, .iastore, 0, []), (43, .iinc 3 1, 0, []), (46, .goto (-25), 21, []), (49, .aload_n 0, 0, []), (50, .dup, 0, []), (51, .getfield 28, 0, []), (54, .iconst 1, 0, []), (55, .isub, 0, []), (56, .putfield 28, 0, []), (59, .aload_n 0, 0, []), (60, .dup, 0, []), (61, .getfield 25, 0, [])],
  [(64, .iload_n 2, 0, []), (65, .isub, 0, []), (66, .putfield 25, 0, []), (69, .iload_n 2, 0, []), (70, .ireturn, 0, [])]]
def m_X0_removeBag : mv_M := (4, false, 1, cd_X0_removeBag, lk_X0, [])
def cd_X0_weightOf : List (List (Nat × mv_I)) := [[(0, .iconst 0, 0, []), (1, .istore_n 2, 0, []), (2, .iconst 0, 0, []), (3, .istore_n 3, 0, []), (4, .iload_n 3, 0, []), (5, .aload_n 0, 0, []), (6, .getfield 28, 0, []), (9, .if_icmp .ge 26, 35, []), (12, .iload_n 1, 0, []), (13, .iconst 1, 0, []), (14, .iload_n 3, 0, []), (15, .ishl, 0, []), (16, .iand, 0, []), (17, .ifCond .eq 12, 29, []), (20, .iload_n 2, 0, []), (21, .aload_n 0, 0, []), (22, .getfield 31, 0, []), (25, .iload_n 3, 0, []), (26, .iaload, 0, []), (27, .iadd, 0, []), (28, .istore_n 2, 0, []), (29, .iinc 3 1, 0, [])],
  [(32, .goto (-28), 4, []), (35, .iload_n 2, 0, []), (36, .ireturn, 0, [])]]
def m_X0_weightOf : mv_M := (4, false, 1, cd_X0_weightOf, lk_X0, [])
def cd_X0_bestDropSet : List (List (Nat × mv_I)) := [[(0, .iconst (-1), 0, []), (1, .istore_n 2, 0, []), (2, .iconst 0, 0, []), (3, .istore_n 3, 0, []), (4, .iload_n 3, 0, []), (5, .iconst 1, 0, []), (6, .aload_n 0, 0, []), (7, .getfield 28, 0, []), (10, .ishl, 0, []), (11, .if_icmp .ge 55, 66, []), (14, .aload_n 0, 0, []), (15, .aload_n 0, 0, []), (16, .getfield 25, 0, []), (19, .aload_n 0, 0, []), (20, .iload_n 3, 0, []), (21, .invokevirtual 57, 0, []), (24, .isub, 0, []), (25, .invokevirtual 41, 0, []), (28, .iload_n 1, 0, []), (29, .if_icmp .lt 7, 36, [])],
  [(32, .iconst 1, 0, []), (33, .goto 4, 37, []), (36, .iconst 0, 0, []), (37, .istore 4, 0, []), (39, .iload 4, 0, []), (41, .ifCond .eq 19, 60, []), (44, .iload_n 2, 0, []), (45, .iconst (-1), 0, []), (46, .if_icmp .eq 12, 58, []), (49, .aload_n 0, 0, []), (50, .iload_n 3, 0, []), (51, .iload_n 2, 0, []), (52, .invokevirtual 60, 0, []), (55, .ifCond .eq 5, 60, []), (58, .iload_n 3, 0, []), (59, .istore_n 2, 0, []), (60, .iinc 3 1, 0, []), (63, .goto (-59), 4, [])],
  [(66, .iload_n 2, 0, []), (67, .ireturn, 0, [])]]
def m_X0_bestDropSet : mv_M := (5, false, 1, cd_X0_bestDropSet, lk_X0, [])
def cd_X0_isBetter : List (List (Nat × mv_I)) := [[(0, .iload_n 1, 0, []), (1, .invokestatic 64, 0, []), (4, .iload_n 2, 0, []), (5, .invokestatic 64, 0, []), (8, .isub, 0, []), (9, .istore_n 3, 0, []), (10, .iload_n 3, 0, []), (11, .ifCond .eq 13, 24, []), (14, .iload_n 3, 0, []), (15, .ifCond .ge 7, 22, []), (18, .iconst 1, 0, []), (19, .goto 4, 23, []), (22, .iconst 0, 0, []), (23, .ireturn, 0, []), (24, .aload_n 0, 0, []), (25, .iload_n 1, 0, []), (26, .invokevirtual 57, 0, []), (29, .aload_n 0, 0, []), (30, .iload_n 2, 0, []), (31, .invokevirtual 57, 0, [])],
  [(34, .isub, 0, []), (35, .istore 4, 0, []), (37, .iload 4, 0, []), (39, .ifCond .eq 14, 53, []), (42, .iload 4, 0, []), (44, .ifCond .ge 7, 51, []), (47, .iconst 1, 0, []), (48, .goto 4, 52, []), (51, .iconst 0, 0, []), (52, .ireturn, 0, []), (53, .iload_n 1, 0, []), (54, .iload_n 2, 0, []), (55, .ixor, 0, []), (56, .istore 5, 0, []), (58, .iload 5, 0, []), (60, .iload 5, 0, []), (62, .ineg, 0, []), (63, .iand, 0, [])],
  [(64, .istore 6, 0, []), (66, .iload_n 1, 0, []), (67, .iload 6, 0, []), (69, .iand, 0, []), (70, .ifCond .eq 7, 77, []), (73, .iconst 1, 0, []), (74, .goto 4, 78, []), (77, .iconst 0, 0, []), (78, .ireturn, 0, [])]]
def m_X0_isBetter : mv_M := (7, false, 6, cd_X0_isBetter, lk_X0, [])
def cd_X0_fewestBagsByWeight : List (List (Nat × mv_I)) := [[(0, .iconst 0, 0, []), (1, .istore_n 2, 0, []), (2, .iconst 0, 0, []), (3, .istore_n 3, 0, []), (4, .iload_n 3, 0, []), (5, .aload_n 0, 0, []), (6, .getfield 28, 0, []), (9, .if_icmp .gt 37, 46, []), (12, .aload_n 0, 0, []), (13, .aload_n 0, 0, []), (14, .getfield 25, 0, []), (17, .aload_n 0, 0, []), (18, .iload_n 2, 0, []), (19, .invokevirtual 57, 0, []), (22, .isub, 0, []), (23, .invokevirtual 41, 0, []), (26, .iload_n 1, 0, []), (27, .if_icmp .lt 5, 32, []), (30, .iload_n 3, 0, []), (31, .ireturn, 0, [])],
  [(32, .iload_n 2, 0, []), (33, .aload_n 0, 0, []), (34, .iload_n 2, 0, []), (35, .invokevirtual 69, 0, []), (38, .ior, 0, []), (39, .istore_n 2, 0, []), (40, .iinc 3 1, 0, []), (43, .goto (-39), 4, []), (46, .iconst (-1), 0, []), (47, .ireturn, 0, [])]]
def m_X0_fewestBagsByWeight : mv_M := (4, false, 1, cd_X0_fewestBagsByWeight, lk_X0, [])
def cd_X0_heaviestOutside : List (List (Nat × mv_I)) := [[(0, .iconst 0, 0, []), (1, .istore_n 2, 0, []), (2, .iconst 0, 0, []), (3, .istore_n 3, 0, []), (4, .iconst 0, 0, []), (5, .istore 4, 0, []), (7, .iload 4, 0, []), (9, .aload_n 0, 0, []), (10, .getfield 28, 0, []), (13, .if_icmp .ge 42, 55, []), (16, .iload_n 1, 0, []), (17, .iconst 1, 0, []), (18, .iload 4, 0, []), (20, .ishl, 0, []), (21, .iand, 0, []), (22, .ifCond .ne 27, 49, []), (25, .aload_n 0, 0, []), (26, .getfield 31, 0, []), (29, .iload 4, 0, []), (31, .iaload, 0, [])],
  [(32, .iload_n 3, 0, []), (33, .if_icmp .le 16, 49, []), (36, .iconst 1, 0, []), (37, .iload 4, 0, []), (39, .ishl, 0, []), (40, .istore_n 2, 0, []), (41, .aload_n 0, 0, []), (42, .getfield 31, 0, []), (45, .iload 4, 0, []), (47, .iaload, 0, []), (48, .istore_n 3, 0, []), (49, .iinc 4 1, 0, []), (52, .goto (-45), 7, []), (55, .iload_n 2, 0, []), (56, .ireturn, 0, [])]]
def m_X0_heaviestOutside : mv_M := (5, false, 1, cd_X0_heaviestOutside, lk_X0, [])
def cd_X1_init : List (List (Nat × mv_I)) := [[(0, .aload_n 0, 0, []), (1, .invokespecial 3, 0, []), (4, .aload_n 0, 0, []), (5, .iconst 0, 0, []), (6, .putfield 9, 0, []), (9, .aload_n 0, 0, []), (10, .iconst 0, 0, []), (11, .putfield 15, 0, []), (14, .aload_n 0, 0, []), (15, .iconst 4, 0, []), (16, .newarray .int, 0, []), (18, .putfield 18, 0, []), (21, .return_, 0, [])]]
def m_X1_init : mv_M := (1, false, 0, cd_X1_init, lk_X1, [])
def cd_X1_begin : List (List (Nat × mv_I)) := [[(0, .aload_n 0, 0, []), (1, .iload_n 1, 0, []), (2, .putfield 9, 0, []), (5, .aload_n 0, 0, []), (6, .iconst 0, 0, []), (7, .putfield 15, 0, []), (10, .return_, 0, [])]]
def m_X1_begin : mv_M := (2, false, 0, cd_X1_begin, lk_X1, [])
def cd_X1_add : List (List (Nat × mv_I)) := [[(0, .aload_n 0, 0, []), (1, .getfield 15, 0, []), (4, .aload_n 0, 0, []), (5, .getfield 18, 0, []), (8, .arraylength, 0, []), (9, .if_icmp .ge 23, 32, []), (12, .aload_n 0, 0, []), (13, .getfield 18, 0, []), (16, .aload_n 0, 0, []), (17, .getfield 15, 0, []), (20, .iload_n 1, 0, []), (21, .iastore, 0, []), (22, .aload_n 0, 0, []), (23, .dup, 0, []), (24, .getfield 15, 0, []), (27, .iconst 1, 0, []), (28, .iadd, 0, []), (29, .putfield 15, 0, [])],
  [(32, .return_, 0, [])]]
def m_X1_add : mv_M := (2, false, 0, cd_X1_add, lk_X1, [])
def cd_X1_set : List (List (Nat × mv_I)) := [[(0, .aload_n 0, 0, []), (1, .iload_n 1, 0, []), (2, .invokevirtual 22, 0, []), (5, .aload_n 0, 0, []), (6, .iload_n 2, 0, []), (7, .invokevirtual 26, 0, []), (10, .aload_n 0, 0, []), (11, .iload_n 3, 0, []), (12, .invokevirtual 26, 0, []), (15, .aload_n 0, 0, []), (16, .iload 4, 0, []), (18, .invokevirtual 26, 0, []), (21, .aload_n 0, 0, []), (22, .iload 5, 0, []), (24, .invokevirtual 26, 0, []), (27, .return_, 0, [])]]
def m_X1_set : mv_M := (6, false, 0, cd_X1_set, lk_X1, [])
def cd_X2_init : List (List (Nat × mv_I)) := [[(0, .aload_n 0, 0, []), (1, .invokespecial 3, 0, []), (4, .aload_n 0, 0, []), (5, .bipush 10, 0, []), (7, .newarray .int, 0, []), (9, .putfield 9, 0, []), (12, .aload_n 0, 0, []), (13, .bipush 10, 0, []), (15, .newarray .int, 0, []), (17, .putfield 15, 0, []), (20, .aload_n 0, 0, []), (21, .bipush 64, 0, []), (23, .newarray .int, 0, []), (25, .putfield 18, 0, []), (28, .return_, 0, [])]]
def m_X2_init : mv_M := (1, false, 0, cd_X2_init, lk_X2, [])
def cd_X2_mostByChanging : List (List (Nat × mv_I)) := [[(0, .aload_n 0, 0, []), (1, .getfield 9, 0, []), (4, .iconst (-1), 0, []), (5, .invokestatic 21, 0, []), (8, .iconst 0, 0, []), (9, .istore_n 2, 0, []), (10, .iconst 0, 0, []), (11, .istore_n 3, 0, []), (12, .iload_n 3, 0, []), (13, .aload_n 1, 0, []), (14, .getfield 27, 0, []), (17, .if_icmp .ge 37, 54, []), (20, .aload_n 0, 0, []), (21, .getfield 15, 0, []), (24, .iconst 0, 0, []), (25, .invokestatic 21, 0, []), (28, .aload_n 1, 0, []), (29, .iload_n 3, 0, []), (30, .aload_n 0, 0, []), (31, .getfield 9, 0, [])],
  [(34, .aload_n 0, 0, []), (35, .getfield 15, 0, []), (38, .iconst 0, 0, []), (39, .invokestatic 33, 0, []), (42, .ifCond .eq 6, 48, []), (45, .iinc 2 1, 0, []), (48, .iinc 3 1, 0, []), (51, .goto (-39), 12, []), (54, .iload_n 2, 0, []), (55, .ireturn, 0, [])]]
def m_X2_mostByChanging : mv_M := (4, false, 1, cd_X2_mostByChanging, lk_X2, [])
def cd_X2_findsBalloon : List (List (Nat × mv_I)) := [[(0, .iload 4, 0, []), (2, .bipush 6, 0, []), (4, .if_icmp .lt 5, 9, []), (7, .iconst 0, 0, []), (8, .ireturn, 0, []), (9, .iconst 0, 0, []), (10, .istore 5, 0, []), (12, .iload 5, 0, []), (14, .bipush 10, 0, []), (16, .if_icmp .ge 63, 79, []), (19, .aload_n 3, 0, []), (20, .iload 5, 0, []), (22, .iaload, 0, []), (23, .ifCond .ne 50, 73, []), (26, .aload_n 0, 0, []), (27, .iload_n 1, 0, []), (28, .iload 5, 0, []), (30, .invokevirtual 37, 0, [])],
  [(33, .ifCond .eq 40, 73, []), (36, .aload_n 3, 0, []), (37, .iload 5, 0, []), (39, .iconst 1, 0, []), (40, .iastore, 0, []), (41, .aload_n 2, 0, []), (42, .iload 5, 0, []), (44, .iaload, 0, []), (45, .iconst (-1), 0, []), (46, .if_icmp .eq 20, 66, []), (49, .aload_n 0, 0, []), (50, .aload_n 2, 0, []), (51, .iload 5, 0, []), (53, .iaload, 0, []), (54, .aload_n 2, 0, []), (55, .aload_n 3, 0, []), (56, .iload 4, 0, []), (58, .iconst 1, 0, []), (59, .iadd, 0, []), (60, .invokestatic 33, 0, []), (63, .ifCond .eq 10, 73, [])],
  [(66, .aload_n 2, 0, []), (67, .iload 5, 0, []), (69, .iload_n 1, 0, []), (70, .iastore, 0, []), (71, .iconst 1, 0, []), (72, .ireturn, 0, []), (73, .iinc 5 1, 0, []), (76, .goto (-64), 12, []), (79, .iconst 0, 0, []), (80, .ireturn, 0, [])]]
def m_X2_findsBalloon : mv_M := (6, false, 6, cd_X2_findsBalloon, lk_X2, [])
def cd_X2_mostBySets : List (List (Nat × mv_I)) := [[(0, .aload_n 0, 0, []), (1, .getfield 18, 0, []), (4, .iconst 0, 0, []), (5, .invokestatic 21, 0, []), (8, .aload_n 0, 0, []), (9, .getfield 18, 0, []), (12, .iconst 0, 0, []), (13, .iconst 1, 0, []), (14, .iastore, 0, []), (15, .iconst 0, 0, []), (16, .istore_n 2, 0, []), (17, .iload_n 2, 0, []), (18, .bipush 10, 0, []), (20, .if_icmp .ge 15, 35, []), (23, .aload_n 0, 0, []), (24, .aload_n 1, 0, []), (25, .iload_n 2, 0, []), (26, .invokevirtual 41, 0, []), (29, .iinc 2 1, 0, [])],
  [(32, .goto (-15), 17, []), (35, .iconst 0, 0, []), (36, .istore_n 2, 0, []), (37, .iconst 0, 0, []), (38, .istore_n 3, 0, []), (39, .iload_n 3, 0, []), (40, .bipush 64, 0, []), (42, .if_icmp .ge 28, 70, []), (45, .aload_n 0, 0, []), (46, .getfield 18, 0, []), (49, .iload_n 3, 0, []), (50, .iaload, 0, []), (51, .iconst 1, 0, []), (52, .if_icmp .ne 12, 64, []), (55, .iload_n 2, 0, []), (56, .iload_n 3, 0, []), (57, .invokestatic 45, 0, []), (60, .invokestatic 51, 0, []), (63, .istore_n 2, 0, [])],
  [(64, .iinc 3 1, 0, []), (67, .goto (-28), 39, []), (70, .iload_n 2, 0, []), (71, .ireturn, 0, [])]]
def m_X2_mostBySets : mv_M := (4, false, 1, cd_X2_mostBySets, lk_X2, [])
def cd_X2_giveToOnePilot : List (List (Nat × mv_I)) := [[(0, .bipush 63, 0, []), (2, .istore_n 3, 0, []), (3, .iload_n 3, 0, []), (4, .ifCond .lt 76, 80, []), (7, .iconst 0, 0, []), (8, .istore 4, 0, []), (10, .iload 4, 0, []), (12, .aload_n 1, 0, []), (13, .getfield 27, 0, []), (16, .if_icmp .ge 58, 74, []), (19, .iload 4, 0, []), (21, .bipush 6, 0, []), (23, .if_icmp .ge 51, 74, []), (26, .iload_n 3, 0, []), (27, .iconst 1, 0, []), (28, .iload 4, 0, []), (30, .ishl, 0, []), (31, .ior, 0, [])],
  [(32, .istore 5, 0, []), (34, .aload_n 0, 0, []), (35, .getfield 18, 0, []), (38, .iload_n 3, 0, []), (39, .iaload, 0, []), (40, .iconst 1, 0, []), (41, .if_icmp .ne 27, 68, []), (44, .iload 5, 0, []), (46, .iload_n 3, 0, []), (47, .if_icmp .eq 21, 68, []), (50, .aload_n 1, 0, []), (51, .iload 4, 0, []), (53, .iload_n 2, 0, []), (54, .invokevirtual 37, 0, []), (57, .ifCond .eq 11, 68, []), (60, .aload_n 0, 0, []), (61, .getfield 18, 0, [])],
  [(64, .iload 5, 0, []), (66, .iconst 1, 0, []), (67, .iastore, 0, []), (68, .iinc 4 1, 0, []), (71, .goto (-61), 10, []), (74, .iinc 3 (-1), 0, []), (77, .goto (-74), 3, []), (80, .return_, 0, [])]]
def m_X2_giveToOnePilot : mv_M := (6, false, 0, cd_X2_giveToOnePilot, lk_X2, [])
def cd_X3_init : List (List (Nat × mv_I)) := [[(0, .aload_n 0, 0, []), (1, .invokespecial 3, 0, []), (4, .aload_n 0, 0, []), (5, .bipush 10, 0, []), (7, .anewarray 9, 0, []), (10, .putfield 11, 0, []), (13, .aload_n 0, 0, []), (14, .bipush 24, 0, []), (16, .newarray .int, 0, []), (18, .putfield 17, 0, []), (21, .aload_n 0, 0, []), (22, .bipush 6, 0, []), (24, .anewarray 21, 0, []), (27, .putfield 23, 0, []), (30, .aload_n 0, 0, []), (31, .iconst 0, 0, [])],
  [(32, .putfield 27, 0, []), (35, .aload_n 0, 0, []), (36, .iconst 0, 0, []), (37, .putfield 31, 0, []), (40, .aload_n 0, 0, []), (41, .iconst 0, 0, []), (42, .putfield 34, 0, []), (45, .aload_n 0, 0, []), (46, .iconst 0, 0, []), (47, .putfield 37, 0, []), (50, .aload_n 0, 0, []), (51, .iconst 0, 0, []), (52, .putfield 40, 0, []), (55, .aload_n 0, 0, []), (56, .iconst 0, 0, []), (57, .putfield 43, 0, []), (60, .aload_n 0, 0, []), (61, .bipush 10, 0, []), (63, .newarray .int, 0, [])],
  [(65, .putfield 46, 0, []), (68, .aload_n 0, 0, []), (69, .iconst 0, 0, []), (70, .putfield 49, 0, []), (73, .aload_n 0, 0, []), (74, .iconst 0, 0, []), (75, .putfield 52, 0, []), (78, .iconst 0, 0, []), (79, .istore_n 1, 0, []), (80, .iload_n 1, 0, []), (81, .bipush 10, 0, []), (83, .if_icmp .ge 22, 105, []), (86, .aload_n 0, 0, []), (87, .getfield 11, 0, []), (90, .iload_n 1, 0, []), (91, .new 9, 0, []), (94, .dup, 0, []), (95, .invokespecial 55, 0, [])],
  [(98, .aastore, 0, []), (99, .iinc 1 1, 0, []), (102, .goto (-22), 80, []), (105, .iconst 0, 0, []), (106, .istore_n 1, 0, []), (107, .iload_n 1, 0, []), (108, .bipush 6, 0, []), (110, .if_icmp .ge 22, 132, []), (113, .aload_n 0, 0, []), (114, .getfield 23, 0, []), (117, .iload_n 1, 0, []), (118, .new 21, 0, []), (121, .dup, 0, []), (122, .invokespecial 56, 0, []), (125, .aastore, 0, []), (126, .iinc 1 1, 0, [])],
  [(129, .goto (-22), 107, []), (132, .return_, 0, [])]]
def m_X3_init : mv_M := (2, false, 0, cd_X3_init, lk_X3, [])
def cd_X3_copyFrom : List (List (Nat × mv_I)) := [[(0, .iconst 0, 0, []), (1, .istore_n 2, 0, []), (2, .iload_n 2, 0, []), (3, .bipush 10, 0, []), (5, .if_icmp .ge 24, 29, []), (8, .aload_n 0, 0, []), (9, .getfield 11, 0, []), (12, .iload_n 2, 0, []), (13, .aaload, 0, []), (14, .aload_n 1, 0, []), (15, .getfield 11, 0, []), (18, .iload_n 2, 0, []), (19, .aaload, 0, []), (20, .invokevirtual 57, 0, []), (23, .iinc 2 1, 0, []), (26, .goto (-24), 2, []), (29, .aload_n 1, 0, []), (30, .getfield 17, 0, [])],
  [(33, .iconst 0, 0, []), (34, .aload_n 0, 0, []), (35, .getfield 17, 0, []), (38, .iconst 0, 0, []), (39, .bipush 24, 0, []), (41, .invokestatic 61, 0, []), (44, .iconst 0, 0, []), (45, .istore_n 2, 0, []), (46, .iload_n 2, 0, []), (47, .bipush 6, 0, []), (49, .if_icmp .ge 24, 73, []), (52, .aload_n 0, 0, []), (53, .getfield 23, 0, []), (56, .iload_n 2, 0, []), (57, .aaload, 0, []), (58, .aload_n 1, 0, []), (59, .getfield 23, 0, []), (62, .iload_n 2, 0, []), (63, .aaload, 0, [])],
  [(64, .invokevirtual 67, 0, []), (67, .iinc 2 1, 0, []), (70, .goto (-24), 46, []), (73, .aload_n 0, 0, []), (74, .aload_n 1, 0, []), (75, .getfield 27, 0, []), (78, .putfield 27, 0, []), (81, .aload_n 0, 0, []), (82, .aload_n 1, 0, []), (83, .getfield 31, 0, []), (86, .putfield 31, 0, []), (89, .aload_n 0, 0, []), (90, .aload_n 1, 0, []), (91, .getfield 34, 0, []), (94, .putfield 34, 0, [])],
  [(97, .aload_n 0, 0, []), (98, .aload_n 1, 0, []), (99, .getfield 37, 0, []), (102, .putfield 37, 0, []), (105, .aload_n 0, 0, []), (106, .aload_n 1, 0, []), (107, .getfield 40, 0, []), (110, .putfield 40, 0, []), (113, .aload_n 0, 0, []), (114, .aload_n 1, 0, []), (115, .getfield 43, 0, []), (118, .putfield 43, 0, []), (121, .return_, 0, [])]]
def m_X3_copyFrom : mv_M := (3, false, 0, cd_X3_copyFrom, lk_X3, [])
def cd_X3_hasBalloon : List (List (Nat × mv_I)) := [[(0, .iload_n 1, 0, []), (1, .ifCond .lt 25, 26, []), (4, .iload_n 1, 0, []), (5, .bipush 10, 0, []), (7, .if_icmp .ge 19, 26, []), (10, .aload_n 0, 0, []), (11, .getfield 11, 0, []), (14, .iload_n 1, 0, []), (15, .aaload, 0, []), (16, .getfield 70, 0, []), (19, .ifCond .eq 7, 26, []), (22, .iconst 1, 0, []), (23, .goto 4, 27, []), (26, .iconst 0, 0, []), (27, .ireturn, 0, [])]]
def m_X3_hasBalloon : mv_M := (2, false, 6, cd_X3_hasBalloon, lk_X3, [])
def cd_X3_hasPilot : List (List (Nat × mv_I)) := [[(0, .iload_n 1, 0, []), (1, .ifCond .lt 15, 16, []), (4, .iload_n 1, 0, []), (5, .aload_n 0, 0, []), (6, .getfield 27, 0, []), (9, .if_icmp .ge 7, 16, []), (12, .iconst 1, 0, []), (13, .goto 4, 17, []), (16, .iconst 0, 0, []), (17, .ireturn, 0, [])]]
def m_X3_hasPilot : mv_M := (2, false, 6, cd_X3_hasPilot, lk_X3, [])
def cd_X3_hourOfDay : List (List (Nat × mv_I)) := [[(0, .aload_n 0, 0, []), (1, .getfield 31, 0, []), (4, .bipush 24, 0, []), (6, .irem, 0, []), (7, .ireturn, 0, [])]]
def m_X3_hourOfDay : mv_M := (1, false, 1, cd_X3_hourOfDay, lk_X3, [])
def cd_X3_countBalloons : List (List (Nat × mv_I)) := [[(0, .iconst 0, 0, []), (1, .istore_n 1, 0, []), (2, .iconst 0, 0, []), (3, .istore_n 2, 0, []), (4, .iload_n 2, 0, []), (5, .bipush 10, 0, []), (7, .if_icmp .ge 24, 31, []), (10, .aload_n 0, 0, []), (11, .getfield 11, 0, []), (14, .iload_n 2, 0, []), (15, .aaload, 0, []), (16, .getfield 70, 0, []), (19, .ifCond .eq 6, 25, []), (22, .iinc 1 1, 0, []), (25, .iinc 2 1, 0, []), (28, .goto (-24), 4, []), (31, .iload_n 1, 0, [])],
  [(32, .ireturn, 0, [])]]
def m_X3_countBalloons : mv_M := (3, false, 1, cd_X3_countBalloons, lk_X3, [])
def cd_X3_weightAboard : List (List (Nat × mv_I)) := [[(0, .iconst 0, 0, []), (1, .istore_n 1, 0, []), (2, .iconst 0, 0, []), (3, .istore_n 2, 0, []), (4, .iload_n 2, 0, []), (5, .bipush 10, 0, []), (7, .if_icmp .ge 33, 40, []), (10, .aload_n 0, 0, []), (11, .getfield 11, 0, []), (14, .iload_n 2, 0, []), (15, .aaload, 0, []), (16, .getfield 70, 0, []), (19, .ifCond .eq 15, 34, []), (22, .iload_n 1, 0, []), (23, .aload_n 0, 0, []), (24, .getfield 11, 0, []), (27, .iload_n 2, 0, []), (28, .aaload, 0, []), (29, .getfield 74, 0, [])],
  [(32, .iadd, 0, []), (33, .istore_n 1, 0, []), (34, .iinc 2 1, 0, []), (37, .goto (-33), 4, []), (40, .iload_n 1, 0, []), (41, .ireturn, 0, [])]]
def m_X3_weightAboard : mv_M := (3, false, 1, cd_X3_weightAboard, lk_X3, [])
def cd_X3_sumOfHeights : List (List (Nat × mv_I)) := [[(0, .iconst 0, 0, []), (1, .istore_n 1, 0, []), (2, .iconst 0, 0, []), (3, .istore_n 2, 0, []), (4, .iload_n 2, 0, []), (5, .bipush 10, 0, []), (7, .if_icmp .ge 33, 40, []), (10, .aload_n 0, 0, []), (11, .getfield 11, 0, []), (14, .iload_n 2, 0, []), (15, .aaload, 0, []), (16, .getfield 70, 0, []), (19, .ifCond .eq 15, 34, []), (22, .iload_n 1, 0, []), (23, .aload_n 0, 0, []), (24, .getfield 11, 0, []), (27, .iload_n 2, 0, []), (28, .aaload, 0, []), (29, .invokevirtual 77, 0, [])],
  [(32, .iadd, 0, []), (33, .istore_n 1, 0, []), (34, .iinc 2 1, 0, []), (37, .goto (-33), 4, []), (40, .iload_n 1, 0, []), (41, .ireturn, 0, [])]]
def m_X3_sumOfHeights : mv_M := (3, false, 1, cd_X3_sumOfHeights, lk_X3, [])
def cd_X3_berthAtRank : List (List (Nat × mv_I)) := [[(0, .iconst 0, 0, []), (1, .istore_n 2, 0, []), (2, .iload_n 2, 0, []), (3, .bipush 10, 0, []), (5, .if_icmp .ge 32, 37, []), (8, .aload_n 0, 0, []), (9, .getfield 11, 0, []), (12, .iload_n 2, 0, []), (13, .aaload, 0, []), (14, .getfield 70, 0, []), (17, .ifCond .eq 14, 31, []), (20, .aload_n 0, 0, []), (21, .iload_n 2, 0, []), (22, .invokevirtual 81, 0, []), (25, .iload_n 1, 0, []), (26, .if_icmp .ne 5, 31, []), (29, .iload_n 2, 0, []), (30, .ireturn, 0, []), (31, .iinc 2 1, 0, [])],
  [(34, .goto (-32), 2, []), (37, .iconst (-1), 0, []), (38, .ireturn, 0, [])]]
def m_X3_berthAtRank : mv_M := (3, false, 1, cd_X3_berthAtRank, lk_X3, [])
def cd_X3_countAhead : List (List (Nat × mv_I)) := [[(0, .iconst 0, 0, []), (1, .istore_n 2, 0, []), (2, .iconst 0, 0, []), (3, .istore_n 3, 0, []), (4, .iload_n 3, 0, []), (5, .bipush 10, 0, []), (7, .if_icmp .ge 33, 40, []), (10, .aload_n 0, 0, []), (11, .getfield 11, 0, []), (14, .iload_n 3, 0, []), (15, .aaload, 0, []), (16, .getfield 70, 0, []), (19, .ifCond .eq 15, 34, []), (22, .aload_n 0, 0, []), (23, .iload_n 3, 0, []), (24, .iload_n 1, 0, []), (25, .invokevirtual 85, 0, []), (28, .ifCond .eq 6, 34, []), (31, .iinc 2 1, 0, [])],
  [(34, .iinc 3 1, 0, []), (37, .goto (-33), 4, []), (40, .iload_n 2, 0, []), (41, .ireturn, 0, [])]]
def m_X3_countAhead : mv_M := (4, false, 1, cd_X3_countAhead, lk_X3, [])
def cd_X3_isAhead : List (List (Nat × mv_I)) := [[(0, .aload_n 0, 0, []), (1, .getfield 11, 0, []), (4, .iload_n 1, 0, []), (5, .aaload, 0, []), (6, .invokevirtual 77, 0, []), (9, .aload_n 0, 0, []), (10, .getfield 11, 0, []), (13, .iload_n 2, 0, []), (14, .aaload, 0, []), (15, .invokevirtual 77, 0, []), (18, .isub, 0, []), (19, .istore_n 3, 0, []), (20, .iload_n 3, 0, []), (21, .ifCond .eq 13, 34, []), (24, .iload_n 3, 0, []), (25, .ifCond .le 7, 32, []), (28, .iconst 1, 0, []), (29, .goto 4, 33, [])],
  [(32, .iconst 0, 0, []), (33, .ireturn, 0, []), (34, .aload_n 0, 0, []), (35, .getfield 11, 0, []), (38, .iload_n 1, 0, []), (39, .aaload, 0, []), (40, .getfield 74, 0, []), (43, .aload_n 0, 0, []), (44, .getfield 11, 0, []), (47, .iload_n 2, 0, []), (48, .aaload, 0, []), (49, .getfield 74, 0, []), (52, .isub, 0, []), (53, .istore 4, 0, []), (55, .iload 4, 0, []), (57, .ifCond .eq 16, 73, []), (60, .iload 4, 0, []), (62, .ifCond .le 7, 69, [])],
  [(65, .iconst 1, 0, []), (66, .goto 17, 83, []), (69, .iconst 0, 0, []), (70, .goto 13, 83, []), (73, .iload_n 1, 0, []), (74, .iload_n 2, 0, []), (75, .if_icmp .ge 7, 82, []), (78, .iconst 1, 0, []), (79, .goto 4, 83, []), (82, .iconst 0, 0, []), (83, .ireturn, 0, [])]]
def m_X3_isAhead : mv_M := (5, false, 6, cd_X3_isAhead, lk_X3, [])
def cd_X3_topOf : List (List (Nat × mv_I)) := [[(0, .bipush 10, 0, []), (2, .iload_n 1, 0, []), (3, .imul, 0, []), (4, .aload_n 0, 0, []), (5, .getfield 11, 0, []), (8, .iload_n 1, 0, []), (9, .aaload, 0, []), (10, .invokevirtual 77, 0, []), (13, .aload_n 0, 0, []), (14, .getfield 17, 0, []), (17, .aload_n 0, 0, []), (18, .invokevirtual 89, 0, []), (21, .iaload, 0, []), (22, .imul, 0, []), (23, .iadd, 0, []), (24, .ireturn, 0, [])]]
def m_X3_topOf : mv_M := (2, false, 1, cd_X3_topOf, lk_X3, [])
def cd_X3_calmOfTwoDays : List (List (Nat × mv_I)) := [[(0, .iconst 0, 0, []), (1, .istore_n 2, 0, []), (2, .iconst 0, 0, []), (3, .istore_n 3, 0, []), (4, .iconst 0, 0, []), (5, .istore 4, 0, []), (7, .iload 4, 0, []), (9, .bipush 48, 0, []), (11, .if_icmp .ge 40, 51, []), (14, .aload_n 0, 0, []), (15, .getfield 17, 0, []), (18, .iload 4, 0, []), (20, .bipush 24, 0, []), (22, .irem, 0, []), (23, .iaload, 0, []), (24, .invokestatic 92, 0, []), (27, .iload_n 1, 0, []), (28, .if_icmp .gt 9, 37, []), (31, .iload_n 3, 0, [])],
  [(32, .iconst 1, 0, []), (33, .iadd, 0, []), (34, .goto 4, 38, []), (37, .iconst 0, 0, []), (38, .istore_n 3, 0, []), (39, .iload_n 2, 0, []), (40, .iload_n 3, 0, []), (41, .invokestatic 97, 0, []), (44, .istore_n 2, 0, []), (45, .iinc 4 1, 0, []), (48, .goto (-41), 7, []), (51, .iload_n 2, 0, []), (52, .bipush 24, 0, []), (54, .invokestatic 101, 0, []), (57, .ireturn, 0, [])]]
def m_X3_calmOfTwoDays : mv_M := (5, false, 1, cd_X3_calmOfTwoDays, lk_X3, [])
def cd_X3_calmByTrying : List (List (Nat × mv_I)) := [[(0, .iconst 0, 0, []), (1, .istore_n 2, 0, []), (2, .iconst 0, 0, []), (3, .istore_n 3, 0, []), (4, .iload_n 3, 0, []), (5, .bipush 24, 0, []), (7, .if_icmp .ge 60, 67, []), (10, .iconst 1, 0, []), (11, .istore 4, 0, []), (13, .iload 4, 0, []), (15, .bipush 24, 0, []), (17, .if_icmp .gt 44, 61, []), (20, .iload_n 3, 0, []), (21, .iload 4, 0, []), (23, .iadd, 0, []), (24, .iconst 1, 0, []), (25, .isub, 0, []), (26, .bipush 24, 0, []), (28, .irem, 0, []), (29, .istore 5, 0, []), (31, .aload_n 0, 0, [])],
  [(32, .getfield 17, 0, []), (35, .iload 5, 0, []), (37, .iaload, 0, []), (38, .invokestatic 92, 0, []), (41, .iload_n 1, 0, []), (42, .if_icmp .le 6, 48, []), (45, .goto 16, 61, []), (48, .iload_n 2, 0, []), (49, .iload 4, 0, []), (51, .invokestatic 97, 0, []), (54, .istore_n 2, 0, []), (55, .iinc 4 1, 0, []), (58, .goto (-45), 13, []), (61, .iinc 3 1, 0, [])],
  [(64, .goto (-60), 4, []), (67, .iload_n 2, 0, []), (68, .ireturn, 0, [])]]
def m_X3_calmByTrying : mv_M := (6, false, 1, cd_X3_calmByTrying, lk_X3, [])
def cd_X3_fitsCrew : List (List (Nat × mv_I)) := [[(0, .aload_n 0, 0, []), (1, .iload_n 1, 0, []), (2, .invokevirtual 104, 0, []), (5, .ifCond .eq 52, 57, []), (8, .aload_n 0, 0, []), (9, .iload_n 2, 0, []), (10, .invokevirtual 108, 0, []), (13, .ifCond .eq 44, 57, []), (16, .aload_n 0, 0, []), (17, .getfield 23, 0, []), (20, .iload_n 1, 0, []), (21, .aaload, 0, []), (22, .aload_n 0, 0, []), (23, .invokevirtual 89, 0, []), (26, .invokevirtual 111, 0, []), (29, .ifCond .eq 28, 57, [])],
  [(32, .aload_n 0, 0, []), (33, .getfield 11, 0, []), (36, .iload_n 2, 0, []), (37, .aaload, 0, []), (38, .invokevirtual 114, 0, []), (41, .aload_n 0, 0, []), (42, .getfield 23, 0, []), (45, .iload_n 1, 0, []), (46, .aaload, 0, []), (47, .getfield 117, 0, []), (50, .if_icmp .lt 7, 57, []), (53, .iconst 1, 0, []), (54, .goto 4, 58, []), (57, .iconst 0, 0, []), (58, .ireturn, 0, [])]]
def m_X3_fitsCrew : mv_M := (3, false, 6, cd_X3_fitsCrew, lk_X3, [])
def cd_X3_refusalOf : List (List (Nat × mv_I)) := [[(0, .aload_n 1, 0, []), (1, .getfield 120, 0, []), (4, .iconst 0, 0, []), (5, .iaload, 0, []), (6, .istore_n 2, 0, []), (7, .aload_n 1, 0, []), (8, .getfield 120, 0, []), (11, .iconst 1, 0, []), (12, .iaload, 0, []), (13, .istore_n 3, 0, []), (14, .aload_n 1, 0, []), (15, .getfield 120, 0, []), (18, .iconst 2, 0, []), (19, .iaload, 0, []), (20, .istore 4, 0, []), (22, .aload_n 1, 0, []), (23, .getfield 125, 0, []), (26, .tableswitch 130 0 7 #[46, 61, 76, 83, 90, 97, 104, 121], 156, [(0, 72), (1, 87), (2, 102), (3, 109), (4, 116), (5, 123), (6, 130), (7, 147)])],
  [],
  [(72, .aload_n 0, 0, []), (73, .iload_n 2, 0, []), (74, .iload_n 3, 0, []), (75, .iload 4, 0, []), (77, .aload_n 1, 0, []), (78, .getfield 120, 0, []), (81, .iconst 3, 0, []), (82, .iaload, 0, []), (83, .invokevirtual 128, 0, []), (86, .ireturn, 0, []), (87, .aload_n 0, 0, []), (88, .iload_n 2, 0, []), (89, .invokevirtual 108, 0, []), (92, .ifCond .eq 7, 99, []), (95, .iconst 0, 0, [])],
  [(96, .goto 5, 101, []), (99, .bipush 9, 0, []), (101, .ireturn, 0, []), (102, .aload_n 0, 0, []), (103, .iload_n 2, 0, []), (104, .iload_n 3, 0, []), (105, .invokevirtual 132, 0, []), (108, .ireturn, 0, []), (109, .aload_n 0, 0, []), (110, .iload_n 2, 0, []), (111, .iload_n 3, 0, []), (112, .invokevirtual 135, 0, []), (115, .ireturn, 0, []), (116, .aload_n 0, 0, []), (117, .iload_n 2, 0, []), (118, .iload_n 3, 0, []), (119, .invokevirtual 138, 0, []), (122, .ireturn, 0, []), (123, .aload_n 0, 0, []), (124, .iload_n 2, 0, []), (125, .iload_n 3, 0, []), (126, .invokevirtual 141, 0, [])],
  [(129, .ireturn, 0, []), (130, .iload_n 2, 0, []), (131, .iconst 1, 0, []), (132, .bipush 48, 0, []), (134, .invokestatic 144, 0, []), (137, .ifCond .eq 7, 144, []), (140, .iconst 0, 0, []), (141, .goto 5, 146, []), (144, .bipush 8, 0, []), (146, .ireturn, 0, []), (147, .aload_n 0, 0, []), (148, .iload_n 2, 0, []), (149, .iload_n 3, 0, []), (150, .iload 4, 0, []), (152, .invokevirtual 148, 0, []), (155, .ireturn, 0, []), (156, .aload_n 0, 0, []), (157, .iload_n 2, 0, []), (158, .invokevirtual 104, 0, [])],
  [(161, .ifCond .eq 7, 168, []), (164, .iconst 0, 0, []), (165, .goto 5, 170, []), (168, .bipush 10, 0, []), (170, .ireturn, 0, [])]]
def m_X3_refusalOf : mv_M := (5, false, 1, cd_X3_refusalOf, lk_X3, [])
def cd_X3_refusalToMoor : List (List (Nat × mv_I)) := [[(0, .iload_n 1, 0, []), (1, .iconst 0, 0, []), (2, .bipush 9, 0, []), (4, .invokestatic 144, 0, []), (7, .ifCond .eq 34, 41, []), (10, .iload_n 2, 0, []), (11, .iconst 1, 0, []), (12, .bipush 99, 0, []), (14, .invokestatic 144, 0, []), (17, .ifCond .eq 24, 41, []), (20, .iload_n 3, 0, []), (21, .iconst 1, 0, []), (22, .bipush 40, 0, []), (24, .invokestatic 144, 0, []), (27, .ifCond .eq 14, 41, []), (30, .iload 4, 0, [])],
  [(32, .iconst 1, 0, []), (33, .bipush 60, 0, []), (35, .invokestatic 144, 0, []), (38, .ifCond .ne 6, 44, []), (41, .bipush 8, 0, []), (43, .ireturn, 0, []), (44, .aload_n 0, 0, []), (45, .iload_n 1, 0, []), (46, .invokevirtual 108, 0, []), (49, .ifCond .eq 7, 56, []), (52, .iconst 2, 0, []), (53, .goto 4, 57, []), (56, .iconst 0, 0, []), (57, .ireturn, 0, [])]]
def m_X3_refusalToMoor : mv_M := (5, false, 1, cd_X3_refusalToMoor, lk_X3, [])
def cd_X3_refusalToLoad : List (List (Nat × mv_I)) := [[(0, .aload_n 0, 0, []), (1, .iload_n 1, 0, []), (2, .invokevirtual 108, 0, []), (5, .ifCond .ne 6, 11, []), (8, .bipush 9, 0, []), (10, .ireturn, 0, []), (11, .iload_n 2, 0, []), (12, .iconst 1, 0, []), (13, .bipush 20, 0, []), (15, .invokestatic 144, 0, []), (18, .ifCond .ne 6, 24, []), (21, .bipush 8, 0, []), (23, .ireturn, 0, []), (24, .aload_n 0, 0, []), (25, .getfield 11, 0, []), (28, .iload_n 1, 0, []), (29, .aaload, 0, []), (30, .getfield 152, 0, [])],
  [(33, .bipush 6, 0, []), (35, .if_icmp .lt 7, 42, []), (38, .iconst 1, 0, []), (39, .goto 4, 43, []), (42, .iconst 0, 0, []), (43, .ireturn, 0, [])]]
def m_X3_refusalToLoad : mv_M := (3, false, 1, cd_X3_refusalToLoad, lk_X3, [])
def cd_X3_refusalToDrop : List (List (Nat × mv_I)) := [[(0, .aload_n 0, 0, []), (1, .iload_n 1, 0, []), (2, .invokevirtual 108, 0, []), (5, .ifCond .ne 6, 11, []), (8, .bipush 9, 0, []), (10, .ireturn, 0, []), (11, .aload_n 0, 0, []), (12, .getfield 11, 0, []), (15, .iload_n 1, 0, []), (16, .aaload, 0, []), (17, .iload_n 2, 0, []), (18, .invokevirtual 155, 0, []), (21, .ifCond .eq 7, 28, []), (24, .iconst 0, 0, []), (25, .goto 5, 30, []), (28, .bipush 10, 0, []), (30, .ireturn, 0, [])]]
def m_X3_refusalToDrop : mv_M := (3, false, 1, cd_X3_refusalToDrop, lk_X3, [])
def cd_X3_refusalToRise : List (List (Nat × mv_I)) := [[(0, .aload_n 0, 0, []), (1, .iload_n 1, 0, []), (2, .invokevirtual 108, 0, []), (5, .ifCond .ne 6, 11, []), (8, .bipush 9, 0, []), (10, .ireturn, 0, []), (11, .iload_n 2, 0, []), (12, .iconst 1, 0, []), (13, .bipush 40, 0, []), (15, .invokestatic 144, 0, []), (18, .ifCond .ne 6, 24, []), (21, .bipush 8, 0, []), (23, .ireturn, 0, []), (24, .aload_n 0, 0, []), (25, .getfield 11, 0, []), (28, .iload_n 1, 0, []), (29, .aaload, 0, []), (30, .invokevirtual 77, 0, [])],
  [(33, .iload_n 2, 0, []), (34, .if_icmp .lt 5, 39, []), (37, .iconst 4, 0, []), (38, .ireturn, 0, []), (39, .aload_n 0, 0, []), (40, .getfield 11, 0, []), (43, .iload_n 1, 0, []), (44, .aaload, 0, []), (45, .iconst 0, 0, []), (46, .invokevirtual 158, 0, []), (49, .iload_n 2, 0, []), (50, .if_icmp .ge 7, 57, []), (53, .iconst 3, 0, []), (54, .goto 4, 58, []), (57, .iconst 0, 0, []), (58, .ireturn, 0, [])]]
def m_X3_refusalToRise : mv_M := (3, false, 1, cd_X3_refusalToRise, lk_X3, [])
def cd_X3_refusalOfWind : List (List (Nat × mv_I)) := [[(0, .iload_n 1, 0, []), (1, .iconst 0, 0, []), (2, .bipush 23, 0, []), (4, .invokestatic 144, 0, []), (7, .ifCond .eq 14, 21, []), (10, .iload_n 2, 0, []), (11, .bipush (-9), 0, []), (13, .bipush 9, 0, []), (15, .invokestatic 144, 0, []), (18, .ifCond .ne 6, 24, []), (21, .bipush 8, 0, []), (23, .ireturn, 0, []), (24, .aload_n 0, 0, []), (25, .getfield 17, 0, []), (28, .iload_n 1, 0, []), (29, .iaload, 0, []), (30, .iload_n 2, 0, []), (31, .if_icmp .ne 7, 38, [])],
  [(34, .iconst 5, 0, []), (35, .goto 4, 39, []), (38, .iconst 0, 0, []), (39, .ireturn, 0, [])]]
def m_X3_refusalOfWind : mv_M := (3, false, 1, cd_X3_refusalOfWind, lk_X3, [])
def cd_X3_refusalOfPilot : List (List (Nat × mv_I)) := [[(0, .iload_n 1, 0, []), (1, .iconst 1, 0, []), (2, .bipush 30, 0, []), (4, .invokestatic 144, 0, []), (7, .ifCond .eq 23, 30, []), (10, .iload_n 2, 0, []), (11, .iconst 0, 0, []), (12, .bipush 23, 0, []), (14, .invokestatic 144, 0, []), (17, .ifCond .eq 13, 30, []), (20, .iload_n 3, 0, []), (21, .iconst 0, 0, []), (22, .bipush 23, 0, []), (24, .invokestatic 144, 0, []), (27, .ifCond .ne 6, 33, []), (30, .bipush 8, 0, [])],
  [(32, .ireturn, 0, []), (33, .aload_n 0, 0, []), (34, .getfield 27, 0, []), (37, .bipush 6, 0, []), (39, .if_icmp .lt 7, 46, []), (42, .iconst 1, 0, []), (43, .goto 4, 47, []), (46, .iconst 0, 0, []), (47, .ireturn, 0, [])]]
def m_X3_refusalOfPilot : mv_M := (4, false, 1, cd_X3_refusalOfPilot, lk_X3, [])
def cd_X3_detailOf : List (List (Nat × mv_I)) := [[(0, .iload_n 1, 0, []), (1, .iconst 1, 0, []), (2, .if_icmp .ne 20, 22, []), (5, .aload_n 2, 0, []), (6, .getfield 125, 0, []), (9, .bipush 7, 0, []), (11, .if_icmp .ne 8, 19, []), (14, .bipush 6, 0, []), (16, .goto 5, 21, []), (19, .bipush 6, 0, []), (21, .ireturn, 0, []), (22, .iload_n 1, 0, []), (23, .iconst 5, 0, []), (24, .if_icmp .ne 10, 34, []), (27, .aload_n 2, 0, []), (28, .getfield 120, 0, []), (31, .iconst 1, 0, [])],
  [(32, .iaload, 0, []), (33, .ireturn, 0, []), (34, .aload_n 2, 0, []), (35, .getfield 120, 0, []), (38, .iconst 0, 0, []), (39, .iaload, 0, []), (40, .istore_n 3, 0, []), (41, .aload_n 0, 0, []), (42, .iload_n 3, 0, []), (43, .invokevirtual 108, 0, []), (46, .ifCond .ne 5, 51, []), (49, .iconst 0, 0, []), (50, .ireturn, 0, []), (51, .iload_n 1, 0, []), (52, .iconst 3, 0, []), (53, .if_icmp .ne 16, 69, []), (56, .aload_n 0, 0, []), (57, .getfield 11, 0, []), (60, .iload_n 3, 0, []), (61, .aaload, 0, []), (62, .iconst 0, 0, []), (63, .invokevirtual 158, 0, [])],
  [(66, .goto 12, 78, []), (69, .aload_n 0, 0, []), (70, .getfield 11, 0, []), (73, .iload_n 3, 0, []), (74, .aaload, 0, []), (75, .invokevirtual 77, 0, []), (78, .ireturn, 0, [])]]
def m_X3_detailOf : mv_M := (4, false, 1, cd_X3_detailOf, lk_X3, [])
def cd_X3_carryOut : List (List (Nat × mv_I)) := [[(0, .aload_n 1, 0, []), (1, .getfield 120, 0, []), (4, .iconst 0, 0, []), (5, .iaload, 0, []), (6, .istore_n 2, 0, []), (7, .aload_n 1, 0, []), (8, .getfield 120, 0, []), (11, .iconst 1, 0, []), (12, .iaload, 0, []), (13, .istore_n 3, 0, []), (14, .aload_n 1, 0, []), (15, .getfield 120, 0, []), (18, .iconst 2, 0, []), (19, .iaload, 0, []), (20, .istore 4, 0, []), (22, .aload_n 1, 0, []), (23, .getfield 125, 0, []), (26, .tableswitch 110 0 7 #[46, 61, 67, 74, 81, 88, 95, 101], 136, [(0, 72), (1, 87), (2, 93), (3, 100), (4, 107), (5, 114), (6, 121), (7, 127)])],
  [],
  [(72, .aload_n 0, 0, []), (73, .iload_n 2, 0, []), (74, .iload_n 3, 0, []), (75, .iload 4, 0, []), (77, .aload_n 1, 0, []), (78, .getfield 120, 0, []), (81, .iconst 3, 0, []), (82, .iaload, 0, []), (83, .invokevirtual 161, 0, []), (86, .ireturn, 0, []), (87, .aload_n 0, 0, []), (88, .iload_n 2, 0, []), (89, .invokevirtual 164, 0, []), (92, .ireturn, 0, []), (93, .aload_n 0, 0, []), (94, .iload_n 2, 0, []), (95, .iload_n 3, 0, [])],
  [(96, .invokevirtual 167, 0, []), (99, .ireturn, 0, []), (100, .aload_n 0, 0, []), (101, .iload_n 2, 0, []), (102, .iload_n 3, 0, []), (103, .invokevirtual 170, 0, []), (106, .ireturn, 0, []), (107, .aload_n 0, 0, []), (108, .iload_n 2, 0, []), (109, .iload_n 3, 0, []), (110, .invokevirtual 173, 0, []), (113, .ireturn, 0, []), (114, .aload_n 0, 0, []), (115, .iload_n 2, 0, []), (116, .iload_n 3, 0, []), (117, .invokevirtual 176, 0, []), (120, .ireturn, 0, []), (121, .aload_n 0, 0, []), (122, .iload_n 2, 0, []), (123, .invokevirtual 179, 0, []), (126, .ireturn, 0, []), (127, .aload_n 0, 0, [])],
  [(128, .iload_n 2, 0, []), (129, .iload_n 3, 0, []), (130, .iload 4, 0, []), (132, .invokevirtual 182, 0, []), (135, .ireturn, 0, []), (136, .aload_n 0, 0, []), (137, .iload_n 2, 0, []), (138, .invokevirtual 185, 0, []), (141, .ireturn, 0, [])]]
def m_X3_carryOut : mv_M := (5, false, 1, cd_X3_carryOut, lk_X3, [])
def cd_X3_putBalloon : List (List (Nat × mv_I)) := [[(0, .iload_n 1, 0, []), (1, .iconst 0, 0, []), (2, .bipush 9, 0, []), (4, .invokestatic 144, 0, []), (7, .ifCond .ne 5, 12, []), (10, .iconst 0, 0, []), (11, .ireturn, 0, []), (12, .aload_n 0, 0, []), (13, .getfield 11, 0, []), (16, .iload_n 1, 0, []), (17, .aaload, 0, []), (18, .iload_n 2, 0, []), (19, .iload_n 3, 0, []), (20, .iload 4, 0, []), (22, .invokevirtual 188, 0, []), (25, .aload_n 0, 0, []), (26, .getfield 11, 0, []), (29, .iload_n 1, 0, []), (30, .aaload, 0, []), (31, .invokevirtual 77, 0, [])],
  [(34, .ireturn, 0, [])]]
def m_X3_putBalloon : mv_M := (5, false, 1, cd_X3_putBalloon, lk_X3, [])
def cd_X3_removeBalloon : List (List (Nat × mv_I)) := [[(0, .aload_n 0, 0, []), (1, .iload_n 1, 0, []), (2, .invokevirtual 108, 0, []), (5, .ifCond .ne 5, 10, []), (8, .iconst 0, 0, []), (9, .ireturn, 0, []), (10, .aload_n 0, 0, []), (11, .getfield 11, 0, []), (14, .iload_n 1, 0, []), (15, .aaload, 0, []), (16, .iconst 0, 0, []), (17, .putfield 70, 0, []), (20, .aload_n 0, 0, []), (21, .dup, 0, []), (22, .getfield 40, 0, []), (25, .aload_n 0, 0, []), (26, .getfield 11, 0, []), (29, .iload_n 1, 0, []), (30, .aaload, 0, []), (31, .getfield 74, 0, [])],
  [(34, .iadd, 0, []), (35, .putfield 40, 0, []), (38, .aload_n 0, 0, []), (39, .getfield 11, 0, []), (42, .iload_n 1, 0, []), (43, .aaload, 0, []), (44, .getfield 74, 0, []), (47, .ireturn, 0, [])]]
def m_X3_removeBalloon : mv_M := (2, false, 1, cd_X3_removeBalloon, lk_X3, [])
def cd_X3_loadBag : List (List (Nat × mv_I)) := [[(0, .aload_n 0, 0, []), (1, .iload_n 1, 0, []), (2, .invokevirtual 108, 0, []), (5, .ifCond .ne 5, 10, []), (8, .iconst 0, 0, []), (9, .ireturn, 0, []), (10, .aload_n 0, 0, []), (11, .getfield 11, 0, []), (14, .iload_n 1, 0, []), (15, .aaload, 0, []), (16, .iload_n 2, 0, []), (17, .invokevirtual 192, 0, []), (20, .aload_n 0, 0, []), (21, .dup, 0, []), (22, .getfield 37, 0, []), (25, .iload_n 2, 0, []), (26, .iadd, 0, []), (27, .putfield 37, 0, []), (30, .aload_n 0, 0, []), (31, .getfield 11, 0, [])],
  [(34, .iload_n 1, 0, []), (35, .aaload, 0, []), (36, .getfield 74, 0, []), (39, .ireturn, 0, [])]]
def m_X3_loadBag : mv_M := (3, false, 1, cd_X3_loadBag, lk_X3, [])
def cd_X3_dropBag : List (List (Nat × mv_I)) := [[(0, .aload_n 0, 0, []), (1, .iload_n 1, 0, []), (2, .invokevirtual 108, 0, []), (5, .ifCond .ne 5, 10, []), (8, .iconst 0, 0, []), (9, .ireturn, 0, []), (10, .aload_n 0, 0, []), (11, .getfield 11, 0, []), (14, .iload_n 1, 0, []), (15, .aaload, 0, []), (16, .iload_n 2, 0, []), (17, .invokevirtual 196, 0, []), (20, .istore_n 3, 0, []), (21, .aload_n 0, 0, []), (22, .dup, 0, []), (23, .getfield 40, 0, []), (26, .iload_n 3, 0, []), (27, .iadd, 0, []), (28, .putfield 40, 0, []), (31, .iload_n 3, 0, [])],
  [(32, .ireturn, 0, [])]]
def m_X3_dropBag : mv_M := (4, false, 1, cd_X3_dropBag, lk_X3, [])
def cd_X3_dropBestSet : List (List (Nat × mv_I)) := [[(0, .aload_n 0, 0, []), (1, .iload_n 1, 0, []), (2, .invokevirtual 108, 0, []), (5, .ifCond .eq 16, 21, []), (8, .aload_n 0, 0, []), (9, .getfield 11, 0, []), (12, .iload_n 1, 0, []), (13, .aaload, 0, []), (14, .iload_n 2, 0, []), (15, .invokevirtual 199, 0, []), (18, .goto 4, 22, []), (21, .iconst (-1), 0, []), (22, .istore_n 3, 0, []), (23, .iload_n 3, 0, []), (24, .iconst (-1), 0, []), (25, .if_icmp .ne 5, 30, []), (28, .iconst 0, 0, []), (29, .ireturn, 0, []), (30, .iconst 5, 0, []), (31, .istore 4, 0, [])],
  [(33, .iload 4, 0, []), (35, .ifCond .lt 26, 61, []), (38, .iload_n 3, 0, []), (39, .iconst 1, 0, []), (40, .iload 4, 0, []), (42, .ishl, 0, []), (43, .iand, 0, []), (44, .ifCond .eq 11, 55, []), (47, .aload_n 0, 0, []), (48, .iload_n 1, 0, []), (49, .iload 4, 0, []), (51, .invokevirtual 170, 0, []), (54, .pop, 0, []), (55, .iinc 4 (-1), 0, []), (58, .goto (-25), 33, []), (61, .iload_n 3, 0, []), (62, .invokestatic 202, 0, [])],
  [(65, .ireturn, 0, [])]]
def m_X3_dropBestSet : mv_M := (5, false, 1, cd_X3_dropBestSet, lk_X3, [])
def cd_X3_replaceWind : List (List (Nat × mv_I)) := [[(0, .iload_n 1, 0, []), (1, .iconst 0, 0, []), (2, .bipush 23, 0, []), (4, .invokestatic 144, 0, []), (7, .ifCond .ne 5, 12, []), (10, .iconst 0, 0, []), (11, .ireturn, 0, []), (12, .aload_n 0, 0, []), (13, .getfield 17, 0, []), (16, .iload_n 1, 0, []), (17, .iaload, 0, []), (18, .istore_n 3, 0, []), (19, .aload_n 0, 0, []), (20, .getfield 17, 0, []), (23, .iload_n 1, 0, []), (24, .iload_n 2, 0, []), (25, .iastore, 0, []), (26, .iload_n 3, 0, []), (27, .ireturn, 0, [])]]
def m_X3_replaceWind : mv_M := (4, false, 1, cd_X3_replaceWind, lk_X3, [])
def cd_X3_putPilot : List (List (Nat × mv_I)) := [[(0, .aload_n 0, 0, []), (1, .getfield 27, 0, []), (4, .bipush 6, 0, []), (6, .if_icmp .lt 5, 11, []), (9, .iconst (-1), 0, []), (10, .ireturn, 0, []), (11, .aload_n 0, 0, []), (12, .getfield 23, 0, []), (15, .aload_n 0, 0, []), (16, .getfield 27, 0, []), (19, .aaload, 0, []), (20, .iload_n 1, 0, []), (21, .iload_n 2, 0, []), (22, .iload_n 3, 0, []), (23, .invokevirtual 207, 0, []), (26, .aload_n 0, 0, []), (27, .dup, 0, []), (28, .getfield 27, 0, []), (31, .iconst 1, 0, [])],
  [(32, .iadd, 0, []), (33, .putfield 27, 0, []), (36, .aload_n 0, 0, []), (37, .getfield 27, 0, []), (40, .iconst 1, 0, []), (41, .isub, 0, []), (42, .ireturn, 0, [])]]
def m_X3_putPilot : mv_M := (4, false, 1, cd_X3_putPilot, lk_X3, [])
def cd_X3_takePilot : List (List (Nat × mv_I)) := [[(0, .aload_n 0, 0, []), (1, .iload_n 1, 0, []), (2, .invokevirtual 104, 0, []), (5, .ifCond .eq 48, 53, []), (8, .iload_n 1, 0, []), (9, .iconst 1, 0, []), (10, .iadd, 0, []), (11, .istore_n 2, 0, []), (12, .iload_n 2, 0, []), (13, .aload_n 0, 0, []), (14, .getfield 27, 0, []), (17, .if_icmp .ge 26, 43, []), (20, .aload_n 0, 0, []), (21, .getfield 23, 0, []), (24, .iload_n 2, 0, []), (25, .iconst 1, 0, []), (26, .isub, 0, []), (27, .aaload, 0, []), (28, .aload_n 0, 0, []), (29, .getfield 23, 0, [])],
  [(32, .iload_n 2, 0, []), (33, .aaload, 0, []), (34, .invokevirtual 67, 0, []), (37, .iinc 2 1, 0, []), (40, .goto (-28), 12, []), (43, .aload_n 0, 0, []), (44, .dup, 0, []), (45, .getfield 27, 0, []), (48, .iconst 1, 0, []), (49, .isub, 0, []), (50, .putfield 27, 0, []), (53, .aload_n 0, 0, []), (54, .getfield 27, 0, []), (57, .ireturn, 0, [])]]
def m_X3_takePilot : mv_M := (3, false, 1, cd_X3_takePilot, lk_X3, [])
def cd_X3_passHours : List (List (Nat × mv_I)) := [[(0, .iconst 0, 0, []), (1, .istore_n 2, 0, []), (2, .iconst 0, 0, []), (3, .istore_n 3, 0, []), (4, .iload_n 3, 0, []), (5, .iload_n 1, 0, []), (6, .if_icmp .ge 75, 81, []), (9, .aload_n 0, 0, []), (10, .dup, 0, []), (11, .getfield 31, 0, []), (14, .iconst 1, 0, []), (15, .iadd, 0, []), (16, .putfield 31, 0, []), (19, .aload_n 0, 0, []), (20, .invokevirtual 89, 0, []), (23, .bipush 6, 0, []), (25, .bipush 17, 0, []), (27, .invokestatic 144, 0, []), (30, .ifCond .eq 7, 37, [])],
  [(33, .iconst 1, 0, []), (34, .goto 4, 38, []), (37, .iconst (-1), 0, []), (38, .istore 4, 0, []), (40, .iconst 0, 0, []), (41, .istore 5, 0, []), (43, .iload 5, 0, []), (45, .bipush 10, 0, []), (47, .if_icmp .ge 21, 68, []), (50, .aload_n 0, 0, []), (51, .getfield 11, 0, []), (54, .iload 5, 0, []), (56, .aaload, 0, []), (57, .iload 4, 0, []), (59, .invokevirtual 210, 0, []), (62, .iinc 5 1, 0, [])],
  [(65, .goto (-22), 43, []), (68, .iload_n 2, 0, []), (69, .aload_n 0, 0, []), (70, .invokevirtual 213, 0, []), (73, .iadd, 0, []), (74, .istore_n 2, 0, []), (75, .iinc 3 1, 0, []), (78, .goto (-74), 4, []), (81, .iload_n 2, 0, []), (82, .ireturn, 0, [])]]
def m_X3_passHours : mv_M := (6, false, 1, cd_X3_passHours, lk_X3, [])
def cd_X3_burstBalloons : List (List (Nat × mv_I)) := [[(0, .aload_n 0, 0, []), (1, .iconst 0, 0, []), (2, .putfield 49, 0, []), (5, .aload_n 0, 0, []), (6, .iconst 0, 0, []), (7, .putfield 52, 0, []), (10, .iconst 0, 0, []), (11, .istore_n 1, 0, []), (12, .iload_n 1, 0, []), (13, .bipush 10, 0, []), (15, .if_icmp .ge 14, 29, []), (18, .aload_n 0, 0, []), (19, .iload_n 1, 0, []), (20, .invokevirtual 216, 0, []), (23, .iinc 1 1, 0, []), (26, .goto (-14), 12, []), (29, .iconst 0, 0, []), (30, .istore_n 1, 0, []), (31, .iload_n 1, 0, [])],
  [(32, .aload_n 0, 0, []), (33, .getfield 49, 0, []), (36, .if_icmp .ge 78, 114, []), (39, .iload_n 1, 0, []), (40, .bipush 10, 0, []), (42, .if_icmp .ge 72, 114, []), (45, .aload_n 0, 0, []), (46, .getfield 46, 0, []), (49, .iload_n 1, 0, []), (50, .iaload, 0, []), (51, .istore_n 2, 0, []), (52, .aload_n 0, 0, []), (53, .getfield 11, 0, []), (56, .iload_n 2, 0, []), (57, .aaload, 0, []), (58, .iconst 0, 0, []), (59, .putfield 70, 0, []), (62, .aload_n 0, 0, []), (63, .dup, 0, [])],
  [(64, .getfield 43, 0, []), (67, .aload_n 0, 0, []), (68, .getfield 11, 0, []), (71, .iload_n 2, 0, []), (72, .aaload, 0, []), (73, .getfield 74, 0, []), (76, .iadd, 0, []), (77, .putfield 43, 0, []), (80, .aload_n 0, 0, []), (81, .iload_n 2, 0, []), (82, .iconst 1, 0, []), (83, .isub, 0, []), (84, .invokevirtual 219, 0, []), (87, .aload_n 0, 0, []), (88, .iload_n 2, 0, []), (89, .iconst 1, 0, []), (90, .isub, 0, []), (91, .invokevirtual 216, 0, []), (94, .aload_n 0, 0, []), (95, .iload_n 2, 0, [])],
  [(96, .iconst 1, 0, []), (97, .iadd, 0, []), (98, .invokevirtual 219, 0, []), (101, .aload_n 0, 0, []), (102, .iload_n 2, 0, []), (103, .iconst 1, 0, []), (104, .iadd, 0, []), (105, .invokevirtual 216, 0, []), (108, .iinc 1 1, 0, []), (111, .goto (-80), 31, []), (114, .aload_n 0, 0, []), (115, .dup, 0, []), (116, .getfield 34, 0, []), (119, .aload_n 0, 0, []), (120, .getfield 49, 0, []), (123, .iadd, 0, []), (124, .putfield 34, 0, []), (127, .aload_n 0, 0, [])],
  [(128, .getfield 49, 0, []), (131, .ireturn, 0, [])]]
def m_X3_burstBalloons : mv_M := (3, false, 1, cd_X3_burstBalloons, lk_X3, [])
def cd_X3_shake : List (List (Nat × mv_I)) := [[(0, .aload_n 0, 0, []), (1, .iload_n 1, 0, []), (2, .invokevirtual 108, 0, []), (5, .ifCond .eq 32, 37, []), (8, .aload_n 0, 0, []), (9, .dup, 0, []), (10, .getfield 43, 0, []), (13, .aload_n 0, 0, []), (14, .getfield 11, 0, []), (17, .iload_n 1, 0, []), (18, .aaload, 0, []), (19, .aload_n 0, 0, []), (20, .getfield 11, 0, []), (23, .iload_n 1, 0, []), (24, .aaload, 0, []), (25, .getfield 152, 0, []), (28, .iconst 1, 0, []), (29, .isub, 0, []), (30, .invokevirtual 196, 0, [])],
  [(33, .iadd, 0, []), (34, .putfield 43, 0, []), (37, .return_, 0, [])]]
def m_X3_shake : mv_M := (2, false, 0, cd_X3_shake, lk_X3, [])
def cd_X3_queueIfOverstrained : List (List (Nat × mv_I)) := [[(0, .aload_n 0, 0, []), (1, .iload_n 1, 0, []), (2, .invokevirtual 108, 0, []), (5, .ifCond .eq 14, 19, []), (8, .aload_n 0, 0, []), (9, .getfield 52, 0, []), (12, .iconst 1, 0, []), (13, .iload_n 1, 0, []), (14, .ishl, 0, []), (15, .iand, 0, []), (16, .ifCond .eq 4, 20, []), (19, .return_, 0, []), (20, .aload_n 0, 0, []), (21, .getfield 11, 0, []), (24, .iload_n 1, 0, []), (25, .aaload, 0, []), (26, .invokevirtual 222, 0, []), (29, .ifCond .eq 44, 73, [])],
  [(32, .aload_n 0, 0, []), (33, .getfield 49, 0, []), (36, .bipush 10, 0, []), (38, .if_icmp .ge 35, 73, []), (41, .aload_n 0, 0, []), (42, .getfield 46, 0, []), (45, .aload_n 0, 0, []), (46, .getfield 49, 0, []), (49, .iload_n 1, 0, []), (50, .iastore, 0, []), (51, .aload_n 0, 0, []), (52, .dup, 0, []), (53, .getfield 49, 0, []), (56, .iconst 1, 0, []), (57, .iadd, 0, []), (58, .putfield 49, 0, []), (61, .aload_n 0, 0, []), (62, .dup, 0, []), (63, .getfield 52, 0, [])],
  [(66, .iconst 1, 0, []), (67, .iload_n 1, 0, []), (68, .ishl, 0, []), (69, .ior, 0, []), (70, .putfield 52, 0, []), (73, .return_, 0, [])]]
def m_X3_queueIfOverstrained : mv_M := (2, false, 0, cd_X3_queueIfOverstrained, lk_X3, [])
def cd_X4_init : List (List (Nat × mv_I)) := [[(0, .aload_n 0, 0, []), (1, .invokespecial 3, 0, []), (4, .aload_n 0, 0, []), (5, .bipush 8, 0, []), (7, .anewarray 9, 0, []), (10, .putfield 11, 0, []), (13, .aload_n 0, 0, []), (14, .iconst 0, 0, []), (15, .putfield 17, 0, []), (18, .aload_n 0, 0, []), (19, .iconst 0, 0, []), (20, .putfield 21, 0, []), (23, .iconst 0, 0, []), (24, .istore_n 1, 0, []), (25, .iload_n 1, 0, []), (26, .bipush 8, 0, []), (28, .if_icmp .ge 22, 50, []), (31, .aload_n 0, 0, [])],
  [(32, .getfield 11, 0, []), (35, .iload_n 1, 0, []), (36, .new 9, 0, []), (39, .dup, 0, []), (40, .invokespecial 24, 0, []), (43, .aastore, 0, []), (44, .iinc 1 1, 0, []), (47, .goto (-22), 25, []), (50, .return_, 0, [])]]
def m_X4_init : mv_M := (2, false, 0, cd_X4_init, lk_X4, [])
def cd_X4_remember : List (List (Nat × mv_I)) := [[(0, .aload_n 0, 0, []), (1, .getfield 11, 0, []), (4, .aload_n 0, 0, []), (5, .getfield 17, 0, []), (8, .aaload, 0, []), (9, .aload_n 1, 0, []), (10, .invokevirtual 25, 0, []), (13, .aload_n 0, 0, []), (14, .aload_n 0, 0, []), (15, .getfield 17, 0, []), (18, .iconst 1, 0, []), (19, .iadd, 0, []), (20, .bipush 8, 0, []), (22, .irem, 0, []), (23, .putfield 17, 0, []), (26, .aload_n 0, 0, []), (27, .aload_n 0, 0, []), (28, .getfield 21, 0, []), (31, .iconst 1, 0, [])],
  [(32, .iadd, 0, []), (33, .bipush 8, 0, []), (35, .invokestatic 29, 0, []), (38, .putfield 21, 0, []), (41, .return_, 0, [])]]
def m_X4_remember : mv_M := (2, false, 0, cd_X4_remember, lk_X4, [])
def cd_X4_bringBack : List (List (Nat × mv_I)) := [[(0, .aload_n 0, 0, []), (1, .getfield 21, 0, []), (4, .ifCond .le 42, 46, []), (7, .aload_n 0, 0, []), (8, .aload_n 0, 0, []), (9, .getfield 17, 0, []), (12, .bipush 8, 0, []), (14, .iadd, 0, []), (15, .iconst 1, 0, []), (16, .isub, 0, []), (17, .bipush 8, 0, []), (19, .irem, 0, []), (20, .putfield 17, 0, []), (23, .aload_n 0, 0, []), (24, .dup, 0, []), (25, .getfield 21, 0, []), (28, .iconst 1, 0, []), (29, .isub, 0, []), (30, .putfield 21, 0, [])],
  [(33, .aload_n 1, 0, []), (34, .aload_n 0, 0, []), (35, .getfield 11, 0, []), (38, .aload_n 0, 0, []), (39, .getfield 17, 0, []), (42, .aaload, 0, []), (43, .invokevirtual 25, 0, []), (46, .return_, 0, [])]]
def m_X4_bringBack : mv_M := (2, false, 0, cd_X4_bringBack, lk_X4, [])
def cd_X5_init : List (List (Nat × mv_I)) := [[(0, .aload_n 0, 0, []), (1, .invokespecial 1, 0, []), (4, .aload_n 0, 0, []), (5, .iconst 1, 0, []), (6, .putfield 7, 0, []), (9, .aload_n 0, 0, []), (10, .iconst 0, 0, []), (11, .putfield 13, 0, []), (14, .aload_n 0, 0, []), (15, .iconst 0, 0, []), (16, .putfield 16, 0, []), (19, .return_, 0, [])]]
def m_X5_init : mv_M := (1, false, 0, cd_X5_init, lk_X5, [])
def cd_X5_set : List (List (Nat × mv_I)) := [[(0, .aload_n 0, 0, []), (1, .iload_n 1, 0, []), (2, .putfield 7, 0, []), (5, .aload_n 0, 0, []), (6, .iload_n 2, 0, []), (7, .putfield 13, 0, []), (10, .aload_n 0, 0, []), (11, .iload_n 3, 0, []), (12, .putfield 16, 0, []), (15, .return_, 0, [])]]
def m_X5_set : mv_M := (4, false, 0, cd_X5_set, lk_X5, [])
def cd_X5_copyFrom : List (List (Nat × mv_I)) := [[(0, .aload_n 0, 0, []), (1, .aload_n 1, 0, []), (2, .getfield 7, 0, []), (5, .aload_n 1, 0, []), (6, .getfield 13, 0, []), (9, .aload_n 1, 0, []), (10, .getfield 16, 0, []), (13, .invokevirtual 19, 0, []), (16, .return_, 0, [])]]
def m_X5_copyFrom : mv_M := (2, false, 0, cd_X5_copyFrom, lk_X5, [])
def cd_X5_worksAt : List (List (Nat × mv_I)) := [[(0, .aload_n 0, 0, []), (1, .getfield 13, 0, []), (4, .aload_n 0, 0, []), (5, .getfield 16, 0, []), (8, .if_icmp .gt 25, 33, []), (11, .iload_n 1, 0, []), (12, .aload_n 0, 0, []), (13, .getfield 13, 0, []), (16, .if_icmp .lt 15, 31, []), (19, .iload_n 1, 0, []), (20, .aload_n 0, 0, []), (21, .getfield 16, 0, []), (24, .if_icmp .gt 7, 31, []), (27, .iconst 1, 0, []), (28, .goto 4, 32, []), (31, .iconst 0, 0, [])],
  [(32, .ireturn, 0, []), (33, .iload_n 1, 0, []), (34, .aload_n 0, 0, []), (35, .getfield 13, 0, []), (38, .if_icmp .ge 11, 49, []), (41, .iload_n 1, 0, []), (42, .aload_n 0, 0, []), (43, .getfield 16, 0, []), (46, .if_icmp .gt 7, 53, []), (49, .iconst 1, 0, []), (50, .goto 4, 54, []), (53, .iconst 0, 0, []), (54, .ireturn, 0, [])]]
def m_X5_worksAt : mv_M := (2, false, 6, cd_X5_worksAt, lk_X5, [])
def cd_X6_init : List (List (Nat × mv_I)) := [[(0, .aload_n 0, 0, []), (1, .invokespecial 3, 0, []), (4, .aload_n 0, 0, []), (5, .bipush 60, 0, []), (7, .newarray .char, 0, []), (9, .putfield 9, 0, []), (12, .aload_n 0, 0, []), (13, .iconst 0, 0, []), (14, .putfield 15, 0, []), (17, .aload_n 0, 0, []), (18, .bipush 9, 0, []), (20, .anewarray 19, 0, []), (23, .putfield 21, 0, []), (26, .aload_n 0, 0, []), (27, .iconst 0, 0, []), (28, .putfield 25, 0, []), (31, .aload_n 0, 0, [])],
  [(32, .iconst 0, 0, []), (33, .putfield 28, 0, []), (36, .iconst 0, 0, []), (37, .istore_n 1, 0, []), (38, .iload_n 1, 0, []), (39, .bipush 9, 0, []), (41, .if_icmp .ge 22, 63, []), (44, .aload_n 0, 0, []), (45, .getfield 21, 0, []), (48, .iload_n 1, 0, []), (49, .new 19, 0, []), (52, .dup, 0, []), (53, .invokespecial 31, 0, []), (56, .aastore, 0, []), (57, .iinc 1 1, 0, []), (60, .goto (-22), 38, []), (63, .return_, 0, [])]]
def m_X6_init : mv_M := (2, false, 0, cd_X6_init, lk_X6, [])
def cd_X6_append : List (List (Nat × mv_I)) := [[(0, .aload_n 0, 0, []), (1, .getfield 15, 0, []), (4, .bipush 60, 0, []), (6, .if_icmp .ge 23, 29, []), (9, .aload_n 0, 0, []), (10, .getfield 9, 0, []), (13, .aload_n 0, 0, []), (14, .getfield 15, 0, []), (17, .iload_n 1, 0, []), (18, .castore, 0, []), (19, .aload_n 0, 0, []), (20, .dup, 0, []), (21, .getfield 15, 0, []), (24, .iconst 1, 0, []), (25, .iadd, 0, []), (26, .putfield 15, 0, []), (29, .return_, 0, [])]]
def m_X6_append : mv_M := (2, false, 0, cd_X6_append, lk_X6, [])
def cd_X6_read : List (List (Nat × mv_I)) := [[(0, .aload_n 0, 0, []), (1, .iconst 0, 0, []), (2, .putfield 28, 0, []), (5, .aload_n 0, 0, []), (6, .iconst 0, 0, []), (7, .putfield 25, 0, []), (10, .aload_n 0, 0, []), (11, .getfield 25, 0, []), (14, .bipush 9, 0, []), (16, .if_icmp .ge 55, 71, []), (19, .aload_n 0, 0, []), (20, .aload_n 0, 0, []), (21, .getfield 21, 0, []), (24, .aload_n 0, 0, []), (25, .getfield 25, 0, []), (28, .aaload, 0, []), (29, .invokevirtual 32, 0, [])],
  [(32, .ifCond .ne 5, 37, []), (35, .iconst 0, 0, []), (36, .ireturn, 0, []), (37, .aload_n 0, 0, []), (38, .dup, 0, []), (39, .getfield 25, 0, []), (42, .iconst 1, 0, []), (43, .iadd, 0, []), (44, .putfield 25, 0, []), (47, .aload_n 0, 0, []), (48, .getfield 28, 0, []), (51, .aload_n 0, 0, []), (52, .getfield 15, 0, []), (55, .if_icmp .lt 5, 60, []), (58, .iconst 1, 0, []), (59, .ireturn, 0, []), (60, .aload_n 0, 0, []), (61, .bipush 59, 0, []), (63, .invokevirtual 36, 0, [])],
  [(66, .ifCond .ne (-56), 10, []), (69, .iconst 0, 0, []), (70, .ireturn, 0, []), (71, .iconst 0, 0, []), (72, .ireturn, 0, [])]]
def m_X6_read : mv_M := (1, false, 6, cd_X6_read, lk_X6, [])
def cd_X6_readCommand : List (List (Nat × mv_I)) := [[(0, .aload_n 0, 0, []), (1, .getfield 28, 0, []), (4, .istore_n 2, 0, []), (5, .iload_n 2, 0, []), (6, .istore_n 3, 0, []), (7, .iconst 0, 0, []), (8, .istore 4, 0, []), (10, .iload 4, 0, []), (12, .bipush 9, 0, []), (14, .if_icmp .ge 35, 49, []), (17, .aload_n 0, 0, []), (18, .iload_n 2, 0, []), (19, .putfield 28, 0, []), (22, .aload_n 0, 0, []), (23, .iload 4, 0, []), (25, .aload_n 1, 0, []), (26, .invokevirtual 40, 0, []), (29, .ifCond .eq 5, 34, [])],
  [(32, .iconst 1, 0, []), (33, .ireturn, 0, []), (34, .iload_n 3, 0, []), (35, .aload_n 0, 0, []), (36, .getfield 28, 0, []), (39, .invokestatic 44, 0, []), (42, .istore_n 3, 0, []), (43, .iinc 4 1, 0, []), (46, .goto (-36), 10, []), (49, .aload_n 0, 0, []), (50, .iload_n 3, 0, []), (51, .putfield 28, 0, []), (54, .iconst 0, 0, []), (55, .ireturn, 0, [])]]
def m_X6_readCommand : mv_M := (5, false, 6, cd_X6_readCommand, lk_X6, [])
def cd_X6_readAs : List (List (Nat × mv_I)) := [[(0, .iload_n 1, 0, []), (1, .invokestatic 50, 0, []), (4, .astore_n 3, 0, []), (5, .aload_n 2, 0, []), (6, .iload_n 1, 0, []), (7, .invokevirtual 54, 0, []), (10, .iconst 0, 0, []), (11, .istore 4, 0, []), (13, .iload 4, 0, []), (15, .aload_n 3, 0, []), (16, .invokevirtual 58, 0, []), (19, .if_icmp .ge 25, 44, []), (22, .aload_n 0, 0, []), (23, .aload_n 3, 0, []), (24, .iload 4, 0, []), (26, .invokevirtual 63, 0, []), (29, .aload_n 2, 0, []), (30, .invokevirtual 67, 0, [])],
  [(33, .ifCond .ne 5, 38, []), (36, .iconst 0, 0, []), (37, .ireturn, 0, []), (38, .iinc 4 1, 0, []), (41, .goto (-28), 13, []), (44, .iconst 1, 0, []), (45, .ireturn, 0, [])]]
def m_X6_readAs : mv_M := (5, false, 6, cd_X6_readAs, lk_X6, [])
def cd_X6_formOf : List (List (Nat × mv_I)) := [[(0, .iload_n 0, 0, []), (1, .tableswitch 71 0 7 #[47, 50, 53, 56, 59, 62, 65, 68], 72, [(0, 48), (1, 51), (2, 54), (3, 57), (4, 60), (5, 63), (6, 66), (7, 69)])],
  [(48, .ldc 71, 0, []), (50, .areturn, 0, []), (51, .ldc 73, 0, []), (53, .areturn, 0, []), (54, .ldc 75, 0, []), (56, .areturn, 0, []), (57, .ldc 77, 0, []), (59, .areturn, 0, []), (60, .ldc 79, 0, []), (62, .areturn, 0, []), (63, .ldc 81, 0, [])],
  [(65, .areturn, 0, []), (66, .ldc 83, 0, []), (68, .areturn, 0, []), (69, .ldc 85, 0, []), (71, .areturn, 0, []), (72, .ldc 87, 0, []), (74, .areturn, 0, [])]]
def m_X6_formOf : mv_M := (1, false, 2, cd_X6_formOf, lk_X6, [])
def cd_X6_readPart : List (List (Nat × mv_I)) := [[(0, .iload_n 1, 0, []), (1, .lookupswitch 72 #[(68, 35), (78, 43), (83, 51)], 73, [(68, 36), (78, 44), (83, 52)])],
  [(36, .aload_n 0, 0, []), (37, .iconst 1, 0, []), (38, .iconst 1, 0, []), (39, .aload_n 2, 0, []), (40, .invokevirtual 89, 0, []), (43, .ireturn, 0, []), (44, .aload_n 0, 0, []), (45, .iconst 2, 0, []), (46, .iconst 1, 0, []), (47, .aload_n 2, 0, []), (48, .invokevirtual 89, 0, []), (51, .ireturn, 0, []), (52, .aload_n 0, 0, []), (53, .iconst 1, 0, []), (54, .aload_n 0, 0, []), (55, .bipush 45, 0, []), (57, .invokevirtual 36, 0, []), (60, .ifCond .eq 7, 67, []), (63, .iconst (-1), 0, [])],
  [(64, .goto 4, 68, []), (67, .iconst 1, 0, []), (68, .aload_n 2, 0, []), (69, .invokevirtual 89, 0, []), (72, .ireturn, 0, []), (73, .aload_n 0, 0, []), (74, .iload_n 1, 0, []), (75, .invokevirtual 36, 0, []), (78, .ireturn, 0, [])]]
def m_X6_readPart : mv_M := (3, false, 6, cd_X6_readPart, lk_X6, [])
def cd_X6_readNumber : List (List (Nat × mv_I)) := [[(0, .iconst 0, 0, []), (1, .istore 4, 0, []), (3, .iconst 0, 0, []), (4, .istore 5, 0, []), (6, .iload 5, 0, []), (8, .iload_n 1, 0, []), (9, .if_icmp .ge 69, 78, []), (12, .aload_n 0, 0, []), (13, .getfield 28, 0, []), (16, .aload_n 0, 0, []), (17, .getfield 15, 0, []), (20, .if_icmp .ge 58, 78, []), (23, .aload_n 0, 0, []), (24, .getfield 9, 0, []), (27, .aload_n 0, 0, []), (28, .getfield 28, 0, []), (31, .caload, 0, [])],
  [(32, .bipush 48, 0, []), (34, .bipush 57, 0, []), (36, .invokestatic 93, 0, []), (39, .ifCond .eq 39, 78, []), (42, .bipush 10, 0, []), (44, .iload 4, 0, []), (46, .imul, 0, []), (47, .aload_n 0, 0, []), (48, .getfield 9, 0, []), (51, .aload_n 0, 0, []), (52, .getfield 28, 0, []), (55, .caload, 0, []), (56, .iadd, 0, []), (57, .bipush 48, 0, []), (59, .isub, 0, []), (60, .istore 4, 0, []), (62, .aload_n 0, 0, []), (63, .dup, 0, [])],
  [(64, .getfield 28, 0, []), (67, .iconst 1, 0, []), (68, .iadd, 0, []), (69, .putfield 28, 0, []), (72, .iinc 5 1, 0, []), (75, .goto (-69), 6, []), (78, .aload_n 3, 0, []), (79, .iload_n 2, 0, []), (80, .iload 4, 0, []), (82, .imul, 0, []), (83, .invokevirtual 97, 0, []), (86, .iload 5, 0, []), (88, .ifCond .le 7, 95, []), (91, .iconst 1, 0, []), (92, .goto 4, 96, []), (95, .iconst 0, 0, [])],
  [(96, .ireturn, 0, [])]]
def m_X6_readNumber : mv_M := (6, false, 6, cd_X6_readNumber, lk_X6, [])
def cd_X6_readCharacter : List (List (Nat × mv_I)) := [[(0, .aload_n 0, 0, []), (1, .getfield 28, 0, []), (4, .aload_n 0, 0, []), (5, .getfield 15, 0, []), (8, .if_icmp .ge 28, 36, []), (11, .aload_n 0, 0, []), (12, .getfield 9, 0, []), (15, .aload_n 0, 0, []), (16, .getfield 28, 0, []), (19, .caload, 0, []), (20, .iload_n 1, 0, []), (21, .if_icmp .ne 15, 36, []), (24, .aload_n 0, 0, []), (25, .dup, 0, []), (26, .getfield 28, 0, []), (29, .iconst 1, 0, []), (30, .iadd, 0, []), (31, .putfield 28, 0, [])],
  [(34, .iconst 1, 0, []), (35, .ireturn, 0, []), (36, .iconst 0, 0, []), (37, .ireturn, 0, [])]]
def m_X6_readCharacter : mv_M := (2, false, 6, cd_X6_readCharacter, lk_X6, [])
def cd_X7_init : List (List (Nat × mv_I)) := [[(0, .aload_n 0, 0, []), (1, .invokespecial 3, 0, []), (4, .aload_n 0, 0, []), (5, .bipush 10, 0, []), (7, .newarray .int, 0, []), (9, .putfield 9, 0, []), (12, .aload_n 0, 0, []), (13, .bipush 10, 0, []), (15, .newarray .int, 0, []), (17, .putfield 15, 0, []), (20, .return_, 0, [])]]
def m_X7_init : mv_M := (1, false, 0, cd_X7_init, lk_X7, [])
def cd_X7_collect : List (List (Nat × mv_I)) := [[(0, .iconst 0, 0, []), (1, .istore_n 2, 0, []), (2, .iconst 0, 0, []), (3, .istore_n 3, 0, []), (4, .iload_n 3, 0, []), (5, .bipush 10, 0, []), (7, .if_icmp .ge 31, 38, []), (10, .aload_n 1, 0, []), (11, .iload_n 3, 0, []), (12, .invokevirtual 18, 0, []), (15, .ifCond .eq 17, 32, []), (18, .aload_n 0, 0, []), (19, .getfield 9, 0, []), (22, .iload_n 2, 0, []), (23, .aload_n 1, 0, []), (24, .iload_n 3, 0, []), (25, .invokevirtual 24, 0, []), (28, .iastore, 0, []), (29, .iinc 2 1, 0, [])],
  [(32, .iinc 3 1, 0, []), (35, .goto (-31), 4, []), (38, .iload_n 2, 0, []), (39, .ireturn, 0, [])]]
def m_X7_collect : mv_M := (4, false, 1, cd_X7_collect, lk_X7, [])
def cd_X7_tangledByPairs : List (List (Nat × mv_I)) := [[(0, .aload_n 0, 0, []), (1, .aload_n 1, 0, []), (2, .invokevirtual 28, 0, []), (5, .istore_n 2, 0, []), (6, .iconst 0, 0, []), (7, .istore_n 3, 0, []), (8, .iconst 0, 0, []), (9, .istore 4, 0, []), (11, .iload 4, 0, []), (13, .iload_n 2, 0, []), (14, .if_icmp .ge 47, 61, []), (17, .iload 4, 0, []), (19, .iconst 1, 0, []), (20, .iadd, 0, []), (21, .istore 5, 0, []), (23, .iload 5, 0, []), (25, .iload_n 2, 0, []), (26, .if_icmp .ge 29, 55, []), (29, .aload_n 0, 0, []), (30, .getfield 9, 0, [])],
  [(33, .iload 4, 0, []), (35, .iaload, 0, []), (36, .aload_n 0, 0, []), (37, .getfield 9, 0, []), (40, .iload 5, 0, []), (42, .iaload, 0, []), (43, .if_icmp .le 6, 49, []), (46, .iinc 3 1, 0, []), (49, .iinc 5 1, 0, []), (52, .goto (-29), 23, []), (55, .iinc 4 1, 0, []), (58, .goto (-47), 11, []), (61, .iload_n 3, 0, []), (62, .ireturn, 0, [])]]
def m_X7_tangledByPairs : mv_M := (6, false, 1, cd_X7_tangledByPairs, lk_X7, [])
def cd_X7_tangledByMerging : List (List (Nat × mv_I)) := [[(0, .aload_n 0, 0, []), (1, .getfield 9, 0, []), (4, .aload_n 0, 0, []), (5, .getfield 15, 0, []), (8, .iconst 0, 0, []), (9, .aload_n 0, 0, []), (10, .aload_n 1, 0, []), (11, .invokevirtual 28, 0, []), (14, .iconst 0, 0, []), (15, .invokestatic 32, 0, []), (18, .ireturn, 0, [])]]
def m_X7_tangledByMerging : mv_M := (2, false, 1, cd_X7_tangledByMerging, lk_X7, [])
def cd_X7_sortAndCount : List (List (Nat × mv_I)) := [[(0, .iload_n 3, 0, []), (1, .iload_n 2, 0, []), (2, .isub, 0, []), (3, .iconst 2, 0, []), (4, .if_icmp .lt 9, 13, []), (7, .iload 4, 0, []), (9, .iconst 4, 0, []), (10, .if_icmp .le 5, 15, []), (13, .iconst 0, 0, []), (14, .ireturn, 0, []), (15, .iload_n 2, 0, []), (16, .iload_n 3, 0, []), (17, .iadd, 0, []), (18, .iconst 2, 0, []), (19, .idiv, 0, []), (20, .istore 5, 0, []), (22, .aload_n 0, 0, []), (23, .aload_n 1, 0, []), (24, .iload_n 2, 0, []), (25, .iload 5, 0, []), (27, .iload 4, 0, []), (29, .iconst 1, 0, []), (30, .iadd, 0, []), (31, .invokestatic 32, 0, [])],
  [(34, .aload_n 0, 0, []), (35, .aload_n 1, 0, []), (36, .iload 5, 0, []), (38, .iload_n 3, 0, []), (39, .iload 4, 0, []), (41, .iconst 1, 0, []), (42, .iadd, 0, []), (43, .invokestatic 32, 0, []), (46, .iadd, 0, []), (47, .aload_n 0, 0, []), (48, .aload_n 1, 0, []), (49, .iload_n 2, 0, []), (50, .iload 5, 0, []), (52, .iload_n 3, 0, []), (53, .invokestatic 36, 0, []), (56, .iadd, 0, []), (57, .ireturn, 0, [])]]
def m_X7_sortAndCount : mv_M := (6, false, 1, cd_X7_sortAndCount, lk_X7, [])
def cd_X7_mergeAndCount : List (List (Nat × mv_I)) := [[(0, .iload_n 2, 0, []), (1, .istore 5, 0, []), (3, .iload_n 3, 0, []), (4, .istore 6, 0, []), (6, .iconst 0, 0, []), (7, .istore 7, 0, []), (9, .iload_n 2, 0, []), (10, .istore 8, 0, []), (12, .iload 8, 0, []), (14, .iload 4, 0, []), (16, .if_icmp .ge 67, 83, []), (19, .iload 6, 0, []), (21, .iload 4, 0, []), (23, .if_icmp .ge 20, 43, []), (26, .iload 5, 0, []), (28, .iload_n 3, 0, []), (29, .if_icmp .ge 28, 57, [])],
  [(32, .aload_n 0, 0, []), (33, .iload 5, 0, []), (35, .iaload, 0, []), (36, .aload_n 0, 0, []), (37, .iload 6, 0, []), (39, .iaload, 0, []), (40, .if_icmp .gt 17, 57, []), (43, .aload_n 1, 0, []), (44, .iload 8, 0, []), (46, .aload_n 0, 0, []), (47, .iload 5, 0, []), (49, .iaload, 0, []), (50, .iastore, 0, []), (51, .iinc 5 1, 0, []), (54, .goto 23, 77, []), (57, .aload_n 1, 0, []), (58, .iload 8, 0, []), (60, .aload_n 0, 0, []), (61, .iload 6, 0, []), (63, .iaload, 0, [])],
  [(64, .iastore, 0, []), (65, .iinc 6 1, 0, []), (68, .iload 7, 0, []), (70, .iload_n 3, 0, []), (71, .iload 5, 0, []), (73, .isub, 0, []), (74, .iadd, 0, []), (75, .istore 7, 0, []), (77, .iinc 8 1, 0, []), (80, .goto (-68), 12, []), (83, .aload_n 1, 0, []), (84, .iload_n 2, 0, []), (85, .aload_n 0, 0, []), (86, .iload_n 2, 0, []), (87, .iload 4, 0, []), (89, .iload_n 2, 0, []), (90, .isub, 0, []), (91, .invokestatic 39, 0, []), (94, .iload 7, 0, [])],
  [(96, .ireturn, 0, [])]]
def m_X7_mergeAndCount : mv_M := (9, false, 1, cd_X7_mergeAndCount, lk_X7, [])
def cd_X8_init : List (List (Nat × mv_I)) := [[(0, .aload_n 0, 0, []), (1, .invokespecial 1, 0, []), (4, .aload_n 0, 0, []), (5, .new 7, 0, []), (8, .dup, 0, []), (9, .invokespecial 9, 0, []), (12, .putfield 10, 0, []), (15, .aload_n 0, 0, []), (16, .new 7, 0, []), (19, .dup, 0, []), (20, .invokespecial 9, 0, []), (23, .putfield 16, 0, []), (26, .aload_n 0, 0, []), (27, .new 7, 0, []), (30, .dup, 0, []), (31, .invokespecial 9, 0, [])],
  [(34, .putfield 19, 0, []), (37, .aload_n 0, 0, []), (38, .iconst 0, 0, []), (39, .putfield 22, 0, []), (42, .aload_n 0, 0, []), (43, .new 26, 0, []), (46, .dup, 0, []), (47, .invokespecial 28, 0, []), (50, .putfield 29, 0, []), (53, .aload_n 0, 0, []), (54, .new 33, 0, []), (57, .dup, 0, []), (58, .invokespecial 35, 0, []), (61, .putfield 36, 0, [])],
  [(64, .aload_n 0, 0, []), (65, .new 40, 0, []), (68, .dup, 0, []), (69, .invokespecial 42, 0, []), (72, .putfield 43, 0, []), (75, .aload_n 0, 0, []), (76, .new 47, 0, []), (79, .dup, 0, []), (80, .invokespecial 49, 0, []), (83, .putfield 50, 0, []), (86, .aload_n 0, 0, []), (87, .new 54, 0, []), (90, .dup, 0, []), (91, .invokespecial 56, 0, []), (94, .putfield 57, 0, [])],
  [(97, .aload_n 0, 0, []), (98, .new 61, 0, []), (101, .dup, 0, []), (102, .invokespecial 63, 0, []), (105, .putfield 64, 0, []), (108, .aload_n 0, 0, []), (109, .iconst (-1), 0, []), (110, .putfield 68, 0, []), (113, .aload_n 0, 0, []), (114, .iconst (-1), 0, []), (115, .putfield 72, 0, []), (118, .aload_n 0, 0, []), (119, .iconst 0, 0, []), (120, .putfield 75, 0, []), (123, .aload_n 0, 0, []), (124, .iconst (-1), 0, []), (125, .putfield 78, 0, [])],
  [(128, .return_, 0, [])]]
def m_X8_init : mv_M := (1, false, 0, cd_X8_init, lk_X8, [])
def cd_X8_moor : List (List (Nat × mv_I)) := [[(0, .aload_n 0, 0, []), (1, .iconst 0, 0, []), (2, .iload_n 1, 0, []), (3, .iload_n 2, 0, []), (4, .iload_n 3, 0, []), (5, .iload 4, 0, []), (7, .invokevirtual 81, 0, []), (10, .ireturn, 0, [])]]
def m_X8_moor : mv_M := (5, false, 1, cd_X8_moor, lk_X8, [])
def cd_X8_castOff : List (List (Nat × mv_I)) := [[(0, .aload_n 0, 0, []), (1, .iconst 1, 0, []), (2, .iload_n 1, 0, []), (3, .iconst 0, 0, []), (4, .iconst 0, 0, []), (5, .iconst 0, 0, []), (6, .invokevirtual 81, 0, []), (9, .ireturn, 0, [])]]
def m_X8_castOff : mv_M := (2, false, 1, cd_X8_castOff, lk_X8, [])
def cd_X8_balloonCount : List (List (Nat × mv_I)) := [[(0, .aload_n 0, 0, []), (1, .getfield 10, 0, []), (4, .invokevirtual 85, 0, []), (7, .ireturn, 0, [])]]
def m_X8_balloonCount : mv_M := (1, false, 1, cd_X8_balloonCount, lk_X8, [])
def cd_X8_isMoored : List (List (Nat × mv_I)) := [[(0, .iload_n 1, 0, []), (1, .iconst 0, 0, []), (2, .bipush 9, 0, []), (4, .invokestatic 89, 0, []), (7, .ifCond .ne 13, 20, []), (10, .new 93, 1, []), (13, .dup, 0, []), (14, .ldc 95, 0, []), (16, .invokespecial 97, 0, []), (19, .athrow, 0, []), (20, .aload_n 0, 0, []), (21, .getfield 10, 0, []), (24, .iload_n 1, 0, []), (25, .invokevirtual 100, 0, []), (28, .ireturn, 0, [])]]
def m_X8_isMoored : mv_M := (2, false, 6, cd_X8_isMoored, lk_X8, [])
def cd_X8_lift : List (List (Nat × mv_I)) := [[(0, .aload_n 0, 0, []), (1, .iload_n 1, 0, []), (2, .invokevirtual 104, 0, []), (5, .getfield 108, 0, []), (8, .ireturn, 0, [])]]
def m_X8_lift : mv_M := (2, false, 1, cd_X8_lift, lk_X8, [])
def cd_X8_ballast : List (List (Nat × mv_I)) := [[(0, .aload_n 0, 0, []), (1, .iload_n 1, 0, []), (2, .invokevirtual 104, 0, []), (5, .getfield 113, 0, []), (8, .ireturn, 0, [])]]
def m_X8_ballast : mv_M := (2, false, 1, cd_X8_ballast, lk_X8, [])
def cd_X8_height : List (List (Nat × mv_I)) := [[(0, .aload_n 0, 0, []), (1, .iload_n 1, 0, []), (2, .invokevirtual 104, 0, []), (5, .invokevirtual 116, 0, []), (8, .ireturn, 0, [])]]
def m_X8_height : mv_M := (2, false, 1, cd_X8_height, lk_X8, [])
def cd_X8_isBursting : List (List (Nat × mv_I)) := [[(0, .aload_n 0, 0, []), (1, .iload_n 1, 0, []), (2, .invokevirtual 104, 0, []), (5, .invokevirtual 119, 0, []), (8, .ireturn, 0, [])]]
def m_X8_isBursting : mv_M := (2, false, 6, cd_X8_isBursting, lk_X8, [])
def cd_X8_berthByHeight : List (List (Nat × mv_I)) := [[(0, .aload_n 0, 0, []), (1, .getfield 10, 0, []), (4, .iload_n 1, 0, []), (5, .invokevirtual 123, 0, []), (8, .istore_n 2, 0, []), (9, .iload_n 2, 0, []), (10, .iconst (-1), 0, []), (11, .if_icmp .ne 13, 24, []), (14, .new 127, 1, []), (17, .dup, 0, []), (18, .ldc 129, 0, []), (20, .invokespecial 131, 0, []), (23, .athrow, 0, []), (24, .iload_n 2, 0, []), (25, .ireturn, 0, [])]]
def m_X8_berthByHeight : mv_M := (3, false, 1, cd_X8_berthByHeight, lk_X8, [])
def cd_X8_load : List (List (Nat × mv_I)) := [[(0, .aload_n 0, 0, []), (1, .iconst 2, 0, []), (2, .iload_n 1, 0, []), (3, .iload_n 2, 0, []), (4, .iconst 0, 0, []), (5, .iconst 0, 0, []), (6, .invokevirtual 81, 0, []), (9, .ireturn, 0, [])]]
def m_X8_load : mv_M := (3, false, 1, cd_X8_load, lk_X8, [])
def cd_X8_drop : List (List (Nat × mv_I)) := [[(0, .aload_n 0, 0, []), (1, .iconst 3, 0, []), (2, .iload_n 1, 0, []), (3, .iload_n 2, 0, []), (4, .iconst 0, 0, []), (5, .iconst 0, 0, []), (6, .invokevirtual 81, 0, []), (9, .ireturn, 0, [])]]
def m_X8_drop : mv_M := (3, false, 1, cd_X8_drop, lk_X8, [])
def cd_X8_rise : List (List (Nat × mv_I)) := [[(0, .aload_n 0, 0, []), (1, .iconst 4, 0, []), (2, .iload_n 1, 0, []), (3, .iload_n 2, 0, []), (4, .iconst 0, 0, []), (5, .iconst 0, 0, []), (6, .invokevirtual 81, 0, []), (9, .ireturn, 0, [])]]
def m_X8_rise : mv_M := (3, false, 1, cd_X8_rise, lk_X8, [])
def cd_X8_bagCount : List (List (Nat × mv_I)) := [[(0, .aload_n 0, 0, []), (1, .iload_n 1, 0, []), (2, .invokevirtual 104, 0, []), (5, .getfield 132, 0, []), (8, .ireturn, 0, [])]]
def m_X8_bagCount : mv_M := (2, false, 1, cd_X8_bagCount, lk_X8, [])
def cd_X8_bagWeight : List (List (Nat × mv_I)) := [[(0, .aload_n 0, 0, []), (1, .iload_n 1, 0, []), (2, .invokevirtual 104, 0, []), (5, .astore_n 3, 0, []), (6, .aload_n 3, 0, []), (7, .iload_n 2, 0, []), (8, .invokevirtual 135, 0, []), (11, .ifCond .ne 13, 24, []), (14, .new 138, 1, []), (17, .dup, 0, []), (18, .ldc 140, 0, []), (20, .invokespecial 142, 0, []), (23, .athrow, 0, []), (24, .aload_n 3, 0, []), (25, .getfield 143, 0, []), (28, .iload_n 2, 0, []), (29, .iaload, 0, []), (30, .ireturn, 0, [])]]
def m_X8_bagWeight : mv_M := (4, false, 1, cd_X8_bagWeight, lk_X8, [])
def cd_X8_fewestDrops : List (List (Nat × mv_I)) := [[(0, .iload_n 2, 0, []), (1, .invokestatic 147, 0, []), (4, .aload_n 0, 0, []), (5, .iload_n 1, 0, []), (6, .invokevirtual 104, 0, []), (9, .iload_n 2, 0, []), (10, .invokevirtual 151, 0, []), (13, .istore_n 3, 0, []), (14, .iload_n 3, 0, []), (15, .iconst (-1), 0, []), (16, .if_icmp .ne 13, 29, []), (19, .new 127, 1, []), (22, .dup, 0, []), (23, .ldc 154, 0, []), (25, .invokespecial 131, 0, []), (28, .athrow, 0, []), (29, .iload_n 3, 0, []), (30, .ireturn, 0, [])]]
def m_X8_fewestDrops : mv_M := (4, false, 1, cd_X8_fewestDrops, lk_X8, [])
def cd_X8_fewestDropsBySets : List (List (Nat × mv_I)) := [[(0, .iload_n 2, 0, []), (1, .invokestatic 147, 0, []), (4, .aload_n 0, 0, []), (5, .iload_n 1, 0, []), (6, .invokevirtual 104, 0, []), (9, .iload_n 2, 0, []), (10, .invokestatic 156, 0, []), (13, .invokestatic 160, 0, []), (16, .ireturn, 0, [])]]
def m_X8_fewestDropsBySets : mv_M := (3, false, 1, cd_X8_fewestDropsBySets, lk_X8, [])
def cd_X8_dropWeight : List (List (Nat × mv_I)) := [[(0, .iload_n 2, 0, []), (1, .invokestatic 147, 0, []), (4, .aload_n 0, 0, []), (5, .iload_n 1, 0, []), (6, .invokevirtual 104, 0, []), (9, .astore_n 3, 0, []), (10, .aload_n 3, 0, []), (11, .aload_n 3, 0, []), (12, .iload_n 2, 0, []), (13, .invokestatic 156, 0, []), (16, .invokevirtual 165, 0, []), (19, .ireturn, 0, [])]]
def m_X8_dropWeight : mv_M := (4, false, 1, cd_X8_dropWeight, lk_X8, [])
def cd_X8_setWind : List (List (Nat × mv_I)) := [[(0, .aload_n 0, 0, []), (1, .iconst 5, 0, []), (2, .iload_n 1, 0, []), (3, .iload_n 2, 0, []), (4, .iconst 0, 0, []), (5, .iconst 0, 0, []), (6, .invokevirtual 81, 0, []), (9, .ireturn, 0, [])]]
def m_X8_setWind : mv_M := (3, false, 1, cd_X8_setWind, lk_X8, [])
def cd_X8_wind : List (List (Nat × mv_I)) := [[(0, .iload_n 1, 0, []), (1, .iconst 0, 0, []), (2, .bipush 23, 0, []), (4, .invokestatic 89, 0, []), (7, .ifCond .ne 13, 20, []), (10, .new 93, 1, []), (13, .dup, 0, []), (14, .ldc 168, 0, []), (16, .invokespecial 97, 0, []), (19, .athrow, 0, []), (20, .aload_n 0, 0, []), (21, .getfield 10, 0, []), (24, .getfield 170, 0, []), (27, .iload_n 1, 0, []), (28, .iaload, 0, []), (29, .ireturn, 0, [])]]
def m_X8_wind : mv_M := (2, false, 1, cd_X8_wind, lk_X8, [])
def cd_X8_top : List (List (Nat × mv_I)) := [[(0, .aload_n 0, 0, []), (1, .iload_n 1, 0, []), (2, .invokevirtual 104, 0, []), (5, .pop, 0, []), (6, .aload_n 0, 0, []), (7, .getfield 10, 0, []), (10, .iload_n 1, 0, []), (11, .invokevirtual 173, 0, []), (14, .ireturn, 0, [])]]
def m_X8_top : mv_M := (2, false, 1, cd_X8_top, lk_X8, [])
def cd_X8_tangles : List (List (Nat × mv_I)) := [[(0, .aload_n 0, 0, []), (1, .getfield 57, 0, []), (4, .aload_n 0, 0, []), (5, .getfield 10, 0, []), (8, .invokevirtual 176, 0, []), (11, .ireturn, 0, [])]]
def m_X8_tangles : mv_M := (1, false, 1, cd_X8_tangles, lk_X8, [])
def cd_X8_tanglesByMerging : List (List (Nat × mv_I)) := [[(0, .aload_n 0, 0, []), (1, .getfield 57, 0, []), (4, .aload_n 0, 0, []), (5, .getfield 10, 0, []), (8, .invokevirtual 180, 0, []), (11, .ireturn, 0, [])]]
def m_X8_tanglesByMerging : mv_M := (1, false, 1, cd_X8_tanglesByMerging, lk_X8, [])
def cd_X8_longestCalm : List (List (Nat × mv_I)) := [[(0, .iload_n 1, 0, []), (1, .invokestatic 183, 0, []), (4, .aload_n 0, 0, []), (5, .getfield 10, 0, []), (8, .iload_n 1, 0, []), (9, .invokevirtual 186, 0, []), (12, .ireturn, 0, [])]]
def m_X8_longestCalm : mv_M := (2, false, 1, cd_X8_longestCalm, lk_X8, [])
def cd_X8_longestCalmByTrying : List (List (Nat × mv_I)) := [[(0, .iload_n 1, 0, []), (1, .invokestatic 183, 0, []), (4, .aload_n 0, 0, []), (5, .getfield 10, 0, []), (8, .iload_n 1, 0, []), (9, .invokevirtual 189, 0, []), (12, .ireturn, 0, [])]]
def m_X8_longestCalmByTrying : mv_M := (2, false, 1, cd_X8_longestCalmByTrying, lk_X8, [])
def cd_X8_addPilot : List (List (Nat × mv_I)) := [[(0, .aload_n 0, 0, []), (1, .bipush 7, 0, []), (3, .iload_n 1, 0, []), (4, .iload_n 2, 0, []), (5, .iload_n 3, 0, []), (6, .iconst 0, 0, []), (7, .invokevirtual 81, 0, []), (10, .ireturn, 0, [])]]
def m_X8_addPilot : mv_M := (4, false, 1, cd_X8_addPilot, lk_X8, [])
def cd_X8_removePilot : List (List (Nat × mv_I)) := [[(0, .aload_n 0, 0, []), (1, .bipush 8, 0, []), (3, .iload_n 1, 0, []), (4, .iconst 0, 0, []), (5, .iconst 0, 0, []), (6, .iconst 0, 0, []), (7, .invokevirtual 81, 0, []), (10, .ireturn, 0, [])]]
def m_X8_removePilot : mv_M := (2, false, 1, cd_X8_removePilot, lk_X8, [])
def cd_X8_pilotCount : List (List (Nat × mv_I)) := [[(0, .aload_n 0, 0, []), (1, .getfield 10, 0, []), (4, .getfield 192, 0, []), (7, .ireturn, 0, [])]]
def m_X8_pilotCount : mv_M := (1, false, 1, cd_X8_pilotCount, lk_X8, [])
def cd_X8_isOnDuty : List (List (Nat × mv_I)) := [[(0, .aload_n 0, 0, []), (1, .iload_n 1, 0, []), (2, .invokevirtual 195, 0, []), (5, .iload_n 2, 0, []), (6, .iconst 0, 0, []), (7, .bipush 23, 0, []), (9, .invokestatic 89, 0, []), (12, .ifCond .ne 13, 25, []), (15, .new 93, 1, []), (18, .dup, 0, []), (19, .ldc 168, 0, []), (21, .invokespecial 97, 0, []), (24, .athrow, 0, []), (25, .aload_n 0, 0, []), (26, .getfield 10, 0, []), (29, .getfield 198, 0, [])],
  [(32, .iload_n 1, 0, []), (33, .aaload, 0, []), (34, .iload_n 2, 0, []), (35, .invokevirtual 202, 0, []), (38, .ireturn, 0, [])]]
def m_X8_isOnDuty : mv_M := (3, false, 6, cd_X8_isOnDuty, lk_X8, [])
def cd_X8_canCrew : List (List (Nat × mv_I)) := [[(0, .aload_n 0, 0, []), (1, .iload_n 1, 0, []), (2, .invokevirtual 195, 0, []), (5, .aload_n 0, 0, []), (6, .iload_n 2, 0, []), (7, .invokevirtual 104, 0, []), (10, .pop, 0, []), (11, .aload_n 0, 0, []), (12, .getfield 10, 0, []), (15, .iload_n 1, 0, []), (16, .iload_n 2, 0, []), (17, .invokevirtual 207, 0, []), (20, .ireturn, 0, [])]]
def m_X8_canCrew : mv_M := (3, false, 6, cd_X8_canCrew, lk_X8, [])
def cd_X8_mostCrewed : List (List (Nat × mv_I)) := [[(0, .aload_n 0, 0, []), (1, .getfield 64, 0, []), (4, .aload_n 0, 0, []), (5, .getfield 10, 0, []), (8, .invokevirtual 211, 0, []), (11, .ireturn, 0, [])]]
def m_X8_mostCrewed : mv_M := (1, false, 1, cd_X8_mostCrewed, lk_X8, [])
def cd_X8_mostCrewedBySets : List (List (Nat × mv_I)) := [[(0, .aload_n 0, 0, []), (1, .getfield 64, 0, []), (4, .aload_n 0, 0, []), (5, .getfield 10, 0, []), (8, .invokevirtual 214, 0, []), (11, .ireturn, 0, [])]]
def m_X8_mostCrewedBySets : mv_M := (1, false, 1, cd_X8_mostCrewedBySets, lk_X8, [])
def cd_X8_pass : List (List (Nat × mv_I)) := [[(0, .aload_n 0, 0, []), (1, .bipush 6, 0, []), (3, .iload_n 1, 0, []), (4, .iconst 0, 0, []), (5, .iconst 0, 0, []), (6, .iconst 0, 0, []), (7, .invokevirtual 81, 0, []), (10, .ireturn, 0, [])]]
def m_X8_pass : mv_M := (2, false, 1, cd_X8_pass, lk_X8, [])
def cd_X8_burstsAhead : List (List (Nat × mv_I)) := [[(0, .aload_n 0, 0, []), (1, .getfield 16, 0, []), (4, .aload_n 0, 0, []), (5, .getfield 10, 0, []), (8, .invokevirtual 217, 0, []), (11, .aload_n 0, 0, []), (12, .getfield 16, 0, []), (15, .iconst 1, 0, []), (16, .invokevirtual 221, 0, []), (19, .ireturn, 0, [])]]
def m_X8_burstsAhead : mv_M := (1, false, 1, cd_X8_burstsAhead, lk_X8, [])
def cd_X8_hour : List (List (Nat × mv_I)) := [[(0, .aload_n 0, 0, []), (1, .getfield 10, 0, []), (4, .getfield 224, 0, []), (7, .ireturn, 0, [])]]
def m_X8_hour : mv_M := (1, false, 1, cd_X8_hour, lk_X8, [])
def cd_X8_bursts : List (List (Nat × mv_I)) := [[(0, .aload_n 0, 0, []), (1, .getfield 10, 0, []), (4, .getfield 227, 0, []), (7, .ireturn, 0, [])]]
def m_X8_bursts : mv_M := (1, false, 1, cd_X8_bursts, lk_X8, [])
def cd_X8_loaded : List (List (Nat × mv_I)) := [[(0, .aload_n 0, 0, []), (1, .getfield 10, 0, []), (4, .getfield 230, 0, []), (7, .ireturn, 0, [])]]
def m_X8_loaded : mv_M := (1, false, 1, cd_X8_loaded, lk_X8, [])
def cd_X8_aboard : List (List (Nat × mv_I)) := [[(0, .aload_n 0, 0, []), (1, .getfield 10, 0, []), (4, .invokevirtual 233, 0, []), (7, .ireturn, 0, [])]]
def m_X8_aboard : mv_M := (1, false, 1, cd_X8_aboard, lk_X8, [])
def cd_X8_dropped : List (List (Nat × mv_I)) := [[(0, .aload_n 0, 0, []), (1, .getfield 10, 0, []), (4, .getfield 236, 0, []), (7, .ireturn, 0, [])]]
def m_X8_dropped : mv_M := (1, false, 1, cd_X8_dropped, lk_X8, [])
def cd_X8_lost : List (List (Nat × mv_I)) := [[(0, .aload_n 0, 0, []), (1, .getfield 10, 0, []), (4, .getfield 239, 0, []), (7, .ireturn, 0, [])]]
def m_X8_lost : mv_M := (1, false, 1, cd_X8_lost, lk_X8, [])
def cd_X8_meanHeight : List (List (Nat × mv_I)) := [[(0, .aload_n 0, 0, []), (1, .getfield 10, 0, []), (4, .invokevirtual 85, 0, []), (7, .istore_n 1, 0, []), (8, .iload_n 1, 0, []), (9, .ifCond .ne 13, 22, []), (12, .new 242, 1, []), (15, .dup, 0, []), (16, .ldc 244, 0, []), (18, .invokespecial 246, 0, []), (21, .athrow, 0, []), (22, .aload_n 0, 0, []), (23, .getfield 10, 0, []), (26, .invokevirtual 247, 0, []), (29, .i2d, 0, []), (30, .iload_n 1, 0, []), (31, .i2d, 0, [])],
  [(32, .ddiv, 0, []), (33, .dreturn, 0, [])]]
def m_X8_meanHeight : mv_M := (2, false, 5, cd_X8_meanHeight, lk_X8, [])
def cd_X8_strain : List (List (Nat × mv_I)) := [[(0, .aload_n 0, 0, []), (1, .iload_n 1, 0, []), (2, .invokevirtual 104, 0, []), (5, .astore_n 2, 0, []), (6, .aload_n 2, 0, []), (7, .invokevirtual 116, 0, []), (10, .i2f, 0, []), (11, .aload_n 2, 0, []), (12, .getfield 250, 0, []), (15, .i2f, 0, []), (16, .fdiv, 0, []), (17, .freturn, 0, [])]]
def m_X8_strain : mv_M := (3, false, 4, cd_X8_strain, lk_X8, [])
def cd_X8_feed : List (List (Nat × mv_I)) := [[(0, .aload_n 0, 0, []), (1, .getfield 43, 0, []), (4, .getfield 253, 0, []), (7, .bipush 60, 0, []), (9, .if_icmp .lt 14, 23, []), (12, .new 256, 2, []), (15, .dup, 0, []), (16, .ldc_w 258, 0, []), (19, .invokespecial 260, 0, []), (22, .athrow, 0, []), (23, .aload_n 0, 0, []), (24, .getfield 43, 0, []), (27, .iload_n 1, 0, []), (28, .invokevirtual 261, 0, []), (31, .aload_n 0, 0, [])],
  [(32, .getfield 43, 0, []), (35, .getfield 253, 0, []), (38, .ireturn, 0, [])]]
def m_X8_feed : mv_M := (2, false, 1, cd_X8_feed, lk_X8, [])
def cd_X8_execute : List (List (Nat × mv_I)) := [[(0, .aload_n 0, 0, []), (1, .getfield 43, 0, []), (4, .invokevirtual 265, 0, []), (7, .istore_n 1, 0, []), (8, .aload_n 0, 0, []), (9, .getfield 43, 0, []), (12, .iconst 0, 0, []), (13, .putfield 253, 0, []), (16, .iload_n 1, 0, []), (17, .ifCond .ne 25, 42, []), (20, .aload_n 0, 0, []), (21, .aload_n 0, 0, []), (22, .getfield 43, 0, []), (25, .getfield 268, 0, []), (28, .putfield 68, 0, []), (31, .new 93, 2, [])],
  [(34, .dup, 0, []), (35, .ldc_w 271, 0, []), (38, .invokespecial 97, 0, []), (41, .athrow, 0, []), (42, .aload_n 0, 0, []), (43, .getfield 16, 0, []), (46, .aload_n 0, 0, []), (47, .getfield 10, 0, []), (50, .invokevirtual 217, 0, []), (53, .iconst 0, 0, []), (54, .istore_n 2, 0, []), (55, .iload_n 2, 0, []), (56, .aload_n 0, 0, []), (57, .getfield 43, 0, []), (60, .getfield 273, 0, []), (63, .if_icmp .ge 77, 140, [])],
  [(66, .aload_n 0, 0, []), (67, .getfield 16, 0, []), (70, .aload_n 0, 0, []), (71, .getfield 43, 0, []), (74, .getfield 276, 0, []), (77, .iload_n 2, 0, []), (78, .aaload, 0, []), (79, .invokevirtual 280, 0, []), (82, .istore_n 3, 0, []), (83, .iload_n 3, 0, []), (84, .ifCond .eq 33, 117, []), (87, .aload_n 0, 0, []), (88, .bipush 6, 0, []), (90, .iload_n 2, 0, []), (91, .iload_n 3, 0, []), (92, .bipush 6, 0, []), (94, .if_icmp .ge 7, 101, [])],
  [(97, .iload_n 3, 0, []), (98, .goto 5, 103, []), (101, .bipush 7, 0, []), (103, .invokevirtual 284, 0, []), (106, .new 288, 2, []), (109, .dup, 0, []), (110, .ldc_w 290, 0, []), (113, .invokespecial 292, 0, []), (116, .athrow, 0, []), (117, .aload_n 0, 0, []), (118, .getfield 16, 0, []), (121, .aload_n 0, 0, []), (122, .getfield 43, 0, []), (125, .getfield 276, 0, [])],
  [(128, .iload_n 2, 0, []), (129, .aaload, 0, []), (130, .invokevirtual 293, 0, []), (133, .pop, 0, []), (134, .iinc 2 1, 0, []), (137, .goto (-82), 55, []), (140, .aload_n 0, 0, []), (141, .getfield 29, 0, []), (144, .aload_n 0, 0, []), (145, .getfield 10, 0, []), (148, .invokevirtual 296, 0, []), (151, .aload_n 0, 0, []), (152, .getfield 10, 0, []), (155, .aload_n 0, 0, []), (156, .getfield 16, 0, []), (159, .invokevirtual 217, 0, [])],
  [(162, .aload_n 0, 0, []), (163, .getfield 43, 0, []), (166, .getfield 273, 0, []), (169, .ireturn, 0, [])]]
def m_X8_execute : mv_M := (4, false, 1, cd_X8_execute, lk_X8, [])
def cd_X8_faultPosition : List (List (Nat × mv_I)) := [[(0, .aload_n 0, 0, []), (1, .getfield 68, 0, []), (4, .iconst (-1), 0, []), (5, .if_icmp .ne 14, 19, []), (8, .new 127, 2, []), (11, .dup, 0, []), (12, .ldc_w 299, 0, []), (15, .invokespecial 131, 0, []), (18, .athrow, 0, []), (19, .aload_n 0, 0, []), (20, .getfield 68, 0, []), (23, .ireturn, 0, [])]]
def m_X8_faultPosition : mv_M := (1, false, 1, cd_X8_faultPosition, lk_X8, [])
def cd_X8_writeBalloon : List (List (Nat × mv_I)) := [[(0, .aload_n 0, 0, []), (1, .iload_n 1, 0, []), (2, .invokevirtual 104, 0, []), (5, .astore_n 2, 0, []), (6, .aload_n 0, 0, []), (7, .getfield 50, 0, []), (10, .iconst 0, 0, []), (11, .invokevirtual 301, 0, []), (14, .aload_n 0, 0, []), (15, .getfield 50, 0, []), (18, .iload_n 1, 0, []), (19, .invokevirtual 304, 0, []), (22, .bipush 58, 0, []), (24, .invokevirtual 307, 0, []), (27, .aload_n 2, 0, []), (28, .invokevirtual 116, 0, []), (31, .invokevirtual 304, 0, [])],
  [(34, .bipush 47, 0, []), (36, .invokevirtual 307, 0, []), (39, .aload_n 2, 0, []), (40, .getfield 310, 0, []), (43, .invokevirtual 304, 0, []), (46, .pop, 0, []), (47, .aload_n 2, 0, []), (48, .invokevirtual 119, 0, []), (51, .ifCond .eq 13, 64, []), (54, .aload_n 0, 0, []), (55, .getfield 50, 0, []), (58, .bipush 33, 0, []), (60, .invokevirtual 307, 0, []), (63, .pop, 0, [])],
  [(64, .iconst 0, 0, []), (65, .istore_n 3, 0, []), (66, .iload_n 3, 0, []), (67, .aload_n 2, 0, []), (68, .getfield 132, 0, []), (71, .if_icmp .ge 28, 99, []), (74, .aload_n 0, 0, []), (75, .getfield 50, 0, []), (78, .bipush 43, 0, []), (80, .invokevirtual 307, 0, []), (83, .aload_n 2, 0, []), (84, .getfield 143, 0, []), (87, .iload_n 3, 0, []), (88, .iaload, 0, []), (89, .invokevirtual 304, 0, []), (92, .pop, 0, []), (93, .iinc 3 1, 0, [])],
  [(96, .goto (-30), 66, []), (99, .aload_n 0, 0, []), (100, .getfield 50, 0, []), (103, .invokevirtual 313, 0, []), (106, .ireturn, 0, [])]]
def m_X8_writeBalloon : mv_M := (4, false, 1, cd_X8_writeBalloon, lk_X8, [])
def cd_X8_lineCharacter : List (List (Nat × mv_I)) := [[(0, .iload_n 1, 0, []), (1, .iconst 0, 0, []), (2, .aload_n 0, 0, []), (3, .getfield 50, 0, []), (6, .invokevirtual 313, 0, []), (9, .iconst 1, 0, []), (10, .isub, 0, []), (11, .invokestatic 89, 0, []), (14, .ifCond .ne 14, 28, []), (17, .new 138, 2, []), (20, .dup, 0, []), (21, .ldc_w 315, 0, []), (24, .invokespecial 142, 0, []), (27, .athrow, 0, []), (28, .aload_n 0, 0, []), (29, .getfield 50, 0, [])],
  [(32, .iload_n 1, 0, []), (33, .invokevirtual 317, 0, []), (36, .ireturn, 0, [])]]
def m_X8_lineCharacter : mv_M := (2, false, 7, cd_X8_lineCharacter, lk_X8, [])
def cd_X8_denial : List (List (Nat × mv_I)) := [[(0, .aload_n 0, 0, []), (1, .invokevirtual 321, 0, []), (4, .aload_n 0, 0, []), (5, .getfield 72, 0, []), (8, .ireturn, 0, [])]]
def m_X8_denial : mv_M := (1, false, 1, cd_X8_denial, lk_X8, [])
def cd_X8_denialDetail : List (List (Nat × mv_I)) := [[(0, .aload_n 0, 0, []), (1, .invokevirtual 321, 0, []), (4, .aload_n 0, 0, []), (5, .getfield 75, 0, []), (8, .ireturn, 0, [])]]
def m_X8_denialDetail : mv_M := (1, false, 1, cd_X8_denialDetail, lk_X8, [])
def cd_X8_denialCause : List (List (Nat × mv_I)) := [[(0, .aload_n 0, 0, []), (1, .invokevirtual 321, 0, []), (4, .aload_n 0, 0, []), (5, .getfield 78, 0, []), (8, .iconst (-1), 0, []), (9, .if_icmp .ne 14, 23, []), (12, .new 127, 2, []), (15, .dup, 0, []), (16, .ldc_w 324, 0, []), (19, .invokespecial 131, 0, []), (22, .athrow, 0, []), (23, .aload_n 0, 0, []), (24, .getfield 78, 0, []), (27, .ireturn, 0, [])]]
def m_X8_denialCause : mv_M := (1, false, 1, cd_X8_denialCause, lk_X8, [])
def cd_X8_undo : List (List (Nat × mv_I)) := [[(0, .aload_n 0, 0, []), (1, .getfield 29, 0, []), (4, .getfield 326, 0, []), (7, .ifCond .ne 14, 21, []), (10, .new 256, 2, []), (13, .dup, 0, []), (14, .ldc_w 329, 0, []), (17, .invokespecial 260, 0, []), (20, .athrow, 0, []), (21, .aload_n 0, 0, []), (22, .getfield 29, 0, []), (25, .aload_n 0, 0, []), (26, .getfield 10, 0, []), (29, .invokevirtual 331, 0, [])],
  [(32, .aload_n 0, 0, []), (33, .getfield 29, 0, []), (36, .getfield 326, 0, []), (39, .ireturn, 0, [])]]
def m_X8_undo : mv_M := (1, false, 1, cd_X8_undo, lk_X8, [])
def cd_X8_undoCount : List (List (Nat × mv_I)) := [[(0, .aload_n 0, 0, []), (1, .getfield 29, 0, []), (4, .getfield 326, 0, []), (7, .ireturn, 0, [])]]
def m_X8_undoCount : mv_M := (1, false, 1, cd_X8_undoCount, lk_X8, [])
def cd_X8_saveSnapshot : List (List (Nat × mv_I)) := [[(0, .aload_n 0, 0, []), (1, .getfield 19, 0, []), (4, .aload_n 0, 0, []), (5, .getfield 10, 0, []), (8, .invokevirtual 217, 0, []), (11, .aload_n 0, 0, []), (12, .iconst 1, 0, []), (13, .putfield 22, 0, []), (16, .aload_n 0, 0, []), (17, .getfield 10, 0, []), (20, .invokevirtual 85, 0, []), (23, .ireturn, 0, [])]]
def m_X8_saveSnapshot : mv_M := (1, false, 1, cd_X8_saveSnapshot, lk_X8, [])
def cd_X8_restoreSnapshot : List (List (Nat × mv_I)) := [[(0, .aload_n 0, 0, []), (1, .getfield 22, 0, []), (4, .ifCond .ne 14, 18, []), (7, .new 256, 2, []), (10, .dup, 0, []), (11, .ldc_w 334, 0, []), (14, .invokespecial 260, 0, []), (17, .athrow, 0, []), (18, .aload_n 0, 0, []), (19, .getfield 10, 0, []), (22, .aload_n 0, 0, []), (23, .getfield 19, 0, []), (26, .invokevirtual 217, 0, []), (29, .aload_n 0, 0, []), (30, .getfield 29, 0, [])],
  [(33, .iconst 0, 0, []), (34, .putfield 326, 0, []), (37, .aload_n 0, 0, []), (38, .getfield 10, 0, []), (41, .invokevirtual 85, 0, []), (44, .ireturn, 0, [])]]
def m_X8_restoreSnapshot : mv_M := (1, false, 1, cd_X8_restoreSnapshot, lk_X8, [])
def cd_X8_change : List (List (Nat × mv_I)) := [[(0, .aload_n 0, 0, []), (1, .getfield 36, 0, []), (4, .iload_n 1, 0, []), (5, .iload_n 2, 0, []), (6, .iload_n 3, 0, []), (7, .iload 4, 0, []), (9, .iload 5, 0, []), (11, .invokevirtual 336, 0, []), (14, .aload_n 0, 0, []), (15, .getfield 10, 0, []), (18, .aload_n 0, 0, []), (19, .getfield 36, 0, []), (22, .invokevirtual 280, 0, []), (25, .istore 6, 0, []), (27, .iload 6, 0, []), (29, .ifCond .eq 9, 38, [])],
  [(32, .aload_n 0, 0, []), (33, .iload 6, 0, []), (35, .invokevirtual 340, 0, []), (38, .aload_n 0, 0, []), (39, .getfield 29, 0, []), (42, .aload_n 0, 0, []), (43, .getfield 10, 0, []), (46, .invokevirtual 296, 0, []), (49, .aload_n 0, 0, []), (50, .getfield 10, 0, []), (53, .aload_n 0, 0, []), (54, .getfield 36, 0, []), (57, .invokevirtual 293, 0, []), (60, .ireturn, 0, [])]]
def m_X8_change : mv_M := (7, false, 1, cd_X8_change, lk_X8, [])
def cd_X8_refuse : List (List (Nat × mv_I)) := [[(0, .iload_n 1, 0, []), (1, .tableswitch 60 8 10 #[27, 38, 49], 61, [(8, 28), (9, 39), (10, 50)]), (28, .new 93, 2, []), (31, .dup, 0, [])],
  [(32, .ldc_w 343, 0, []), (35, .invokespecial 97, 0, []), (38, .athrow, 0, []), (39, .new 127, 2, []), (42, .dup, 0, []), (43, .ldc_w 345, 0, []), (46, .invokespecial 131, 0, []), (49, .athrow, 0, []), (50, .new 138, 2, []), (53, .dup, 0, []), (54, .ldc_w 315, 0, []), (57, .invokespecial 142, 0, []), (60, .athrow, 0, []), (61, .aload_n 0, 0, []), (62, .iload_n 1, 0, []), (63, .aload_n 0, 0, [])],
  [(64, .getfield 10, 0, []), (67, .iload_n 1, 0, []), (68, .aload_n 0, 0, []), (69, .getfield 36, 0, []), (72, .invokevirtual 347, 0, []), (75, .iconst (-1), 0, []), (76, .invokevirtual 284, 0, []), (79, .new 288, 2, []), (82, .dup, 0, []), (83, .ldc_w 351, 0, []), (86, .invokespecial 292, 0, []), (89, .athrow, 0, [])]]
def m_X8_refuse : mv_M := (2, false, 0, cd_X8_refuse, lk_X8, [])
def cd_X8_keepDenial : List (List (Nat × mv_I)) := [[(0, .aload_n 0, 0, []), (1, .iload_n 1, 0, []), (2, .putfield 72, 0, []), (5, .aload_n 0, 0, []), (6, .iload_n 2, 0, []), (7, .putfield 75, 0, []), (10, .aload_n 0, 0, []), (11, .iload_n 3, 0, []), (12, .putfield 78, 0, []), (15, .return_, 0, [])]]
def m_X8_keepDenial : mv_M := (4, false, 0, cd_X8_keepDenial, lk_X8, [])
def cd_X8_balloonAt : List (List (Nat × mv_I)) := [[(0, .aload_n 0, 0, []), (1, .getfield 10, 0, []), (4, .iload_n 1, 0, []), (5, .invokevirtual 100, 0, []), (8, .ifCond .ne 14, 22, []), (11, .new 127, 2, []), (14, .dup, 0, []), (15, .ldc_w 345, 0, []), (18, .invokespecial 131, 0, []), (21, .athrow, 0, []), (22, .aload_n 0, 0, []), (23, .getfield 10, 0, []), (26, .getfield 353, 0, []), (29, .iload_n 1, 0, []), (30, .aaload, 0, []), (31, .areturn, 0, [])]]
def m_X8_balloonAt : mv_M := (2, false, 2, cd_X8_balloonAt, lk_X8, [])
def cd_X8_requirePilot : List (List (Nat × mv_I)) := [[(0, .aload_n 0, 0, []), (1, .getfield 10, 0, []), (4, .iload_n 1, 0, []), (5, .invokevirtual 357, 0, []), (8, .ifCond .ne 14, 22, []), (11, .new 138, 2, []), (14, .dup, 0, []), (15, .ldc_w 360, 0, []), (18, .invokespecial 142, 0, []), (21, .athrow, 0, []), (22, .return_, 0, [])]]
def m_X8_requirePilot : mv_M := (2, false, 0, cd_X8_requirePilot, lk_X8, [])
def cd_X8_requireDenial : List (List (Nat × mv_I)) := [[(0, .aload_n 0, 0, []), (1, .getfield 72, 0, []), (4, .iconst (-1), 0, []), (5, .if_icmp .ne 14, 19, []), (8, .new 127, 2, []), (11, .dup, 0, []), (12, .ldc_w 362, 0, []), (15, .invokespecial 131, 0, []), (18, .athrow, 0, []), (19, .return_, 0, [])]]
def m_X8_requireDenial : mv_M := (1, false, 0, cd_X8_requireDenial, lk_X8, [])
def cd_X8_requireHeight : List (List (Nat × mv_I)) := [[(0, .iload_n 0, 0, []), (1, .iconst 1, 0, []), (2, .bipush 40, 0, []), (4, .invokestatic 89, 0, []), (7, .ifCond .ne 14, 21, []), (10, .new 93, 2, []), (13, .dup, 0, []), (14, .ldc_w 364, 0, []), (17, .invokespecial 97, 0, []), (20, .athrow, 0, []), (21, .return_, 0, [])]]
def m_X8_requireHeight : mv_M := (1, false, 0, cd_X8_requireHeight, lk_X8, [])
def cd_X8_requireWindStrength : List (List (Nat × mv_I)) := [[(0, .iload_n 0, 0, []), (1, .iconst 0, 0, []), (2, .bipush 9, 0, []), (4, .invokestatic 89, 0, []), (7, .ifCond .ne 14, 21, []), (10, .new 93, 2, []), (13, .dup, 0, []), (14, .ldc_w 366, 0, []), (17, .invokespecial 97, 0, []), (20, .athrow, 0, []), (21, .return_, 0, [])]]
def m_X8_requireWindStrength : mv_M := (1, false, 0, cd_X8_requireWindStrength, lk_X8, [])
def cd_X8_requireDropSet : List (List (Nat × mv_I)) := [[(0, .aload_n 0, 0, []), (1, .iload_n 1, 0, []), (2, .invokevirtual 368, 0, []), (5, .istore_n 2, 0, []), (6, .iload_n 2, 0, []), (7, .iconst (-1), 0, []), (8, .if_icmp .ne 13, 21, []), (11, .new 127, 1, []), (14, .dup, 0, []), (15, .ldc 154, 0, []), (17, .invokespecial 131, 0, []), (20, .athrow, 0, []), (21, .iload_n 2, 0, []), (22, .ireturn, 0, [])]]
def m_X8_requireDropSet : mv_M := (3, false, 1, cd_X8_requireDropSet, lk_X8, [])
def cd_X8_isWithin : List (List (Nat × mv_I)) := [[(0, .iload_n 0, 0, []), (1, .iload_n 1, 0, []), (2, .if_icmp .lt 12, 14, []), (5, .iload_n 0, 0, []), (6, .iload_n 2, 0, []), (7, .if_icmp .gt 7, 14, []), (10, .iconst 1, 0, []), (11, .goto 4, 15, []), (14, .iconst 0, 0, []), (15, .ireturn, 0, [])]]
def m_X8_isWithin : mv_M := (3, false, 6, cd_X8_isWithin, lk_X8, [])
def cd_X9_init : List (List (Nat × mv_I)) := [[(0, .aload_n 0, 0, []), (1, .invokespecial 1, 0, []), (4, .aload_n 0, 0, []), (5, .sipush 158, 0, []), (8, .newarray .int, 0, []), (10, .putfield 7, 0, []), (13, .aload_n 0, 0, []), (14, .sipush 158, 0, []), (17, .newarray .int, 0, []), (19, .putfield 13, 0, []), (22, .aload_n 0, 0, []), (23, .sipush 158, 0, []), (26, .newarray .int, 0, []), (28, .putfield 16, 0, []), (31, .aload_n 0, 0, [])],
  [(32, .sipush 1264, 0, []), (35, .newarray .int, 0, []), (37, .putfield 19, 0, []), (40, .aload_n 0, 0, []), (41, .sipush 158, 0, []), (44, .newarray .int, 0, []), (46, .putfield 22, 0, []), (49, .aload_n 0, 0, []), (50, .bipush 60, 0, []), (52, .newarray .int, 0, []), (54, .putfield 25, 0, []), (57, .aload_n 0, 0, []), (58, .sipush 300, 0, []), (61, .newarray .int, 0, []), (63, .putfield 28, 0, [])],
  [(66, .aload_n 0, 0, []), (67, .bipush 40, 0, []), (69, .newarray .int, 0, []), (71, .putfield 31, 0, []), (74, .aload_n 0, 0, []), (75, .bipush 10, 0, []), (77, .newarray .int, 0, []), (79, .putfield 34, 0, []), (82, .aload_n 0, 0, []), (83, .bipush 10, 0, []), (85, .newarray .int, 0, []), (87, .putfield 37, 0, []), (90, .aload_n 0, 0, []), (91, .bipush 64, 0, []), (93, .newarray .int, 0, []), (95, .putfield 40, 0, [])],
  [(98, .aload_n 0, 0, []), (99, .bipush 64, 0, []), (101, .newarray .int, 0, []), (103, .putfield 43, 0, []), (106, .aload_n 0, 0, []), (107, .iconst (-1), 0, []), (108, .putfield 46, 0, []), (111, .return_, 0, [])]]
def m_X9_init : mv_M := (1, false, 0, cd_X9_init, lk_X9, [])
def cd_X9_thrown : List (List (Nat × mv_I)) := [[(0, .aload_n 0, 0, []), (1, .getfield 50, 0, []), (4, .ireturn, 0, [])]]
def m_X9_thrown : mv_M := (1, false, 1, cd_X9_thrown, lk_X9, [])
def cd_X9_fails : List (List (Nat × mv_I)) := [[(0, .aload_n 0, 0, []), (1, .iload_n 1, 0, []), (2, .putfield 50, 0, []), (5, .iconst 0, 0, []), (6, .ireturn, 0, [])]]
def m_X9_fails : mv_M := (2, false, 1, cd_X9_fails, lk_X9, [])
def cd_X9_in : List (List (Nat × mv_I)) := [[(0, .iload_n 0, 0, []), (1, .iload_n 1, 0, []), (2, .if_icmp .lt 12, 14, []), (5, .iload_n 0, 0, []), (6, .iload_n 2, 0, []), (7, .if_icmp .gt 7, 14, []), (10, .iconst 1, 0, []), (11, .goto 4, 15, []), (14, .iconst 0, 0, []), (15, .ireturn, 0, [])]]
def m_X9_in : mv_M := (3, false, 6, cd_X9_in, lk_X9, [])
def cd_X9_remembers : List (List (Nat × mv_I)) := [[(0, .aload_n 0, 0, []), (1, .iconst 0, 0, []), (2, .putfield 50, 0, []), (5, .iconst 0, 0, []), (6, .istore_n 1, 0, []), (7, .iload_n 1, 0, []), (8, .sipush 158, 0, []), (11, .if_icmp .ge 21, 32, []), (14, .aload_n 0, 0, []), (15, .getfield 13, 0, []), (18, .iload_n 1, 0, []), (19, .aload_n 0, 0, []), (20, .getfield 7, 0, []), (23, .iload_n 1, 0, []), (24, .iaload, 0, []), (25, .iastore, 0, []), (26, .iinc 1 1, 0, []), (29, .goto (-22), 7, [])],
  [(32, .return_, 0, [])]]
def m_X9_remembers : mv_M := (2, false, 0, cd_X9_remembers, lk_X9, [])
def cd_X9_changed : List (List (Nat × mv_I)) := [[(0, .aload_n 0, 0, []), (1, .getfield 53, 0, []), (4, .bipush 8, 0, []), (6, .if_icmp .ne 37, 43, []), (9, .iconst 0, 0, []), (10, .istore_n 2, 0, []), (11, .iload_n 2, 0, []), (12, .sipush 1106, 0, []), (15, .if_icmp .ge 25, 40, []), (18, .aload_n 0, 0, []), (19, .getfield 19, 0, []), (22, .iload_n 2, 0, []), (23, .aload_n 0, 0, []), (24, .getfield 19, 0, []), (27, .iload_n 2, 0, []), (28, .sipush 158, 0, []), (31, .iadd, 0, [])],
  [(32, .iaload, 0, []), (33, .iastore, 0, []), (34, .iinc 2 1, 0, []), (37, .goto (-26), 11, []), (40, .goto 13, 53, []), (43, .aload_n 0, 0, []), (44, .dup, 0, []), (45, .getfield 53, 0, []), (48, .iconst 1, 0, []), (49, .iadd, 0, []), (50, .putfield 53, 0, []), (53, .iconst 0, 0, []), (54, .istore_n 2, 0, []), (55, .iload_n 2, 0, []), (56, .sipush 158, 0, []), (59, .if_icmp .ge 32, 91, []), (62, .aload_n 0, 0, []), (63, .getfield 19, 0, [])],
  [(66, .sipush 158, 0, []), (69, .aload_n 0, 0, []), (70, .getfield 53, 0, []), (73, .iconst 1, 0, []), (74, .isub, 0, []), (75, .imul, 0, []), (76, .iload_n 2, 0, []), (77, .iadd, 0, []), (78, .aload_n 0, 0, []), (79, .getfield 13, 0, []), (82, .iload_n 2, 0, []), (83, .iaload, 0, []), (84, .iastore, 0, []), (85, .iinc 2 1, 0, []), (88, .goto (-33), 55, []), (91, .iload_n 1, 0, []), (92, .ireturn, 0, [])]]
def m_X9_changed : mv_M := (3, false, 1, cd_X9_changed, lk_X9, [])
def cd_X9_done : List (List (Nat × mv_I)) := [[(0, .aload_n 0, 0, []), (1, .iload_n 1, 0, []), (2, .putfield 56, 0, []), (5, .iconst 0, 0, []), (6, .ireturn, 0, [])]]
def m_X9_done : mv_M := (2, false, 1, cd_X9_done, lk_X9, [])
def cd_X9_denied : List (List (Nat × mv_I)) := [[(0, .aload_n 0, 0, []), (1, .iload_n 1, 0, []), (2, .putfield 59, 0, []), (5, .aload_n 0, 0, []), (6, .iload_n 2, 0, []), (7, .putfield 62, 0, []), (10, .aload_n 0, 0, []), (11, .iconst 0, 0, []), (12, .putfield 65, 0, []), (15, .iload_n 1, 0, []), (16, .ineg, 0, []), (17, .ireturn, 0, [])]]
def m_X9_denied : mv_M := (3, false, 1, cd_X9_denied, lk_X9, [])
def cd_X9_ends : List (List (Nat × mv_I)) := [[(0, .iload_n 1, 0, []), (1, .ifCond .ne 14, 15, []), (4, .aload_n 0, 0, []), (5, .aload_n 0, 0, []), (6, .getfield 56, 0, []), (9, .invokevirtual 68, 0, []), (12, .goto 16, 28, []), (15, .aload_n 0, 0, []), (16, .iload_n 1, 0, []), (17, .ifCond .ge 7, 24, []), (20, .iload_n 2, 0, []), (21, .goto 4, 25, []), (24, .iload_n 1, 0, []), (25, .invokevirtual 72, 0, []), (28, .ireturn, 0, [])]]
def m_X9_ends : mv_M := (3, false, 1, cd_X9_ends, lk_X9, [])
def cd_X9_isBerth : List (List (Nat × mv_I)) := [[(0, .iload_n 0, 0, []), (1, .iconst 0, 0, []), (2, .bipush 9, 0, []), (4, .invokestatic 75, 0, []), (7, .ireturn, 0, [])]]
def m_X9_isBerth : mv_M := (1, false, 6, cd_X9_isBerth, lk_X9, [])
def cd_X9_isHour : List (List (Nat × mv_I)) := [[(0, .iload_n 0, 0, []), (1, .iconst 0, 0, []), (2, .bipush 23, 0, []), (4, .invokestatic 75, 0, []), (7, .ireturn, 0, [])]]
def m_X9_isHour : mv_M := (1, false, 6, cd_X9_isHour, lk_X9, [])
def cd_X9_of : List (List (Nat × mv_I)) := [[(0, .aload_n 0, 0, []), (1, .getfield 7, 0, []), (4, .bipush 6, 0, []), (6, .bipush 11, 0, []), (8, .iload_n 1, 0, []), (9, .imul, 0, []), (10, .iadd, 0, []), (11, .iload_n 2, 0, []), (12, .iadd, 0, []), (13, .iaload, 0, []), (14, .ireturn, 0, [])]]
def m_X9_of : mv_M := (3, false, 1, cd_X9_of, lk_X9, [])
def cd_X9_sets : List (List (Nat × mv_I)) := [[(0, .aload_n 0, 0, []), (1, .getfield 7, 0, []), (4, .bipush 6, 0, []), (6, .bipush 11, 0, []), (8, .iload_n 1, 0, []), (9, .imul, 0, []), (10, .iadd, 0, []), (11, .iload_n 2, 0, []), (12, .iadd, 0, []), (13, .iload_n 3, 0, []), (14, .iastore, 0, []), (15, .return_, 0, [])]]
def m_X9_sets : mv_M := (4, false, 0, cd_X9_sets, lk_X9, [])
def cd_X9_isHere : List (List (Nat × mv_I)) := [[(0, .iload_n 1, 0, []), (1, .invokestatic 79, 0, []), (4, .ifCond .eq 17, 21, []), (7, .aload_n 0, 0, []), (8, .iload_n 1, 0, []), (9, .iconst 0, 0, []), (10, .invokevirtual 83, 0, []), (13, .iconst 1, 0, []), (14, .if_icmp .ne 7, 21, []), (17, .iconst 1, 0, []), (18, .goto 4, 22, []), (21, .iconst 0, 0, []), (22, .ireturn, 0, [])]]
def m_X9_isHere : mv_M := (2, false, 6, cd_X9_isHere, lk_X9, [])
def cd_X9_isPilot : List (List (Nat × mv_I)) := [[(0, .iload_n 1, 0, []), (1, .iconst 0, 0, []), (2, .aload_n 0, 0, []), (3, .getfield 7, 0, []), (6, .iconst 5, 0, []), (7, .iaload, 0, []), (8, .iconst 1, 0, []), (9, .isub, 0, []), (10, .invokestatic 75, 0, []), (13, .ireturn, 0, [])]]
def m_X9_isPilot : mv_M := (2, false, 6, cd_X9_isPilot, lk_X9, [])
def cd_X9_pilot : List (List (Nat × mv_I)) := [[(0, .aload_n 0, 0, []), (1, .getfield 7, 0, []), (4, .sipush 140, 0, []), (7, .iconst 3, 0, []), (8, .iload_n 1, 0, []), (9, .imul, 0, []), (10, .iadd, 0, []), (11, .iload_n 2, 0, []), (12, .iadd, 0, []), (13, .iaload, 0, []), (14, .ireturn, 0, [])]]
def m_X9_pilot : mv_M := (3, false, 1, cd_X9_pilot, lk_X9, [])
def cd_X9_now : List (List (Nat × mv_I)) := [[(0, .aload_n 0, 0, []), (1, .getfield 7, 0, []), (4, .iconst 0, 0, []), (5, .iaload, 0, []), (6, .bipush 24, 0, []), (8, .irem, 0, []), (9, .ireturn, 0, [])]]
def m_X9_now : mv_M := (1, false, 1, cd_X9_now, lk_X9, [])
def cd_X9_ballastWithout : List (List (Nat × mv_I)) := [[(0, .iconst 0, 0, []), (1, .istore_n 3, 0, []), (2, .iconst 0, 0, []), (3, .istore 4, 0, []), (5, .iload 4, 0, []), (7, .aload_n 0, 0, []), (8, .iload_n 1, 0, []), (9, .iconst 4, 0, []), (10, .invokevirtual 83, 0, []), (13, .if_icmp .ge 35, 48, []), (16, .iload_n 3, 0, []), (17, .iload_n 2, 0, []), (18, .iload 4, 0, []), (20, .ishr, 0, []), (21, .iconst 1, 0, []), (22, .iand, 0, []), (23, .iconst 1, 0, []), (24, .if_icmp .ne 7, 31, []), (27, .iconst 0, 0, []), (28, .goto 12, 40, []), (31, .aload_n 0, 0, [])],
  [(32, .iload_n 1, 0, []), (33, .iconst 5, 0, []), (34, .iload 4, 0, []), (36, .iadd, 0, []), (37, .invokevirtual 83, 0, []), (40, .iadd, 0, []), (41, .istore_n 3, 0, []), (42, .iinc 4 1, 0, []), (45, .goto (-40), 5, []), (48, .iload_n 3, 0, []), (49, .ireturn, 0, [])]]
def m_X9_ballastWithout : mv_M := (5, false, 1, cd_X9_ballastWithout, lk_X9, [])
def cd_X9_spare : List (List (Nat × mv_I)) := [[(0, .aload_n 0, 0, []), (1, .iload_n 1, 0, []), (2, .iconst 1, 0, []), (3, .invokevirtual 83, 0, []), (6, .aload_n 0, 0, []), (7, .iload_n 1, 0, []), (8, .iload_n 2, 0, []), (9, .invokevirtual 87, 0, []), (12, .isub, 0, []), (13, .istore_n 3, 0, []), (14, .iload_n 3, 0, []), (15, .ifCond .ge 7, 22, []), (18, .iconst 0, 0, []), (19, .goto 4, 23, []), (22, .iload_n 3, 0, []), (23, .ireturn, 0, [])]]
def m_X9_spare : mv_M := (4, false, 1, cd_X9_spare, lk_X9, [])
def cd_X9_highOf : List (List (Nat × mv_I)) := [[(0, .aload_n 0, 0, []), (1, .iload_n 1, 0, []), (2, .iload_n 2, 0, []), (3, .invokevirtual 90, 0, []), (6, .aload_n 0, 0, []), (7, .iload_n 1, 0, []), (8, .iconst 2, 0, []), (9, .invokevirtual 83, 0, []), (12, .if_icmp .ge 12, 24, []), (15, .aload_n 0, 0, []), (16, .iload_n 1, 0, []), (17, .iload_n 2, 0, []), (18, .invokevirtual 90, 0, []), (21, .goto 9, 30, []), (24, .aload_n 0, 0, []), (25, .iload_n 1, 0, []), (26, .iconst 2, 0, []), (27, .invokevirtual 83, 0, []), (30, .ireturn, 0, [])]]
def m_X9_highOf : mv_M := (3, false, 1, cd_X9_highOf, lk_X9, [])
def cd_X9_high : List (List (Nat × mv_I)) := [[(0, .aload_n 0, 0, []), (1, .iload_n 1, 0, []), (2, .iconst 0, 0, []), (3, .invokevirtual 93, 0, []), (6, .ireturn, 0, [])]]
def m_X9_high : mv_M := (2, false, 1, cd_X9_high, lk_X9, [])
def cd_X9_isTooHigh : List (List (Nat × mv_I)) := [[(0, .aload_n 0, 0, []), (1, .iload_n 1, 0, []), (2, .invokevirtual 96, 0, []), (5, .aload_n 0, 0, []), (6, .iload_n 1, 0, []), (7, .iconst 3, 0, []), (8, .invokevirtual 83, 0, []), (11, .if_icmp .le 7, 18, []), (14, .iconst 1, 0, []), (15, .goto 4, 19, []), (18, .iconst 0, 0, []), (19, .ireturn, 0, [])]]
def m_X9_isTooHigh : mv_M := (2, false, 6, cd_X9_isTooHigh, lk_X9, [])
def cd_X9_topOf : List (List (Nat × mv_I)) := [[(0, .bipush 10, 0, []), (2, .iload_n 1, 0, []), (3, .imul, 0, []), (4, .aload_n 0, 0, []), (5, .iload_n 1, 0, []), (6, .invokevirtual 96, 0, []), (9, .aload_n 0, 0, []), (10, .getfield 7, 0, []), (13, .bipush 116, 0, []), (15, .aload_n 0, 0, []), (16, .invokevirtual 99, 0, []), (19, .iadd, 0, []), (20, .iaload, 0, []), (21, .imul, 0, []), (22, .iadd, 0, []), (23, .ireturn, 0, [])]]
def m_X9_topOf : mv_M := (2, false, 1, cd_X9_topOf, lk_X9, [])
def cd_X9_bits : List (List (Nat × mv_I)) := [[(0, .iconst 0, 0, []), (1, .istore_n 1, 0, []), (2, .iconst 0, 0, []), (3, .istore_n 2, 0, []), (4, .iload_n 2, 0, []), (5, .bipush 6, 0, []), (7, .if_icmp .ge 17, 24, []), (10, .iload_n 1, 0, []), (11, .iload_n 0, 0, []), (12, .iload_n 2, 0, []), (13, .ishr, 0, []), (14, .iconst 1, 0, []), (15, .iand, 0, []), (16, .iadd, 0, []), (17, .istore_n 1, 0, []), (18, .iinc 2 1, 0, []), (21, .goto (-17), 4, []), (24, .iload_n 1, 0, []), (25, .ireturn, 0, [])]]
def m_X9_bits : mv_M := (3, false, 1, cd_X9_bits, lk_X9, [])
def cd_X9_isBetter : List (List (Nat × mv_I)) := [[(0, .iload_n 2, 0, []), (1, .invokestatic 103, 0, []), (4, .iload_n 3, 0, []), (5, .invokestatic 103, 0, []), (8, .if_icmp .eq 20, 28, []), (11, .iload_n 2, 0, []), (12, .invokestatic 103, 0, []), (15, .iload_n 3, 0, []), (16, .invokestatic 103, 0, []), (19, .if_icmp .ge 7, 26, []), (22, .iconst 1, 0, []), (23, .goto 4, 27, []), (26, .iconst 0, 0, []), (27, .ireturn, 0, []), (28, .aload_n 0, 0, []), (29, .iload_n 1, 0, []), (30, .iload_n 2, 0, []), (31, .invokevirtual 87, 0, [])],
  [(34, .aload_n 0, 0, []), (35, .iload_n 1, 0, []), (36, .iload_n 3, 0, []), (37, .invokevirtual 87, 0, []), (40, .isub, 0, []), (41, .istore 4, 0, []), (43, .iload 4, 0, []), (45, .ifCond .eq 14, 59, []), (48, .iload 4, 0, []), (50, .ifCond .le 7, 57, []), (53, .iconst 1, 0, []), (54, .goto 4, 58, []), (57, .iconst 0, 0, []), (58, .ireturn, 0, []), (59, .iconst 1, 0, []), (60, .istore 5, 0, []), (62, .iload_n 2, 0, []), (63, .iload_n 3, 0, [])],
  [(64, .ixor, 0, []), (65, .iload 5, 0, []), (67, .iand, 0, []), (68, .ifCond .ne 12, 80, []), (71, .iload 5, 0, []), (73, .iconst 2, 0, []), (74, .imul, 0, []), (75, .istore 5, 0, []), (77, .goto (-15), 62, []), (80, .iload_n 2, 0, []), (81, .iload 5, 0, []), (83, .iand, 0, []), (84, .ifCond .eq 7, 91, []), (87, .iconst 1, 0, []), (88, .goto 4, 92, []), (91, .iconst 0, 0, []), (92, .ireturn, 0, [])]]
def m_X9_isBetter : mv_M := (6, false, 6, cd_X9_isBetter, lk_X9, [])
def cd_X9_best : List (List (Nat × mv_I)) := [[(0, .iconst (-1), 0, []), (1, .istore_n 3, 0, []), (2, .iconst 0, 0, []), (3, .istore 4, 0, []), (5, .iload 4, 0, []), (7, .iconst 1, 0, []), (8, .aload_n 0, 0, []), (9, .iload_n 1, 0, []), (10, .iconst 4, 0, []), (11, .invokevirtual 83, 0, []), (14, .ishl, 0, []), (15, .if_icmp .ge 39, 54, []), (18, .aload_n 0, 0, []), (19, .iload_n 1, 0, []), (20, .iload 4, 0, []), (22, .invokevirtual 93, 0, []), (25, .iload_n 2, 0, []), (26, .if_icmp .lt 22, 48, []), (29, .iload_n 3, 0, []), (30, .iconst (-1), 0, []), (31, .if_icmp .eq 14, 45, [])],
  [(34, .aload_n 0, 0, []), (35, .iload_n 1, 0, []), (36, .iload 4, 0, []), (38, .iload_n 3, 0, []), (39, .invokevirtual 106, 0, []), (42, .ifCond .eq 6, 48, []), (45, .iload 4, 0, []), (47, .istore_n 3, 0, []), (48, .iinc 4 1, 0, []), (51, .goto (-46), 5, []), (54, .iload_n 3, 0, []), (55, .ireturn, 0, [])]]
def m_X9_best : mv_M := (5, false, 1, cd_X9_best, lk_X9, [])
def cd_X9_takesBag : List (List (Nat × mv_I)) := [[(0, .aload_n 0, 0, []), (1, .iload_n 1, 0, []), (2, .iconst 4, 0, []), (3, .invokevirtual 83, 0, []), (6, .iconst 1, 0, []), (7, .isub, 0, []), (8, .istore_n 3, 0, []), (9, .iload_n 2, 0, []), (10, .istore 4, 0, []), (12, .iload 4, 0, []), (14, .iload_n 3, 0, []), (15, .if_icmp .ge 29, 44, []), (18, .aload_n 0, 0, []), (19, .iload_n 1, 0, []), (20, .iconst 5, 0, []), (21, .iload 4, 0, []), (23, .iadd, 0, []), (24, .aload_n 0, 0, []), (25, .iload_n 1, 0, []), (26, .iconst 5, 0, []), (27, .iload 4, 0, []), (29, .iadd, 0, []), (30, .iconst 1, 0, []), (31, .iadd, 0, [])],
  [(32, .invokevirtual 83, 0, []), (35, .invokevirtual 109, 0, []), (38, .iinc 4 1, 0, []), (41, .goto (-29), 12, []), (44, .aload_n 0, 0, []), (45, .iload_n 1, 0, []), (46, .iconst 5, 0, []), (47, .iload_n 3, 0, []), (48, .iadd, 0, []), (49, .iconst 0, 0, []), (50, .invokevirtual 109, 0, []), (53, .aload_n 0, 0, []), (54, .iload_n 1, 0, []), (55, .iconst 4, 0, []), (56, .iload_n 3, 0, []), (57, .invokevirtual 109, 0, []), (60, .return_, 0, [])]]
def m_X9_takesBag : mv_M := (5, false, 0, cd_X9_takesBag, lk_X9, [])
def cd_X9_clears : List (List (Nat × mv_I)) := [[(0, .iconst 0, 0, []), (1, .istore_n 2, 0, []), (2, .iload_n 2, 0, []), (3, .bipush 11, 0, []), (5, .if_icmp .ge 16, 21, []), (8, .aload_n 0, 0, []), (9, .iload_n 1, 0, []), (10, .iload_n 2, 0, []), (11, .iconst 0, 0, []), (12, .invokevirtual 109, 0, []), (15, .iinc 2 1, 0, []), (18, .goto (-16), 2, []), (21, .return_, 0, [])]]
def m_X9_clears : mv_M := (3, false, 0, cd_X9_clears, lk_X9, [])
def cd_X9_waits : List (List (Nat × mv_I)) := [[(0, .aload_n 0, 0, []), (1, .getfield 34, 0, []), (4, .aload_n 0, 0, []), (5, .getfield 113, 0, []), (8, .iload_n 1, 0, []), (9, .iastore, 0, []), (10, .aload_n 0, 0, []), (11, .getfield 37, 0, []), (14, .iload_n 1, 0, []), (15, .iconst 1, 0, []), (16, .iastore, 0, []), (17, .aload_n 0, 0, []), (18, .dup, 0, []), (19, .getfield 113, 0, []), (22, .iconst 1, 0, []), (23, .iadd, 0, []), (24, .putfield 113, 0, []), (27, .return_, 0, [])]]
def m_X9_waits : mv_M := (2, false, 0, cd_X9_waits, lk_X9, [])
def cd_X9_shakes : List (List (Nat × mv_I)) := [[(0, .aload_n 0, 0, []), (1, .iload_n 1, 0, []), (2, .invokevirtual 116, 0, []), (5, .ifCond .ne 4, 9, []), (8, .return_, 0, []), (9, .aload_n 0, 0, []), (10, .iload_n 1, 0, []), (11, .iconst 4, 0, []), (12, .invokevirtual 83, 0, []), (15, .ifCond .le 40, 55, []), (18, .aload_n 0, 0, []), (19, .getfield 7, 0, []), (22, .iconst 4, 0, []), (23, .dup2, 0, []), (24, .iaload, 0, []), (25, .aload_n 0, 0, []), (26, .iload_n 1, 0, []), (27, .iconst 5, 0, []), (28, .aload_n 0, 0, []), (29, .iload_n 1, 0, []), (30, .iconst 4, 0, []), (31, .invokevirtual 83, 0, [])],
  [(34, .iadd, 0, []), (35, .iconst 1, 0, []), (36, .isub, 0, []), (37, .invokevirtual 83, 0, []), (40, .iadd, 0, []), (41, .iastore, 0, []), (42, .aload_n 0, 0, []), (43, .iload_n 1, 0, []), (44, .aload_n 0, 0, []), (45, .iload_n 1, 0, []), (46, .iconst 4, 0, []), (47, .invokevirtual 83, 0, []), (50, .iconst 1, 0, []), (51, .isub, 0, []), (52, .invokevirtual 119, 0, []), (55, .aload_n 0, 0, []), (56, .iload_n 1, 0, []), (57, .invokevirtual 123, 0, []), (60, .ifCond .eq 17, 77, []), (63, .aload_n 0, 0, [])],
  [(64, .getfield 37, 0, []), (67, .iload_n 1, 0, []), (68, .iaload, 0, []), (69, .ifCond .ne 8, 77, []), (72, .aload_n 0, 0, []), (73, .iload_n 1, 0, []), (74, .invokevirtual 126, 0, []), (77, .return_, 0, [])]]
def m_X9_shakes : mv_M := (2, false, 0, cd_X9_shakes, lk_X9, [])
def cd_X9_oneHour : List (List (Nat × mv_I)) := [[(0, .aload_n 0, 0, []), (1, .getfield 7, 0, []), (4, .iconst 0, 0, []), (5, .dup2, 0, []), (6, .iaload, 0, []), (7, .iconst 1, 0, []), (8, .iadd, 0, []), (9, .iastore, 0, []), (10, .aload_n 0, 0, []), (11, .invokevirtual 99, 0, []), (14, .bipush 6, 0, []), (16, .bipush 17, 0, []), (18, .invokestatic 75, 0, []), (21, .istore_n 1, 0, []), (22, .aload_n 0, 0, []), (23, .iconst 0, 0, []), (24, .putfield 113, 0, []), (27, .iconst 0, 0, []), (28, .istore_n 2, 0, []), (29, .iload_n 2, 0, []), (30, .bipush 10, 0, [])],
  [(32, .if_icmp .ge 72, 104, []), (35, .aload_n 0, 0, []), (36, .getfield 37, 0, []), (39, .iload_n 2, 0, []), (40, .iconst 0, 0, []), (41, .iastore, 0, []), (42, .aload_n 0, 0, []), (43, .iload_n 2, 0, []), (44, .iconst 0, 0, []), (45, .invokevirtual 83, 0, []), (48, .ifCond .ne 6, 54, []), (51, .goto 47, 98, []), (54, .aload_n 0, 0, []), (55, .iload_n 2, 0, []), (56, .iconst 1, 0, []), (57, .invokevirtual 83, 0, []), (60, .iload_n 1, 0, []), (61, .ifCond .eq 7, 68, [])],
  [(64, .iconst 1, 0, []), (65, .goto 4, 69, []), (68, .iconst (-1), 0, []), (69, .iadd, 0, []), (70, .istore_n 3, 0, []), (71, .aload_n 0, 0, []), (72, .iload_n 2, 0, []), (73, .iconst 1, 0, []), (74, .iload_n 3, 0, []), (75, .bipush 99, 0, []), (77, .if_icmp .le 8, 85, []), (80, .bipush 99, 0, []), (82, .goto 13, 95, []), (85, .iload_n 3, 0, []), (86, .iconst 1, 0, []), (87, .if_icmp .ge 7, 94, []), (90, .iconst 1, 0, []), (91, .goto 4, 95, []), (94, .iload_n 3, 0, []), (95, .invokevirtual 109, 0, [])],
  [(98, .iinc 2 1, 0, []), (101, .goto (-72), 29, []), (104, .iconst 0, 0, []), (105, .istore_n 2, 0, []), (106, .iload_n 2, 0, []), (107, .bipush 10, 0, []), (109, .if_icmp .ge 30, 139, []), (112, .aload_n 0, 0, []), (113, .iload_n 2, 0, []), (114, .invokevirtual 116, 0, []), (117, .ifCond .eq 16, 133, []), (120, .aload_n 0, 0, []), (121, .iload_n 2, 0, []), (122, .invokevirtual 123, 0, []), (125, .ifCond .eq 8, 133, [])],
  [(128, .aload_n 0, 0, []), (129, .iload_n 2, 0, []), (130, .invokevirtual 126, 0, []), (133, .iinc 2 1, 0, []), (136, .goto (-30), 106, []), (139, .iconst 0, 0, []), (140, .istore_n 2, 0, []), (141, .iload_n 2, 0, []), (142, .aload_n 0, 0, []), (143, .getfield 113, 0, []), (146, .if_icmp .ge 50, 196, []), (149, .aload_n 0, 0, []), (150, .getfield 34, 0, []), (153, .iload_n 2, 0, []), (154, .iaload, 0, []), (155, .istore_n 3, 0, []), (156, .aload_n 0, 0, []), (157, .getfield 7, 0, [])],
  [(160, .iconst 4, 0, []), (161, .dup2, 0, []), (162, .iaload, 0, []), (163, .aload_n 0, 0, []), (164, .iload_n 3, 0, []), (165, .iconst 0, 0, []), (166, .invokevirtual 87, 0, []), (169, .iadd, 0, []), (170, .iastore, 0, []), (171, .aload_n 0, 0, []), (172, .iload_n 3, 0, []), (173, .invokevirtual 130, 0, []), (176, .aload_n 0, 0, []), (177, .iload_n 3, 0, []), (178, .iconst 1, 0, []), (179, .isub, 0, []), (180, .invokevirtual 133, 0, []), (183, .aload_n 0, 0, []), (184, .iload_n 3, 0, []), (185, .iconst 1, 0, []), (186, .iadd, 0, []), (187, .invokevirtual 133, 0, []), (190, .iinc 2 1, 0, [])],
  [(193, .goto (-52), 141, []), (196, .aload_n 0, 0, []), (197, .getfield 7, 0, []), (200, .iconst 1, 0, []), (201, .dup2, 0, []), (202, .iaload, 0, []), (203, .iload_n 2, 0, []), (204, .iadd, 0, []), (205, .iastore, 0, []), (206, .iload_n 2, 0, []), (207, .ireturn, 0, [])]]
def m_X9_oneHour : mv_M := (4, false, 1, cd_X9_oneHour, lk_X9, [])
def cd_X9_moors : List (List (Nat × mv_I)) := [[(0, .iload_n 1, 0, []), (1, .invokestatic 79, 0, []), (4, .ifCond .eq 34, 38, []), (7, .iload_n 2, 0, []), (8, .iconst 1, 0, []), (9, .bipush 99, 0, []), (11, .invokestatic 75, 0, []), (14, .ifCond .eq 24, 38, []), (17, .iload_n 3, 0, []), (18, .iconst 1, 0, []), (19, .bipush 40, 0, []), (21, .invokestatic 75, 0, []), (24, .ifCond .eq 14, 38, []), (27, .iload 4, 0, []), (29, .iconst 1, 0, []), (30, .bipush 60, 0, [])],
  [(32, .invokestatic 75, 0, []), (35, .ifCond .ne 5, 40, []), (38, .iconst 1, 0, []), (39, .ireturn, 0, []), (40, .aload_n 0, 0, []), (41, .iload_n 1, 0, []), (42, .invokevirtual 116, 0, []), (45, .ifCond .eq 14, 59, []), (48, .aload_n 0, 0, []), (49, .iconst 2, 0, []), (50, .aload_n 0, 0, []), (51, .iload_n 1, 0, []), (52, .invokevirtual 96, 0, []), (55, .invokevirtual 136, 0, []), (58, .ireturn, 0, []), (59, .aload_n 0, 0, []), (60, .iload_n 1, 0, []), (61, .invokevirtual 130, 0, [])],
  [(64, .aload_n 0, 0, []), (65, .iload_n 1, 0, []), (66, .iconst 0, 0, []), (67, .iconst 1, 0, []), (68, .invokevirtual 109, 0, []), (71, .aload_n 0, 0, []), (72, .iload_n 1, 0, []), (73, .iconst 1, 0, []), (74, .iload_n 2, 0, []), (75, .invokevirtual 109, 0, []), (78, .aload_n 0, 0, []), (79, .iload_n 1, 0, []), (80, .iconst 2, 0, []), (81, .iload_n 3, 0, []), (82, .invokevirtual 109, 0, []), (85, .aload_n 0, 0, []), (86, .iload_n 1, 0, []), (87, .iconst 3, 0, []), (88, .iload 4, 0, []), (90, .invokevirtual 109, 0, []), (93, .aload_n 0, 0, []), (94, .aload_n 0, 0, []), (95, .iload_n 1, 0, [])],
  [(96, .invokevirtual 96, 0, []), (99, .invokevirtual 139, 0, []), (102, .ireturn, 0, [])]]
def m_X9_moors : mv_M := (5, false, 1, cd_X9_moors, lk_X9, [])
def cd_X9_casts : List (List (Nat × mv_I)) := [[(0, .aload_n 0, 0, []), (1, .iload_n 1, 0, []), (2, .invokevirtual 116, 0, []), (5, .ifCond .ne 5, 10, []), (8, .iconst 1, 0, []), (9, .ireturn, 0, []), (10, .aload_n 0, 0, []), (11, .iload_n 1, 0, []), (12, .iconst 0, 0, []), (13, .invokevirtual 87, 0, []), (16, .istore_n 2, 0, []), (17, .aload_n 0, 0, []), (18, .getfield 7, 0, []), (21, .iconst 3, 0, []), (22, .dup2, 0, []), (23, .iaload, 0, []), (24, .iload_n 2, 0, []), (25, .iadd, 0, []), (26, .iastore, 0, []), (27, .aload_n 0, 0, []), (28, .iload_n 1, 0, []), (29, .invokevirtual 130, 0, [])],
  [(32, .aload_n 0, 0, []), (33, .iload_n 2, 0, []), (34, .invokevirtual 139, 0, []), (37, .ireturn, 0, [])]]
def m_X9_casts : mv_M := (3, false, 1, cd_X9_casts, lk_X9, [])
def cd_X9_loads : List (List (Nat × mv_I)) := [[(0, .aload_n 0, 0, []), (1, .iload_n 1, 0, []), (2, .invokevirtual 116, 0, []), (5, .ifCond .ne 5, 10, []), (8, .iconst 1, 0, []), (9, .ireturn, 0, []), (10, .iload_n 2, 0, []), (11, .iconst 1, 0, []), (12, .bipush 20, 0, []), (14, .invokestatic 75, 0, []), (17, .ifCond .ne 5, 22, []), (20, .iconst 2, 0, []), (21, .ireturn, 0, []), (22, .aload_n 0, 0, []), (23, .iload_n 1, 0, []), (24, .iconst 4, 0, []), (25, .invokevirtual 83, 0, []), (28, .bipush 6, 0, []), (30, .if_icmp .ne 11, 41, [])],
  [(33, .aload_n 0, 0, []), (34, .iconst 1, 0, []), (35, .bipush 6, 0, []), (37, .invokevirtual 136, 0, []), (40, .ireturn, 0, []), (41, .aload_n 0, 0, []), (42, .iload_n 1, 0, []), (43, .iconst 5, 0, []), (44, .aload_n 0, 0, []), (45, .iload_n 1, 0, []), (46, .iconst 4, 0, []), (47, .invokevirtual 83, 0, []), (50, .iadd, 0, []), (51, .iload_n 2, 0, []), (52, .invokevirtual 109, 0, []), (55, .aload_n 0, 0, []), (56, .iload_n 1, 0, []), (57, .iconst 4, 0, []), (58, .aload_n 0, 0, []), (59, .iload_n 1, 0, []), (60, .iconst 4, 0, []), (61, .invokevirtual 83, 0, [])],
  [(64, .iconst 1, 0, []), (65, .iadd, 0, []), (66, .invokevirtual 109, 0, []), (69, .aload_n 0, 0, []), (70, .getfield 7, 0, []), (73, .iconst 2, 0, []), (74, .dup2, 0, []), (75, .iaload, 0, []), (76, .iload_n 2, 0, []), (77, .iadd, 0, []), (78, .iastore, 0, []), (79, .aload_n 0, 0, []), (80, .aload_n 0, 0, []), (81, .iload_n 1, 0, []), (82, .iconst 0, 0, []), (83, .invokevirtual 87, 0, []), (86, .invokevirtual 139, 0, []), (89, .ireturn, 0, [])]]
def m_X9_loads : mv_M := (3, false, 1, cd_X9_loads, lk_X9, [])
def cd_X9_drops : List (List (Nat × mv_I)) := [[(0, .aload_n 0, 0, []), (1, .iload_n 1, 0, []), (2, .invokevirtual 116, 0, []), (5, .ifCond .ne 5, 10, []), (8, .iconst 1, 0, []), (9, .ireturn, 0, []), (10, .iload_n 2, 0, []), (11, .iconst 0, 0, []), (12, .aload_n 0, 0, []), (13, .iload_n 1, 0, []), (14, .iconst 4, 0, []), (15, .invokevirtual 83, 0, []), (18, .iconst 1, 0, []), (19, .isub, 0, []), (20, .invokestatic 75, 0, []), (23, .ifCond .ne 5, 28, []), (26, .iconst 2, 0, []), (27, .ireturn, 0, []), (28, .aload_n 0, 0, []), (29, .iload_n 1, 0, []), (30, .iconst 5, 0, []), (31, .iload_n 2, 0, [])],
  [(32, .iadd, 0, []), (33, .invokevirtual 83, 0, []), (36, .istore_n 3, 0, []), (37, .aload_n 0, 0, []), (38, .iload_n 1, 0, []), (39, .iload_n 2, 0, []), (40, .invokevirtual 119, 0, []), (43, .aload_n 0, 0, []), (44, .getfield 7, 0, []), (47, .iconst 3, 0, []), (48, .dup2, 0, []), (49, .iaload, 0, []), (50, .iload_n 3, 0, []), (51, .iadd, 0, []), (52, .iastore, 0, []), (53, .aload_n 0, 0, []), (54, .iload_n 3, 0, []), (55, .invokevirtual 139, 0, []), (58, .ireturn, 0, [])]]
def m_X9_drops : mv_M := (4, false, 1, cd_X9_drops, lk_X9, [])
def cd_X9_rises : List (List (Nat × mv_I)) := [[(0, .aload_n 0, 0, []), (1, .iload_n 1, 0, []), (2, .invokevirtual 116, 0, []), (5, .ifCond .ne 5, 10, []), (8, .iconst 1, 0, []), (9, .ireturn, 0, []), (10, .iload_n 2, 0, []), (11, .iconst 1, 0, []), (12, .bipush 40, 0, []), (14, .invokestatic 75, 0, []), (17, .ifCond .ne 5, 22, []), (20, .iconst 2, 0, []), (21, .ireturn, 0, []), (22, .aload_n 0, 0, []), (23, .iload_n 1, 0, []), (24, .invokevirtual 96, 0, []), (27, .iload_n 2, 0, []), (28, .if_icmp .lt 14, 42, []), (31, .aload_n 0, 0, [])],
  [(32, .iconst 4, 0, []), (33, .aload_n 0, 0, []), (34, .iload_n 1, 0, []), (35, .invokevirtual 96, 0, []), (38, .invokevirtual 136, 0, []), (41, .ireturn, 0, []), (42, .aload_n 0, 0, []), (43, .iload_n 1, 0, []), (44, .iload_n 2, 0, []), (45, .invokevirtual 142, 0, []), (48, .istore_n 3, 0, []), (49, .iload_n 3, 0, []), (50, .iconst (-1), 0, []), (51, .if_icmp .ne 16, 67, []), (54, .aload_n 0, 0, []), (55, .iconst 3, 0, []), (56, .aload_n 0, 0, []), (57, .iload_n 1, 0, []), (58, .bipush 63, 0, []), (60, .invokevirtual 93, 0, []), (63, .invokevirtual 136, 0, [])],
  [(66, .ireturn, 0, []), (67, .iconst 5, 0, []), (68, .istore 4, 0, []), (70, .iload 4, 0, []), (72, .ifCond .lt 46, 118, []), (75, .iload_n 3, 0, []), (76, .iload 4, 0, []), (78, .ishr, 0, []), (79, .iconst 1, 0, []), (80, .iand, 0, []), (81, .ifCond .ne 6, 87, []), (84, .goto 28, 112, []), (87, .aload_n 0, 0, []), (88, .getfield 7, 0, []), (91, .iconst 3, 0, []), (92, .dup2, 0, []), (93, .iaload, 0, []), (94, .aload_n 0, 0, []), (95, .iload_n 1, 0, [])],
  [(96, .iconst 5, 0, []), (97, .iload 4, 0, []), (99, .iadd, 0, []), (100, .invokevirtual 83, 0, []), (103, .iadd, 0, []), (104, .iastore, 0, []), (105, .aload_n 0, 0, []), (106, .iload_n 1, 0, []), (107, .iload 4, 0, []), (109, .invokevirtual 119, 0, []), (112, .iinc 4 (-1), 0, []), (115, .goto (-45), 70, []), (118, .aload_n 0, 0, []), (119, .iload_n 3, 0, []), (120, .invokestatic 103, 0, []), (123, .invokevirtual 139, 0, []), (126, .ireturn, 0, [])]]
def m_X9_rises : mv_M := (5, false, 1, cd_X9_rises, lk_X9, [])
def cd_X9_blows : List (List (Nat × mv_I)) := [[(0, .iload_n 1, 0, []), (1, .invokestatic 145, 0, []), (4, .ifCond .eq 14, 18, []), (7, .iload_n 2, 0, []), (8, .bipush (-9), 0, []), (10, .bipush 9, 0, []), (12, .invokestatic 75, 0, []), (15, .ifCond .ne 5, 20, []), (18, .iconst 1, 0, []), (19, .ireturn, 0, []), (20, .aload_n 0, 0, []), (21, .getfield 7, 0, []), (24, .bipush 116, 0, []), (26, .iload_n 1, 0, []), (27, .iadd, 0, []), (28, .iaload, 0, []), (29, .istore_n 3, 0, []), (30, .iload_n 3, 0, []), (31, .iload_n 2, 0, [])],
  [(32, .if_icmp .ne 10, 42, []), (35, .aload_n 0, 0, []), (36, .iconst 5, 0, []), (37, .iload_n 2, 0, []), (38, .invokevirtual 136, 0, []), (41, .ireturn, 0, []), (42, .aload_n 0, 0, []), (43, .getfield 7, 0, []), (46, .bipush 116, 0, []), (48, .iload_n 1, 0, []), (49, .iadd, 0, []), (50, .iload_n 2, 0, []), (51, .iastore, 0, []), (52, .aload_n 0, 0, []), (53, .iload_n 3, 0, []), (54, .invokevirtual 139, 0, []), (57, .ireturn, 0, [])]]
def m_X9_blows : mv_M := (4, false, 1, cd_X9_blows, lk_X9, [])
def cd_X9_passes : List (List (Nat × mv_I)) := [[(0, .iload_n 1, 0, []), (1, .iconst 1, 0, []), (2, .bipush 48, 0, []), (4, .invokestatic 75, 0, []), (7, .ifCond .ne 5, 12, []), (10, .iconst 1, 0, []), (11, .ireturn, 0, []), (12, .iconst 0, 0, []), (13, .istore_n 2, 0, []), (14, .iconst 0, 0, []), (15, .istore_n 3, 0, []), (16, .iload_n 3, 0, []), (17, .iload_n 1, 0, []), (18, .if_icmp .ge 16, 34, []), (21, .iload_n 2, 0, []), (22, .aload_n 0, 0, []), (23, .invokevirtual 148, 0, []), (26, .iadd, 0, []), (27, .istore_n 2, 0, []), (28, .iinc 3 1, 0, []), (31, .goto (-15), 16, [])],
  [(34, .aload_n 0, 0, []), (35, .iload_n 2, 0, []), (36, .invokevirtual 139, 0, []), (39, .ireturn, 0, [])]]
def m_X9_passes : mv_M := (4, false, 1, cd_X9_passes, lk_X9, [])
def cd_X9_joins : List (List (Nat × mv_I)) := [[(0, .iload_n 1, 0, []), (1, .iconst 1, 0, []), (2, .bipush 30, 0, []), (4, .invokestatic 75, 0, []), (7, .ifCond .eq 17, 24, []), (10, .iload_n 2, 0, []), (11, .invokestatic 145, 0, []), (14, .ifCond .eq 10, 24, []), (17, .iload_n 3, 0, []), (18, .invokestatic 145, 0, []), (21, .ifCond .ne 5, 26, []), (24, .iconst 1, 0, []), (25, .ireturn, 0, []), (26, .aload_n 0, 0, []), (27, .getfield 7, 0, []), (30, .iconst 5, 0, []), (31, .iaload, 0, [])],
  [(32, .istore 4, 0, []), (34, .iload 4, 0, []), (36, .bipush 6, 0, []), (38, .if_icmp .ne 11, 49, []), (41, .aload_n 0, 0, []), (42, .iconst 1, 0, []), (43, .bipush 6, 0, []), (45, .invokevirtual 136, 0, []), (48, .ireturn, 0, []), (49, .aload_n 0, 0, []), (50, .getfield 7, 0, []), (53, .sipush 140, 0, []), (56, .iconst 3, 0, []), (57, .iload 4, 0, []), (59, .imul, 0, []), (60, .iadd, 0, []), (61, .iconst 0, 0, []), (62, .iadd, 0, []), (63, .iload_n 1, 0, [])],
  [(64, .iastore, 0, []), (65, .aload_n 0, 0, []), (66, .getfield 7, 0, []), (69, .sipush 140, 0, []), (72, .iconst 3, 0, []), (73, .iload 4, 0, []), (75, .imul, 0, []), (76, .iadd, 0, []), (77, .iconst 1, 0, []), (78, .iadd, 0, []), (79, .iload_n 2, 0, []), (80, .iastore, 0, []), (81, .aload_n 0, 0, []), (82, .getfield 7, 0, []), (85, .sipush 140, 0, []), (88, .iconst 3, 0, []), (89, .iload 4, 0, []), (91, .imul, 0, []), (92, .iadd, 0, []), (93, .iconst 2, 0, []), (94, .iadd, 0, []), (95, .iload_n 3, 0, [])],
  [(96, .iastore, 0, []), (97, .aload_n 0, 0, []), (98, .getfield 7, 0, []), (101, .iconst 5, 0, []), (102, .iload 4, 0, []), (104, .iconst 1, 0, []), (105, .iadd, 0, []), (106, .iastore, 0, []), (107, .aload_n 0, 0, []), (108, .iload 4, 0, []), (110, .invokevirtual 139, 0, []), (113, .ireturn, 0, [])]]
def m_X9_joins : mv_M := (5, false, 1, cd_X9_joins, lk_X9, [])
def cd_X9_leaves : List (List (Nat × mv_I)) := [[(0, .aload_n 0, 0, []), (1, .iload_n 1, 0, []), (2, .invokevirtual 151, 0, []), (5, .ifCond .ne 5, 10, []), (8, .iconst 1, 0, []), (9, .ireturn, 0, []), (10, .aload_n 0, 0, []), (11, .getfield 7, 0, []), (14, .iconst 5, 0, []), (15, .iaload, 0, []), (16, .iconst 1, 0, []), (17, .isub, 0, []), (18, .istore_n 2, 0, []), (19, .iconst 3, 0, []), (20, .iload_n 1, 0, []), (21, .imul, 0, []), (22, .istore_n 3, 0, []), (23, .iload_n 3, 0, []), (24, .iconst 3, 0, []), (25, .iload_n 2, 0, []), (26, .imul, 0, []), (27, .if_icmp .ge 31, 58, []), (30, .aload_n 0, 0, []), (31, .getfield 7, 0, [])],
  [(34, .sipush 140, 0, []), (37, .iload_n 3, 0, []), (38, .iadd, 0, []), (39, .aload_n 0, 0, []), (40, .getfield 7, 0, []), (43, .sipush 140, 0, []), (46, .iload_n 3, 0, []), (47, .iadd, 0, []), (48, .iconst 3, 0, []), (49, .iadd, 0, []), (50, .iaload, 0, []), (51, .iastore, 0, []), (52, .iinc 3 1, 0, []), (55, .goto (-32), 23, []), (58, .iconst 0, 0, []), (59, .istore_n 3, 0, []), (60, .iload_n 3, 0, []), (61, .iconst 3, 0, []), (62, .if_icmp .ge 24, 86, [])],
  [(65, .aload_n 0, 0, []), (66, .getfield 7, 0, []), (69, .sipush 140, 0, []), (72, .iconst 3, 0, []), (73, .iload_n 2, 0, []), (74, .imul, 0, []), (75, .iadd, 0, []), (76, .iload_n 3, 0, []), (77, .iadd, 0, []), (78, .iconst 0, 0, []), (79, .iastore, 0, []), (80, .iinc 3 1, 0, []), (83, .goto (-23), 60, []), (86, .aload_n 0, 0, []), (87, .getfield 7, 0, []), (90, .iconst 5, 0, []), (91, .iload_n 2, 0, []), (92, .iastore, 0, []), (93, .aload_n 0, 0, []), (94, .iload_n 2, 0, []), (95, .invokevirtual 139, 0, [])],
  [(98, .ireturn, 0, [])]]
def m_X9_leaves : mv_M := (4, false, 1, cd_X9_leaves, lk_X9, [])
def cd_X9_moor : List (List (Nat × mv_I)) := [[(0, .aload_n 0, 0, []), (1, .invokevirtual 154, 0, []), (4, .aload_n 0, 0, []), (5, .aload_n 0, 0, []), (6, .iload_n 1, 0, []), (7, .iload_n 2, 0, []), (8, .iload_n 3, 0, []), (9, .iload 4, 0, []), (11, .invokevirtual 157, 0, []), (14, .iconst 2, 0, []), (15, .invokevirtual 161, 0, []), (18, .ireturn, 0, [])]]
def m_X9_moor : mv_M := (5, false, 1, cd_X9_moor, lk_X9, [])
def cd_X9_castOff : List (List (Nat × mv_I)) := [[(0, .aload_n 0, 0, []), (1, .invokevirtual 154, 0, []), (4, .aload_n 0, 0, []), (5, .aload_n 0, 0, []), (6, .iload_n 1, 0, []), (7, .invokevirtual 164, 0, []), (10, .iconst 1, 0, []), (11, .invokevirtual 161, 0, []), (14, .ireturn, 0, [])]]
def m_X9_castOff : mv_M := (2, false, 1, cd_X9_castOff, lk_X9, [])
def cd_X9_load : List (List (Nat × mv_I)) := [[(0, .aload_n 0, 0, []), (1, .invokevirtual 154, 0, []), (4, .aload_n 0, 0, []), (5, .aload_n 0, 0, []), (6, .iload_n 1, 0, []), (7, .iload_n 2, 0, []), (8, .invokevirtual 167, 0, []), (11, .iconst 3, 0, []), (12, .invokevirtual 161, 0, []), (15, .ireturn, 0, [])]]
def m_X9_load : mv_M := (3, false, 1, cd_X9_load, lk_X9, [])
def cd_X9_drop : List (List (Nat × mv_I)) := [[(0, .aload_n 0, 0, []), (1, .invokevirtual 154, 0, []), (4, .aload_n 0, 0, []), (5, .aload_n 0, 0, []), (6, .iload_n 1, 0, []), (7, .iload_n 2, 0, []), (8, .invokevirtual 170, 0, []), (11, .iconst 2, 0, []), (12, .invokevirtual 161, 0, []), (15, .ireturn, 0, [])]]
def m_X9_drop : mv_M := (3, false, 1, cd_X9_drop, lk_X9, [])
def cd_X9_rise : List (List (Nat × mv_I)) := [[(0, .aload_n 0, 0, []), (1, .invokevirtual 154, 0, []), (4, .aload_n 0, 0, []), (5, .aload_n 0, 0, []), (6, .iload_n 1, 0, []), (7, .iload_n 2, 0, []), (8, .invokevirtual 173, 0, []), (11, .iconst 3, 0, []), (12, .invokevirtual 161, 0, []), (15, .ireturn, 0, [])]]
def m_X9_rise : mv_M := (3, false, 1, cd_X9_rise, lk_X9, [])
def cd_X9_setWind : List (List (Nat × mv_I)) := [[(0, .aload_n 0, 0, []), (1, .invokevirtual 154, 0, []), (4, .aload_n 0, 0, []), (5, .aload_n 0, 0, []), (6, .iload_n 1, 0, []), (7, .iload_n 2, 0, []), (8, .invokevirtual 176, 0, []), (11, .iconst 2, 0, []), (12, .invokevirtual 161, 0, []), (15, .ireturn, 0, [])]]
def m_X9_setWind : mv_M := (3, false, 1, cd_X9_setWind, lk_X9, [])
def cd_X9_addPilot : List (List (Nat × mv_I)) := [[(0, .aload_n 0, 0, []), (1, .invokevirtual 154, 0, []), (4, .aload_n 0, 0, []), (5, .aload_n 0, 0, []), (6, .iload_n 1, 0, []), (7, .iload_n 2, 0, []), (8, .iload_n 3, 0, []), (9, .invokevirtual 179, 0, []), (12, .iconst 2, 0, []), (13, .invokevirtual 161, 0, []), (16, .ireturn, 0, [])]]
def m_X9_addPilot : mv_M := (4, false, 1, cd_X9_addPilot, lk_X9, [])
def cd_X9_removePilot : List (List (Nat × mv_I)) := [[(0, .aload_n 0, 0, []), (1, .invokevirtual 154, 0, []), (4, .aload_n 0, 0, []), (5, .aload_n 0, 0, []), (6, .iload_n 1, 0, []), (7, .invokevirtual 183, 0, []), (10, .iconst 1, 0, []), (11, .invokevirtual 161, 0, []), (14, .ireturn, 0, [])]]
def m_X9_removePilot : mv_M := (2, false, 1, cd_X9_removePilot, lk_X9, [])
def cd_X9_pass : List (List (Nat × mv_I)) := [[(0, .aload_n 0, 0, []), (1, .invokevirtual 154, 0, []), (4, .aload_n 0, 0, []), (5, .aload_n 0, 0, []), (6, .iload_n 1, 0, []), (7, .invokevirtual 186, 0, []), (10, .iconst 1, 0, []), (11, .invokevirtual 161, 0, []), (14, .ireturn, 0, [])]]
def m_X9_pass : mv_M := (2, false, 1, cd_X9_pass, lk_X9, [])
def cd_X9_balloonCount : List (List (Nat × mv_I)) := [[(0, .aload_n 0, 0, []), (1, .iconst 0, 0, []), (2, .putfield 50, 0, []), (5, .iconst 0, 0, []), (6, .istore_n 1, 0, []), (7, .iconst 0, 0, []), (8, .istore_n 2, 0, []), (9, .iload_n 2, 0, []), (10, .bipush 10, 0, []), (12, .if_icmp .ge 18, 30, []), (15, .iload_n 1, 0, []), (16, .aload_n 0, 0, []), (17, .iload_n 2, 0, []), (18, .iconst 0, 0, []), (19, .invokevirtual 83, 0, []), (22, .iadd, 0, []), (23, .istore_n 1, 0, []), (24, .iinc 2 1, 0, []), (27, .goto (-18), 9, []), (30, .iload_n 1, 0, []), (31, .ireturn, 0, [])]]
def m_X9_balloonCount : mv_M := (3, false, 1, cd_X9_balloonCount, lk_X9, [])
def cd_X9_isMoored : List (List (Nat × mv_I)) := [[(0, .aload_n 0, 0, []), (1, .iload_n 1, 0, []), (2, .invokestatic 79, 0, []), (5, .ifCond .eq 7, 12, []), (8, .iconst 0, 0, []), (9, .goto 4, 13, []), (12, .iconst 1, 0, []), (13, .putfield 50, 0, []), (16, .aload_n 0, 0, []), (17, .iload_n 1, 0, []), (18, .invokevirtual 116, 0, []), (21, .ireturn, 0, [])]]
def m_X9_isMoored : mv_M := (2, false, 6, cd_X9_isMoored, lk_X9, [])
def cd_X9_isAsked : List (List (Nat × mv_I)) := [[(0, .aload_n 0, 0, []), (1, .aload_n 0, 0, []), (2, .iload_n 1, 0, []), (3, .invokevirtual 116, 0, []), (6, .ifCond .eq 7, 13, []), (9, .iconst 0, 0, []), (10, .goto 4, 14, []), (13, .iconst 1, 0, []), (14, .putfield 50, 0, []), (17, .aload_n 0, 0, []), (18, .getfield 50, 0, []), (21, .ifCond .ne 7, 28, []), (24, .iconst 1, 0, []), (25, .goto 4, 29, []), (28, .iconst 0, 0, []), (29, .ireturn, 0, [])]]
def m_X9_isAsked : mv_M := (2, false, 6, cd_X9_isAsked, lk_X9, [])
def cd_X9_lift : List (List (Nat × mv_I)) := [[(0, .aload_n 0, 0, []), (1, .iload_n 1, 0, []), (2, .invokevirtual 189, 0, []), (5, .ifCond .eq 12, 17, []), (8, .aload_n 0, 0, []), (9, .iload_n 1, 0, []), (10, .iconst 1, 0, []), (11, .invokevirtual 83, 0, []), (14, .goto 4, 18, []), (17, .iconst 0, 0, []), (18, .ireturn, 0, [])]]
def m_X9_lift : mv_M := (2, false, 1, cd_X9_lift, lk_X9, [])
def cd_X9_ballast : List (List (Nat × mv_I)) := [[(0, .aload_n 0, 0, []), (1, .iload_n 1, 0, []), (2, .invokevirtual 189, 0, []), (5, .ifCond .eq 12, 17, []), (8, .aload_n 0, 0, []), (9, .iload_n 1, 0, []), (10, .iconst 0, 0, []), (11, .invokevirtual 87, 0, []), (14, .goto 4, 18, []), (17, .iconst 0, 0, []), (18, .ireturn, 0, [])]]
def m_X9_ballast : mv_M := (2, false, 1, cd_X9_ballast, lk_X9, [])
def cd_X9_height : List (List (Nat × mv_I)) := [[(0, .aload_n 0, 0, []), (1, .iload_n 1, 0, []), (2, .invokevirtual 189, 0, []), (5, .ifCond .eq 11, 16, []), (8, .aload_n 0, 0, []), (9, .iload_n 1, 0, []), (10, .invokevirtual 96, 0, []), (13, .goto 4, 17, []), (16, .iconst 0, 0, []), (17, .ireturn, 0, [])]]
def m_X9_height : mv_M := (2, false, 1, cd_X9_height, lk_X9, [])
def cd_X9_isBursting : List (List (Nat × mv_I)) := [[(0, .aload_n 0, 0, []), (1, .iload_n 1, 0, []), (2, .invokevirtual 189, 0, []), (5, .ifCond .eq 15, 20, []), (8, .aload_n 0, 0, []), (9, .iload_n 1, 0, []), (10, .invokevirtual 123, 0, []), (13, .ifCond .eq 7, 20, []), (16, .iconst 1, 0, []), (17, .goto 4, 21, []), (20, .iconst 0, 0, []), (21, .ireturn, 0, [])]]
def m_X9_isBursting : mv_M := (2, false, 6, cd_X9_isBursting, lk_X9, [])
def cd_X9_isAhead : List (List (Nat × mv_I)) := [[(0, .aload_n 0, 0, []), (1, .iload_n 1, 0, []), (2, .invokevirtual 96, 0, []), (5, .aload_n 0, 0, []), (6, .iload_n 2, 0, []), (7, .invokevirtual 96, 0, []), (10, .if_icmp .eq 22, 32, []), (13, .aload_n 0, 0, []), (14, .iload_n 1, 0, []), (15, .invokevirtual 96, 0, []), (18, .aload_n 0, 0, []), (19, .iload_n 2, 0, []), (20, .invokevirtual 96, 0, []), (23, .if_icmp .le 7, 30, []), (26, .iconst 1, 0, []), (27, .goto 4, 31, []), (30, .iconst 0, 0, []), (31, .ireturn, 0, [])],
  [(32, .aload_n 0, 0, []), (33, .iload_n 1, 0, []), (34, .iconst 0, 0, []), (35, .invokevirtual 87, 0, []), (38, .aload_n 0, 0, []), (39, .iload_n 2, 0, []), (40, .iconst 0, 0, []), (41, .invokevirtual 87, 0, []), (44, .isub, 0, []), (45, .istore_n 3, 0, []), (46, .iload_n 3, 0, []), (47, .ifCond .ne 16, 63, []), (50, .iload_n 1, 0, []), (51, .iload_n 2, 0, []), (52, .if_icmp .ge 7, 59, []), (55, .iconst 1, 0, []), (56, .goto 16, 72, []), (59, .iconst 0, 0, []), (60, .goto 12, 72, []), (63, .iload_n 3, 0, [])],
  [(64, .ifCond .le 7, 71, []), (67, .iconst 1, 0, []), (68, .goto 4, 72, []), (71, .iconst 0, 0, []), (72, .ireturn, 0, [])]]
def m_X9_isAhead : mv_M := (4, false, 6, cd_X9_isAhead, lk_X9, [])
def cd_X9_berthByHeight : List (List (Nat × mv_I)) := [[(0, .aload_n 0, 0, []), (1, .iconst 0, 0, []), (2, .putfield 50, 0, []), (5, .iconst 0, 0, []), (6, .istore_n 2, 0, []), (7, .iload_n 2, 0, []), (8, .bipush 10, 0, []), (10, .if_icmp .ge 83, 93, []), (13, .iconst 0, 0, []), (14, .istore_n 3, 0, []), (15, .iconst 0, 0, []), (16, .istore 4, 0, []), (18, .iload 4, 0, []), (20, .bipush 10, 0, []), (22, .if_icmp .ge 50, 72, []), (25, .aload_n 0, 0, []), (26, .iload_n 2, 0, []), (27, .invokevirtual 116, 0, []), (30, .ifCond .eq 42, 72, [])],
  [(33, .iload_n 3, 0, []), (34, .iload 4, 0, []), (36, .iload_n 2, 0, []), (37, .if_icmp .eq 26, 63, []), (40, .aload_n 0, 0, []), (41, .iload 4, 0, []), (43, .invokevirtual 116, 0, []), (46, .ifCond .eq 17, 63, []), (49, .aload_n 0, 0, []), (50, .iload 4, 0, []), (52, .iload_n 2, 0, []), (53, .invokevirtual 192, 0, []), (56, .ifCond .eq 7, 63, []), (59, .iconst 1, 0, []), (60, .goto 4, 64, []), (63, .iconst 0, 0, [])],
  [(64, .iadd, 0, []), (65, .istore_n 3, 0, []), (66, .iinc 4 1, 0, []), (69, .goto (-51), 18, []), (72, .aload_n 0, 0, []), (73, .iload_n 2, 0, []), (74, .invokevirtual 116, 0, []), (77, .ifCond .eq 10, 87, []), (80, .iload_n 3, 0, []), (81, .iload_n 1, 0, []), (82, .if_icmp .ne 5, 87, []), (85, .iload_n 2, 0, []), (86, .ireturn, 0, []), (87, .iinc 2 1, 0, []), (90, .goto (-83), 7, []), (93, .aload_n 0, 0, []), (94, .iconst 1, 0, []), (95, .invokevirtual 72, 0, [])],
  [(98, .ireturn, 0, [])]]
def m_X9_berthByHeight : mv_M := (5, false, 1, cd_X9_berthByHeight, lk_X9, [])
def cd_X9_bagCount : List (List (Nat × mv_I)) := [[(0, .aload_n 0, 0, []), (1, .iload_n 1, 0, []), (2, .invokevirtual 189, 0, []), (5, .ifCond .eq 12, 17, []), (8, .aload_n 0, 0, []), (9, .iload_n 1, 0, []), (10, .iconst 4, 0, []), (11, .invokevirtual 83, 0, []), (14, .goto 4, 18, []), (17, .iconst 0, 0, []), (18, .ireturn, 0, [])]]
def m_X9_bagCount : mv_M := (2, false, 1, cd_X9_bagCount, lk_X9, [])
def cd_X9_bagWeight : List (List (Nat × mv_I)) := [[(0, .aload_n 0, 0, []), (1, .aload_n 0, 0, []), (2, .iload_n 1, 0, []), (3, .invokevirtual 116, 0, []), (6, .ifCond .ne 7, 13, []), (9, .iconst 1, 0, []), (10, .goto 24, 34, []), (13, .iload_n 2, 0, []), (14, .iconst 0, 0, []), (15, .aload_n 0, 0, []), (16, .iload_n 1, 0, []), (17, .iconst 4, 0, []), (18, .invokevirtual 83, 0, []), (21, .iconst 1, 0, []), (22, .isub, 0, []), (23, .invokestatic 75, 0, []), (26, .ifCond .eq 7, 33, []), (29, .iconst 0, 0, []), (30, .goto 4, 34, [])],
  [(33, .iconst 2, 0, []), (34, .putfield 50, 0, []), (37, .aload_n 0, 0, []), (38, .getfield 50, 0, []), (41, .ifCond .le 7, 48, []), (44, .iconst 0, 0, []), (45, .goto 11, 56, []), (48, .aload_n 0, 0, []), (49, .iload_n 1, 0, []), (50, .iconst 5, 0, []), (51, .iload_n 2, 0, []), (52, .iadd, 0, []), (53, .invokevirtual 83, 0, []), (56, .ireturn, 0, [])]]
def m_X9_bagWeight : mv_M := (3, false, 1, cd_X9_bagWeight, lk_X9, [])
def cd_X9_asked : List (List (Nat × mv_I)) := [[(0, .aload_n 0, 0, []), (1, .iload_n 1, 0, []), (2, .invokevirtual 116, 0, []), (5, .ifCond .eq 12, 17, []), (8, .aload_n 0, 0, []), (9, .iload_n 1, 0, []), (10, .iload_n 2, 0, []), (11, .invokevirtual 142, 0, []), (14, .goto 4, 18, []), (17, .iconst (-1), 0, []), (18, .istore_n 3, 0, []), (19, .aload_n 0, 0, []), (20, .iload_n 2, 0, []), (21, .iconst 1, 0, []), (22, .bipush 40, 0, []), (24, .invokestatic 75, 0, []), (27, .ifCond .ne 7, 34, []), (30, .iconst 1, 0, []), (31, .goto 13, 44, [])],
  [(34, .iload_n 3, 0, []), (35, .iconst (-1), 0, []), (36, .if_icmp .ne 7, 43, []), (39, .iconst 2, 0, []), (40, .goto 4, 44, []), (43, .iconst 0, 0, []), (44, .putfield 50, 0, []), (47, .aload_n 0, 0, []), (48, .getfield 50, 0, []), (51, .ifCond .le 7, 58, []), (54, .iconst 0, 0, []), (55, .goto 4, 59, []), (58, .iload_n 3, 0, []), (59, .ireturn, 0, [])]]
def m_X9_asked : mv_M := (4, false, 1, cd_X9_asked, lk_X9, [])
def cd_X9_fewestDrops : List (List (Nat × mv_I)) := [[(0, .aload_n 0, 0, []), (1, .iload_n 1, 0, []), (2, .iload_n 2, 0, []), (3, .invokevirtual 196, 0, []), (6, .invokestatic 103, 0, []), (9, .ireturn, 0, [])]]
def m_X9_fewestDrops : mv_M := (3, false, 1, cd_X9_fewestDrops, lk_X9, [])
def cd_X9_fewestDropsBySets : List (List (Nat × mv_I)) := [[(0, .aload_n 0, 0, []), (1, .iload_n 1, 0, []), (2, .iload_n 2, 0, []), (3, .invokevirtual 199, 0, []), (6, .ireturn, 0, [])]]
def m_X9_fewestDropsBySets : mv_M := (3, false, 1, cd_X9_fewestDropsBySets, lk_X9, [])
def cd_X9_dropWeight : List (List (Nat × mv_I)) := [[(0, .aload_n 0, 0, []), (1, .iload_n 1, 0, []), (2, .iload_n 2, 0, []), (3, .invokevirtual 196, 0, []), (6, .istore_n 3, 0, []), (7, .aload_n 0, 0, []), (8, .getfield 50, 0, []), (11, .ifCond .le 7, 18, []), (14, .iconst 0, 0, []), (15, .goto 16, 31, []), (18, .aload_n 0, 0, []), (19, .iload_n 1, 0, []), (20, .iconst 0, 0, []), (21, .invokevirtual 87, 0, []), (24, .aload_n 0, 0, []), (25, .iload_n 1, 0, []), (26, .iload_n 3, 0, []), (27, .invokevirtual 87, 0, []), (30, .isub, 0, []), (31, .ireturn, 0, [])]]
def m_X9_dropWeight : mv_M := (4, false, 1, cd_X9_dropWeight, lk_X9, [])
def cd_X9_wind : List (List (Nat × mv_I)) := [[(0, .aload_n 0, 0, []), (1, .iload_n 1, 0, []), (2, .invokestatic 145, 0, []), (5, .ifCond .eq 7, 12, []), (8, .iconst 0, 0, []), (9, .goto 4, 13, []), (12, .iconst 1, 0, []), (13, .putfield 50, 0, []), (16, .aload_n 0, 0, []), (17, .getfield 50, 0, []), (20, .ifCond .le 7, 27, []), (23, .iconst 0, 0, []), (24, .goto 12, 36, []), (27, .aload_n 0, 0, []), (28, .getfield 7, 0, []), (31, .bipush 116, 0, [])],
  [(33, .iload_n 1, 0, []), (34, .iadd, 0, []), (35, .iaload, 0, []), (36, .ireturn, 0, [])]]
def m_X9_wind : mv_M := (2, false, 1, cd_X9_wind, lk_X9, [])
def cd_X9_top : List (List (Nat × mv_I)) := [[(0, .aload_n 0, 0, []), (1, .iload_n 1, 0, []), (2, .invokevirtual 189, 0, []), (5, .ifCond .eq 11, 16, []), (8, .aload_n 0, 0, []), (9, .iload_n 1, 0, []), (10, .invokevirtual 202, 0, []), (13, .goto 4, 17, []), (16, .iconst 0, 0, []), (17, .ireturn, 0, [])]]
def m_X9_top : mv_M := (2, false, 1, cd_X9_top, lk_X9, [])
def cd_X9_tangles : List (List (Nat × mv_I)) := [[(0, .aload_n 0, 0, []), (1, .iconst 0, 0, []), (2, .putfield 50, 0, []), (5, .iconst 0, 0, []), (6, .istore_n 1, 0, []), (7, .iconst 0, 0, []), (8, .istore_n 2, 0, []), (9, .iload_n 2, 0, []), (10, .bipush 10, 0, []), (12, .if_icmp .ge 62, 74, []), (15, .iload_n 2, 0, []), (16, .iconst 1, 0, []), (17, .iadd, 0, []), (18, .istore_n 3, 0, []), (19, .iload_n 3, 0, []), (20, .bipush 10, 0, []), (22, .if_icmp .ge 46, 68, []), (25, .iload_n 1, 0, []), (26, .aload_n 0, 0, []), (27, .iload_n 2, 0, []), (28, .invokevirtual 116, 0, []), (31, .ifCond .eq 28, 59, [])],
  [(34, .aload_n 0, 0, []), (35, .iload_n 3, 0, []), (36, .invokevirtual 116, 0, []), (39, .ifCond .eq 20, 59, []), (42, .aload_n 0, 0, []), (43, .iload_n 2, 0, []), (44, .invokevirtual 202, 0, []), (47, .aload_n 0, 0, []), (48, .iload_n 3, 0, []), (49, .invokevirtual 202, 0, []), (52, .if_icmp .le 7, 59, []), (55, .iconst 1, 0, []), (56, .goto 4, 60, []), (59, .iconst 0, 0, []), (60, .iadd, 0, []), (61, .istore_n 1, 0, []), (62, .iinc 3 1, 0, [])],
  [(65, .goto (-46), 19, []), (68, .iinc 2 1, 0, []), (71, .goto (-62), 9, []), (74, .iload_n 1, 0, []), (75, .ireturn, 0, [])]]
def m_X9_tangles : mv_M := (4, false, 1, cd_X9_tangles, lk_X9, [])
def cd_X9_tanglesByMerging : List (List (Nat × mv_I)) := [[(0, .aload_n 0, 0, []), (1, .invokevirtual 205, 0, []), (4, .ireturn, 0, [])]]
def m_X9_tanglesByMerging : mv_M := (1, false, 1, cd_X9_tanglesByMerging, lk_X9, [])
def cd_X9_longestCalm : List (List (Nat × mv_I)) := [[(0, .aload_n 0, 0, []), (1, .iload_n 1, 0, []), (2, .iconst 0, 0, []), (3, .bipush 9, 0, []), (5, .invokestatic 75, 0, []), (8, .ifCond .eq 7, 15, []), (11, .iconst 0, 0, []), (12, .goto 4, 16, []), (15, .iconst 1, 0, []), (16, .putfield 50, 0, []), (19, .aload_n 0, 0, []), (20, .getfield 50, 0, []), (23, .ifCond .le 5, 28, []), (26, .iconst 0, 0, []), (27, .ireturn, 0, []), (28, .iconst 0, 0, []), (29, .istore_n 2, 0, []), (30, .iconst 0, 0, []), (31, .istore_n 3, 0, [])],
  [(32, .iload_n 3, 0, []), (33, .bipush 24, 0, []), (35, .if_icmp .ge 62, 97, []), (38, .iconst 0, 0, []), (39, .istore 4, 0, []), (41, .iload 4, 0, []), (43, .bipush 24, 0, []), (45, .if_icmp .ge 33, 78, []), (48, .aload_n 0, 0, []), (49, .getfield 7, 0, []), (52, .bipush 116, 0, []), (54, .iload_n 3, 0, []), (55, .iload 4, 0, []), (57, .iadd, 0, []), (58, .bipush 24, 0, []), (60, .irem, 0, []), (61, .iadd, 0, []), (62, .iaload, 0, []), (63, .iload_n 1, 0, [])],
  [(64, .ineg, 0, []), (65, .iload_n 1, 0, []), (66, .invokestatic 75, 0, []), (69, .ifCond .eq 9, 78, []), (72, .iinc 4 1, 0, []), (75, .goto (-34), 41, []), (78, .iload 4, 0, []), (80, .iload_n 2, 0, []), (81, .if_icmp .le 8, 89, []), (84, .iload 4, 0, []), (86, .goto 4, 90, []), (89, .iload_n 2, 0, []), (90, .istore_n 2, 0, []), (91, .iinc 3 1, 0, []), (94, .goto (-62), 32, [])],
  [(97, .iload_n 2, 0, []), (98, .ireturn, 0, [])]]
def m_X9_longestCalm : mv_M := (5, false, 1, cd_X9_longestCalm, lk_X9, [])
def cd_X9_longestCalmByTrying : List (List (Nat × mv_I)) := [[(0, .aload_n 0, 0, []), (1, .iload_n 1, 0, []), (2, .invokevirtual 208, 0, []), (5, .ireturn, 0, [])]]
def m_X9_longestCalmByTrying : mv_M := (2, false, 1, cd_X9_longestCalmByTrying, lk_X9, [])
def cd_X9_pilotCount : List (List (Nat × mv_I)) := [[(0, .aload_n 0, 0, []), (1, .iconst 0, 0, []), (2, .putfield 50, 0, []), (5, .aload_n 0, 0, []), (6, .getfield 7, 0, []), (9, .iconst 5, 0, []), (10, .iaload, 0, []), (11, .ireturn, 0, [])]]
def m_X9_pilotCount : mv_M := (1, false, 1, cd_X9_pilotCount, lk_X9, [])
def cd_X9_isOn : List (List (Nat × mv_I)) := [[(0, .aload_n 0, 0, []), (1, .iload_n 1, 0, []), (2, .iconst 1, 0, []), (3, .invokevirtual 211, 0, []), (6, .istore_n 3, 0, []), (7, .aload_n 0, 0, []), (8, .iload_n 1, 0, []), (9, .iconst 2, 0, []), (10, .invokevirtual 211, 0, []), (13, .istore 4, 0, []), (15, .iload_n 3, 0, []), (16, .iload 4, 0, []), (18, .if_icmp .gt 13, 31, []), (21, .iload_n 2, 0, []), (22, .iload_n 3, 0, []), (23, .iload 4, 0, []), (25, .invokestatic 75, 0, []), (28, .goto 19, 47, []), (31, .iload_n 2, 0, [])],
  [(32, .iload_n 3, 0, []), (33, .if_icmp .ge 9, 42, []), (36, .iload_n 2, 0, []), (37, .iload 4, 0, []), (39, .if_icmp .gt 7, 46, []), (42, .iconst 1, 0, []), (43, .goto 4, 47, []), (46, .iconst 0, 0, []), (47, .ireturn, 0, [])]]
def m_X9_isOn : mv_M := (5, false, 6, cd_X9_isOn, lk_X9, [])
def cd_X9_crews : List (List (Nat × mv_I)) := [[(0, .aload_n 0, 0, []), (1, .iload_n 1, 0, []), (2, .aload_n 0, 0, []), (3, .invokevirtual 99, 0, []), (6, .invokevirtual 214, 0, []), (9, .ifCond .eq 22, 31, []), (12, .aload_n 0, 0, []), (13, .iload_n 2, 0, []), (14, .iconst 0, 0, []), (15, .invokevirtual 90, 0, []), (18, .aload_n 0, 0, []), (19, .iload_n 1, 0, []), (20, .iconst 0, 0, []), (21, .invokevirtual 211, 0, []), (24, .if_icmp .lt 7, 31, []), (27, .iconst 1, 0, []), (28, .goto 4, 32, []), (31, .iconst 0, 0, [])],
  [(32, .ireturn, 0, [])]]
def m_X9_crews : mv_M := (3, false, 6, cd_X9_crews, lk_X9, [])
def cd_X9_isOnDuty : List (List (Nat × mv_I)) := [[(0, .aload_n 0, 0, []), (1, .aload_n 0, 0, []), (2, .iload_n 1, 0, []), (3, .invokevirtual 151, 0, []), (6, .ifCond .ne 7, 13, []), (9, .iconst 1, 0, []), (10, .goto 15, 25, []), (13, .iload_n 2, 0, []), (14, .invokestatic 145, 0, []), (17, .ifCond .eq 7, 24, []), (20, .iconst 0, 0, []), (21, .goto 4, 25, []), (24, .iconst 2, 0, []), (25, .putfield 50, 0, []), (28, .aload_n 0, 0, []), (29, .getfield 50, 0, [])],
  [(32, .ifCond .ne 16, 48, []), (35, .aload_n 0, 0, []), (36, .iload_n 1, 0, []), (37, .iload_n 2, 0, []), (38, .invokevirtual 214, 0, []), (41, .ifCond .eq 7, 48, []), (44, .iconst 1, 0, []), (45, .goto 4, 49, []), (48, .iconst 0, 0, []), (49, .ireturn, 0, [])]]
def m_X9_isOnDuty : mv_M := (3, false, 6, cd_X9_isOnDuty, lk_X9, [])
def cd_X9_canCrew : List (List (Nat × mv_I)) := [[(0, .aload_n 0, 0, []), (1, .aload_n 0, 0, []), (2, .iload_n 1, 0, []), (3, .invokevirtual 151, 0, []), (6, .ifCond .ne 7, 13, []), (9, .iconst 1, 0, []), (10, .goto 16, 26, []), (13, .aload_n 0, 0, []), (14, .iload_n 2, 0, []), (15, .invokevirtual 116, 0, []), (18, .ifCond .eq 7, 25, []), (21, .iconst 0, 0, []), (22, .goto 4, 26, []), (25, .iconst 2, 0, []), (26, .putfield 50, 0, []), (29, .aload_n 0, 0, []), (30, .getfield 50, 0, [])],
  [(33, .ifCond .ne 16, 49, []), (36, .aload_n 0, 0, []), (37, .iload_n 1, 0, []), (38, .iload_n 2, 0, []), (39, .invokevirtual 217, 0, []), (42, .ifCond .eq 7, 49, []), (45, .iconst 1, 0, []), (46, .goto 4, 50, []), (49, .iconst 0, 0, []), (50, .ireturn, 0, [])]]
def m_X9_canCrew : mv_M := (3, false, 6, cd_X9_canCrew, lk_X9, [])
def cd_X9_mostCrewed : List (List (Nat × mv_I)) := [[(0, .aload_n 0, 0, []), (1, .iconst 0, 0, []), (2, .putfield 50, 0, []), (5, .iconst 0, 0, []), (6, .istore_n 1, 0, []), (7, .iload_n 1, 0, []), (8, .bipush 64, 0, []), (10, .if_icmp .ge 24, 34, []), (13, .aload_n 0, 0, []), (14, .getfield 40, 0, []), (17, .iload_n 1, 0, []), (18, .iload_n 1, 0, []), (19, .ifCond .ne 7, 26, []), (22, .iconst 0, 0, []), (23, .goto 4, 27, []), (26, .iconst (-1), 0, []), (27, .iastore, 0, []), (28, .iinc 1 1, 0, []), (31, .goto (-24), 7, [])],
  [(34, .iconst 0, 0, []), (35, .istore_n 1, 0, []), (36, .iload_n 1, 0, []), (37, .bipush 10, 0, []), (39, .if_icmp .ge 169, 208, []), (42, .aload_n 0, 0, []), (43, .iload_n 1, 0, []), (44, .invokevirtual 116, 0, []), (47, .ifCond .ne 6, 53, []), (50, .goto 152, 202, []), (53, .iconst 0, 0, []), (54, .istore_n 2, 0, []), (55, .iload_n 2, 0, []), (56, .bipush 64, 0, []), (58, .if_icmp .ge 21, 79, []), (61, .aload_n 0, 0, []), (62, .getfield 43, 0, [])],
  [(65, .iload_n 2, 0, []), (66, .aload_n 0, 0, []), (67, .getfield 40, 0, []), (70, .iload_n 2, 0, []), (71, .iaload, 0, []), (72, .iastore, 0, []), (73, .iinc 2 1, 0, []), (76, .goto (-21), 55, []), (79, .iconst 0, 0, []), (80, .istore_n 2, 0, []), (81, .iload_n 2, 0, []), (82, .bipush 64, 0, []), (84, .if_icmp .ge 92, 176, []), (87, .iconst 0, 0, []), (88, .istore_n 3, 0, []), (89, .iload_n 3, 0, []), (90, .aload_n 0, 0, []), (91, .getfield 7, 0, []), (94, .iconst 5, 0, []), (95, .iaload, 0, [])],
  [(96, .if_icmp .ge 74, 170, []), (99, .aload_n 0, 0, []), (100, .getfield 40, 0, []), (103, .iload_n 2, 0, []), (104, .iaload, 0, []), (105, .iconst (-1), 0, []), (106, .if_icmp .eq 64, 170, []), (109, .iload_n 2, 0, []), (110, .iconst 1, 0, []), (111, .iload_n 3, 0, []), (112, .ishl, 0, []), (113, .ior, 0, []), (114, .istore 4, 0, []), (116, .iload 4, 0, []), (118, .iload_n 2, 0, []), (119, .if_icmp .eq 45, 164, []), (122, .aload_n 0, 0, []), (123, .iload_n 3, 0, []), (124, .iload_n 1, 0, []), (125, .invokevirtual 217, 0, [])],
  [(128, .ifCond .eq 36, 164, []), (131, .aload_n 0, 0, []), (132, .getfield 40, 0, []), (135, .iload_n 2, 0, []), (136, .iaload, 0, []), (137, .iconst 1, 0, []), (138, .iadd, 0, []), (139, .aload_n 0, 0, []), (140, .getfield 43, 0, []), (143, .iload 4, 0, []), (145, .iaload, 0, []), (146, .if_icmp .le 18, 164, []), (149, .aload_n 0, 0, []), (150, .getfield 43, 0, []), (153, .iload 4, 0, []), (155, .aload_n 0, 0, []), (156, .getfield 40, 0, []), (159, .iload_n 2, 0, [])],
  [(160, .iaload, 0, []), (161, .iconst 1, 0, []), (162, .iadd, 0, []), (163, .iastore, 0, []), (164, .iinc 3 1, 0, []), (167, .goto (-78), 89, []), (170, .iinc 2 1, 0, []), (173, .goto (-92), 81, []), (176, .iconst 0, 0, []), (177, .istore_n 2, 0, []), (178, .iload_n 2, 0, []), (179, .bipush 64, 0, []), (181, .if_icmp .ge 21, 202, []), (184, .aload_n 0, 0, []), (185, .getfield 40, 0, []), (188, .iload_n 2, 0, []), (189, .aload_n 0, 0, []), (190, .getfield 43, 0, [])],
  [(193, .iload_n 2, 0, []), (194, .iaload, 0, []), (195, .iastore, 0, []), (196, .iinc 2 1, 0, []), (199, .goto (-21), 178, []), (202, .iinc 1 1, 0, []), (205, .goto (-169), 36, []), (208, .iconst 0, 0, []), (209, .istore_n 1, 0, []), (210, .iconst 0, 0, []), (211, .istore_n 2, 0, []), (212, .iload_n 2, 0, []), (213, .bipush 64, 0, []), (215, .if_icmp .ge 30, 245, []), (218, .aload_n 0, 0, []), (219, .getfield 40, 0, []), (222, .iload_n 2, 0, []), (223, .iaload, 0, [])],
  [(224, .iload_n 1, 0, []), (225, .if_icmp .le 12, 237, []), (228, .aload_n 0, 0, []), (229, .getfield 40, 0, []), (232, .iload_n 2, 0, []), (233, .iaload, 0, []), (234, .goto 4, 238, []), (237, .iload_n 1, 0, []), (238, .istore_n 1, 0, []), (239, .iinc 2 1, 0, []), (242, .goto (-30), 212, []), (245, .iload_n 1, 0, []), (246, .ireturn, 0, [])]]
def m_X9_mostCrewed : mv_M := (5, false, 1, cd_X9_mostCrewed, lk_X9, [])
def cd_X9_mostCrewedBySets : List (List (Nat × mv_I)) := [[(0, .aload_n 0, 0, []), (1, .invokevirtual 220, 0, []), (4, .ireturn, 0, [])]]
def m_X9_mostCrewedBySets : mv_M := (1, false, 1, cd_X9_mostCrewedBySets, lk_X9, [])
def cd_X9_burstsAhead : List (List (Nat × mv_I)) := [[(0, .aload_n 0, 0, []), (1, .iconst 0, 0, []), (2, .putfield 50, 0, []), (5, .iconst 0, 0, []), (6, .istore_n 1, 0, []), (7, .iload_n 1, 0, []), (8, .sipush 158, 0, []), (11, .if_icmp .ge 21, 32, []), (14, .aload_n 0, 0, []), (15, .getfield 22, 0, []), (18, .iload_n 1, 0, []), (19, .aload_n 0, 0, []), (20, .getfield 7, 0, []), (23, .iload_n 1, 0, []), (24, .iaload, 0, []), (25, .iastore, 0, []), (26, .iinc 1 1, 0, []), (29, .goto (-22), 7, [])],
  [(32, .aload_n 0, 0, []), (33, .invokevirtual 148, 0, []), (36, .istore_n 1, 0, []), (37, .iconst 0, 0, []), (38, .istore_n 2, 0, []), (39, .iload_n 2, 0, []), (40, .sipush 158, 0, []), (43, .if_icmp .ge 21, 64, []), (46, .aload_n 0, 0, []), (47, .getfield 7, 0, []), (50, .iload_n 2, 0, []), (51, .aload_n 0, 0, []), (52, .getfield 22, 0, []), (55, .iload_n 2, 0, []), (56, .iaload, 0, []), (57, .iastore, 0, []), (58, .iinc 2 1, 0, []), (61, .goto (-22), 39, [])],
  [(64, .iload_n 1, 0, []), (65, .ireturn, 0, [])]]
def m_X9_burstsAhead : mv_M := (3, false, 1, cd_X9_burstsAhead, lk_X9, [])
def cd_X9_hour : List (List (Nat × mv_I)) := [[(0, .aload_n 0, 0, []), (1, .iconst 0, 0, []), (2, .putfield 50, 0, []), (5, .aload_n 0, 0, []), (6, .getfield 7, 0, []), (9, .iconst 0, 0, []), (10, .iaload, 0, []), (11, .ireturn, 0, [])]]
def m_X9_hour : mv_M := (1, false, 1, cd_X9_hour, lk_X9, [])
def cd_X9_bursts : List (List (Nat × mv_I)) := [[(0, .aload_n 0, 0, []), (1, .iconst 0, 0, []), (2, .putfield 50, 0, []), (5, .aload_n 0, 0, []), (6, .getfield 7, 0, []), (9, .iconst 1, 0, []), (10, .iaload, 0, []), (11, .ireturn, 0, [])]]
def m_X9_bursts : mv_M := (1, false, 1, cd_X9_bursts, lk_X9, [])
def cd_X9_loaded : List (List (Nat × mv_I)) := [[(0, .aload_n 0, 0, []), (1, .iconst 0, 0, []), (2, .putfield 50, 0, []), (5, .aload_n 0, 0, []), (6, .getfield 7, 0, []), (9, .iconst 2, 0, []), (10, .iaload, 0, []), (11, .ireturn, 0, [])]]
def m_X9_loaded : mv_M := (1, false, 1, cd_X9_loaded, lk_X9, [])
def cd_X9_aboard : List (List (Nat × mv_I)) := [[(0, .aload_n 0, 0, []), (1, .iconst 0, 0, []), (2, .putfield 50, 0, []), (5, .iconst 0, 0, []), (6, .istore_n 1, 0, []), (7, .iconst 0, 0, []), (8, .istore_n 2, 0, []), (9, .iload_n 2, 0, []), (10, .bipush 10, 0, []), (12, .if_icmp .ge 18, 30, []), (15, .iload_n 1, 0, []), (16, .aload_n 0, 0, []), (17, .iload_n 2, 0, []), (18, .iconst 0, 0, []), (19, .invokevirtual 87, 0, []), (22, .iadd, 0, []), (23, .istore_n 1, 0, []), (24, .iinc 2 1, 0, []), (27, .goto (-18), 9, []), (30, .iload_n 1, 0, []), (31, .ireturn, 0, [])]]
def m_X9_aboard : mv_M := (3, false, 1, cd_X9_aboard, lk_X9, [])
def cd_X9_dropped : List (List (Nat × mv_I)) := [[(0, .aload_n 0, 0, []), (1, .iconst 0, 0, []), (2, .putfield 50, 0, []), (5, .aload_n 0, 0, []), (6, .getfield 7, 0, []), (9, .iconst 3, 0, []), (10, .iaload, 0, []), (11, .ireturn, 0, [])]]
def m_X9_dropped : mv_M := (1, false, 1, cd_X9_dropped, lk_X9, [])
def cd_X9_lost : List (List (Nat × mv_I)) := [[(0, .aload_n 0, 0, []), (1, .iconst 0, 0, []), (2, .putfield 50, 0, []), (5, .aload_n 0, 0, []), (6, .getfield 7, 0, []), (9, .iconst 4, 0, []), (10, .iaload, 0, []), (11, .ireturn, 0, [])]]
def m_X9_lost : mv_M := (1, false, 1, cd_X9_lost, lk_X9, [])
def cd_X9_meanHeight : List (List (Nat × mv_I)) := [[(0, .aload_n 0, 0, []), (1, .invokevirtual 223, 0, []), (4, .istore_n 1, 0, []), (5, .aload_n 0, 0, []), (6, .iload_n 1, 0, []), (7, .ifCond .ne 7, 14, []), (10, .iconst 1, 0, []), (11, .goto 4, 15, []), (14, .iconst 0, 0, []), (15, .putfield 50, 0, []), (18, .iconst 0, 0, []), (19, .istore_n 2, 0, []), (20, .iconst 0, 0, []), (21, .istore_n 3, 0, []), (22, .iload_n 3, 0, []), (23, .bipush 10, 0, []), (25, .if_icmp .ge 29, 54, []), (28, .iload_n 2, 0, []), (29, .aload_n 0, 0, []), (30, .iload_n 3, 0, []), (31, .invokevirtual 116, 0, [])],
  [(34, .ifCond .eq 11, 45, []), (37, .aload_n 0, 0, []), (38, .iload_n 3, 0, []), (39, .invokevirtual 96, 0, []), (42, .goto 4, 46, []), (45, .iconst 0, 0, []), (46, .iadd, 0, []), (47, .istore_n 2, 0, []), (48, .iinc 3 1, 0, []), (51, .goto (-29), 22, []), (54, .aload_n 0, 0, []), (55, .getfield 50, 0, []), (58, .ifCond .le 7, 65, []), (61, .dconst 0, 0, []), (62, .goto 8, 70, [])],
  [(65, .iload_n 2, 0, []), (66, .i2d, 0, []), (67, .iload_n 1, 0, []), (68, .i2d, 0, []), (69, .ddiv, 0, []), (70, .dreturn, 0, [])]]
def m_X9_meanHeight : mv_M := (4, false, 5, cd_X9_meanHeight, lk_X9, [])
def cd_X9_strain : List (List (Nat × mv_I)) := [[(0, .aload_n 0, 0, []), (1, .iload_n 1, 0, []), (2, .invokevirtual 189, 0, []), (5, .ifCond .eq 20, 25, []), (8, .aload_n 0, 0, []), (9, .iload_n 1, 0, []), (10, .invokevirtual 96, 0, []), (13, .i2f, 0, []), (14, .aload_n 0, 0, []), (15, .iload_n 1, 0, []), (16, .iconst 3, 0, []), (17, .invokevirtual 83, 0, []), (20, .i2f, 0, []), (21, .fdiv, 0, []), (22, .goto 4, 26, []), (25, .fconst 0, 0, []), (26, .freturn, 0, [])]]
def m_X9_strain : mv_M := (2, false, 4, cd_X9_strain, lk_X9, [])
def cd_X9_feed : List (List (Nat × mv_I)) := [[(0, .aload_n 0, 0, []), (1, .aload_n 0, 0, []), (2, .getfield 226, 0, []), (5, .bipush 60, 0, []), (7, .if_icmp .ne 7, 14, []), (10, .iconst 1, 0, []), (11, .goto 4, 15, []), (14, .iconst 0, 0, []), (15, .putfield 50, 0, []), (18, .aload_n 0, 0, []), (19, .getfield 50, 0, []), (22, .ifCond .le 5, 27, []), (25, .iconst 0, 0, []), (26, .ireturn, 0, []), (27, .aload_n 0, 0, []), (28, .getfield 25, 0, []), (31, .aload_n 0, 0, [])],
  [(32, .getfield 226, 0, []), (35, .iload_n 1, 0, []), (36, .iastore, 0, []), (37, .aload_n 0, 0, []), (38, .dup, 0, []), (39, .getfield 226, 0, []), (42, .iconst 1, 0, []), (43, .iadd, 0, []), (44, .putfield 226, 0, []), (47, .aload_n 0, 0, []), (48, .getfield 226, 0, []), (51, .ireturn, 0, [])]]
def m_X9_feed : mv_M := (2, false, 1, cd_X9_feed, lk_X9, [])
def cd_X9_here : List (List (Nat × mv_I)) := [[(0, .aload_n 0, 0, []), (1, .getfield 229, 0, []), (4, .iload_n 1, 0, []), (5, .iadd, 0, []), (6, .aload_n 0, 0, []), (7, .getfield 232, 0, []), (10, .if_icmp .ge 17, 27, []), (13, .aload_n 0, 0, []), (14, .getfield 25, 0, []), (17, .aload_n 0, 0, []), (18, .getfield 229, 0, []), (21, .iload_n 1, 0, []), (22, .iadd, 0, []), (23, .iaload, 0, []), (24, .goto 4, 28, []), (27, .iconst (-1), 0, []), (28, .ireturn, 0, [])]]
def m_X9_here : mv_M := (2, false, 1, cd_X9_here, lk_X9, [])
def cd_X9_says : List (List (Nat × mv_I)) := [[(0, .iconst 0, 0, []), (1, .istore_n 2, 0, []), (2, .iload_n 2, 0, []), (3, .aload_n 1, 0, []), (4, .invokevirtual 235, 0, []), (7, .if_icmp .ge 59, 66, []), (10, .aload_n 0, 0, []), (11, .getfield 240, 0, []), (14, .ifCond .ne 52, 66, []), (17, .aload_n 0, 0, []), (18, .aload_n 0, 0, []), (19, .iconst 0, 0, []), (20, .invokevirtual 244, 0, []), (23, .aload_n 1, 0, []), (24, .iload_n 2, 0, []), (25, .invokevirtual 247, 0, []), (28, .if_icmp .eq 7, 35, []), (31, .iconst 1, 0, [])],
  [(32, .goto 4, 36, []), (35, .iconst 0, 0, []), (36, .putfield 240, 0, []), (39, .aload_n 0, 0, []), (40, .dup, 0, []), (41, .getfield 229, 0, []), (44, .aload_n 0, 0, []), (45, .getfield 240, 0, []), (48, .ifCond .eq 7, 55, []), (51, .iconst 0, 0, []), (52, .goto 4, 56, []), (55, .iconst 1, 0, []), (56, .iadd, 0, []), (57, .putfield 229, 0, []), (60, .iinc 2 1, 0, []), (63, .goto (-61), 2, [])],
  [(66, .return_, 0, [])]]
def m_X9_says : mv_M := (3, false, 0, cd_X9_says, lk_X9, [])
def cd_X9_number : List (List (Nat × mv_I)) := [[(0, .aload_n 0, 0, []), (1, .aload_n 1, 0, []), (2, .invokevirtual 251, 0, []), (5, .iconst 0, 0, []), (6, .istore 4, 0, []), (8, .iconst 0, 0, []), (9, .istore 5, 0, []), (11, .aload_n 0, 0, []), (12, .getfield 240, 0, []), (15, .ifCond .ne 56, 71, []), (18, .iload 5, 0, []), (20, .iload_n 3, 0, []), (21, .if_icmp .ge 50, 71, []), (24, .aload_n 0, 0, []), (25, .iconst 0, 0, []), (26, .invokevirtual 244, 0, []), (29, .bipush 48, 0, []), (31, .bipush 57, 0, [])],
  [(33, .invokestatic 75, 0, []), (36, .ifCond .eq 35, 71, []), (39, .bipush 10, 0, []), (41, .iload 4, 0, []), (43, .imul, 0, []), (44, .aload_n 0, 0, []), (45, .iconst 0, 0, []), (46, .invokevirtual 244, 0, []), (49, .iadd, 0, []), (50, .bipush 48, 0, []), (52, .isub, 0, []), (53, .istore 4, 0, []), (55, .aload_n 0, 0, []), (56, .dup, 0, []), (57, .getfield 229, 0, []), (60, .iconst 1, 0, []), (61, .iadd, 0, []), (62, .putfield 229, 0, [])],
  [(65, .iinc 5 1, 0, []), (68, .goto (-57), 11, []), (71, .aload_n 0, 0, []), (72, .aload_n 0, 0, []), (73, .getfield 240, 0, []), (76, .ifCond .ne 8, 84, []), (79, .iload 5, 0, []), (81, .ifCond .ne 7, 88, []), (84, .iconst 1, 0, []), (85, .goto 4, 89, []), (88, .iconst 0, 0, []), (89, .putfield 240, 0, []), (92, .aload_n 0, 0, []), (93, .getfield 28, 0, [])],
  [(96, .iconst 5, 0, []), (97, .aload_n 0, 0, []), (98, .getfield 255, 0, []), (101, .imul, 0, []), (102, .iload_n 2, 0, []), (103, .iadd, 0, []), (104, .iload 4, 0, []), (106, .iastore, 0, []), (107, .return_, 0, [])]]
def m_X9_number : mv_M := (6, false, 0, cd_X9_number, lk_X9, [])
def cd_X9_readsWind : List (List (Nat × mv_I)) := [[(0, .aload_n 0, 0, []), (1, .ldc_w 258, 0, []), (4, .iconst 1, 0, []), (5, .iconst 2, 0, []), (6, .invokevirtual 260, 0, []), (9, .aload_n 0, 0, []), (10, .ldc_w 264, 0, []), (13, .invokevirtual 251, 0, []), (16, .aload_n 0, 0, []), (17, .getfield 240, 0, []), (20, .ifCond .ne 17, 37, []), (23, .aload_n 0, 0, []), (24, .iconst 0, 0, []), (25, .invokevirtual 244, 0, []), (28, .bipush 45, 0, []), (30, .if_icmp .ne 7, 37, [])],
  [(33, .iconst 1, 0, []), (34, .goto 4, 38, []), (37, .iconst 0, 0, []), (38, .istore_n 1, 0, []), (39, .aload_n 0, 0, []), (40, .iload_n 1, 0, []), (41, .ifCond .eq 9, 50, []), (44, .ldc_w 266, 0, []), (47, .goto 6, 53, []), (50, .ldc_w 268, 0, []), (53, .iconst 2, 0, []), (54, .iconst 1, 0, []), (55, .invokevirtual 260, 0, []), (58, .aload_n 0, 0, []), (59, .getfield 28, 0, []), (62, .iconst 5, 0, []), (63, .aload_n 0, 0, [])],
  [(64, .getfield 255, 0, []), (67, .imul, 0, []), (68, .iconst 2, 0, []), (69, .iadd, 0, []), (70, .dup2, 0, []), (71, .iaload, 0, []), (72, .iload_n 1, 0, []), (73, .ifCond .eq 7, 80, []), (76, .iconst (-1), 0, []), (77, .goto 4, 81, []), (80, .iconst 1, 0, []), (81, .imul, 0, []), (82, .iastore, 0, []), (83, .return_, 0, [])]]
def m_X9_readsWind : mv_M := (2, false, 0, cd_X9_readsWind, lk_X9, [])
def cd_X9_readsOne : List (List (Nat × mv_I)) := [[(0, .aload_n 0, 0, []), (1, .iconst 0, 0, []), (2, .invokevirtual 244, 0, []), (5, .istore_n 1, 0, []), (6, .iload_n 1, 0, []), (7, .bipush 108, 0, []), (9, .if_icmp .ne 13, 22, []), (12, .aload_n 0, 0, []), (13, .iconst 1, 0, []), (14, .invokevirtual 244, 0, []), (17, .bipush 101, 0, []), (19, .if_icmp .eq 19, 38, []), (22, .iload_n 1, 0, []), (23, .bipush 119, 0, []), (25, .if_icmp .ne 17, 42, []), (28, .aload_n 0, 0, []), (29, .iconst 1, 0, []), (30, .invokevirtual 244, 0, [])],
  [(33, .bipush 97, 0, []), (35, .if_icmp .ne 7, 42, []), (38, .iconst 1, 0, []), (39, .goto 4, 43, []), (42, .iconst 0, 0, []), (43, .istore_n 2, 0, []), (44, .aload_n 0, 0, []), (45, .getfield 28, 0, []), (48, .iconst 5, 0, []), (49, .aload_n 0, 0, []), (50, .getfield 255, 0, []), (53, .imul, 0, []), (54, .iload_n 2, 0, []), (55, .ifCond .eq 10, 65, []), (58, .iload_n 1, 0, []), (59, .bipush 100, 0, []), (61, .iadd, 0, []), (62, .goto 4, 66, [])],
  [(65, .iload_n 1, 0, []), (66, .iastore, 0, []), (67, .iload_n 1, 0, []), (68, .tableswitch 278 99 119 #[134, 183, 278, 278, 278, 278, 278, 278, 278, 146, 100, 278, 278, 248, 278, 204, 278, 278, 278, 278, 225], 346, [(99, 202), (100, 251), (101, 346), (102, 346), (103, 346), (104, 346), (105, 346), (106, 346), (107, 346), (108, 214), (109, 168), (110, 346), (111, 346), (112, 316), (113, 346), (114, 272), (115, 346), (116, 346), (117, 346), (118, 346), (119, 293)])],
  [],
  [],
  [(168, .aload_n 0, 0, []), (169, .ldc_w 270, 0, []), (172, .iconst 1, 0, []), (173, .iconst 1, 0, []), (174, .invokevirtual 260, 0, []), (177, .iconst 2, 0, []), (178, .istore_n 3, 0, []), (179, .iload_n 3, 0, []), (180, .iconst 5, 0, []), (181, .if_icmp .ge 18, 199, []), (184, .aload_n 0, 0, []), (185, .ldc_w 272, 0, []), (188, .iload_n 3, 0, []), (189, .iconst 2, 0, []), (190, .invokevirtual 260, 0, [])],
  [(193, .iinc 3 1, 0, []), (196, .goto (-17), 179, []), (199, .goto 152, 351, []), (202, .aload_n 0, 0, []), (203, .ldc_w 274, 0, []), (206, .iconst 1, 0, []), (207, .iconst 1, 0, []), (208, .invokevirtual 260, 0, []), (211, .goto 140, 351, []), (214, .iload_n 2, 0, []), (215, .ifCond .eq 15, 230, []), (218, .aload_n 0, 0, []), (219, .ldc_w 276, 0, []), (222, .iconst 1, 0, []), (223, .iconst 1, 0, [])],
  [(224, .invokevirtual 260, 0, []), (227, .goto 124, 351, []), (230, .aload_n 0, 0, []), (231, .ldc_w 278, 0, []), (234, .iconst 1, 0, []), (235, .iconst 1, 0, []), (236, .invokevirtual 260, 0, []), (239, .aload_n 0, 0, []), (240, .ldc_w 272, 0, []), (243, .iconst 2, 0, []), (244, .iconst 2, 0, []), (245, .invokevirtual 260, 0, []), (248, .goto 103, 351, []), (251, .aload_n 0, 0, []), (252, .ldc_w 280, 0, []), (255, .iconst 1, 0, [])],
  [(256, .iconst 1, 0, []), (257, .invokevirtual 260, 0, []), (260, .aload_n 0, 0, []), (261, .ldc_w 272, 0, []), (264, .iconst 2, 0, []), (265, .iconst 1, 0, []), (266, .invokevirtual 260, 0, []), (269, .goto 82, 351, []), (272, .aload_n 0, 0, []), (273, .ldc_w 282, 0, []), (276, .iconst 1, 0, []), (277, .iconst 1, 0, []), (278, .invokevirtual 260, 0, []), (281, .aload_n 0, 0, []), (282, .ldc_w 272, 0, []), (285, .iconst 2, 0, []), (286, .iconst 2, 0, []), (287, .invokevirtual 260, 0, [])],
  [(290, .goto 61, 351, []), (293, .iload_n 2, 0, []), (294, .ifCond .eq 15, 309, []), (297, .aload_n 0, 0, []), (298, .ldc_w 284, 0, []), (301, .iconst 1, 0, []), (302, .iconst 2, 0, []), (303, .invokevirtual 260, 0, []), (306, .goto 45, 351, []), (309, .aload_n 0, 0, []), (310, .invokevirtual 286, 0, []), (313, .goto 38, 351, []), (316, .aload_n 0, 0, []), (317, .ldc_w 289, 0, [])],
  [(320, .iconst 1, 0, []), (321, .iconst 2, 0, []), (322, .invokevirtual 260, 0, []), (325, .aload_n 0, 0, []), (326, .ldc_w 272, 0, []), (329, .iconst 2, 0, []), (330, .iconst 2, 0, []), (331, .invokevirtual 260, 0, []), (334, .aload_n 0, 0, []), (335, .ldc_w 266, 0, []), (338, .iconst 3, 0, []), (339, .iconst 2, 0, []), (340, .invokevirtual 260, 0, []), (343, .goto 8, 351, []), (346, .aload_n 0, 0, []), (347, .iconst 1, 0, []), (348, .putfield 240, 0, []), (351, .aload_n 0, 0, [])],
  [(352, .dup, 0, []), (353, .getfield 255, 0, []), (356, .iconst 1, 0, []), (357, .iadd, 0, []), (358, .putfield 255, 0, []), (361, .return_, 0, [])]]
def m_X9_readsOne : mv_M := (4, false, 0, cd_X9_readsOne, lk_X9, [])
def cd_X9_does : List (List (Nat × mv_I)) := [[(0, .aload_n 0, 0, []), (1, .getfield 28, 0, []), (4, .iconst 5, 0, []), (5, .iload_n 1, 0, []), (6, .imul, 0, []), (7, .iconst 1, 0, []), (8, .iadd, 0, []), (9, .iaload, 0, []), (10, .istore_n 2, 0, []), (11, .aload_n 0, 0, []), (12, .getfield 28, 0, []), (15, .iconst 5, 0, []), (16, .iload_n 1, 0, []), (17, .imul, 0, []), (18, .iconst 2, 0, []), (19, .iadd, 0, []), (20, .iaload, 0, []), (21, .istore_n 3, 0, []), (22, .aload_n 0, 0, []), (23, .getfield 28, 0, []), (26, .iconst 5, 0, []), (27, .iload_n 1, 0, []), (28, .imul, 0, []), (29, .iconst 3, 0, []), (30, .iadd, 0, []), (31, .iaload, 0, [])],
  [(32, .istore 4, 0, []), (34, .aload_n 0, 0, []), (35, .getfield 28, 0, []), (38, .iconst 5, 0, []), (39, .iload_n 1, 0, []), (40, .imul, 0, []), (41, .iaload, 0, []), (42, .lookupswitch 139 #[(99, 93), (100, 112), (108, 99), (109, 74), (114, 119), (119, 126), (208, 106), (219, 133)], 181, [(99, 135), (100, 154), (108, 141), (109, 116), (114, 161), (119, 168), (208, 148), (219, 175)])],
  [],
  [(116, .aload_n 0, 0, []), (117, .iload_n 2, 0, []), (118, .iload_n 3, 0, []), (119, .iload 4, 0, []), (121, .aload_n 0, 0, []), (122, .getfield 28, 0, []), (125, .iconst 5, 0, []), (126, .iload_n 1, 0, []), (127, .imul, 0, [])],
  [(128, .iconst 4, 0, []), (129, .iadd, 0, []), (130, .iaload, 0, []), (131, .invokevirtual 157, 0, []), (134, .ireturn, 0, []), (135, .aload_n 0, 0, []), (136, .iload_n 2, 0, []), (137, .invokevirtual 164, 0, []), (140, .ireturn, 0, []), (141, .aload_n 0, 0, []), (142, .iload_n 2, 0, []), (143, .iload_n 3, 0, []), (144, .invokevirtual 167, 0, []), (147, .ireturn, 0, []), (148, .aload_n 0, 0, []), (149, .iload_n 2, 0, []), (150, .invokevirtual 183, 0, []), (153, .ireturn, 0, []), (154, .aload_n 0, 0, []), (155, .iload_n 2, 0, []), (156, .iload_n 3, 0, []), (157, .invokevirtual 170, 0, [])],
  [(160, .ireturn, 0, []), (161, .aload_n 0, 0, []), (162, .iload_n 2, 0, []), (163, .iload_n 3, 0, []), (164, .invokevirtual 173, 0, []), (167, .ireturn, 0, []), (168, .aload_n 0, 0, []), (169, .iload_n 2, 0, []), (170, .iload_n 3, 0, []), (171, .invokevirtual 176, 0, []), (174, .ireturn, 0, []), (175, .aload_n 0, 0, []), (176, .iload_n 2, 0, []), (177, .invokevirtual 186, 0, []), (180, .ireturn, 0, []), (181, .aload_n 0, 0, []), (182, .iload_n 2, 0, []), (183, .iload_n 3, 0, []), (184, .iload 4, 0, []), (186, .invokevirtual 179, 0, []), (189, .ireturn, 0, [])]]
def m_X9_does : mv_M := (5, false, 1, cd_X9_does, lk_X9, [])
def cd_X9_execute : List (List (Nat × mv_I)) := [[(0, .aload_n 0, 0, []), (1, .invokevirtual 154, 0, []), (4, .aload_n 0, 0, []), (5, .iconst 0, 0, []), (6, .putfield 229, 0, []), (9, .aload_n 0, 0, []), (10, .aload_n 0, 0, []), (11, .getfield 226, 0, []), (14, .putfield 232, 0, []), (17, .aload_n 0, 0, []), (18, .iconst 0, 0, []), (19, .putfield 226, 0, []), (22, .aload_n 0, 0, []), (23, .iconst 0, 0, []), (24, .putfield 255, 0, []), (27, .aload_n 0, 0, []), (28, .iconst 0, 0, []), (29, .putfield 240, 0, [])],
  [(32, .aload_n 0, 0, []), (33, .invokevirtual 291, 0, []), (36, .aload_n 0, 0, []), (37, .getfield 240, 0, []), (40, .ifCond .ne 30, 70, []), (43, .aload_n 0, 0, []), (44, .iconst 0, 0, []), (45, .invokevirtual 244, 0, []), (48, .bipush 59, 0, []), (50, .if_icmp .ne 20, 70, []), (53, .aload_n 0, 0, []), (54, .dup, 0, []), (55, .getfield 229, 0, []), (58, .iconst 1, 0, []), (59, .iadd, 0, []), (60, .putfield 229, 0, []), (63, .aload_n 0, 0, [])],
  [(64, .invokevirtual 291, 0, []), (67, .goto (-31), 36, []), (70, .aload_n 0, 0, []), (71, .getfield 240, 0, []), (74, .ifCond .ne 14, 88, []), (77, .aload_n 0, 0, []), (78, .getfield 229, 0, []), (81, .aload_n 0, 0, []), (82, .getfield 232, 0, []), (85, .if_icmp .ge 17, 102, []), (88, .aload_n 0, 0, []), (89, .aload_n 0, 0, []), (90, .getfield 229, 0, []), (93, .putfield 46, 0, [])],
  [(96, .aload_n 0, 0, []), (97, .iconst 1, 0, []), (98, .invokevirtual 72, 0, []), (101, .ireturn, 0, []), (102, .iconst 0, 0, []), (103, .istore_n 1, 0, []), (104, .iload_n 1, 0, []), (105, .aload_n 0, 0, []), (106, .getfield 255, 0, []), (109, .if_icmp .ge 78, 187, []), (112, .aload_n 0, 0, []), (113, .iload_n 1, 0, []), (114, .invokevirtual 294, 0, []), (117, .istore_n 2, 0, []), (118, .iload_n 2, 0, []), (119, .ifCond .ne 6, 125, []), (122, .goto 59, 181, []), (125, .iconst 0, 0, []), (126, .istore_n 3, 0, []), (127, .iload_n 3, 0, [])],
  [(128, .sipush 158, 0, []), (131, .if_icmp .ge 21, 152, []), (134, .aload_n 0, 0, []), (135, .getfield 7, 0, []), (138, .iload_n 3, 0, []), (139, .aload_n 0, 0, []), (140, .getfield 13, 0, []), (143, .iload_n 3, 0, []), (144, .iaload, 0, []), (145, .iastore, 0, []), (146, .iinc 3 1, 0, []), (149, .goto (-22), 127, []), (152, .aload_n 0, 0, []), (153, .bipush 6, 0, []), (155, .iload_n 1, 0, []), (156, .invokevirtual 136, 0, []), (159, .istore_n 3, 0, [])],
  [(160, .aload_n 0, 0, []), (161, .iload_n 2, 0, []), (162, .ifCond .ge 8, 170, []), (165, .iload_n 2, 0, []), (166, .ineg, 0, []), (167, .goto 5, 172, []), (170, .bipush 7, 0, []), (172, .putfield 65, 0, []), (175, .aload_n 0, 0, []), (176, .iconst 2, 0, []), (177, .invokevirtual 72, 0, []), (180, .ireturn, 0, []), (181, .iinc 1 1, 0, []), (184, .goto (-80), 104, []), (187, .aload_n 0, 0, []), (188, .aload_n 0, 0, []), (189, .getfield 255, 0, [])],
  [(192, .invokevirtual 68, 0, []), (195, .ireturn, 0, [])]]
def m_X9_execute : mv_M := (4, false, 1, cd_X9_execute, lk_X9, [])
def cd_X9_faultPosition : List (List (Nat × mv_I)) := [[(0, .aload_n 0, 0, []), (1, .iconst 0, 0, []), (2, .putfield 50, 0, []), (5, .aload_n 0, 0, []), (6, .getfield 46, 0, []), (9, .iconst (-1), 0, []), (10, .if_icmp .ne 11, 21, []), (13, .aload_n 0, 0, []), (14, .iconst 1, 0, []), (15, .invokevirtual 72, 0, []), (18, .goto 7, 25, []), (21, .aload_n 0, 0, []), (22, .getfield 46, 0, []), (25, .ireturn, 0, [])]]
def m_X9_faultPosition : mv_M := (1, false, 1, cd_X9_faultPosition, lk_X9, [])
def cd_X9_writes : List (List (Nat × mv_I)) := [[(0, .aload_n 0, 0, []), (1, .getfield 31, 0, []), (4, .aload_n 0, 0, []), (5, .getfield 297, 0, []), (8, .iload_n 1, 0, []), (9, .iastore, 0, []), (10, .aload_n 0, 0, []), (11, .dup, 0, []), (12, .getfield 297, 0, []), (15, .iconst 1, 0, []), (16, .iadd, 0, []), (17, .putfield 297, 0, []), (20, .return_, 0, [])]]
def m_X9_writes : mv_M := (2, false, 0, cd_X9_writes, lk_X9, [])
def cd_X9_writesNumber : List (List (Nat × mv_I)) := [[(0, .iload_n 1, 0, []), (1, .bipush 9, 0, []), (3, .if_icmp .le 14, 17, []), (6, .aload_n 0, 0, []), (7, .bipush 48, 0, []), (9, .iload_n 1, 0, []), (10, .bipush 10, 0, []), (12, .idiv, 0, []), (13, .iadd, 0, []), (14, .invokevirtual 300, 0, []), (17, .aload_n 0, 0, []), (18, .bipush 48, 0, []), (20, .iload_n 1, 0, []), (21, .bipush 10, 0, []), (23, .irem, 0, []), (24, .iadd, 0, []), (25, .invokevirtual 300, 0, []), (28, .return_, 0, [])]]
def m_X9_writesNumber : mv_M := (2, false, 0, cd_X9_writesNumber, lk_X9, [])
def cd_X9_writeBalloon : List (List (Nat × mv_I)) := [[(0, .aload_n 0, 0, []), (1, .iload_n 1, 0, []), (2, .invokevirtual 189, 0, []), (5, .ifCond .ne 5, 10, []), (8, .iconst 0, 0, []), (9, .ireturn, 0, []), (10, .aload_n 0, 0, []), (11, .iconst 0, 0, []), (12, .putfield 297, 0, []), (15, .aload_n 0, 0, []), (16, .iload_n 1, 0, []), (17, .invokevirtual 303, 0, []), (20, .aload_n 0, 0, []), (21, .bipush 58, 0, []), (23, .invokevirtual 300, 0, []), (26, .aload_n 0, 0, []), (27, .aload_n 0, 0, []), (28, .iload_n 1, 0, []), (29, .invokevirtual 96, 0, [])],
  [(32, .invokevirtual 303, 0, []), (35, .aload_n 0, 0, []), (36, .bipush 47, 0, []), (38, .invokevirtual 300, 0, []), (41, .aload_n 0, 0, []), (42, .aload_n 0, 0, []), (43, .iload_n 1, 0, []), (44, .iconst 2, 0, []), (45, .invokevirtual 83, 0, []), (48, .invokevirtual 303, 0, []), (51, .aload_n 0, 0, []), (52, .iload_n 1, 0, []), (53, .invokevirtual 123, 0, []), (56, .ifCond .eq 9, 65, []), (59, .aload_n 0, 0, []), (60, .bipush 33, 0, []), (62, .invokevirtual 300, 0, [])],
  [(65, .iconst 0, 0, []), (66, .istore_n 2, 0, []), (67, .iload_n 2, 0, []), (68, .aload_n 0, 0, []), (69, .iload_n 1, 0, []), (70, .iconst 4, 0, []), (71, .invokevirtual 83, 0, []), (74, .if_icmp .ge 27, 101, []), (77, .aload_n 0, 0, []), (78, .bipush 43, 0, []), (80, .invokevirtual 300, 0, []), (83, .aload_n 0, 0, []), (84, .aload_n 0, 0, []), (85, .iload_n 1, 0, []), (86, .iconst 5, 0, []), (87, .iload_n 2, 0, []), (88, .iadd, 0, []), (89, .invokevirtual 83, 0, []), (92, .invokevirtual 303, 0, []), (95, .iinc 2 1, 0, [])],
  [(98, .goto (-31), 67, []), (101, .aload_n 0, 0, []), (102, .getfield 297, 0, []), (105, .ireturn, 0, [])]]
def m_X9_writeBalloon : mv_M := (3, false, 1, cd_X9_writeBalloon, lk_X9, [])
def cd_X9_lineCharacter : List (List (Nat × mv_I)) := [[(0, .aload_n 0, 0, []), (1, .iload_n 1, 0, []), (2, .iconst 0, 0, []), (3, .aload_n 0, 0, []), (4, .getfield 297, 0, []), (7, .iconst 1, 0, []), (8, .isub, 0, []), (9, .invokestatic 75, 0, []), (12, .ifCond .eq 7, 19, []), (15, .iconst 0, 0, []), (16, .goto 4, 20, []), (19, .iconst 1, 0, []), (20, .putfield 50, 0, []), (23, .aload_n 0, 0, []), (24, .getfield 50, 0, []), (27, .ifCond .le 7, 34, []), (30, .iconst 0, 0, []), (31, .goto 10, 41, [])],
  [(34, .aload_n 0, 0, []), (35, .getfield 31, 0, []), (38, .iload_n 1, 0, []), (39, .iaload, 0, []), (40, .i2c, 0, []), (41, .ireturn, 0, [])]]
def m_X9_lineCharacter : mv_M := (2, false, 7, cd_X9_lineCharacter, lk_X9, [])
def cd_X9_denial : List (List (Nat × mv_I)) := [[(0, .aload_n 0, 0, []), (1, .iconst 0, 0, []), (2, .putfield 50, 0, []), (5, .aload_n 0, 0, []), (6, .getfield 59, 0, []), (9, .ifCond .ne 11, 20, []), (12, .aload_n 0, 0, []), (13, .iconst 1, 0, []), (14, .invokevirtual 72, 0, []), (17, .goto 7, 24, []), (20, .aload_n 0, 0, []), (21, .getfield 59, 0, []), (24, .ireturn, 0, [])]]
def m_X9_denial : mv_M := (1, false, 1, cd_X9_denial, lk_X9, [])
def cd_X9_denialDetail : List (List (Nat × mv_I)) := [[(0, .aload_n 0, 0, []), (1, .iconst 0, 0, []), (2, .putfield 50, 0, []), (5, .aload_n 0, 0, []), (6, .getfield 59, 0, []), (9, .ifCond .ne 11, 20, []), (12, .aload_n 0, 0, []), (13, .iconst 1, 0, []), (14, .invokevirtual 72, 0, []), (17, .goto 7, 24, []), (20, .aload_n 0, 0, []), (21, .getfield 62, 0, []), (24, .ireturn, 0, [])]]
def m_X9_denialDetail : mv_M := (1, false, 1, cd_X9_denialDetail, lk_X9, [])
def cd_X9_denialCause : List (List (Nat × mv_I)) := [[(0, .aload_n 0, 0, []), (1, .iconst 0, 0, []), (2, .putfield 50, 0, []), (5, .aload_n 0, 0, []), (6, .getfield 65, 0, []), (9, .ifCond .ne 11, 20, []), (12, .aload_n 0, 0, []), (13, .iconst 1, 0, []), (14, .invokevirtual 72, 0, []), (17, .goto 7, 24, []), (20, .aload_n 0, 0, []), (21, .getfield 65, 0, []), (24, .ireturn, 0, [])]]
def m_X9_denialCause : mv_M := (1, false, 1, cd_X9_denialCause, lk_X9, [])
def cd_X9_undo : List (List (Nat × mv_I)) := [[(0, .aload_n 0, 0, []), (1, .iconst 0, 0, []), (2, .putfield 50, 0, []), (5, .aload_n 0, 0, []), (6, .getfield 53, 0, []), (9, .ifCond .ne 9, 18, []), (12, .aload_n 0, 0, []), (13, .iconst 1, 0, []), (14, .invokevirtual 72, 0, []), (17, .ireturn, 0, []), (18, .aload_n 0, 0, []), (19, .dup, 0, []), (20, .getfield 53, 0, []), (23, .iconst 1, 0, []), (24, .isub, 0, []), (25, .putfield 53, 0, []), (28, .iconst 0, 0, []), (29, .istore_n 1, 0, []), (30, .iload_n 1, 0, []), (31, .sipush 158, 0, [])],
  [(34, .if_icmp .ge 30, 64, []), (37, .aload_n 0, 0, []), (38, .getfield 7, 0, []), (41, .iload_n 1, 0, []), (42, .aload_n 0, 0, []), (43, .getfield 19, 0, []), (46, .sipush 158, 0, []), (49, .aload_n 0, 0, []), (50, .getfield 53, 0, []), (53, .imul, 0, []), (54, .iload_n 1, 0, []), (55, .iadd, 0, []), (56, .iaload, 0, []), (57, .iastore, 0, []), (58, .iinc 1 1, 0, []), (61, .goto (-31), 30, [])],
  [(64, .aload_n 0, 0, []), (65, .getfield 53, 0, []), (68, .ireturn, 0, [])]]
def m_X9_undo : mv_M := (2, false, 1, cd_X9_undo, lk_X9, [])
def cd_X9_undoCount : List (List (Nat × mv_I)) := [[(0, .aload_n 0, 0, []), (1, .iconst 0, 0, []), (2, .putfield 50, 0, []), (5, .aload_n 0, 0, []), (6, .getfield 53, 0, []), (9, .ireturn, 0, [])]]
def m_X9_undoCount : mv_M := (1, false, 1, cd_X9_undoCount, lk_X9, [])
def cd_X9_saveSnapshot : List (List (Nat × mv_I)) := [[(0, .iconst 0, 0, []), (1, .istore_n 1, 0, []), (2, .iload_n 1, 0, []), (3, .sipush 158, 0, []), (6, .if_icmp .ge 21, 27, []), (9, .aload_n 0, 0, []), (10, .getfield 16, 0, []), (13, .iload_n 1, 0, []), (14, .aload_n 0, 0, []), (15, .getfield 7, 0, []), (18, .iload_n 1, 0, []), (19, .iaload, 0, []), (20, .iastore, 0, []), (21, .iinc 1 1, 0, []), (24, .goto (-22), 2, []), (27, .aload_n 0, 0, []), (28, .iconst 1, 0, []), (29, .putfield 306, 0, [])],
  [(32, .aload_n 0, 0, []), (33, .invokevirtual 223, 0, []), (36, .ireturn, 0, [])]]
def m_X9_saveSnapshot : mv_M := (2, false, 1, cd_X9_saveSnapshot, lk_X9, [])
def cd_X9_restoreSnapshot : List (List (Nat × mv_I)) := [[(0, .aload_n 0, 0, []), (1, .iconst 0, 0, []), (2, .putfield 50, 0, []), (5, .aload_n 0, 0, []), (6, .getfield 306, 0, []), (9, .ifCond .ne 9, 18, []), (12, .aload_n 0, 0, []), (13, .iconst 1, 0, []), (14, .invokevirtual 72, 0, []), (17, .ireturn, 0, []), (18, .iconst 0, 0, []), (19, .istore_n 1, 0, []), (20, .iload_n 1, 0, []), (21, .sipush 158, 0, []), (24, .if_icmp .ge 21, 45, []), (27, .aload_n 0, 0, []), (28, .getfield 7, 0, []), (31, .iload_n 1, 0, [])],
  [(32, .aload_n 0, 0, []), (33, .getfield 16, 0, []), (36, .iload_n 1, 0, []), (37, .iaload, 0, []), (38, .iastore, 0, []), (39, .iinc 1 1, 0, []), (42, .goto (-22), 20, []), (45, .aload_n 0, 0, []), (46, .iconst 0, 0, []), (47, .putfield 53, 0, []), (50, .aload_n 0, 0, []), (51, .invokevirtual 223, 0, []), (54, .ireturn, 0, [])]]
def m_X9_restoreSnapshot : mv_M := (2, false, 1, cd_X9_restoreSnapshot, lk_X9, [])
def cd_J5_init_d00df : List (List (Nat × mv_I)) := [[(0, .aload_n 0, 0, []), (1, .invokespecial 3, 0, []), (4, .getstatic 18, 0, []), (7, .ifCond .eq 18, 25, []), (10, .aload_n 0, 0, []), (11, .iload_n 1, 0, []), (12, .newarray .byte, 0, []), (14, .putfield 15, 0, []), (17, .aload_n 0, 0, []), (18, .iconst 0, 0, []), (19, .putfield 22, 0, []), (22, .goto 16, 38, []), (25, .aload_n 0, 0, []), (26, .iload_n 1, 0, []), (27, .invokestatic 26, 0, []), (30, .putfield 15, 0, [])],
  [(33, .aload_n 0, 0, []), (34, .iconst 1, 0, []), (35, .putfield 22, 0, []), (38, .return_, 0, [])]]
def m_J5_init_d00df : mv_M := (2, false, 0, cd_J5_init_d00df, lk_J5, [])
def cd_J5_length_8abf5 : List (List (Nat × mv_I)) := [[(0, .aload_n 0, 0, []), (1, .getfield 79, 0, []), (4, .ireturn, 0, [])]]
def m_J5_length_8abf5 : mv_M := (1, false, 1, cd_J5_length_8abf5, lk_J5, [])
def cd_J5_ensureCapacityInternal_d00df : List (List (Nat × mv_I)) := [[(0, .aload_n 0, 0, []), (1, .getfield 15, 0, []), (4, .arraylength, 0, []), (5, .aload_n 0, 0, []), (6, .getfield 22, 0, []), (9, .ishr, 0, []), (10, .istore_n 2, 0, []), (11, .iload_n 1, 0, []), (12, .iload_n 2, 0, []), (13, .isub, 0, []), (14, .ifCond .le 24, 38, []), (17, .aload_n 0, 0, []), (18, .aload_n 0, 0, []), (19, .getfield 15, 0, []), (22, .aload_n 0, 0, []), (23, .iload_n 1, 0, []), (24, .invokevirtual 104, 0, []), (27, .aload_n 0, 0, []), (28, .getfield 22, 0, []), (31, .ishl, 0, [])],
  [(32, .invokestatic 108, 0, []), (35, .putfield 15, 0, []), (38, .return_, 0, [])]]
def m_J5_ensureCapacityInternal_d00df : mv_M := (3, false, 0, cd_J5_ensureCapacityInternal_d00df, lk_J5, [])
def cd_J5_newCapacity_0f7a4 : List (List (Nat × mv_I)) := [[(0, .aload_n 0, 0, []), (1, .getfield 15, 0, []), (4, .arraylength, 0, []), (5, .istore_n 2, 0, []), (6, .iload_n 1, 0, []), (7, .aload_n 0, 0, []), (8, .getfield 22, 0, []), (11, .ishl, 0, []), (12, .istore_n 3, 0, []), (13, .iload_n 3, 0, []), (14, .iload_n 2, 0, []), (15, .isub, 0, []), (16, .istore 4, 0, []), (18, .iload_n 2, 0, []), (19, .iload 4, 0, []), (21, .iload_n 2, 0, []), (22, .iconst 2, 0, []), (23, .aload_n 0, 0, []), (24, .getfield 22, 0, []), (27, .ishl, 0, []), (28, .iadd, 0, []), (29, .invokestatic 114, 0, [])],
  [(32, .istore 5, 0, []), (34, .iload 5, 0, []), (36, .ldc 39, 0, [(2147483647, 0)]), (38, .if_icmp .ne 13, 51, []), (41, .new 120, 0, []), (44, .dup, 0, []), (45, .ldc 122, 0, []), (47, .invokespecial 124, 0, []), (50, .athrow, 0, []), (51, .iload 5, 0, []), (53, .aload_n 0, 0, []), (54, .getfield 22, 0, []), (57, .ishr, 0, []), (58, .ireturn, 0, [])]]
def m_J5_newCapacity_0f7a4 : mv_M := (6, false, 1, cd_J5_newCapacity_0f7a4, lk_J5, [])
def cd_J5_setLength_d00df : List (List (Nat × mv_I)) := [[(0, .iload_n 1, 0, []), (1, .ifCond .ge 12, 13, []), (4, .new 129, 0, []), (7, .dup, 0, []), (8, .iload_n 1, 0, []), (9, .invokespecial 131, 0, []), (12, .athrow, 0, []), (13, .aload_n 0, 0, []), (14, .iload_n 1, 0, []), (15, .invokevirtual 100, 0, []), (18, .aload_n 0, 0, []), (19, .getfield 79, 0, []), (22, .iload_n 1, 0, []), (23, .if_icmp .ge 40, 63, []), (26, .aload_n 0, 0, []), (27, .invokevirtual 83, 0, []), (30, .ifCond .eq 18, 48, [])],
  [(33, .aload_n 0, 0, []), (34, .getfield 15, 0, []), (37, .aload_n 0, 0, []), (38, .getfield 79, 0, []), (41, .iload_n 1, 0, []), (42, .invokestatic 133, 0, []), (45, .goto 31, 76, []), (48, .aload_n 0, 0, []), (49, .getfield 15, 0, []), (52, .aload_n 0, 0, []), (53, .getfield 79, 0, []), (56, .iload_n 1, 0, []), (57, .invokestatic 137, 0, []), (60, .goto 16, 76, []), (63, .aload_n 0, 0, [])],
  [(64, .getfield 79, 0, []), (67, .iload_n 1, 0, []), (68, .if_icmp .le 8, 76, []), (71, .aload_n 0, 0, []), (72, .iconst 1, 0, []), (73, .putfield 73, 0, []), (76, .aload_n 0, 0, []), (77, .iload_n 1, 0, []), (78, .putfield 79, 0, []), (81, .return_, 0, [])]]
def m_J5_setLength_d00df : mv_M := (2, false, 0, cd_J5_setLength_d00df, lk_J5, [])
def cd_J5_charAt_5068e : List (List (Nat × mv_I)) := [[(0, .aload_n 0, 0, []), (1, .getfield 22, 0, []), (4, .istore_n 2, 0, []), (5, .aload_n 0, 0, []), (6, .getfield 15, 0, []), (9, .astore_n 3, 0, []), (10, .aload_n 0, 0, []), (11, .getfield 79, 0, []), (14, .aload_n 3, 0, []), (15, .arraylength, 0, []), (16, .iload_n 2, 0, []), (17, .ishr, 0, []), (18, .invokestatic 138, 0, []), (21, .istore 4, 0, []), (23, .iload_n 1, 0, []), (24, .iload 4, 0, []), (26, .invokestatic 144, 0, []), (29, .iload_n 2, 0, []), (30, .ifCond .ne 12, 42, [])],
  [(33, .aload_n 3, 0, []), (34, .iload_n 1, 0, []), (35, .baload, 0, []), (36, .sipush 255, 0, []), (39, .iand, 0, []), (40, .i2c, 0, []), (41, .ireturn, 0, []), (42, .aload_n 3, 0, []), (43, .iload_n 1, 0, []), (44, .invokestatic 148, 0, []), (47, .ireturn, 0, [])]]
def m_J5_charAt_5068e : mv_M := (5, false, 7, cd_J5_charAt_5068e, lk_J5, [])
def cd_J5_append_3fe6f : List (List (Nat × mv_I)) := [[(0, .aload_n 0, 0, []), (1, .aload_n 0, 0, []), (2, .getfield 79, 0, []), (5, .iconst 1, 0, []), (6, .iadd, 0, []), (7, .invokevirtual 100, 0, []), (10, .aload_n 0, 0, []), (11, .invokevirtual 83, 0, []), (14, .ifCond .eq 31, 45, []), (17, .iload_n 1, 0, []), (18, .invokestatic 191, 0, []), (21, .ifCond .eq 24, 45, []), (24, .aload_n 0, 0, []), (25, .getfield 15, 0, []), (28, .aload_n 0, 0, []), (29, .dup, 0, []), (30, .getfield 79, 0, [])],
  [(33, .dup_x1, 0, []), (34, .iconst 1, 0, []), (35, .iadd, 0, []), (36, .putfield 79, 0, []), (39, .iload_n 1, 0, []), (40, .i2b, 0, []), (41, .bastore, 0, []), (42, .goto 33, 75, []), (45, .aload_n 0, 0, []), (46, .invokevirtual 83, 0, []), (49, .ifCond .eq 7, 56, []), (52, .aload_n 0, 0, []), (53, .invokevirtual 195, 0, []), (56, .aload_n 0, 0, []), (57, .getfield 15, 0, []), (60, .aload_n 0, 0, []), (61, .dup, 0, []), (62, .getfield 79, 0, [])],
  [(65, .dup_x1, 0, []), (66, .iconst 1, 0, []), (67, .iadd, 0, []), (68, .putfield 79, 0, []), (71, .iload_n 1, 0, []), (72, .invokestatic 197, 0, []), (75, .aload_n 0, 0, []), (76, .areturn, 0, [])]]
def m_J5_append_3fe6f : mv_M := (2, false, 2, cd_J5_append_3fe6f, lk_J5, [])
def cd_J5_append_c97b9 : List (List (Nat × mv_I)) := [[(0, .aload_n 0, 0, []), (1, .getfield 79, 0, []), (4, .istore_n 2, 0, []), (5, .iload_n 2, 0, []), (6, .iload_n 1, 0, []), (7, .invokestatic 245, 0, []), (10, .iadd, 0, []), (11, .istore_n 3, 0, []), (12, .aload_n 0, 0, []), (13, .iload_n 3, 0, []), (14, .invokevirtual 100, 0, []), (17, .aload_n 0, 0, []), (18, .invokevirtual 83, 0, []), (21, .ifCond .eq 16, 37, []), (24, .iload_n 1, 0, []), (25, .iload_n 3, 0, []), (26, .aload_n 0, 0, []), (27, .getfield 15, 0, []), (30, .invokestatic 248, 0, [])],
  [(33, .pop, 0, []), (34, .goto 14, 48, []), (37, .iload_n 1, 0, []), (38, .iload_n 2, 0, []), (39, .iload_n 3, 0, []), (40, .aload_n 0, 0, []), (41, .getfield 15, 0, []), (44, .invokestatic 251, 0, []), (47, .pop, 0, []), (48, .aload_n 0, 0, []), (49, .iload_n 3, 0, []), (50, .putfield 79, 0, []), (53, .aload_n 0, 0, []), (54, .areturn, 0, [])]]
def m_J5_append_c97b9 : mv_M := (4, false, 2, cd_J5_append_c97b9, lk_J5, [])
def cd_J5_isLatin1_aae02 : List (List (Nat × mv_I)) := [[(0, .getstatic 18, 0, []), (3, .ifCond .eq 14, 17, []), (6, .aload_n 0, 0, []), (7, .getfield 22, 0, []), (10, .ifCond .ne 7, 17, []), (13, .iconst 1, 0, []), (14, .goto 4, 18, []), (17, .iconst 0, 0, []), (18, .ireturn, 0, [])]]
def m_J5_isLatin1_aae02 : mv_M := (1, false, 6, cd_J5_isLatin1_aae02, lk_J5, [])
def cd_J6_getChars_ba4f3 : List (List (Nat × mv_I)) := [[(0, .iload_n 1, 0, []), (1, .istore 5, 0, []), (3, .iload_n 0, 0, []), (4, .ifCond .ge 7, 11, []), (7, .iconst 1, 0, []), (8, .goto 4, 12, []), (11, .iconst 0, 0, []), (12, .istore 6, 0, []), (14, .iload 6, 0, []), (16, .ifCond .ne 6, 22, []), (19, .iload_n 0, 0, []), (20, .ineg, 0, []), (21, .istore_n 0, 0, []), (22, .iload_n 0, 0, []), (23, .bipush (-100), 0, []), (25, .if_icmp .gt 47, 72, []), (28, .iload_n 0, 0, []), (29, .bipush 100, 0, []), (31, .idiv, 0, [])],
  [(32, .istore_n 3, 0, []), (33, .iload_n 3, 0, []), (34, .bipush 100, 0, []), (36, .imul, 0, []), (37, .iload_n 0, 0, []), (38, .isub, 0, []), (39, .istore 4, 0, []), (41, .iload_n 3, 0, []), (42, .istore_n 0, 0, []), (43, .aload_n 2, 0, []), (44, .iinc 5 (-1), 0, []), (47, .iload 5, 0, []), (49, .getstatic 83, 0, []), (52, .iload 4, 0, []), (54, .baload, 0, []), (55, .bastore, 0, []), (56, .aload_n 2, 0, []), (57, .iinc 5 (-1), 0, []), (60, .iload 5, 0, []), (62, .getstatic 87, 0, [])],
  [(65, .iload 4, 0, []), (67, .baload, 0, []), (68, .bastore, 0, []), (69, .goto (-47), 22, []), (72, .aload_n 2, 0, []), (73, .iinc 5 (-1), 0, []), (76, .iload 5, 0, []), (78, .getstatic 83, 0, []), (81, .iload_n 0, 0, []), (82, .ineg, 0, []), (83, .baload, 0, []), (84, .bastore, 0, []), (85, .iload_n 0, 0, []), (86, .bipush (-9), 0, []), (88, .if_icmp .ge 16, 104, []), (91, .aload_n 2, 0, []), (92, .iinc 5 (-1), 0, []), (95, .iload 5, 0, [])],
  [(97, .getstatic 87, 0, []), (100, .iload_n 0, 0, []), (101, .ineg, 0, []), (102, .baload, 0, []), (103, .bastore, 0, []), (104, .iload 6, 0, []), (106, .ifCond .eq 12, 118, []), (109, .aload_n 2, 0, []), (110, .iinc 5 (-1), 0, []), (113, .iload 5, 0, []), (115, .bipush 45, 0, []), (117, .bastore, 0, []), (118, .iload 5, 0, []), (120, .ireturn, 0, [])]]
def m_J6_getChars_ba4f3 : mv_M := (7, false, 1, cd_J6_getChars_ba4f3, lk_J6, [])
def cd_J6_stringSize_0f7a4 : List (List (Nat × mv_I)) := [[(0, .iconst 1, 0, []), (1, .istore_n 1, 0, []), (2, .iload_n 0, 0, []), (3, .ifCond .lt 8, 11, []), (6, .iconst 0, 0, []), (7, .istore_n 1, 0, []), (8, .iload_n 0, 0, []), (9, .ineg, 0, []), (10, .istore_n 0, 0, []), (11, .bipush (-10), 0, []), (13, .istore_n 2, 0, []), (14, .iconst 1, 0, []), (15, .istore_n 3, 0, []), (16, .iload_n 3, 0, []), (17, .bipush 10, 0, []), (19, .if_icmp .ge 23, 42, []), (22, .iload_n 0, 0, []), (23, .iload_n 2, 0, []), (24, .if_icmp .le 7, 31, []), (27, .iload_n 3, 0, []), (28, .iload_n 1, 0, []), (29, .iadd, 0, []), (30, .ireturn, 0, []), (31, .bipush 10, 0, [])],
  [(33, .iload_n 2, 0, []), (34, .imul, 0, []), (35, .istore_n 2, 0, []), (36, .iinc 3 1, 0, []), (39, .goto (-23), 16, []), (42, .bipush 10, 0, []), (44, .iload_n 1, 0, []), (45, .iadd, 0, []), (46, .ireturn, 0, [])]]
def m_J6_stringSize_0f7a4 : mv_M := (4, false, 1, cd_J6_stringSize_0f7a4, lk_J6, [])
def cd_J6_bitCount_0f7a4 : List (List (Nat × mv_I)) := [[(0, .iload_n 0, 0, []), (1, .iload_n 0, 0, []), (2, .iconst 1, 0, []), (3, .iushr, 0, []), (4, .ldc_w 265, 0, [(1431655765, 0)]), (7, .iand, 0, []), (8, .isub, 0, []), (9, .istore_n 0, 0, []), (10, .iload_n 0, 0, []), (11, .ldc_w 266, 0, [(858993459, 0)]), (14, .iand, 0, []), (15, .iload_n 0, 0, []), (16, .iconst 2, 0, []), (17, .iushr, 0, []), (18, .ldc_w 266, 0, [(858993459, 0)]), (21, .iand, 0, []), (22, .iadd, 0, []), (23, .istore_n 0, 0, []), (24, .iload_n 0, 0, []), (25, .iload_n 0, 0, []), (26, .iconst 4, 0, []), (27, .iushr, 0, []), (28, .iadd, 0, []), (29, .ldc_w 267, 0, [(252645135, 0)])],
  [(32, .iand, 0, []), (33, .istore_n 0, 0, []), (34, .iload_n 0, 0, []), (35, .iload_n 0, 0, []), (36, .bipush 8, 0, []), (38, .iushr, 0, []), (39, .iadd, 0, []), (40, .istore_n 0, 0, []), (41, .iload_n 0, 0, []), (42, .iload_n 0, 0, []), (43, .bipush 16, 0, []), (45, .iushr, 0, []), (46, .iadd, 0, []), (47, .istore_n 0, 0, []), (48, .iload_n 0, 0, []), (49, .bipush 63, 0, []), (51, .iand, 0, []), (52, .ireturn, 0, [])]]
def m_J6_bitCount_0f7a4 : mv_M := (1, false, 1, cd_J6_bitCount_0f7a4, lk_J6, [])
def cd_J9_abs_0f7a4 : List (List (Nat × mv_I)) := [[(0, .iload_n 0, 0, []), (1, .ifCond .ge 8, 9, []), (4, .iload_n 0, 0, []), (5, .ineg, 0, []), (6, .goto 4, 10, []), (9, .iload_n 0, 0, []), (10, .ireturn, 0, [])]]
def m_J9_abs_0f7a4 : mv_M := (1, false, 1, cd_J9_abs_0f7a4, [], [])
def cd_J9_max_7cf53 : List (List (Nat × mv_I)) := [[(0, .iload_n 0, 0, []), (1, .iload_n 1, 0, []), (2, .if_icmp .lt 7, 9, []), (5, .iload_n 0, 0, []), (6, .goto 4, 10, []), (9, .iload_n 1, 0, []), (10, .ireturn, 0, [])]]
def m_J9_max_7cf53 : mv_M := (2, false, 1, cd_J9_max_7cf53, [], [])
def cd_J9_min_7cf53 : List (List (Nat × mv_I)) := [[(0, .iload_n 0, 0, []), (1, .iload_n 1, 0, []), (2, .if_icmp .gt 7, 9, []), (5, .iload_n 0, 0, []), (6, .goto 4, 10, []), (9, .iload_n 1, 0, []), (10, .ireturn, 0, [])]]
def m_J9_min_7cf53 : mv_M := (2, false, 1, cd_J9_min_7cf53, [], [])
def cd_J0_length_8abf5 : List (List (Nat × mv_I)) := [[(0, .aload_n 0, 0, []), (1, .getfield 9, 0, []), (4, .arraylength, 0, []), (5, .aload_n 0, 0, []), (6, .invokevirtual 335, 0, []), (9, .ishr, 0, []), (10, .ireturn, 0, [])]]
def m_J0_length_8abf5 : mv_M := (1, false, 1, cd_J0_length_8abf5, lk_J0, [])
def cd_J0_charAt_5068e : List (List (Nat × mv_I)) := [[(0, .aload_n 0, 0, []), (1, .invokevirtual 492, 0, []), (4, .ifCond .eq 12, 16, []), (7, .aload_n 0, 0, []), (8, .getfield 9, 0, []), (11, .iload_n 1, 0, []), (12, .invokestatic 495, 0, []), (15, .ireturn, 0, []), (16, .aload_n 0, 0, []), (17, .getfield 9, 0, []), (20, .iload_n 1, 0, []), (21, .invokestatic 498, 0, []), (24, .ireturn, 0, [])]]
def m_J0_charAt_5068e : mv_M := (2, false, 7, cd_J0_charAt_5068e, lk_J0, [])
def cd_J0_coder_7d493 : List (List (Nat × mv_I)) := [[(0, .getstatic 38, 0, []), (3, .ifCond .eq 10, 13, []), (6, .aload_n 0, 0, []), (7, .getfield 15, 0, []), (10, .goto 4, 14, []), (13, .iconst 1, 0, []), (14, .ireturn, 0, [])]]
def m_J0_coder_7d493 : mv_M := (1, false, 8, cd_J0_coder_7d493, lk_J0, [])
def cd_J0_isLatin1_aae02 : List (List (Nat × mv_I)) := [[(0, .getstatic 38, 0, []), (3, .ifCond .eq 14, 17, []), (6, .aload_n 0, 0, []), (7, .getfield 15, 0, []), (10, .ifCond .ne 7, 17, []), (13, .iconst 1, 0, []), (14, .goto 4, 18, []), (17, .iconst 0, 0, []), (18, .ireturn, 0, [])]]
def m_J0_isLatin1_aae02 : mv_M := (1, false, 6, cd_J0_isLatin1_aae02, lk_J0, [])
def cd_J0_checkIndex_df160 : List (List (Nat × mv_I)) := [[(0, .iload_n 0, 0, []), (1, .iload_n 1, 0, []), (2, .getstatic 1053, 0, []), (5, .invokestatic 1059, 0, []), (8, .pop, 0, []), (9, .return_, 0, [])]]
def m_J0_checkIndex_df160 : mv_M := (2, false, 0, cd_J0_checkIndex_df160, lk_J0, [])
def cd_J4_init_da8c8 : List (List (Nat × mv_I)) := [[(0, .aload_n 0, 0, []), (1, .bipush 16, 0, []), (3, .invokespecial 1, 0, []), (6, .return_, 0, [])]]
def m_J4_init_da8c8 : mv_M := (1, false, 0, cd_J4_init_da8c8, lk_J4, [])
def cd_J4_append_cf468 : List (List (Nat × mv_I)) := [[(0, .aload_n 0, 0, []), (1, .iload_n 1, 0, []), (2, .invokespecial 50, 0, []), (5, .pop, 0, []), (6, .aload_n 0, 0, []), (7, .areturn, 0, [])]]
def m_J4_append_cf468 : mv_M := (2, false, 2, cd_J4_append_cf468, lk_J4, [])
def cd_J4_append_bf812 : List (List (Nat × mv_I)) := [[(0, .aload_n 0, 0, []), (1, .iload_n 1, 0, []), (2, .invokespecial 53, 0, []), (5, .pop, 0, []), (6, .aload_n 0, 0, []), (7, .areturn, 0, [])]]
def m_J4_append_bf812 : mv_M := (2, false, 2, cd_J4_append_bf812, lk_J4, [])
def cd_J4_charAt_5068e : List (List (Nat × mv_I)) := [[(0, .aload_n 0, 0, []), (1, .iload_n 1, 0, []), (2, .invokespecial 329, 0, []), (5, .ireturn, 0, [])]]
def m_J4_charAt_5068e : mv_M := (2, false, 7, cd_J4_charAt_5068e, lk_J4, [])
def cd_J4_setLength_d00df : List (List (Nat × mv_I)) := [[(0, .aload_n 0, 0, []), (1, .iload_n 1, 0, []), (2, .invokespecial 333, 0, []), (5, .return_, 0, [])]]
def m_J4_setLength_d00df : mv_M := (2, false, 0, cd_J4_setLength_d00df, lk_J4, [])
def cd_J4_length_8abf5 : List (List (Nat × mv_I)) := [[(0, .aload_n 0, 0, []), (1, .invokespecial 343, 0, []), (4, .ireturn, 0, [])]]
def m_J4_length_8abf5 : mv_M := (1, false, 1, cd_J4_length_8abf5, lk_J4, [])
def cd_J1_charAt_3b067 : List (List (Nat × mv_I)) := [[(0, .iload_n 1, 0, []), (1, .aload_n 0, 0, []), (2, .arraylength, 0, []), (3, .invokestatic 9, 0, []), (6, .aload_n 0, 0, []), (7, .iload_n 1, 0, []), (8, .baload, 0, []), (9, .sipush 255, 0, []), (12, .iand, 0, []), (13, .i2c, 0, []), (14, .ireturn, 0, [])]]
def m_J1_charAt_3b067 : mv_M := (2, false, 7, cd_J1_charAt_3b067, lk_J1, [])
def cd_J1_canEncode_fc78d : List (List (Nat × mv_I)) := [[(0, .iload_n 0, 0, []), (1, .sipush 255, 0, []), (4, .if_icmp .gt 7, 11, []), (7, .iconst 1, 0, []), (8, .goto 4, 12, []), (11, .iconst 0, 0, []), (12, .ireturn, 0, [])]]
def m_J1_canEncode_fc78d : mv_M := (1, false, 6, cd_J1_canEncode_fc78d, lk_J1, [])
def cd_J7_fill_53178 : List (List (Nat × mv_I)) := [[(0, .iconst 0, 0, []), (1, .istore_n 2, 0, []), (2, .aload_n 0, 0, []), (3, .arraylength, 0, []), (4, .istore_n 3, 0, []), (5, .iload_n 2, 0, []), (6, .iload_n 3, 0, []), (7, .if_icmp .ge 13, 20, []), (10, .aload_n 0, 0, []), (11, .iload_n 2, 0, []), (12, .iload_n 1, 0, []), (13, .iastore, 0, []), (14, .iinc 2 1, 0, []), (17, .goto (-12), 5, []), (20, .return_, 0, [])]]
def m_J7_fill_53178 : mv_M := (4, false, 0, cd_J7_fill_53178, lk_J7, [])
def cd_J7_copyOf_9075b : List (List (Nat × mv_I)) := [[(0, .iload_n 1, 0, []), (1, .aload_n 0, 0, []), (2, .arraylength, 0, []), (3, .if_icmp .ne 11, 14, []), (6, .aload_n 0, 0, []), (7, .invokevirtual 310, 0, []), (10, .checkcast 311, 0, []), (13, .areturn, 0, []), (14, .iload_n 1, 0, []), (15, .newarray .byte, 0, []), (17, .astore_n 2, 0, []), (18, .aload_n 0, 0, []), (19, .iconst 0, 0, []), (20, .aload_n 2, 0, []), (21, .iconst 0, 0, []), (22, .aload_n 0, 0, []), (23, .arraylength, 0, []), (24, .iload_n 1, 0, []), (25, .invokestatic 304, 0, []), (28, .invokestatic 150, 0, []), (31, .aload_n 2, 0, [])],
  [(32, .areturn, 0, [])]]
def m_J7_copyOf_9075b : mv_M := (3, false, 2, cd_J7_copyOf_9075b, lk_J7, [])
def cd_J8_newLength_cabcc : List (List (Nat × mv_I)) := [[(0, .iload_n 0, 0, []), (1, .iload_n 1, 0, []), (2, .iload_n 2, 0, []), (3, .invokestatic 194, 0, []), (6, .iadd, 0, []), (7, .istore_n 3, 0, []), (8, .iconst 0, 0, []), (9, .iload_n 3, 0, []), (10, .if_icmp .ge 11, 21, []), (13, .iload_n 3, 0, []), (14, .ldc 200, 0, [(2147483639, 0)]), (16, .if_icmp .gt 5, 21, []), (19, .iload_n 3, 0, []), (20, .ireturn, 0, []), (21, .iload_n 0, 0, []), (22, .iload_n 1, 0, []), (23, .invokestatic 201, 0, []), (26, .ireturn, 0, [])]]
def m_J8_newLength_cabcc : mv_M := (4, false, 1, cd_J8_newLength_cabcc, lk_J8, [])
def cd_J3_checkIndex_8e157 : List (List (Nat × mv_I)) := [[(0, .iload_n 0, 0, []), (1, .ifCond .lt 8, 9, []), (4, .iload_n 0, 0, []), (5, .iload_n 1, 0, []), (6, .if_icmp .lt 10, 16, []), (9, .aload_n 2, 0, []), (10, .iload_n 0, 0, []), (11, .iload_n 1, 0, []), (12, .invokestatic 95, 0, []), (15, .athrow, 0, []), (16, .iload_n 0, 0, []), (17, .ireturn, 0, [])]]
def m_J3_checkIndex_8e157 : mv_M := (3, false, 1, cd_J3_checkIndex_8e157, [], [])
def cd_L_moor : List (List (Nat × mv_I)) := [[(0, .aload 5, 0, []), (2, .iconst 0, 0, []), (3, .aload_n 0, 0, []), (4, .iload_n 1, 0, []), (5, .iload_n 2, 0, []), (6, .iload_n 3, 0, []), (7, .iload 4, 0, []), (9, .invokevirtual 7, 0, []), (12, .i2l, 0, []), (13, .lastore, 0, []), (14, .goto 11, 25, []), (17, .astore 6, 0, []), (19, .iconst 1, 0, []), (20, .ireturn, 0, []), (21, .astore 6, 0, []), (23, .iconst 2, 0, []), (24, .ireturn, 0, []), (25, .iconst 0, 0, []), (26, .ireturn, 0, [])]]
def m_L_moor : mv_M := (7, false, 1, cd_L_moor, lk_L, [(0, 14, 19, 0, 6), (0, 14, 23, 3, 6)])
def cd_L_castOff : List (List (Nat × mv_I)) := [[(0, .aload_n 2, 0, []), (1, .iconst 0, 0, []), (2, .aload_n 0, 0, []), (3, .iload_n 1, 0, []), (4, .invokevirtual 17, 0, []), (7, .i2l, 0, []), (8, .lastore, 0, []), (9, .goto 6, 15, []), (12, .astore_n 3, 0, []), (13, .iconst 1, 0, []), (14, .ireturn, 0, []), (15, .iconst 0, 0, []), (16, .ireturn, 0, [])]]
def m_L_castOff : mv_M := (4, false, 1, cd_L_castOff, lk_L, [(0, 9, 13, 1, 3)])
def cd_L_isMoored : List (List (Nat × mv_I)) := [[(0, .aload_n 2, 0, []), (1, .iconst 0, 0, []), (2, .aload_n 0, 0, []), (3, .iload_n 1, 0, []), (4, .invokevirtual 23, 0, []), (7, .ifCond .eq 7, 14, []), (10, .lconst 1, 0, []), (11, .goto 4, 15, []), (14, .lconst 0, 0, []), (15, .lastore, 0, []), (16, .goto 6, 22, []), (19, .astore_n 3, 0, []), (20, .iconst 1, 0, []), (21, .ireturn, 0, []), (22, .iconst 0, 0, []), (23, .ireturn, 0, [])]]
def m_L_isMoored : mv_M := (4, false, 1, cd_L_isMoored, lk_L, [(0, 16, 20, 0, 3)])
def cd_L_lift : List (List (Nat × mv_I)) := [[(0, .aload_n 2, 0, []), (1, .iconst 0, 0, []), (2, .aload_n 0, 0, []), (3, .iload_n 1, 0, []), (4, .invokevirtual 27, 0, []), (7, .i2l, 0, []), (8, .lastore, 0, []), (9, .goto 6, 15, []), (12, .astore_n 3, 0, []), (13, .iconst 1, 0, []), (14, .ireturn, 0, []), (15, .iconst 0, 0, []), (16, .ireturn, 0, [])]]
def m_L_lift : mv_M := (4, false, 1, cd_L_lift, lk_L, [(0, 9, 13, 1, 3)])
def cd_L_ballast : List (List (Nat × mv_I)) := [[(0, .aload_n 2, 0, []), (1, .iconst 0, 0, []), (2, .aload_n 0, 0, []), (3, .iload_n 1, 0, []), (4, .invokevirtual 30, 0, []), (7, .i2l, 0, []), (8, .lastore, 0, []), (9, .goto 6, 15, []), (12, .astore_n 3, 0, []), (13, .iconst 1, 0, []), (14, .ireturn, 0, []), (15, .iconst 0, 0, []), (16, .ireturn, 0, [])]]
def m_L_ballast : mv_M := (4, false, 1, cd_L_ballast, lk_L, [(0, 9, 13, 1, 3)])
def cd_L_height : List (List (Nat × mv_I)) := [[(0, .aload_n 2, 0, []), (1, .iconst 0, 0, []), (2, .aload_n 0, 0, []), (3, .iload_n 1, 0, []), (4, .invokevirtual 33, 0, []), (7, .i2l, 0, []), (8, .lastore, 0, []), (9, .goto 6, 15, []), (12, .astore_n 3, 0, []), (13, .iconst 1, 0, []), (14, .ireturn, 0, []), (15, .iconst 0, 0, []), (16, .ireturn, 0, [])]]
def m_L_height : mv_M := (4, false, 1, cd_L_height, lk_L, [(0, 9, 13, 1, 3)])
def cd_L_isBursting : List (List (Nat × mv_I)) := [[(0, .aload_n 2, 0, []), (1, .iconst 0, 0, []), (2, .aload_n 0, 0, []), (3, .iload_n 1, 0, []), (4, .invokevirtual 36, 0, []), (7, .ifCond .eq 7, 14, []), (10, .lconst 1, 0, []), (11, .goto 4, 15, []), (14, .lconst 0, 0, []), (15, .lastore, 0, []), (16, .goto 6, 22, []), (19, .astore_n 3, 0, []), (20, .iconst 1, 0, []), (21, .ireturn, 0, []), (22, .iconst 0, 0, []), (23, .ireturn, 0, [])]]
def m_L_isBursting : mv_M := (4, false, 1, cd_L_isBursting, lk_L, [(0, 16, 20, 1, 3)])
def cd_L_berthByHeight : List (List (Nat × mv_I)) := [[(0, .aload_n 2, 0, []), (1, .iconst 0, 0, []), (2, .aload_n 0, 0, []), (3, .iload_n 1, 0, []), (4, .invokevirtual 39, 0, []), (7, .i2l, 0, []), (8, .lastore, 0, []), (9, .goto 6, 15, []), (12, .astore_n 3, 0, []), (13, .iconst 1, 0, []), (14, .ireturn, 0, []), (15, .iconst 0, 0, []), (16, .ireturn, 0, [])]]
def m_L_berthByHeight : mv_M := (4, false, 1, cd_L_berthByHeight, lk_L, [(0, 9, 13, 1, 3)])
def cd_L_load : List (List (Nat × mv_I)) := [[(0, .aload_n 3, 0, []), (1, .iconst 0, 0, []), (2, .aload_n 0, 0, []), (3, .iload_n 1, 0, []), (4, .iload_n 2, 0, []), (5, .invokevirtual 42, 0, []), (8, .i2l, 0, []), (9, .lastore, 0, []), (10, .goto 15, 25, []), (13, .astore 4, 0, []), (15, .iconst 1, 0, []), (16, .ireturn, 0, []), (17, .astore 4, 0, []), (19, .iconst 2, 0, []), (20, .ireturn, 0, []), (21, .astore 4, 0, []), (23, .iconst 3, 0, []), (24, .ireturn, 0, []), (25, .iconst 0, 0, []), (26, .ireturn, 0, [])]]
def m_L_load : mv_M := (5, false, 1, cd_L_load, lk_L, [(0, 10, 15, 1, 4), (0, 10, 19, 0, 4), (0, 10, 23, 3, 4)])
def cd_L_drop : List (List (Nat × mv_I)) := [[(0, .aload_n 3, 0, []), (1, .iconst 0, 0, []), (2, .aload_n 0, 0, []), (3, .iload_n 1, 0, []), (4, .iload_n 2, 0, []), (5, .invokevirtual 46, 0, []), (8, .i2l, 0, []), (9, .lastore, 0, []), (10, .goto 11, 21, []), (13, .astore 4, 0, []), (15, .iconst 1, 0, []), (16, .ireturn, 0, []), (17, .astore 4, 0, []), (19, .iconst 2, 0, []), (20, .ireturn, 0, []), (21, .iconst 0, 0, []), (22, .ireturn, 0, [])]]
def m_L_drop : mv_M := (5, false, 1, cd_L_drop, lk_L, [(0, 10, 15, 1, 4), (0, 10, 19, 2, 4)])
def cd_L_rise : List (List (Nat × mv_I)) := [[(0, .aload_n 3, 0, []), (1, .iconst 0, 0, []), (2, .aload_n 0, 0, []), (3, .iload_n 1, 0, []), (4, .iload_n 2, 0, []), (5, .invokevirtual 51, 0, []), (8, .i2l, 0, []), (9, .lastore, 0, []), (10, .goto 15, 25, []), (13, .astore 4, 0, []), (15, .iconst 1, 0, []), (16, .ireturn, 0, []), (17, .astore 4, 0, []), (19, .iconst 2, 0, []), (20, .ireturn, 0, []), (21, .astore 4, 0, []), (23, .iconst 3, 0, []), (24, .ireturn, 0, []), (25, .iconst 0, 0, []), (26, .ireturn, 0, [])]]
def m_L_rise : mv_M := (5, false, 1, cd_L_rise, lk_L, [(0, 10, 15, 1, 4), (0, 10, 19, 0, 4), (0, 10, 23, 3, 4)])
def cd_L_bagCount : List (List (Nat × mv_I)) := [[(0, .aload_n 2, 0, []), (1, .iconst 0, 0, []), (2, .aload_n 0, 0, []), (3, .iload_n 1, 0, []), (4, .invokevirtual 54, 0, []), (7, .i2l, 0, []), (8, .lastore, 0, []), (9, .goto 6, 15, []), (12, .astore_n 3, 0, []), (13, .iconst 1, 0, []), (14, .ireturn, 0, []), (15, .iconst 0, 0, []), (16, .ireturn, 0, [])]]
def m_L_bagCount : mv_M := (4, false, 1, cd_L_bagCount, lk_L, [(0, 9, 13, 1, 3)])
def cd_L_bagWeight : List (List (Nat × mv_I)) := [[(0, .aload_n 3, 0, []), (1, .iconst 0, 0, []), (2, .aload_n 0, 0, []), (3, .iload_n 1, 0, []), (4, .iload_n 2, 0, []), (5, .invokevirtual 57, 0, []), (8, .i2l, 0, []), (9, .lastore, 0, []), (10, .goto 11, 21, []), (13, .astore 4, 0, []), (15, .iconst 1, 0, []), (16, .ireturn, 0, []), (17, .astore 4, 0, []), (19, .iconst 2, 0, []), (20, .ireturn, 0, []), (21, .iconst 0, 0, []), (22, .ireturn, 0, [])]]
def m_L_bagWeight : mv_M := (5, false, 1, cd_L_bagWeight, lk_L, [(0, 10, 15, 1, 4), (0, 10, 19, 2, 4)])
def cd_L_fewestDrops : List (List (Nat × mv_I)) := [[(0, .aload_n 3, 0, []), (1, .iconst 0, 0, []), (2, .aload_n 0, 0, []), (3, .iload_n 1, 0, []), (4, .iload_n 2, 0, []), (5, .invokevirtual 60, 0, []), (8, .i2l, 0, []), (9, .lastore, 0, []), (10, .goto 11, 21, []), (13, .astore 4, 0, []), (15, .iconst 1, 0, []), (16, .ireturn, 0, []), (17, .astore 4, 0, []), (19, .iconst 2, 0, []), (20, .ireturn, 0, []), (21, .iconst 0, 0, []), (22, .ireturn, 0, [])]]
def m_L_fewestDrops : mv_M := (5, false, 1, cd_L_fewestDrops, lk_L, [(0, 10, 15, 0, 4), (0, 10, 19, 1, 4)])
def cd_L_fewestDropsBySets : List (List (Nat × mv_I)) := [[(0, .aload_n 3, 0, []), (1, .iconst 0, 0, []), (2, .aload_n 0, 0, []), (3, .iload_n 1, 0, []), (4, .iload_n 2, 0, []), (5, .invokevirtual 63, 0, []), (8, .i2l, 0, []), (9, .lastore, 0, []), (10, .goto 11, 21, []), (13, .astore 4, 0, []), (15, .iconst 1, 0, []), (16, .ireturn, 0, []), (17, .astore 4, 0, []), (19, .iconst 2, 0, []), (20, .ireturn, 0, []), (21, .iconst 0, 0, []), (22, .ireturn, 0, [])]]
def m_L_fewestDropsBySets : mv_M := (5, false, 1, cd_L_fewestDropsBySets, lk_L, [(0, 10, 15, 0, 4), (0, 10, 19, 1, 4)])
def cd_L_dropWeight : List (List (Nat × mv_I)) := [[(0, .aload_n 3, 0, []), (1, .iconst 0, 0, []), (2, .aload_n 0, 0, []), (3, .iload_n 1, 0, []), (4, .iload_n 2, 0, []), (5, .invokevirtual 66, 0, []), (8, .i2l, 0, []), (9, .lastore, 0, []), (10, .goto 11, 21, []), (13, .astore 4, 0, []), (15, .iconst 1, 0, []), (16, .ireturn, 0, []), (17, .astore 4, 0, []), (19, .iconst 2, 0, []), (20, .ireturn, 0, []), (21, .iconst 0, 0, []), (22, .ireturn, 0, [])]]
def m_L_dropWeight : mv_M := (5, false, 1, cd_L_dropWeight, lk_L, [(0, 10, 15, 0, 4), (0, 10, 19, 1, 4)])
def cd_L_setWind : List (List (Nat × mv_I)) := [[(0, .aload_n 3, 0, []), (1, .iconst 0, 0, []), (2, .aload_n 0, 0, []), (3, .iload_n 1, 0, []), (4, .iload_n 2, 0, []), (5, .invokevirtual 69, 0, []), (8, .i2l, 0, []), (9, .lastore, 0, []), (10, .goto 11, 21, []), (13, .astore 4, 0, []), (15, .iconst 1, 0, []), (16, .ireturn, 0, []), (17, .astore 4, 0, []), (19, .iconst 2, 0, []), (20, .ireturn, 0, []), (21, .iconst 0, 0, []), (22, .ireturn, 0, [])]]
def m_L_setWind : mv_M := (5, false, 1, cd_L_setWind, lk_L, [(0, 10, 15, 0, 4), (0, 10, 19, 3, 4)])
def cd_L_wind : List (List (Nat × mv_I)) := [[(0, .aload_n 2, 0, []), (1, .iconst 0, 0, []), (2, .aload_n 0, 0, []), (3, .iload_n 1, 0, []), (4, .invokevirtual 72, 0, []), (7, .i2l, 0, []), (8, .lastore, 0, []), (9, .goto 6, 15, []), (12, .astore_n 3, 0, []), (13, .iconst 1, 0, []), (14, .ireturn, 0, []), (15, .iconst 0, 0, []), (16, .ireturn, 0, [])]]
def m_L_wind : mv_M := (4, false, 1, cd_L_wind, lk_L, [(0, 9, 13, 0, 3)])
def cd_L_top : List (List (Nat × mv_I)) := [[(0, .aload_n 2, 0, []), (1, .iconst 0, 0, []), (2, .aload_n 0, 0, []), (3, .iload_n 1, 0, []), (4, .invokevirtual 75, 0, []), (7, .i2l, 0, []), (8, .lastore, 0, []), (9, .goto 6, 15, []), (12, .astore_n 3, 0, []), (13, .iconst 1, 0, []), (14, .ireturn, 0, []), (15, .iconst 0, 0, []), (16, .ireturn, 0, [])]]
def m_L_top : mv_M := (4, false, 1, cd_L_top, lk_L, [(0, 9, 13, 1, 3)])
def cd_L_longestCalm : List (List (Nat × mv_I)) := [[(0, .aload_n 2, 0, []), (1, .iconst 0, 0, []), (2, .aload_n 0, 0, []), (3, .iload_n 1, 0, []), (4, .invokevirtual 78, 0, []), (7, .i2l, 0, []), (8, .lastore, 0, []), (9, .goto 6, 15, []), (12, .astore_n 3, 0, []), (13, .iconst 1, 0, []), (14, .ireturn, 0, []), (15, .iconst 0, 0, []), (16, .ireturn, 0, [])]]
def m_L_longestCalm : mv_M := (4, false, 1, cd_L_longestCalm, lk_L, [(0, 9, 13, 0, 3)])
def cd_L_longestCalmByTrying : List (List (Nat × mv_I)) := [[(0, .aload_n 2, 0, []), (1, .iconst 0, 0, []), (2, .aload_n 0, 0, []), (3, .iload_n 1, 0, []), (4, .invokevirtual 81, 0, []), (7, .i2l, 0, []), (8, .lastore, 0, []), (9, .goto 6, 15, []), (12, .astore_n 3, 0, []), (13, .iconst 1, 0, []), (14, .ireturn, 0, []), (15, .iconst 0, 0, []), (16, .ireturn, 0, [])]]
def m_L_longestCalmByTrying : mv_M := (4, false, 1, cd_L_longestCalmByTrying, lk_L, [(0, 9, 13, 0, 3)])
def cd_L_addPilot : List (List (Nat × mv_I)) := [[(0, .aload 4, 0, []), (2, .iconst 0, 0, []), (3, .aload_n 0, 0, []), (4, .iload_n 1, 0, []), (5, .iload_n 2, 0, []), (6, .iload_n 3, 0, []), (7, .invokevirtual 84, 0, []), (10, .i2l, 0, []), (11, .lastore, 0, []), (12, .goto 11, 23, []), (15, .astore 5, 0, []), (17, .iconst 1, 0, []), (18, .ireturn, 0, []), (19, .astore 5, 0, []), (21, .iconst 2, 0, []), (22, .ireturn, 0, []), (23, .iconst 0, 0, []), (24, .ireturn, 0, [])]]
def m_L_addPilot : mv_M := (6, false, 1, cd_L_addPilot, lk_L, [(0, 12, 17, 0, 5), (0, 12, 21, 3, 5)])
def cd_L_removePilot : List (List (Nat × mv_I)) := [[(0, .aload_n 2, 0, []), (1, .iconst 0, 0, []), (2, .aload_n 0, 0, []), (3, .iload_n 1, 0, []), (4, .invokevirtual 88, 0, []), (7, .i2l, 0, []), (8, .lastore, 0, []), (9, .goto 6, 15, []), (12, .astore_n 3, 0, []), (13, .iconst 1, 0, []), (14, .ireturn, 0, []), (15, .iconst 0, 0, []), (16, .ireturn, 0, [])]]
def m_L_removePilot : mv_M := (4, false, 1, cd_L_removePilot, lk_L, [(0, 9, 13, 2, 3)])
def cd_L_isOnDuty : List (List (Nat × mv_I)) := [[(0, .aload_n 3, 0, []), (1, .iconst 0, 0, []), (2, .aload_n 0, 0, []), (3, .iload_n 1, 0, []), (4, .iload_n 2, 0, []), (5, .invokevirtual 91, 0, []), (8, .ifCond .eq 7, 15, []), (11, .lconst 1, 0, []), (12, .goto 4, 16, []), (15, .lconst 0, 0, []), (16, .lastore, 0, []), (17, .goto 11, 28, []), (20, .astore 4, 0, []), (22, .iconst 1, 0, []), (23, .ireturn, 0, []), (24, .astore 4, 0, []), (26, .iconst 2, 0, []), (27, .ireturn, 0, []), (28, .iconst 0, 0, []), (29, .ireturn, 0, [])]]
def m_L_isOnDuty : mv_M := (5, false, 1, cd_L_isOnDuty, lk_L, [(0, 17, 22, 2, 4), (0, 17, 26, 0, 4)])
def cd_L_canCrew : List (List (Nat × mv_I)) := [[(0, .aload_n 3, 0, []), (1, .iconst 0, 0, []), (2, .aload_n 0, 0, []), (3, .iload_n 1, 0, []), (4, .iload_n 2, 0, []), (5, .invokevirtual 95, 0, []), (8, .ifCond .eq 7, 15, []), (11, .lconst 1, 0, []), (12, .goto 4, 16, []), (15, .lconst 0, 0, []), (16, .lastore, 0, []), (17, .goto 11, 28, []), (20, .astore 4, 0, []), (22, .iconst 1, 0, []), (23, .ireturn, 0, []), (24, .astore 4, 0, []), (26, .iconst 2, 0, []), (27, .ireturn, 0, []), (28, .iconst 0, 0, []), (29, .ireturn, 0, [])]]
def m_L_canCrew : mv_M := (5, false, 1, cd_L_canCrew, lk_L, [(0, 17, 22, 2, 4), (0, 17, 26, 1, 4)])
def cd_L_pass : List (List (Nat × mv_I)) := [[(0, .aload_n 2, 0, []), (1, .iconst 0, 0, []), (2, .aload_n 0, 0, []), (3, .iload_n 1, 0, []), (4, .invokevirtual 98, 0, []), (7, .i2l, 0, []), (8, .lastore, 0, []), (9, .goto 6, 15, []), (12, .astore_n 3, 0, []), (13, .iconst 1, 0, []), (14, .ireturn, 0, []), (15, .iconst 0, 0, []), (16, .ireturn, 0, [])]]
def m_L_pass : mv_M := (4, false, 1, cd_L_pass, lk_L, [(0, 9, 13, 0, 3)])
def cd_L_meanHeight : List (List (Nat × mv_I)) := [[(0, .aload_n 1, 0, []), (1, .iconst 0, 0, []), (2, .aload_n 0, 0, []), (3, .invokevirtual 101, 0, []), (6, .dastore, 0, []), (7, .goto 6, 13, []), (10, .astore_n 2, 0, []), (11, .iconst 1, 0, []), (12, .ireturn, 0, []), (13, .iconst 0, 0, []), (14, .ireturn, 0, [])]]
def m_L_meanHeight : mv_M := (3, false, 1, cd_L_meanHeight, lk_L, [(0, 7, 11, 5, 2)])
def cd_L_strain : List (List (Nat × mv_I)) := [[(0, .aload_n 2, 0, []), (1, .iconst 0, 0, []), (2, .aload_n 0, 0, []), (3, .iload_n 1, 0, []), (4, .invokevirtual 107, 0, []), (7, .f2d, 0, []), (8, .dastore, 0, []), (9, .goto 6, 15, []), (12, .astore_n 3, 0, []), (13, .iconst 1, 0, []), (14, .ireturn, 0, []), (15, .iconst 0, 0, []), (16, .ireturn, 0, [])]]
def m_L_strain : mv_M := (4, false, 1, cd_L_strain, lk_L, [(0, 9, 13, 1, 3)])
def cd_L_feed : List (List (Nat × mv_I)) := [[(0, .aload_n 2, 0, []), (1, .iconst 0, 0, []), (2, .aload_n 0, 0, []), (3, .iload_n 1, 0, []), (4, .invokevirtual 111, 0, []), (7, .i2l, 0, []), (8, .lastore, 0, []), (9, .goto 6, 15, []), (12, .astore_n 3, 0, []), (13, .iconst 1, 0, []), (14, .ireturn, 0, []), (15, .iconst 0, 0, []), (16, .ireturn, 0, [])]]
def m_L_feed : mv_M := (4, false, 1, cd_L_feed, lk_L, [(0, 9, 13, 4, 3)])
def cd_L_execute : List (List (Nat × mv_I)) := [[(0, .aload_n 1, 0, []), (1, .iconst 0, 0, []), (2, .aload_n 0, 0, []), (3, .invokevirtual 117, 0, []), (6, .i2l, 0, []), (7, .lastore, 0, []), (8, .goto 9, 17, []), (11, .astore_n 2, 0, []), (12, .iconst 1, 0, []), (13, .ireturn, 0, []), (14, .astore_n 2, 0, []), (15, .iconst 2, 0, []), (16, .ireturn, 0, []), (17, .iconst 0, 0, []), (18, .ireturn, 0, [])]]
def m_L_execute : mv_M := (3, false, 1, cd_L_execute, lk_L, [(0, 8, 12, 0, 2), (0, 8, 15, 3, 2)])
def cd_L_faultPosition : List (List (Nat × mv_I)) := [[(0, .aload_n 1, 0, []), (1, .iconst 0, 0, []), (2, .aload_n 0, 0, []), (3, .invokevirtual 121, 0, []), (6, .i2l, 0, []), (7, .lastore, 0, []), (8, .goto 6, 14, []), (11, .astore_n 2, 0, []), (12, .iconst 1, 0, []), (13, .ireturn, 0, []), (14, .iconst 0, 0, []), (15, .ireturn, 0, [])]]
def m_L_faultPosition : mv_M := (3, false, 1, cd_L_faultPosition, lk_L, [(0, 8, 12, 1, 2)])
def cd_L_writeBalloon : List (List (Nat × mv_I)) := [[(0, .aload_n 2, 0, []), (1, .iconst 0, 0, []), (2, .aload_n 0, 0, []), (3, .iload_n 1, 0, []), (4, .invokevirtual 124, 0, []), (7, .i2l, 0, []), (8, .lastore, 0, []), (9, .goto 6, 15, []), (12, .astore_n 3, 0, []), (13, .iconst 1, 0, []), (14, .ireturn, 0, []), (15, .iconst 0, 0, []), (16, .ireturn, 0, [])]]
def m_L_writeBalloon : mv_M := (4, false, 1, cd_L_writeBalloon, lk_L, [(0, 9, 13, 1, 3)])
def cd_L_lineCharacter : List (List (Nat × mv_I)) := [[(0, .aload_n 2, 0, []), (1, .iconst 0, 0, []), (2, .aload_n 0, 0, []), (3, .iload_n 1, 0, []), (4, .invokevirtual 127, 0, []), (7, .i2l, 0, []), (8, .lastore, 0, []), (9, .goto 6, 15, []), (12, .astore_n 3, 0, []), (13, .iconst 1, 0, []), (14, .ireturn, 0, []), (15, .iconst 0, 0, []), (16, .ireturn, 0, [])]]
def m_L_lineCharacter : mv_M := (4, false, 1, cd_L_lineCharacter, lk_L, [(0, 9, 13, 2, 3)])
def cd_L_denial : List (List (Nat × mv_I)) := [[(0, .aload_n 1, 0, []), (1, .iconst 0, 0, []), (2, .aload_n 0, 0, []), (3, .invokevirtual 131, 0, []), (6, .i2l, 0, []), (7, .lastore, 0, []), (8, .goto 6, 14, []), (11, .astore_n 2, 0, []), (12, .iconst 1, 0, []), (13, .ireturn, 0, []), (14, .iconst 0, 0, []), (15, .ireturn, 0, [])]]
def m_L_denial : mv_M := (3, false, 1, cd_L_denial, lk_L, [(0, 8, 12, 1, 2)])
def cd_L_denialDetail : List (List (Nat × mv_I)) := [[(0, .aload_n 1, 0, []), (1, .iconst 0, 0, []), (2, .aload_n 0, 0, []), (3, .invokevirtual 134, 0, []), (6, .i2l, 0, []), (7, .lastore, 0, []), (8, .goto 6, 14, []), (11, .astore_n 2, 0, []), (12, .iconst 1, 0, []), (13, .ireturn, 0, []), (14, .iconst 0, 0, []), (15, .ireturn, 0, [])]]
def m_L_denialDetail : mv_M := (3, false, 1, cd_L_denialDetail, lk_L, [(0, 8, 12, 1, 2)])
def cd_L_denialCause : List (List (Nat × mv_I)) := [[(0, .aload_n 1, 0, []), (1, .iconst 0, 0, []), (2, .aload_n 0, 0, []), (3, .invokevirtual 137, 0, []), (6, .i2l, 0, []), (7, .lastore, 0, []), (8, .goto 6, 14, []), (11, .astore_n 2, 0, []), (12, .iconst 1, 0, []), (13, .ireturn, 0, []), (14, .iconst 0, 0, []), (15, .ireturn, 0, [])]]
def m_L_denialCause : mv_M := (3, false, 1, cd_L_denialCause, lk_L, [(0, 8, 12, 1, 2)])
def cd_L_undo : List (List (Nat × mv_I)) := [[(0, .aload_n 1, 0, []), (1, .iconst 0, 0, []), (2, .aload_n 0, 0, []), (3, .invokevirtual 140, 0, []), (6, .i2l, 0, []), (7, .lastore, 0, []), (8, .goto 6, 14, []), (11, .astore_n 2, 0, []), (12, .iconst 1, 0, []), (13, .ireturn, 0, []), (14, .iconst 0, 0, []), (15, .ireturn, 0, [])]]
def m_L_undo : mv_M := (3, false, 1, cd_L_undo, lk_L, [(0, 8, 12, 4, 2)])
def cd_L_restoreSnapshot : List (List (Nat × mv_I)) := [[(0, .aload_n 1, 0, []), (1, .iconst 0, 0, []), (2, .aload_n 0, 0, []), (3, .invokevirtual 143, 0, []), (6, .i2l, 0, []), (7, .lastore, 0, []), (8, .goto 6, 14, []), (11, .astore_n 2, 0, []), (12, .iconst 1, 0, []), (13, .ireturn, 0, []), (14, .iconst 0, 0, []), (15, .ireturn, 0, [])]]
def m_L_restoreSnapshot : mv_M := (3, false, 1, cd_L_restoreSnapshot, lk_L, [(0, 8, 12, 4, 2)])
set_option maxRecDepth 100000 in
def cd_L_law : List (List (Nat × mv_I)) := [[(0, .new 8, 0, []), (3, .dup, 0, []), (4, .invokespecial 146, 0, []), (7, .astore_n 1, 0, []), (8, .new 147, 0, []), (11, .dup, 0, []), (12, .invokespecial 149, 0, []), (15, .astore_n 2, 0, []), (16, .iconst 1, 0, []), (17, .newarray .long, 0, []), (19, .astore_n 3, 0, []), (20, .iconst 1, 0, []), (21, .newarray .double, 0, []), (23, .astore 4, 0, []), (25, .iconst 0, 0, []), (26, .istore 5, 0, []), (28, .iload 5, 0, []), (30, .aload_n 0, 0, []), (31, .arraylength, 0, [])],
  [(32, .iconst 5, 0, []), (33, .isub, 0, []), (34, .if_icmp .gt 2724, 2758, []), (37, .aload_n 0, 0, []), (38, .iload 5, 0, []), (40, .iaload, 0, []), (41, .bipush 63, 0, []), (43, .iand, 0, []), (44, .tableswitch 2708 0 52 #[228, 320, 376, 389, 452, 508, 564, 620, 683, 739, 807, 875, 943, 999, 1067, 1135, 1203, 1271, 1339, 1395, 1451, 1464, 1477, 1533, 1589, 1669, 1725, 1738, 1813, 1888, 1901, 1914, 1970, 1983, 1996, 2009, 2022, 2035, 2048, 2061, 2126, 2204, 2262, 2306, 2350, 2406, 2462, 2506, 2550, 2594, 2638, 2651, 2664], 2752, [(0, 272), (1, 364), (2, 420), (3, 433), (4, 496), (5, 552), (6, 608), (7, 664), (8, 727), (9, 783), (10, 851), (11, 919), (12, 987), (13, 1043), (14, 1111), (15, 1179), (16, 1247), (17, 1315), (18, 1383), (19, 1439), (20, 1495), (21, 1508), (22, 1521), (23, 1577), (24, 1633), (25, 1713), (26, 1769), (27, 1782), (28, 1857), (29, 1932), (30, 1945), (31, 1958), (32, 2014), (33, 2027), (34, 2040), (35, 2053), (36, 2066), (37, 2079), (38, 2092), (39, 2105), (40, 2170), (41, 2248), (42, 2306), (43, 2350), (44, 2394), (45, 2450), (46, 2506), (47, 2550), (48, 2594), (49, 2638), (50, 2682), (51, 2695), (52, 2708)])],
  [],
  [],
  [],
  [],
  [],
  [],
  [(272, .aload_n 1, 0, []), (273, .aload_n 0, 0, []), (274, .iload 5, 0, []), (276, .iconst 1, 0, []), (277, .iadd, 0, []), (278, .iaload, 0, []), (279, .aload_n 0, 0, []), (280, .iload 5, 0, []), (282, .iconst 2, 0, []), (283, .iadd, 0, []), (284, .iaload, 0, []), (285, .aload_n 0, 0, []), (286, .iload 5, 0, [])],
  [(288, .iconst 3, 0, []), (289, .iadd, 0, []), (290, .iaload, 0, []), (291, .aload_n 0, 0, []), (292, .iload 5, 0, []), (294, .iconst 4, 0, []), (295, .iadd, 0, []), (296, .iaload, 0, []), (297, .aload_n 3, 0, []), (298, .invokestatic 150, 0, []), (301, .istore 6, 0, []), (303, .aload_n 2, 0, []), (304, .aload_n 0, 0, []), (305, .iload 5, 0, []), (307, .iconst 1, 0, []), (308, .iadd, 0, []), (309, .iaload, 0, []), (310, .aload_n 0, 0, []), (311, .iload 5, 0, []), (313, .iconst 2, 0, []), (314, .iadd, 0, []), (315, .iaload, 0, []), (316, .aload_n 0, 0, []), (317, .iload 5, 0, []), (319, .iconst 3, 0, [])],
  [(320, .iadd, 0, []), (321, .iaload, 0, []), (322, .aload_n 0, 0, []), (323, .iload 5, 0, []), (325, .iconst 4, 0, []), (326, .iadd, 0, []), (327, .iaload, 0, []), (328, .invokevirtual 155, 0, []), (331, .istore 7, 0, []), (333, .aload_n 2, 0, []), (334, .invokevirtual 156, 0, []), (337, .iload 6, 0, []), (339, .if_icmp .eq 5, 344, []), (342, .iconst 0, 0, []), (343, .ireturn, 0, []), (344, .iload 6, 0, []), (346, .ifCond .ne 15, 361, []), (349, .aload_n 3, 0, []), (350, .iconst 0, 0, []), (351, .laload, 0, [])],
  [(352, .iload 7, 0, []), (354, .i2l, 0, []), (355, .lcmp, 0, []), (356, .ifCond .eq 5, 361, []), (359, .iconst 0, 0, []), (360, .ireturn, 0, []), (361, .goto 2391, 2752, []), (364, .aload_n 1, 0, []), (365, .aload_n 0, 0, []), (366, .iload 5, 0, []), (368, .iconst 1, 0, []), (369, .iadd, 0, []), (370, .iaload, 0, []), (371, .aload_n 3, 0, []), (372, .invokestatic 159, 0, []), (375, .istore 6, 0, []), (377, .aload_n 2, 0, []), (378, .aload_n 0, 0, []), (379, .iload 5, 0, []), (381, .iconst 1, 0, []), (382, .iadd, 0, []), (383, .iaload, 0, [])],
  [(384, .invokevirtual 162, 0, []), (387, .istore 7, 0, []), (389, .aload_n 2, 0, []), (390, .invokevirtual 156, 0, []), (393, .iload 6, 0, []), (395, .if_icmp .eq 5, 400, []), (398, .iconst 0, 0, []), (399, .ireturn, 0, []), (400, .iload 6, 0, []), (402, .ifCond .ne 15, 417, []), (405, .aload_n 3, 0, []), (406, .iconst 0, 0, []), (407, .laload, 0, []), (408, .iload 7, 0, []), (410, .i2l, 0, []), (411, .lcmp, 0, []), (412, .ifCond .eq 5, 417, []), (415, .iconst 0, 0, [])],
  [(416, .ireturn, 0, []), (417, .goto 2335, 2752, []), (420, .aload_n 1, 0, []), (421, .invokevirtual 163, 0, []), (424, .aload_n 2, 0, []), (425, .invokevirtual 166, 0, []), (428, .if_icmp .eq 2324, 2752, []), (431, .iconst 0, 0, []), (432, .ireturn, 0, []), (433, .aload_n 1, 0, []), (434, .aload_n 0, 0, []), (435, .iload 5, 0, []), (437, .iconst 1, 0, []), (438, .iadd, 0, []), (439, .iaload, 0, []), (440, .aload_n 3, 0, []), (441, .invokestatic 167, 0, []), (444, .istore 6, 0, []), (446, .aload_n 2, 0, []), (447, .aload_n 0, 0, [])],
  [(448, .iload 5, 0, []), (450, .iconst 1, 0, []), (451, .iadd, 0, []), (452, .iaload, 0, []), (453, .invokevirtual 169, 0, []), (456, .istore 7, 0, []), (458, .aload_n 2, 0, []), (459, .invokevirtual 156, 0, []), (462, .iload 6, 0, []), (464, .if_icmp .eq 5, 469, []), (467, .iconst 0, 0, []), (468, .ireturn, 0, []), (469, .iload 6, 0, []), (471, .ifCond .ne 22, 493, []), (474, .aload_n 3, 0, []), (475, .iconst 0, 0, []), (476, .laload, 0, []), (477, .iload 7, 0, []), (479, .ifCond .eq 7, 486, [])],
  [(482, .lconst 1, 0, []), (483, .goto 4, 487, []), (486, .lconst 0, 0, []), (487, .lcmp, 0, []), (488, .ifCond .eq 5, 493, []), (491, .iconst 0, 0, []), (492, .ireturn, 0, []), (493, .goto 2259, 2752, []), (496, .aload_n 1, 0, []), (497, .aload_n 0, 0, []), (498, .iload 5, 0, []), (500, .iconst 1, 0, []), (501, .iadd, 0, []), (502, .iaload, 0, []), (503, .aload_n 3, 0, []), (504, .invokestatic 170, 0, []), (507, .istore 6, 0, []), (509, .aload_n 2, 0, []), (510, .aload_n 0, 0, []), (511, .iload 5, 0, [])],
  [(513, .iconst 1, 0, []), (514, .iadd, 0, []), (515, .iaload, 0, []), (516, .invokevirtual 172, 0, []), (519, .istore 7, 0, []), (521, .aload_n 2, 0, []), (522, .invokevirtual 156, 0, []), (525, .iload 6, 0, []), (527, .if_icmp .eq 5, 532, []), (530, .iconst 0, 0, []), (531, .ireturn, 0, []), (532, .iload 6, 0, []), (534, .ifCond .ne 15, 549, []), (537, .aload_n 3, 0, []), (538, .iconst 0, 0, []), (539, .laload, 0, []), (540, .iload 7, 0, []), (542, .i2l, 0, []), (543, .lcmp, 0, [])],
  [(544, .ifCond .eq 5, 549, []), (547, .iconst 0, 0, []), (548, .ireturn, 0, []), (549, .goto 2203, 2752, []), (552, .aload_n 1, 0, []), (553, .aload_n 0, 0, []), (554, .iload 5, 0, []), (556, .iconst 1, 0, []), (557, .iadd, 0, []), (558, .iaload, 0, []), (559, .aload_n 3, 0, []), (560, .invokestatic 173, 0, []), (563, .istore 6, 0, []), (565, .aload_n 2, 0, []), (566, .aload_n 0, 0, []), (567, .iload 5, 0, []), (569, .iconst 1, 0, []), (570, .iadd, 0, []), (571, .iaload, 0, []), (572, .invokevirtual 175, 0, []), (575, .istore 7, 0, [])],
  [(577, .aload_n 2, 0, []), (578, .invokevirtual 156, 0, []), (581, .iload 6, 0, []), (583, .if_icmp .eq 5, 588, []), (586, .iconst 0, 0, []), (587, .ireturn, 0, []), (588, .iload 6, 0, []), (590, .ifCond .ne 15, 605, []), (593, .aload_n 3, 0, []), (594, .iconst 0, 0, []), (595, .laload, 0, []), (596, .iload 7, 0, []), (598, .i2l, 0, []), (599, .lcmp, 0, []), (600, .ifCond .eq 5, 605, []), (603, .iconst 0, 0, []), (604, .ireturn, 0, []), (605, .goto 2147, 2752, [])],
  [(608, .aload_n 1, 0, []), (609, .aload_n 0, 0, []), (610, .iload 5, 0, []), (612, .iconst 1, 0, []), (613, .iadd, 0, []), (614, .iaload, 0, []), (615, .aload_n 3, 0, []), (616, .invokestatic 176, 0, []), (619, .istore 6, 0, []), (621, .aload_n 2, 0, []), (622, .aload_n 0, 0, []), (623, .iload 5, 0, []), (625, .iconst 1, 0, []), (626, .iadd, 0, []), (627, .iaload, 0, []), (628, .invokevirtual 178, 0, []), (631, .istore 7, 0, []), (633, .aload_n 2, 0, []), (634, .invokevirtual 156, 0, []), (637, .iload 6, 0, []), (639, .if_icmp .eq 5, 644, [])],
  [(642, .iconst 0, 0, []), (643, .ireturn, 0, []), (644, .iload 6, 0, []), (646, .ifCond .ne 15, 661, []), (649, .aload_n 3, 0, []), (650, .iconst 0, 0, []), (651, .laload, 0, []), (652, .iload 7, 0, []), (654, .i2l, 0, []), (655, .lcmp, 0, []), (656, .ifCond .eq 5, 661, []), (659, .iconst 0, 0, []), (660, .ireturn, 0, []), (661, .goto 2091, 2752, []), (664, .aload_n 1, 0, []), (665, .aload_n 0, 0, []), (666, .iload 5, 0, []), (668, .iconst 1, 0, []), (669, .iadd, 0, []), (670, .iaload, 0, []), (671, .aload_n 3, 0, [])],
  [(672, .invokestatic 179, 0, []), (675, .istore 6, 0, []), (677, .aload_n 2, 0, []), (678, .aload_n 0, 0, []), (679, .iload 5, 0, []), (681, .iconst 1, 0, []), (682, .iadd, 0, []), (683, .iaload, 0, []), (684, .invokevirtual 181, 0, []), (687, .istore 7, 0, []), (689, .aload_n 2, 0, []), (690, .invokevirtual 156, 0, []), (693, .iload 6, 0, []), (695, .if_icmp .eq 5, 700, []), (698, .iconst 0, 0, []), (699, .ireturn, 0, []), (700, .iload 6, 0, []), (702, .ifCond .ne 22, 724, [])],
  [(705, .aload_n 3, 0, []), (706, .iconst 0, 0, []), (707, .laload, 0, []), (708, .iload 7, 0, []), (710, .ifCond .eq 7, 717, []), (713, .lconst 1, 0, []), (714, .goto 4, 718, []), (717, .lconst 0, 0, []), (718, .lcmp, 0, []), (719, .ifCond .eq 5, 724, []), (722, .iconst 0, 0, []), (723, .ireturn, 0, []), (724, .goto 2028, 2752, []), (727, .aload_n 1, 0, []), (728, .aload_n 0, 0, []), (729, .iload 5, 0, []), (731, .iconst 1, 0, []), (732, .iadd, 0, []), (733, .iaload, 0, []), (734, .aload_n 3, 0, []), (735, .invokestatic 182, 0, [])],
  [(738, .istore 6, 0, []), (740, .aload_n 2, 0, []), (741, .aload_n 0, 0, []), (742, .iload 5, 0, []), (744, .iconst 1, 0, []), (745, .iadd, 0, []), (746, .iaload, 0, []), (747, .invokevirtual 184, 0, []), (750, .istore 7, 0, []), (752, .aload_n 2, 0, []), (753, .invokevirtual 156, 0, []), (756, .iload 6, 0, []), (758, .if_icmp .eq 5, 763, []), (761, .iconst 0, 0, []), (762, .ireturn, 0, []), (763, .iload 6, 0, []), (765, .ifCond .ne 15, 780, [])],
  [(768, .aload_n 3, 0, []), (769, .iconst 0, 0, []), (770, .laload, 0, []), (771, .iload 7, 0, []), (773, .i2l, 0, []), (774, .lcmp, 0, []), (775, .ifCond .eq 5, 780, []), (778, .iconst 0, 0, []), (779, .ireturn, 0, []), (780, .goto 1972, 2752, []), (783, .aload_n 1, 0, []), (784, .aload_n 0, 0, []), (785, .iload 5, 0, []), (787, .iconst 1, 0, []), (788, .iadd, 0, []), (789, .iaload, 0, []), (790, .aload_n 0, 0, []), (791, .iload 5, 0, []), (793, .iconst 2, 0, []), (794, .iadd, 0, []), (795, .iaload, 0, []), (796, .aload_n 3, 0, []), (797, .invokestatic 185, 0, [])],
  [(800, .istore 6, 0, []), (802, .aload_n 2, 0, []), (803, .aload_n 0, 0, []), (804, .iload 5, 0, []), (806, .iconst 1, 0, []), (807, .iadd, 0, []), (808, .iaload, 0, []), (809, .aload_n 0, 0, []), (810, .iload 5, 0, []), (812, .iconst 2, 0, []), (813, .iadd, 0, []), (814, .iaload, 0, []), (815, .invokevirtual 188, 0, []), (818, .istore 7, 0, []), (820, .aload_n 2, 0, []), (821, .invokevirtual 156, 0, []), (824, .iload 6, 0, []), (826, .if_icmp .eq 5, 831, []), (829, .iconst 0, 0, []), (830, .ireturn, 0, []), (831, .iload 6, 0, [])],
  [(833, .ifCond .ne 15, 848, []), (836, .aload_n 3, 0, []), (837, .iconst 0, 0, []), (838, .laload, 0, []), (839, .iload 7, 0, []), (841, .i2l, 0, []), (842, .lcmp, 0, []), (843, .ifCond .eq 5, 848, []), (846, .iconst 0, 0, []), (847, .ireturn, 0, []), (848, .goto 1904, 2752, []), (851, .aload_n 1, 0, []), (852, .aload_n 0, 0, []), (853, .iload 5, 0, []), (855, .iconst 1, 0, []), (856, .iadd, 0, []), (857, .iaload, 0, []), (858, .aload_n 0, 0, []), (859, .iload 5, 0, []), (861, .iconst 2, 0, []), (862, .iadd, 0, []), (863, .iaload, 0, [])],
  [(864, .aload_n 3, 0, []), (865, .invokestatic 189, 0, []), (868, .istore 6, 0, []), (870, .aload_n 2, 0, []), (871, .aload_n 0, 0, []), (872, .iload 5, 0, []), (874, .iconst 1, 0, []), (875, .iadd, 0, []), (876, .iaload, 0, []), (877, .aload_n 0, 0, []), (878, .iload 5, 0, []), (880, .iconst 2, 0, []), (881, .iadd, 0, []), (882, .iaload, 0, []), (883, .invokevirtual 191, 0, []), (886, .istore 7, 0, []), (888, .aload_n 2, 0, []), (889, .invokevirtual 156, 0, []), (892, .iload 6, 0, []), (894, .if_icmp .eq 5, 899, [])],
  [(897, .iconst 0, 0, []), (898, .ireturn, 0, []), (899, .iload 6, 0, []), (901, .ifCond .ne 15, 916, []), (904, .aload_n 3, 0, []), (905, .iconst 0, 0, []), (906, .laload, 0, []), (907, .iload 7, 0, []), (909, .i2l, 0, []), (910, .lcmp, 0, []), (911, .ifCond .eq 5, 916, []), (914, .iconst 0, 0, []), (915, .ireturn, 0, []), (916, .goto 1836, 2752, []), (919, .aload_n 1, 0, []), (920, .aload_n 0, 0, []), (921, .iload 5, 0, []), (923, .iconst 1, 0, []), (924, .iadd, 0, []), (925, .iaload, 0, []), (926, .aload_n 0, 0, []), (927, .iload 5, 0, [])],
  [(929, .iconst 2, 0, []), (930, .iadd, 0, []), (931, .iaload, 0, []), (932, .aload_n 3, 0, []), (933, .invokestatic 192, 0, []), (936, .istore 6, 0, []), (938, .aload_n 2, 0, []), (939, .aload_n 0, 0, []), (940, .iload 5, 0, []), (942, .iconst 1, 0, []), (943, .iadd, 0, []), (944, .iaload, 0, []), (945, .aload_n 0, 0, []), (946, .iload 5, 0, []), (948, .iconst 2, 0, []), (949, .iadd, 0, []), (950, .iaload, 0, []), (951, .invokevirtual 194, 0, []), (954, .istore 7, 0, []), (956, .aload_n 2, 0, []), (957, .invokevirtual 156, 0, [])],
  [(960, .iload 6, 0, []), (962, .if_icmp .eq 5, 967, []), (965, .iconst 0, 0, []), (966, .ireturn, 0, []), (967, .iload 6, 0, []), (969, .ifCond .ne 15, 984, []), (972, .aload_n 3, 0, []), (973, .iconst 0, 0, []), (974, .laload, 0, []), (975, .iload 7, 0, []), (977, .i2l, 0, []), (978, .lcmp, 0, []), (979, .ifCond .eq 5, 984, []), (982, .iconst 0, 0, []), (983, .ireturn, 0, []), (984, .goto 1768, 2752, []), (987, .aload_n 1, 0, []), (988, .aload_n 0, 0, []), (989, .iload 5, 0, []), (991, .iconst 1, 0, [])],
  [(992, .iadd, 0, []), (993, .iaload, 0, []), (994, .aload_n 3, 0, []), (995, .invokestatic 195, 0, []), (998, .istore 6, 0, []), (1000, .aload_n 2, 0, []), (1001, .aload_n 0, 0, []), (1002, .iload 5, 0, []), (1004, .iconst 1, 0, []), (1005, .iadd, 0, []), (1006, .iaload, 0, []), (1007, .invokevirtual 197, 0, []), (1010, .istore 7, 0, []), (1012, .aload_n 2, 0, []), (1013, .invokevirtual 156, 0, []), (1016, .iload 6, 0, []), (1018, .if_icmp .eq 5, 1023, []), (1021, .iconst 0, 0, []), (1022, .ireturn, 0, []), (1023, .iload 6, 0, [])],
  [(1025, .ifCond .ne 15, 1040, []), (1028, .aload_n 3, 0, []), (1029, .iconst 0, 0, []), (1030, .laload, 0, []), (1031, .iload 7, 0, []), (1033, .i2l, 0, []), (1034, .lcmp, 0, []), (1035, .ifCond .eq 5, 1040, []), (1038, .iconst 0, 0, []), (1039, .ireturn, 0, []), (1040, .goto 1712, 2752, []), (1043, .aload_n 1, 0, []), (1044, .aload_n 0, 0, []), (1045, .iload 5, 0, []), (1047, .iconst 1, 0, []), (1048, .iadd, 0, []), (1049, .iaload, 0, []), (1050, .aload_n 0, 0, []), (1051, .iload 5, 0, []), (1053, .iconst 2, 0, []), (1054, .iadd, 0, []), (1055, .iaload, 0, [])],
  [(1056, .aload_n 3, 0, []), (1057, .invokestatic 198, 0, []), (1060, .istore 6, 0, []), (1062, .aload_n 2, 0, []), (1063, .aload_n 0, 0, []), (1064, .iload 5, 0, []), (1066, .iconst 1, 0, []), (1067, .iadd, 0, []), (1068, .iaload, 0, []), (1069, .aload_n 0, 0, []), (1070, .iload 5, 0, []), (1072, .iconst 2, 0, []), (1073, .iadd, 0, []), (1074, .iaload, 0, []), (1075, .invokevirtual 200, 0, []), (1078, .istore 7, 0, []), (1080, .aload_n 2, 0, []), (1081, .invokevirtual 156, 0, []), (1084, .iload 6, 0, []), (1086, .if_icmp .eq 5, 1091, [])],
  [(1089, .iconst 0, 0, []), (1090, .ireturn, 0, []), (1091, .iload 6, 0, []), (1093, .ifCond .ne 15, 1108, []), (1096, .aload_n 3, 0, []), (1097, .iconst 0, 0, []), (1098, .laload, 0, []), (1099, .iload 7, 0, []), (1101, .i2l, 0, []), (1102, .lcmp, 0, []), (1103, .ifCond .eq 5, 1108, []), (1106, .iconst 0, 0, []), (1107, .ireturn, 0, []), (1108, .goto 1644, 2752, []), (1111, .aload_n 1, 0, []), (1112, .aload_n 0, 0, []), (1113, .iload 5, 0, []), (1115, .iconst 1, 0, []), (1116, .iadd, 0, []), (1117, .iaload, 0, []), (1118, .aload_n 0, 0, []), (1119, .iload 5, 0, [])],
  [(1121, .iconst 2, 0, []), (1122, .iadd, 0, []), (1123, .iaload, 0, []), (1124, .aload_n 3, 0, []), (1125, .invokestatic 201, 0, []), (1128, .istore 6, 0, []), (1130, .aload_n 2, 0, []), (1131, .aload_n 0, 0, []), (1132, .iload 5, 0, []), (1134, .iconst 1, 0, []), (1135, .iadd, 0, []), (1136, .iaload, 0, []), (1137, .aload_n 0, 0, []), (1138, .iload 5, 0, []), (1140, .iconst 2, 0, []), (1141, .iadd, 0, []), (1142, .iaload, 0, []), (1143, .invokevirtual 203, 0, []), (1146, .istore 7, 0, []), (1148, .aload_n 2, 0, []), (1149, .invokevirtual 156, 0, [])],
  [(1152, .iload 6, 0, []), (1154, .if_icmp .eq 5, 1159, []), (1157, .iconst 0, 0, []), (1158, .ireturn, 0, []), (1159, .iload 6, 0, []), (1161, .ifCond .ne 15, 1176, []), (1164, .aload_n 3, 0, []), (1165, .iconst 0, 0, []), (1166, .laload, 0, []), (1167, .iload 7, 0, []), (1169, .i2l, 0, []), (1170, .lcmp, 0, []), (1171, .ifCond .eq 5, 1176, []), (1174, .iconst 0, 0, []), (1175, .ireturn, 0, []), (1176, .goto 1576, 2752, []), (1179, .aload_n 1, 0, []), (1180, .aload_n 0, 0, []), (1181, .iload 5, 0, []), (1183, .iconst 1, 0, [])],
  [(1184, .iadd, 0, []), (1185, .iaload, 0, []), (1186, .aload_n 0, 0, []), (1187, .iload 5, 0, []), (1189, .iconst 2, 0, []), (1190, .iadd, 0, []), (1191, .iaload, 0, []), (1192, .aload_n 3, 0, []), (1193, .invokestatic 204, 0, []), (1196, .istore 6, 0, []), (1198, .aload_n 2, 0, []), (1199, .aload_n 0, 0, []), (1200, .iload 5, 0, []), (1202, .iconst 1, 0, []), (1203, .iadd, 0, []), (1204, .iaload, 0, []), (1205, .aload_n 0, 0, []), (1206, .iload 5, 0, []), (1208, .iconst 2, 0, []), (1209, .iadd, 0, []), (1210, .iaload, 0, []), (1211, .invokevirtual 206, 0, []), (1214, .istore 7, 0, [])],
  [(1216, .aload_n 2, 0, []), (1217, .invokevirtual 156, 0, []), (1220, .iload 6, 0, []), (1222, .if_icmp .eq 5, 1227, []), (1225, .iconst 0, 0, []), (1226, .ireturn, 0, []), (1227, .iload 6, 0, []), (1229, .ifCond .ne 15, 1244, []), (1232, .aload_n 3, 0, []), (1233, .iconst 0, 0, []), (1234, .laload, 0, []), (1235, .iload 7, 0, []), (1237, .i2l, 0, []), (1238, .lcmp, 0, []), (1239, .ifCond .eq 5, 1244, []), (1242, .iconst 0, 0, []), (1243, .ireturn, 0, []), (1244, .goto 1508, 2752, []), (1247, .aload_n 1, 0, [])],
  [(1248, .aload_n 0, 0, []), (1249, .iload 5, 0, []), (1251, .iconst 1, 0, []), (1252, .iadd, 0, []), (1253, .iaload, 0, []), (1254, .aload_n 0, 0, []), (1255, .iload 5, 0, []), (1257, .iconst 2, 0, []), (1258, .iadd, 0, []), (1259, .iaload, 0, []), (1260, .aload_n 3, 0, []), (1261, .invokestatic 207, 0, []), (1264, .istore 6, 0, []), (1266, .aload_n 2, 0, []), (1267, .aload_n 0, 0, []), (1268, .iload 5, 0, []), (1270, .iconst 1, 0, []), (1271, .iadd, 0, []), (1272, .iaload, 0, []), (1273, .aload_n 0, 0, []), (1274, .iload 5, 0, []), (1276, .iconst 2, 0, []), (1277, .iadd, 0, []), (1278, .iaload, 0, []), (1279, .invokevirtual 209, 0, [])],
  [(1282, .istore 7, 0, []), (1284, .aload_n 2, 0, []), (1285, .invokevirtual 156, 0, []), (1288, .iload 6, 0, []), (1290, .if_icmp .eq 5, 1295, []), (1293, .iconst 0, 0, []), (1294, .ireturn, 0, []), (1295, .iload 6, 0, []), (1297, .ifCond .ne 15, 1312, []), (1300, .aload_n 3, 0, []), (1301, .iconst 0, 0, []), (1302, .laload, 0, []), (1303, .iload 7, 0, []), (1305, .i2l, 0, []), (1306, .lcmp, 0, []), (1307, .ifCond .eq 5, 1312, []), (1310, .iconst 0, 0, []), (1311, .ireturn, 0, [])],
  [(1312, .goto 1440, 2752, []), (1315, .aload_n 1, 0, []), (1316, .aload_n 0, 0, []), (1317, .iload 5, 0, []), (1319, .iconst 1, 0, []), (1320, .iadd, 0, []), (1321, .iaload, 0, []), (1322, .aload_n 0, 0, []), (1323, .iload 5, 0, []), (1325, .iconst 2, 0, []), (1326, .iadd, 0, []), (1327, .iaload, 0, []), (1328, .aload_n 3, 0, []), (1329, .invokestatic 210, 0, []), (1332, .istore 6, 0, []), (1334, .aload_n 2, 0, []), (1335, .aload_n 0, 0, []), (1336, .iload 5, 0, []), (1338, .iconst 1, 0, []), (1339, .iadd, 0, []), (1340, .iaload, 0, []), (1341, .aload_n 0, 0, []), (1342, .iload 5, 0, [])],
  [(1344, .iconst 2, 0, []), (1345, .iadd, 0, []), (1346, .iaload, 0, []), (1347, .invokevirtual 212, 0, []), (1350, .istore 7, 0, []), (1352, .aload_n 2, 0, []), (1353, .invokevirtual 156, 0, []), (1356, .iload 6, 0, []), (1358, .if_icmp .eq 5, 1363, []), (1361, .iconst 0, 0, []), (1362, .ireturn, 0, []), (1363, .iload 6, 0, []), (1365, .ifCond .ne 15, 1380, []), (1368, .aload_n 3, 0, []), (1369, .iconst 0, 0, []), (1370, .laload, 0, []), (1371, .iload 7, 0, []), (1373, .i2l, 0, []), (1374, .lcmp, 0, []), (1375, .ifCond .eq 5, 1380, [])],
  [(1378, .iconst 0, 0, []), (1379, .ireturn, 0, []), (1380, .goto 1372, 2752, []), (1383, .aload_n 1, 0, []), (1384, .aload_n 0, 0, []), (1385, .iload 5, 0, []), (1387, .iconst 1, 0, []), (1388, .iadd, 0, []), (1389, .iaload, 0, []), (1390, .aload_n 3, 0, []), (1391, .invokestatic 213, 0, []), (1394, .istore 6, 0, []), (1396, .aload_n 2, 0, []), (1397, .aload_n 0, 0, []), (1398, .iload 5, 0, []), (1400, .iconst 1, 0, []), (1401, .iadd, 0, []), (1402, .iaload, 0, []), (1403, .invokevirtual 215, 0, []), (1406, .istore 7, 0, [])],
  [(1408, .aload_n 2, 0, []), (1409, .invokevirtual 156, 0, []), (1412, .iload 6, 0, []), (1414, .if_icmp .eq 5, 1419, []), (1417, .iconst 0, 0, []), (1418, .ireturn, 0, []), (1419, .iload 6, 0, []), (1421, .ifCond .ne 15, 1436, []), (1424, .aload_n 3, 0, []), (1425, .iconst 0, 0, []), (1426, .laload, 0, []), (1427, .iload 7, 0, []), (1429, .i2l, 0, []), (1430, .lcmp, 0, []), (1431, .ifCond .eq 5, 1436, []), (1434, .iconst 0, 0, []), (1435, .ireturn, 0, []), (1436, .goto 1316, 2752, []), (1439, .aload_n 1, 0, [])],
  [(1440, .aload_n 0, 0, []), (1441, .iload 5, 0, []), (1443, .iconst 1, 0, []), (1444, .iadd, 0, []), (1445, .iaload, 0, []), (1446, .aload_n 3, 0, []), (1447, .invokestatic 216, 0, []), (1450, .istore 6, 0, []), (1452, .aload_n 2, 0, []), (1453, .aload_n 0, 0, []), (1454, .iload 5, 0, []), (1456, .iconst 1, 0, []), (1457, .iadd, 0, []), (1458, .iaload, 0, []), (1459, .invokevirtual 218, 0, []), (1462, .istore 7, 0, []), (1464, .aload_n 2, 0, []), (1465, .invokevirtual 156, 0, []), (1468, .iload 6, 0, []), (1470, .if_icmp .eq 5, 1475, [])],
  [(1473, .iconst 0, 0, []), (1474, .ireturn, 0, []), (1475, .iload 6, 0, []), (1477, .ifCond .ne 15, 1492, []), (1480, .aload_n 3, 0, []), (1481, .iconst 0, 0, []), (1482, .laload, 0, []), (1483, .iload 7, 0, []), (1485, .i2l, 0, []), (1486, .lcmp, 0, []), (1487, .ifCond .eq 5, 1492, []), (1490, .iconst 0, 0, []), (1491, .ireturn, 0, []), (1492, .goto 1260, 2752, []), (1495, .aload_n 1, 0, []), (1496, .invokevirtual 219, 0, []), (1499, .aload_n 2, 0, []), (1500, .invokevirtual 222, 0, []), (1503, .if_icmp .eq 1249, 2752, [])],
  [(1506, .iconst 0, 0, []), (1507, .ireturn, 0, []), (1508, .aload_n 1, 0, []), (1509, .invokevirtual 223, 0, []), (1512, .aload_n 2, 0, []), (1513, .invokevirtual 226, 0, []), (1516, .if_icmp .eq 1236, 2752, []), (1519, .iconst 0, 0, []), (1520, .ireturn, 0, []), (1521, .aload_n 1, 0, []), (1522, .aload_n 0, 0, []), (1523, .iload 5, 0, []), (1525, .iconst 1, 0, []), (1526, .iadd, 0, []), (1527, .iaload, 0, []), (1528, .aload_n 3, 0, []), (1529, .invokestatic 227, 0, []), (1532, .istore 6, 0, []), (1534, .aload_n 2, 0, []), (1535, .aload_n 0, 0, [])],
  [(1536, .iload 5, 0, []), (1538, .iconst 1, 0, []), (1539, .iadd, 0, []), (1540, .iaload, 0, []), (1541, .invokevirtual 229, 0, []), (1544, .istore 7, 0, []), (1546, .aload_n 2, 0, []), (1547, .invokevirtual 156, 0, []), (1550, .iload 6, 0, []), (1552, .if_icmp .eq 5, 1557, []), (1555, .iconst 0, 0, []), (1556, .ireturn, 0, []), (1557, .iload 6, 0, []), (1559, .ifCond .ne 15, 1574, []), (1562, .aload_n 3, 0, []), (1563, .iconst 0, 0, []), (1564, .laload, 0, []), (1565, .iload 7, 0, []), (1567, .i2l, 0, [])],
  [(1568, .lcmp, 0, []), (1569, .ifCond .eq 5, 1574, []), (1572, .iconst 0, 0, []), (1573, .ireturn, 0, []), (1574, .goto 1178, 2752, []), (1577, .aload_n 1, 0, []), (1578, .aload_n 0, 0, []), (1579, .iload 5, 0, []), (1581, .iconst 1, 0, []), (1582, .iadd, 0, []), (1583, .iaload, 0, []), (1584, .aload_n 3, 0, []), (1585, .invokestatic 230, 0, []), (1588, .istore 6, 0, []), (1590, .aload_n 2, 0, []), (1591, .aload_n 0, 0, []), (1592, .iload 5, 0, []), (1594, .iconst 1, 0, []), (1595, .iadd, 0, []), (1596, .iaload, 0, []), (1597, .invokevirtual 232, 0, [])],
  [(1600, .istore 7, 0, []), (1602, .aload_n 2, 0, []), (1603, .invokevirtual 156, 0, []), (1606, .iload 6, 0, []), (1608, .if_icmp .eq 5, 1613, []), (1611, .iconst 0, 0, []), (1612, .ireturn, 0, []), (1613, .iload 6, 0, []), (1615, .ifCond .ne 15, 1630, []), (1618, .aload_n 3, 0, []), (1619, .iconst 0, 0, []), (1620, .laload, 0, []), (1621, .iload 7, 0, []), (1623, .i2l, 0, []), (1624, .lcmp, 0, []), (1625, .ifCond .eq 5, 1630, []), (1628, .iconst 0, 0, []), (1629, .ireturn, 0, []), (1630, .goto 1122, 2752, [])],
  [(1633, .aload_n 1, 0, []), (1634, .aload_n 0, 0, []), (1635, .iload 5, 0, []), (1637, .iconst 1, 0, []), (1638, .iadd, 0, []), (1639, .iaload, 0, []), (1640, .aload_n 0, 0, []), (1641, .iload 5, 0, []), (1643, .iconst 2, 0, []), (1644, .iadd, 0, []), (1645, .iaload, 0, []), (1646, .aload_n 0, 0, []), (1647, .iload 5, 0, []), (1649, .iconst 3, 0, []), (1650, .iadd, 0, []), (1651, .iaload, 0, []), (1652, .aload_n 3, 0, []), (1653, .invokestatic 233, 0, []), (1656, .istore 6, 0, []), (1658, .aload_n 2, 0, []), (1659, .aload_n 0, 0, []), (1660, .iload 5, 0, []), (1662, .iconst 1, 0, []), (1663, .iadd, 0, [])],
  [(1664, .iaload, 0, []), (1665, .aload_n 0, 0, []), (1666, .iload 5, 0, []), (1668, .iconst 2, 0, []), (1669, .iadd, 0, []), (1670, .iaload, 0, []), (1671, .aload_n 0, 0, []), (1672, .iload 5, 0, []), (1674, .iconst 3, 0, []), (1675, .iadd, 0, []), (1676, .iaload, 0, []), (1677, .invokevirtual 236, 0, []), (1680, .istore 7, 0, []), (1682, .aload_n 2, 0, []), (1683, .invokevirtual 156, 0, []), (1686, .iload 6, 0, []), (1688, .if_icmp .eq 5, 1693, []), (1691, .iconst 0, 0, []), (1692, .ireturn, 0, []), (1693, .iload 6, 0, []), (1695, .ifCond .ne 15, 1710, [])],
  [(1698, .aload_n 3, 0, []), (1699, .iconst 0, 0, []), (1700, .laload, 0, []), (1701, .iload 7, 0, []), (1703, .i2l, 0, []), (1704, .lcmp, 0, []), (1705, .ifCond .eq 5, 1710, []), (1708, .iconst 0, 0, []), (1709, .ireturn, 0, []), (1710, .goto 1042, 2752, []), (1713, .aload_n 1, 0, []), (1714, .aload_n 0, 0, []), (1715, .iload 5, 0, []), (1717, .iconst 1, 0, []), (1718, .iadd, 0, []), (1719, .iaload, 0, []), (1720, .aload_n 3, 0, []), (1721, .invokestatic 237, 0, []), (1724, .istore 6, 0, []), (1726, .aload_n 2, 0, []), (1727, .aload_n 0, 0, [])],
  [(1728, .iload 5, 0, []), (1730, .iconst 1, 0, []), (1731, .iadd, 0, []), (1732, .iaload, 0, []), (1733, .invokevirtual 239, 0, []), (1736, .istore 7, 0, []), (1738, .aload_n 2, 0, []), (1739, .invokevirtual 156, 0, []), (1742, .iload 6, 0, []), (1744, .if_icmp .eq 5, 1749, []), (1747, .iconst 0, 0, []), (1748, .ireturn, 0, []), (1749, .iload 6, 0, []), (1751, .ifCond .ne 15, 1766, []), (1754, .aload_n 3, 0, []), (1755, .iconst 0, 0, []), (1756, .laload, 0, []), (1757, .iload 7, 0, []), (1759, .i2l, 0, [])],
  [(1760, .lcmp, 0, []), (1761, .ifCond .eq 5, 1766, []), (1764, .iconst 0, 0, []), (1765, .ireturn, 0, []), (1766, .goto 986, 2752, []), (1769, .aload_n 1, 0, []), (1770, .invokevirtual 240, 0, []), (1773, .aload_n 2, 0, []), (1774, .invokevirtual 243, 0, []), (1777, .if_icmp .eq 975, 2752, []), (1780, .iconst 0, 0, []), (1781, .ireturn, 0, []), (1782, .aload_n 1, 0, []), (1783, .aload_n 0, 0, []), (1784, .iload 5, 0, []), (1786, .iconst 1, 0, []), (1787, .iadd, 0, []), (1788, .iaload, 0, []), (1789, .aload_n 0, 0, []), (1790, .iload 5, 0, [])],
  [(1792, .iconst 2, 0, []), (1793, .iadd, 0, []), (1794, .iaload, 0, []), (1795, .aload_n 3, 0, []), (1796, .invokestatic 244, 0, []), (1799, .istore 6, 0, []), (1801, .aload_n 2, 0, []), (1802, .aload_n 0, 0, []), (1803, .iload 5, 0, []), (1805, .iconst 1, 0, []), (1806, .iadd, 0, []), (1807, .iaload, 0, []), (1808, .aload_n 0, 0, []), (1809, .iload 5, 0, []), (1811, .iconst 2, 0, []), (1812, .iadd, 0, []), (1813, .iaload, 0, []), (1814, .invokevirtual 246, 0, []), (1817, .istore 7, 0, []), (1819, .aload_n 2, 0, []), (1820, .invokevirtual 156, 0, []), (1823, .iload 6, 0, [])],
  [(1825, .if_icmp .eq 5, 1830, []), (1828, .iconst 0, 0, []), (1829, .ireturn, 0, []), (1830, .iload 6, 0, []), (1832, .ifCond .ne 22, 1854, []), (1835, .aload_n 3, 0, []), (1836, .iconst 0, 0, []), (1837, .laload, 0, []), (1838, .iload 7, 0, []), (1840, .ifCond .eq 7, 1847, []), (1843, .lconst 1, 0, []), (1844, .goto 4, 1848, []), (1847, .lconst 0, 0, []), (1848, .lcmp, 0, []), (1849, .ifCond .eq 5, 1854, []), (1852, .iconst 0, 0, []), (1853, .ireturn, 0, []), (1854, .goto 898, 2752, [])],
  [(1857, .aload_n 1, 0, []), (1858, .aload_n 0, 0, []), (1859, .iload 5, 0, []), (1861, .iconst 1, 0, []), (1862, .iadd, 0, []), (1863, .iaload, 0, []), (1864, .aload_n 0, 0, []), (1865, .iload 5, 0, []), (1867, .iconst 2, 0, []), (1868, .iadd, 0, []), (1869, .iaload, 0, []), (1870, .aload_n 3, 0, []), (1871, .invokestatic 247, 0, []), (1874, .istore 6, 0, []), (1876, .aload_n 2, 0, []), (1877, .aload_n 0, 0, []), (1878, .iload 5, 0, []), (1880, .iconst 1, 0, []), (1881, .iadd, 0, []), (1882, .iaload, 0, []), (1883, .aload_n 0, 0, []), (1884, .iload 5, 0, []), (1886, .iconst 2, 0, []), (1887, .iadd, 0, [])],
  [(1888, .iaload, 0, []), (1889, .invokevirtual 249, 0, []), (1892, .istore 7, 0, []), (1894, .aload_n 2, 0, []), (1895, .invokevirtual 156, 0, []), (1898, .iload 6, 0, []), (1900, .if_icmp .eq 5, 1905, []), (1903, .iconst 0, 0, []), (1904, .ireturn, 0, []), (1905, .iload 6, 0, []), (1907, .ifCond .ne 22, 1929, []), (1910, .aload_n 3, 0, []), (1911, .iconst 0, 0, []), (1912, .laload, 0, []), (1913, .iload 7, 0, []), (1915, .ifCond .eq 7, 1922, []), (1918, .lconst 1, 0, []), (1919, .goto 4, 1923, [])],
  [(1922, .lconst 0, 0, []), (1923, .lcmp, 0, []), (1924, .ifCond .eq 5, 1929, []), (1927, .iconst 0, 0, []), (1928, .ireturn, 0, []), (1929, .goto 823, 2752, []), (1932, .aload_n 1, 0, []), (1933, .invokevirtual 250, 0, []), (1936, .aload_n 2, 0, []), (1937, .invokevirtual 253, 0, []), (1940, .if_icmp .eq 812, 2752, []), (1943, .iconst 0, 0, []), (1944, .ireturn, 0, []), (1945, .aload_n 1, 0, []), (1946, .invokevirtual 254, 0, []), (1949, .aload_n 2, 0, []), (1950, .invokevirtual 257, 0, [])],
  [(1953, .if_icmp .eq 799, 2752, []), (1956, .iconst 0, 0, []), (1957, .ireturn, 0, []), (1958, .aload_n 1, 0, []), (1959, .aload_n 0, 0, []), (1960, .iload 5, 0, []), (1962, .iconst 1, 0, []), (1963, .iadd, 0, []), (1964, .iaload, 0, []), (1965, .aload_n 3, 0, []), (1966, .invokestatic 258, 0, []), (1969, .istore 6, 0, []), (1971, .aload_n 2, 0, []), (1972, .aload_n 0, 0, []), (1973, .iload 5, 0, []), (1975, .iconst 1, 0, []), (1976, .iadd, 0, []), (1977, .iaload, 0, []), (1978, .invokevirtual 260, 0, []), (1981, .istore 7, 0, []), (1983, .aload_n 2, 0, [])],
  [(1984, .invokevirtual 156, 0, []), (1987, .iload 6, 0, []), (1989, .if_icmp .eq 5, 1994, []), (1992, .iconst 0, 0, []), (1993, .ireturn, 0, []), (1994, .iload 6, 0, []), (1996, .ifCond .ne 15, 2011, []), (1999, .aload_n 3, 0, []), (2000, .iconst 0, 0, []), (2001, .laload, 0, []), (2002, .iload 7, 0, []), (2004, .i2l, 0, []), (2005, .lcmp, 0, []), (2006, .ifCond .eq 5, 2011, []), (2009, .iconst 0, 0, []), (2010, .ireturn, 0, []), (2011, .goto 741, 2752, []), (2014, .aload_n 1, 0, []), (2015, .invokevirtual 261, 0, [])],
  [(2018, .aload_n 2, 0, []), (2019, .invokevirtual 264, 0, []), (2022, .if_icmp .eq 730, 2752, []), (2025, .iconst 0, 0, []), (2026, .ireturn, 0, []), (2027, .aload_n 1, 0, []), (2028, .invokevirtual 265, 0, []), (2031, .aload_n 2, 0, []), (2032, .invokevirtual 268, 0, []), (2035, .if_icmp .eq 717, 2752, []), (2038, .iconst 0, 0, []), (2039, .ireturn, 0, []), (2040, .aload_n 1, 0, []), (2041, .invokevirtual 269, 0, []), (2044, .aload_n 2, 0, []), (2045, .invokevirtual 272, 0, [])],
  [(2048, .if_icmp .eq 704, 2752, []), (2051, .iconst 0, 0, []), (2052, .ireturn, 0, []), (2053, .aload_n 1, 0, []), (2054, .invokevirtual 273, 0, []), (2057, .aload_n 2, 0, []), (2058, .invokevirtual 276, 0, []), (2061, .if_icmp .eq 691, 2752, []), (2064, .iconst 0, 0, []), (2065, .ireturn, 0, []), (2066, .aload_n 1, 0, []), (2067, .invokevirtual 277, 0, []), (2070, .aload_n 2, 0, []), (2071, .invokevirtual 280, 0, []), (2074, .if_icmp .eq 678, 2752, []), (2077, .iconst 0, 0, []), (2078, .ireturn, 0, []), (2079, .aload_n 1, 0, [])],
  [(2080, .invokevirtual 281, 0, []), (2083, .aload_n 2, 0, []), (2084, .invokevirtual 284, 0, []), (2087, .if_icmp .eq 665, 2752, []), (2090, .iconst 0, 0, []), (2091, .ireturn, 0, []), (2092, .aload_n 1, 0, []), (2093, .invokevirtual 285, 0, []), (2096, .aload_n 2, 0, []), (2097, .invokevirtual 288, 0, []), (2100, .if_icmp .eq 652, 2752, []), (2103, .iconst 0, 0, []), (2104, .ireturn, 0, []), (2105, .aload_n 1, 0, []), (2106, .aload 4, 0, []), (2108, .invokestatic 289, 0, []), (2111, .istore 6, 0, [])],
  [(2113, .aload_n 2, 0, []), (2114, .invokevirtual 292, 0, []), (2117, .dstore 7, 0, []), (2119, .aload_n 2, 0, []), (2120, .invokevirtual 156, 0, []), (2123, .iload 6, 0, []), (2125, .if_icmp .eq 5, 2130, []), (2128, .iconst 0, 0, []), (2129, .ireturn, 0, []), (2130, .iload 6, 0, []), (2132, .ifCond .ne 35, 2167, []), (2135, .aload 4, 0, []), (2137, .iconst 0, 0, []), (2138, .daload, 0, []), (2139, .dload 7, 0, []), (2141, .dcmp .l, 0, []), (2142, .ifCond .eq 25, 2167, [])],
  [(2145, .aload 4, 0, []), (2147, .iconst 0, 0, []), (2148, .daload, 0, []), (2149, .aload 4, 0, []), (2151, .iconst 0, 0, []), (2152, .daload, 0, []), (2153, .dcmp .l, 0, []), (2154, .ifCond .eq 11, 2165, []), (2157, .dload 7, 0, []), (2159, .dload 7, 0, []), (2161, .dcmp .l, 0, []), (2162, .ifCond .ne 5, 2167, []), (2165, .iconst 0, 0, []), (2166, .ireturn, 0, []), (2167, .goto 585, 2752, []), (2170, .aload_n 1, 0, []), (2171, .aload_n 0, 0, []), (2172, .iload 5, 0, []), (2174, .iconst 1, 0, []), (2175, .iadd, 0, [])],
  [(2176, .iaload, 0, []), (2177, .aload 4, 0, []), (2179, .invokestatic 293, 0, []), (2182, .istore 6, 0, []), (2184, .aload_n 2, 0, []), (2185, .aload_n 0, 0, []), (2186, .iload 5, 0, []), (2188, .iconst 1, 0, []), (2189, .iadd, 0, []), (2190, .iaload, 0, []), (2191, .invokevirtual 296, 0, []), (2194, .fstore 7, 0, []), (2196, .aload_n 2, 0, []), (2197, .invokevirtual 156, 0, []), (2200, .iload 6, 0, []), (2202, .if_icmp .eq 5, 2207, []), (2205, .iconst 0, 0, []), (2206, .ireturn, 0, []), (2207, .iload 6, 0, [])],
  [(2209, .ifCond .ne 36, 2245, []), (2212, .aload 4, 0, []), (2214, .iconst 0, 0, []), (2215, .daload, 0, []), (2216, .fload 7, 0, []), (2218, .f2d, 0, []), (2219, .dcmp .l, 0, []), (2220, .ifCond .eq 25, 2245, []), (2223, .aload 4, 0, []), (2225, .iconst 0, 0, []), (2226, .daload, 0, []), (2227, .aload 4, 0, []), (2229, .iconst 0, 0, []), (2230, .daload, 0, []), (2231, .dcmp .l, 0, []), (2232, .ifCond .eq 11, 2243, []), (2235, .fload 7, 0, []), (2237, .fload 7, 0, []), (2239, .fcmp .l, 0, [])],
  [(2240, .ifCond .ne 5, 2245, []), (2243, .iconst 0, 0, []), (2244, .ireturn, 0, []), (2245, .goto 507, 2752, []), (2248, .aload_n 1, 0, []), (2249, .aload_n 0, 0, []), (2250, .iload 5, 0, []), (2252, .iconst 1, 0, []), (2253, .iadd, 0, []), (2254, .iaload, 0, []), (2255, .i2c, 0, []), (2256, .aload_n 3, 0, []), (2257, .invokestatic 297, 0, []), (2260, .istore 6, 0, []), (2262, .aload_n 2, 0, []), (2263, .aload_n 0, 0, []), (2264, .iload 5, 0, []), (2266, .iconst 1, 0, []), (2267, .iadd, 0, []), (2268, .iaload, 0, []), (2269, .i2c, 0, []), (2270, .invokevirtual 300, 0, [])],
  [(2273, .istore 7, 0, []), (2275, .aload_n 2, 0, []), (2276, .invokevirtual 156, 0, []), (2279, .iload 6, 0, []), (2281, .if_icmp .eq 5, 2286, []), (2284, .iconst 0, 0, []), (2285, .ireturn, 0, []), (2286, .iload 6, 0, []), (2288, .ifCond .ne 15, 2303, []), (2291, .aload_n 3, 0, []), (2292, .iconst 0, 0, []), (2293, .laload, 0, []), (2294, .iload 7, 0, []), (2296, .i2l, 0, []), (2297, .lcmp, 0, []), (2298, .ifCond .eq 5, 2303, []), (2301, .iconst 0, 0, []), (2302, .ireturn, 0, []), (2303, .goto 449, 2752, [])],
  [(2306, .aload_n 1, 0, []), (2307, .aload_n 3, 0, []), (2308, .invokestatic 301, 0, []), (2311, .istore 6, 0, []), (2313, .aload_n 2, 0, []), (2314, .invokevirtual 304, 0, []), (2317, .istore 7, 0, []), (2319, .aload_n 2, 0, []), (2320, .invokevirtual 156, 0, []), (2323, .iload 6, 0, []), (2325, .if_icmp .eq 5, 2330, []), (2328, .iconst 0, 0, []), (2329, .ireturn, 0, []), (2330, .iload 6, 0, []), (2332, .ifCond .ne 15, 2347, []), (2335, .aload_n 3, 0, [])],
  [(2336, .iconst 0, 0, []), (2337, .laload, 0, []), (2338, .iload 7, 0, []), (2340, .i2l, 0, []), (2341, .lcmp, 0, []), (2342, .ifCond .eq 5, 2347, []), (2345, .iconst 0, 0, []), (2346, .ireturn, 0, []), (2347, .goto 405, 2752, []), (2350, .aload_n 1, 0, []), (2351, .aload_n 3, 0, []), (2352, .invokestatic 305, 0, []), (2355, .istore 6, 0, []), (2357, .aload_n 2, 0, []), (2358, .invokevirtual 307, 0, []), (2361, .istore 7, 0, []), (2363, .aload_n 2, 0, []), (2364, .invokevirtual 156, 0, []), (2367, .iload 6, 0, [])],
  [(2369, .if_icmp .eq 5, 2374, []), (2372, .iconst 0, 0, []), (2373, .ireturn, 0, []), (2374, .iload 6, 0, []), (2376, .ifCond .ne 15, 2391, []), (2379, .aload_n 3, 0, []), (2380, .iconst 0, 0, []), (2381, .laload, 0, []), (2382, .iload 7, 0, []), (2384, .i2l, 0, []), (2385, .lcmp, 0, []), (2386, .ifCond .eq 5, 2391, []), (2389, .iconst 0, 0, []), (2390, .ireturn, 0, []), (2391, .goto 361, 2752, []), (2394, .aload_n 1, 0, []), (2395, .aload_n 0, 0, []), (2396, .iload 5, 0, []), (2398, .iconst 1, 0, []), (2399, .iadd, 0, [])],
  [(2400, .iaload, 0, []), (2401, .aload_n 3, 0, []), (2402, .invokestatic 308, 0, []), (2405, .istore 6, 0, []), (2407, .aload_n 2, 0, []), (2408, .aload_n 0, 0, []), (2409, .iload 5, 0, []), (2411, .iconst 1, 0, []), (2412, .iadd, 0, []), (2413, .iaload, 0, []), (2414, .invokevirtual 310, 0, []), (2417, .istore 7, 0, []), (2419, .aload_n 2, 0, []), (2420, .invokevirtual 156, 0, []), (2423, .iload 6, 0, []), (2425, .if_icmp .eq 5, 2430, []), (2428, .iconst 0, 0, []), (2429, .ireturn, 0, []), (2430, .iload 6, 0, [])],
  [(2432, .ifCond .ne 15, 2447, []), (2435, .aload_n 3, 0, []), (2436, .iconst 0, 0, []), (2437, .laload, 0, []), (2438, .iload 7, 0, []), (2440, .i2l, 0, []), (2441, .lcmp, 0, []), (2442, .ifCond .eq 5, 2447, []), (2445, .iconst 0, 0, []), (2446, .ireturn, 0, []), (2447, .goto 305, 2752, []), (2450, .aload_n 1, 0, []), (2451, .aload_n 0, 0, []), (2452, .iload 5, 0, []), (2454, .iconst 1, 0, []), (2455, .iadd, 0, []), (2456, .iaload, 0, []), (2457, .aload_n 3, 0, []), (2458, .invokestatic 311, 0, []), (2461, .istore 6, 0, []), (2463, .aload_n 2, 0, [])],
  [(2464, .aload_n 0, 0, []), (2465, .iload 5, 0, []), (2467, .iconst 1, 0, []), (2468, .iadd, 0, []), (2469, .iaload, 0, []), (2470, .invokevirtual 313, 0, []), (2473, .istore 7, 0, []), (2475, .aload_n 2, 0, []), (2476, .invokevirtual 156, 0, []), (2479, .iload 6, 0, []), (2481, .if_icmp .eq 5, 2486, []), (2484, .iconst 0, 0, []), (2485, .ireturn, 0, []), (2486, .iload 6, 0, []), (2488, .ifCond .ne 15, 2503, []), (2491, .aload_n 3, 0, []), (2492, .iconst 0, 0, []), (2493, .laload, 0, []), (2494, .iload 7, 0, [])],
  [(2496, .i2l, 0, []), (2497, .lcmp, 0, []), (2498, .ifCond .eq 5, 2503, []), (2501, .iconst 0, 0, []), (2502, .ireturn, 0, []), (2503, .goto 249, 2752, []), (2506, .aload_n 1, 0, []), (2507, .aload_n 3, 0, []), (2508, .invokestatic 314, 0, []), (2511, .istore 6, 0, []), (2513, .aload_n 2, 0, []), (2514, .invokevirtual 316, 0, []), (2517, .istore 7, 0, []), (2519, .aload_n 2, 0, []), (2520, .invokevirtual 156, 0, []), (2523, .iload 6, 0, []), (2525, .if_icmp .eq 5, 2530, [])],
  [(2528, .iconst 0, 0, []), (2529, .ireturn, 0, []), (2530, .iload 6, 0, []), (2532, .ifCond .ne 15, 2547, []), (2535, .aload_n 3, 0, []), (2536, .iconst 0, 0, []), (2537, .laload, 0, []), (2538, .iload 7, 0, []), (2540, .i2l, 0, []), (2541, .lcmp, 0, []), (2542, .ifCond .eq 5, 2547, []), (2545, .iconst 0, 0, []), (2546, .ireturn, 0, []), (2547, .goto 205, 2752, []), (2550, .aload_n 1, 0, []), (2551, .aload_n 3, 0, []), (2552, .invokestatic 317, 0, []), (2555, .istore 6, 0, []), (2557, .aload_n 2, 0, []), (2558, .invokevirtual 319, 0, [])],
  [(2561, .istore 7, 0, []), (2563, .aload_n 2, 0, []), (2564, .invokevirtual 156, 0, []), (2567, .iload 6, 0, []), (2569, .if_icmp .eq 5, 2574, []), (2572, .iconst 0, 0, []), (2573, .ireturn, 0, []), (2574, .iload 6, 0, []), (2576, .ifCond .ne 15, 2591, []), (2579, .aload_n 3, 0, []), (2580, .iconst 0, 0, []), (2581, .laload, 0, []), (2582, .iload 7, 0, []), (2584, .i2l, 0, []), (2585, .lcmp, 0, []), (2586, .ifCond .eq 5, 2591, []), (2589, .iconst 0, 0, []), (2590, .ireturn, 0, []), (2591, .goto 161, 2752, [])],
  [(2594, .aload_n 1, 0, []), (2595, .aload_n 3, 0, []), (2596, .invokestatic 320, 0, []), (2599, .istore 6, 0, []), (2601, .aload_n 2, 0, []), (2602, .invokevirtual 322, 0, []), (2605, .istore 7, 0, []), (2607, .aload_n 2, 0, []), (2608, .invokevirtual 156, 0, []), (2611, .iload 6, 0, []), (2613, .if_icmp .eq 5, 2618, []), (2616, .iconst 0, 0, []), (2617, .ireturn, 0, []), (2618, .iload 6, 0, []), (2620, .ifCond .ne 15, 2635, []), (2623, .aload_n 3, 0, [])],
  [(2624, .iconst 0, 0, []), (2625, .laload, 0, []), (2626, .iload 7, 0, []), (2628, .i2l, 0, []), (2629, .lcmp, 0, []), (2630, .ifCond .eq 5, 2635, []), (2633, .iconst 0, 0, []), (2634, .ireturn, 0, []), (2635, .goto 117, 2752, []), (2638, .aload_n 1, 0, []), (2639, .aload_n 3, 0, []), (2640, .invokestatic 323, 0, []), (2643, .istore 6, 0, []), (2645, .aload_n 2, 0, []), (2646, .invokevirtual 325, 0, []), (2649, .istore 7, 0, []), (2651, .aload_n 2, 0, []), (2652, .invokevirtual 156, 0, []), (2655, .iload 6, 0, [])],
  [(2657, .if_icmp .eq 5, 2662, []), (2660, .iconst 0, 0, []), (2661, .ireturn, 0, []), (2662, .iload 6, 0, []), (2664, .ifCond .ne 15, 2679, []), (2667, .aload_n 3, 0, []), (2668, .iconst 0, 0, []), (2669, .laload, 0, []), (2670, .iload 7, 0, []), (2672, .i2l, 0, []), (2673, .lcmp, 0, []), (2674, .ifCond .eq 5, 2679, []), (2677, .iconst 0, 0, []), (2678, .ireturn, 0, []), (2679, .goto 73, 2752, []), (2682, .aload_n 1, 0, []), (2683, .invokevirtual 326, 0, []), (2686, .aload_n 2, 0, []), (2687, .invokevirtual 329, 0, [])],
  [(2690, .if_icmp .eq 62, 2752, []), (2693, .iconst 0, 0, []), (2694, .ireturn, 0, []), (2695, .aload_n 1, 0, []), (2696, .invokevirtual 330, 0, []), (2699, .aload_n 2, 0, []), (2700, .invokevirtual 333, 0, []), (2703, .if_icmp .eq 49, 2752, []), (2706, .iconst 0, 0, []), (2707, .ireturn, 0, []), (2708, .aload_n 1, 0, []), (2709, .aload_n 3, 0, []), (2710, .invokestatic 334, 0, []), (2713, .istore 6, 0, []), (2715, .aload_n 2, 0, []), (2716, .invokevirtual 336, 0, []), (2719, .istore 7, 0, [])],
  [(2721, .aload_n 2, 0, []), (2722, .invokevirtual 156, 0, []), (2725, .iload 6, 0, []), (2727, .if_icmp .eq 5, 2732, []), (2730, .iconst 0, 0, []), (2731, .ireturn, 0, []), (2732, .iload 6, 0, []), (2734, .ifCond .ne 15, 2749, []), (2737, .aload_n 3, 0, []), (2738, .iconst 0, 0, []), (2739, .laload, 0, []), (2740, .iload 7, 0, []), (2742, .i2l, 0, []), (2743, .lcmp, 0, []), (2744, .ifCond .eq 5, 2749, []), (2747, .iconst 0, 0, []), (2748, .ireturn, 0, []), (2749, .goto 3, 2752, [])],
  [(2752, .iinc 5 5, 0, []), (2755, .goto (-2727), 28, []), (2758, .iconst 1, 0, []), (2759, .ireturn, 0, [])]]
def m_L_law : mv_M := (9, true, 6, cd_L_law, lk_L, [])
abbrev mv_N : Type := MethodName × ByteArray × Option FieldType × List (Nat × Nat × Nat × Nat)
def n_X0_init : mv_N := (yX0_init, cX0_init, none, [])
def n_X0_copyFrom : mv_N := (yX0_copyFrom, cX0_copyFrom, none, [])
def n_X0_begin : mv_N := (yX0_begin, cX0_begin, none, [])
def n_X0_spareLift : mv_N := (yX0_spareLift, cX0_spareLift, some (FieldType.int), [])
def n_X0_heightWith : mv_N := (yX0_heightWith, cX0_heightWith, some (FieldType.int), [])
def n_X0_presentHeight : mv_N := (yX0_presentHeight, cX0_presentHeight, some (FieldType.int), [])
def n_X0_isOverstrained : mv_N := (yX0_isOverstrained, cX0_isOverstrained, some (FieldType.boolean), [])
def n_X0_changeLift : mv_N := (yX0_changeLift, cX0_changeLift, none, [])
def n_X0_hasBag : mv_N := (yX0_hasBag, cX0_hasBag, some (FieldType.boolean), [])
def n_X0_addBag : mv_N := (yX0_addBag, cX0_addBag, none, [])
def n_X0_removeBag : mv_N := (yX0_removeBag, cX0_removeBag, some (FieldType.int), [])
def n_X0_weightOf : mv_N := (yX0_weightOf, cX0_weightOf, some (FieldType.int), [])
def n_X0_bestDropSet : mv_N := (yX0_bestDropSet, cX0_bestDropSet, some (FieldType.int), [])
def n_X0_isBetter : mv_N := (yX0_isBetter, cX0_isBetter, some (FieldType.boolean), [])
def n_X0_fewestBagsByWeight : mv_N := (yX0_fewestBagsByWeight, cX0_fewestBagsByWeight, some (FieldType.int), [])
def n_X0_heaviestOutside : mv_N := (yX0_heaviestOutside, cX0_heaviestOutside, some (FieldType.int), [])
def n_X1_init : mv_N := (yX1_init, cX1_init, none, [])
def n_X1_begin : mv_N := (yX1_begin, cX1_begin, none, [])
def n_X1_add : mv_N := (yX1_add, cX1_add, none, [])
def n_X1_set : mv_N := (yX1_set, cX1_set, none, [])
def n_X2_init : mv_N := (yX2_init, cX2_init, none, [])
def n_X2_mostByChanging : mv_N := (yX2_mostByChanging, cX2_mostByChanging, some (FieldType.int), [])
def n_X2_findsBalloon : mv_N := (yX2_findsBalloon, cX2_findsBalloon, some (FieldType.boolean), [])
def n_X2_mostBySets : mv_N := (yX2_mostBySets, cX2_mostBySets, some (FieldType.int), [])
def n_X2_giveToOnePilot : mv_N := (yX2_giveToOnePilot, cX2_giveToOnePilot, none, [])
def n_X3_init : mv_N := (yX3_init, cX3_init, none, [])
def n_X3_copyFrom : mv_N := (yX3_copyFrom, cX3_copyFrom, none, [])
def n_X3_hasBalloon : mv_N := (yX3_hasBalloon, cX3_hasBalloon, some (FieldType.boolean), [])
def n_X3_hasPilot : mv_N := (yX3_hasPilot, cX3_hasPilot, some (FieldType.boolean), [])
def n_X3_hourOfDay : mv_N := (yX3_hourOfDay, cX3_hourOfDay, some (FieldType.int), [])
def n_X3_countBalloons : mv_N := (yX3_countBalloons, cX3_countBalloons, some (FieldType.int), [])
def n_X3_weightAboard : mv_N := (yX3_weightAboard, cX3_weightAboard, some (FieldType.int), [])
def n_X3_sumOfHeights : mv_N := (yX3_sumOfHeights, cX3_sumOfHeights, some (FieldType.int), [])
def n_X3_berthAtRank : mv_N := (yX3_berthAtRank, cX3_berthAtRank, some (FieldType.int), [])
def n_X3_countAhead : mv_N := (yX3_countAhead, cX3_countAhead, some (FieldType.int), [])
def n_X3_isAhead : mv_N := (yX3_isAhead, cX3_isAhead, some (FieldType.boolean), [])
def n_X3_topOf : mv_N := (yX3_topOf, cX3_topOf, some (FieldType.int), [])
def n_X3_calmOfTwoDays : mv_N := (yX3_calmOfTwoDays, cX3_calmOfTwoDays, some (FieldType.int), [])
def n_X3_calmByTrying : mv_N := (yX3_calmByTrying, cX3_calmByTrying, some (FieldType.int), [])
def n_X3_fitsCrew : mv_N := (yX3_fitsCrew, cX3_fitsCrew, some (FieldType.boolean), [])
def n_X3_refusalOf : mv_N := (yX3_refusalOf, cX3_refusalOf, some (FieldType.int), [])
def n_X3_refusalToMoor : mv_N := (yX3_refusalToMoor, cX3_refusalToMoor, some (FieldType.int), [])
def n_X3_refusalToLoad : mv_N := (yX3_refusalToLoad, cX3_refusalToLoad, some (FieldType.int), [])
def n_X3_refusalToDrop : mv_N := (yX3_refusalToDrop, cX3_refusalToDrop, some (FieldType.int), [])
def n_X3_refusalToRise : mv_N := (yX3_refusalToRise, cX3_refusalToRise, some (FieldType.int), [])
def n_X3_refusalOfWind : mv_N := (yX3_refusalOfWind, cX3_refusalOfWind, some (FieldType.int), [])
def n_X3_refusalOfPilot : mv_N := (yX3_refusalOfPilot, cX3_refusalOfPilot, some (FieldType.int), [])
def n_X3_detailOf : mv_N := (yX3_detailOf, cX3_detailOf, some (FieldType.int), [])
def n_X3_carryOut : mv_N := (yX3_carryOut, cX3_carryOut, some (FieldType.int), [])
def n_X3_putBalloon : mv_N := (yX3_putBalloon, cX3_putBalloon, some (FieldType.int), [])
def n_X3_removeBalloon : mv_N := (yX3_removeBalloon, cX3_removeBalloon, some (FieldType.int), [])
def n_X3_loadBag : mv_N := (yX3_loadBag, cX3_loadBag, some (FieldType.int), [])
def n_X3_dropBag : mv_N := (yX3_dropBag, cX3_dropBag, some (FieldType.int), [])
def n_X3_dropBestSet : mv_N := (yX3_dropBestSet, cX3_dropBestSet, some (FieldType.int), [])
def n_X3_replaceWind : mv_N := (yX3_replaceWind, cX3_replaceWind, some (FieldType.int), [])
def n_X3_putPilot : mv_N := (yX3_putPilot, cX3_putPilot, some (FieldType.int), [])
def n_X3_takePilot : mv_N := (yX3_takePilot, cX3_takePilot, some (FieldType.int), [])
def n_X3_passHours : mv_N := (yX3_passHours, cX3_passHours, some (FieldType.int), [])
def n_X3_burstBalloons : mv_N := (yX3_burstBalloons, cX3_burstBalloons, some (FieldType.int), [])
def n_X3_shake : mv_N := (yX3_shake, cX3_shake, none, [])
def n_X3_queueIfOverstrained : mv_N := (yX3_queueIfOverstrained, cX3_queueIfOverstrained, none, [])
def n_X4_init : mv_N := (yX4_init, cX4_init, none, [])
def n_X4_remember : mv_N := (yX4_remember, cX4_remember, none, [])
def n_X4_bringBack : mv_N := (yX4_bringBack, cX4_bringBack, none, [])
def n_X5_init : mv_N := (yX5_init, cX5_init, none, [])
def n_X5_set : mv_N := (yX5_set, cX5_set, none, [])
def n_X5_copyFrom : mv_N := (yX5_copyFrom, cX5_copyFrom, none, [])
def n_X5_worksAt : mv_N := (yX5_worksAt, cX5_worksAt, some (FieldType.boolean), [])
def n_X6_init : mv_N := (yX6_init, cX6_init, none, [])
def n_X6_append : mv_N := (yX6_append, cX6_append, none, [])
def n_X6_read : mv_N := (yX6_read, cX6_read, some (FieldType.boolean), [])
def n_X6_readCommand : mv_N := (yX6_readCommand, cX6_readCommand, some (FieldType.boolean), [])
def n_X6_readAs : mv_N := (yX6_readAs, cX6_readAs, some (FieldType.boolean), [])
def n_X6_formOf : mv_N := (yX6_formOf, cX6_formOf, some ((FieldType.object "java/lang/String")), [])
def n_X6_readPart : mv_N := (yX6_readPart, cX6_readPart, some (FieldType.boolean), [])
def n_X6_readNumber : mv_N := (yX6_readNumber, cX6_readNumber, some (FieldType.boolean), [])
def n_X6_readCharacter : mv_N := (yX6_readCharacter, cX6_readCharacter, some (FieldType.boolean), [])
def n_X7_init : mv_N := (yX7_init, cX7_init, none, [])
def n_X7_collect : mv_N := (yX7_collect, cX7_collect, some (FieldType.int), [])
def n_X7_tangledByPairs : mv_N := (yX7_tangledByPairs, cX7_tangledByPairs, some (FieldType.int), [])
def n_X7_tangledByMerging : mv_N := (yX7_tangledByMerging, cX7_tangledByMerging, some (FieldType.int), [])
def n_X7_sortAndCount : mv_N := (yX7_sortAndCount, cX7_sortAndCount, some (FieldType.int), [])
def n_X7_mergeAndCount : mv_N := (yX7_mergeAndCount, cX7_mergeAndCount, some (FieldType.int), [])
def n_X8_init : mv_N := (yX8_init, cX8_init, none, [])
def n_X8_moor : mv_N := (yX8_moor, cX8_moor, some (FieldType.int), [])
def n_X8_castOff : mv_N := (yX8_castOff, cX8_castOff, some (FieldType.int), [])
def n_X8_balloonCount : mv_N := (yX8_balloonCount, cX8_balloonCount, some (FieldType.int), [])
def n_X8_isMoored : mv_N := (yX8_isMoored, cX8_isMoored, some (FieldType.boolean), [])
def n_X8_lift : mv_N := (yX8_lift, cX8_lift, some (FieldType.int), [])
def n_X8_ballast : mv_N := (yX8_ballast, cX8_ballast, some (FieldType.int), [])
def n_X8_height : mv_N := (yX8_height, cX8_height, some (FieldType.int), [])
def n_X8_isBursting : mv_N := (yX8_isBursting, cX8_isBursting, some (FieldType.boolean), [])
def n_X8_berthByHeight : mv_N := (yX8_berthByHeight, cX8_berthByHeight, some (FieldType.int), [])
def n_X8_load : mv_N := (yX8_load, cX8_load, some (FieldType.int), [])
def n_X8_drop : mv_N := (yX8_drop, cX8_drop, some (FieldType.int), [])
def n_X8_rise : mv_N := (yX8_rise, cX8_rise, some (FieldType.int), [])
def n_X8_bagCount : mv_N := (yX8_bagCount, cX8_bagCount, some (FieldType.int), [])
def n_X8_bagWeight : mv_N := (yX8_bagWeight, cX8_bagWeight, some (FieldType.int), [])
def n_X8_fewestDrops : mv_N := (yX8_fewestDrops, cX8_fewestDrops, some (FieldType.int), [])
def n_X8_fewestDropsBySets : mv_N := (yX8_fewestDropsBySets, cX8_fewestDropsBySets, some (FieldType.int), [])
def n_X8_dropWeight : mv_N := (yX8_dropWeight, cX8_dropWeight, some (FieldType.int), [])
def n_X8_setWind : mv_N := (yX8_setWind, cX8_setWind, some (FieldType.int), [])
def n_X8_wind : mv_N := (yX8_wind, cX8_wind, some (FieldType.int), [])
def n_X8_top : mv_N := (yX8_top, cX8_top, some (FieldType.int), [])
def n_X8_tangles : mv_N := (yX8_tangles, cX8_tangles, some (FieldType.int), [])
def n_X8_tanglesByMerging : mv_N := (yX8_tanglesByMerging, cX8_tanglesByMerging, some (FieldType.int), [])
def n_X8_longestCalm : mv_N := (yX8_longestCalm, cX8_longestCalm, some (FieldType.int), [])
def n_X8_longestCalmByTrying : mv_N := (yX8_longestCalmByTrying, cX8_longestCalmByTrying, some (FieldType.int), [])
def n_X8_addPilot : mv_N := (yX8_addPilot, cX8_addPilot, some (FieldType.int), [])
def n_X8_removePilot : mv_N := (yX8_removePilot, cX8_removePilot, some (FieldType.int), [])
def n_X8_pilotCount : mv_N := (yX8_pilotCount, cX8_pilotCount, some (FieldType.int), [])
def n_X8_isOnDuty : mv_N := (yX8_isOnDuty, cX8_isOnDuty, some (FieldType.boolean), [])
def n_X8_canCrew : mv_N := (yX8_canCrew, cX8_canCrew, some (FieldType.boolean), [])
def n_X8_mostCrewed : mv_N := (yX8_mostCrewed, cX8_mostCrewed, some (FieldType.int), [])
def n_X8_mostCrewedBySets : mv_N := (yX8_mostCrewedBySets, cX8_mostCrewedBySets, some (FieldType.int), [])
def n_X8_pass : mv_N := (yX8_pass, cX8_pass, some (FieldType.int), [])
def n_X8_burstsAhead : mv_N := (yX8_burstsAhead, cX8_burstsAhead, some (FieldType.int), [])
def n_X8_hour : mv_N := (yX8_hour, cX8_hour, some (FieldType.int), [])
def n_X8_bursts : mv_N := (yX8_bursts, cX8_bursts, some (FieldType.int), [])
def n_X8_loaded : mv_N := (yX8_loaded, cX8_loaded, some (FieldType.int), [])
def n_X8_aboard : mv_N := (yX8_aboard, cX8_aboard, some (FieldType.int), [])
def n_X8_dropped : mv_N := (yX8_dropped, cX8_dropped, some (FieldType.int), [])
def n_X8_lost : mv_N := (yX8_lost, cX8_lost, some (FieldType.int), [])
def n_X8_meanHeight : mv_N := (yX8_meanHeight, cX8_meanHeight, some (FieldType.double), [])
def n_X8_strain : mv_N := (yX8_strain, cX8_strain, some (FieldType.float), [])
def n_X8_feed : mv_N := (yX8_feed, cX8_feed, some (FieldType.int), [])
def n_X8_execute : mv_N := (yX8_execute, cX8_execute, some (FieldType.int), [])
def n_X8_faultPosition : mv_N := (yX8_faultPosition, cX8_faultPosition, some (FieldType.int), [])
def n_X8_writeBalloon : mv_N := (yX8_writeBalloon, cX8_writeBalloon, some (FieldType.int), [])
def n_X8_lineCharacter : mv_N := (yX8_lineCharacter, cX8_lineCharacter, some (FieldType.char), [])
def n_X8_denial : mv_N := (yX8_denial, cX8_denial, some (FieldType.int), [])
def n_X8_denialDetail : mv_N := (yX8_denialDetail, cX8_denialDetail, some (FieldType.int), [])
def n_X8_denialCause : mv_N := (yX8_denialCause, cX8_denialCause, some (FieldType.int), [])
def n_X8_undo : mv_N := (yX8_undo, cX8_undo, some (FieldType.int), [])
def n_X8_undoCount : mv_N := (yX8_undoCount, cX8_undoCount, some (FieldType.int), [])
def n_X8_saveSnapshot : mv_N := (yX8_saveSnapshot, cX8_saveSnapshot, some (FieldType.int), [])
def n_X8_restoreSnapshot : mv_N := (yX8_restoreSnapshot, cX8_restoreSnapshot, some (FieldType.int), [])
def n_X8_change : mv_N := (yX8_change, cX8_change, some (FieldType.int), [])
def n_X8_refuse : mv_N := (yX8_refuse, cX8_refuse, none, [])
def n_X8_keepDenial : mv_N := (yX8_keepDenial, cX8_keepDenial, none, [])
def n_X8_balloonAt : mv_N := (yX8_balloonAt, cX8_balloonAt, some ((FieldType.object "BalloonHarbour$Balloon")), [])
def n_X8_requirePilot : mv_N := (yX8_requirePilot, cX8_requirePilot, none, [])
def n_X8_requireDenial : mv_N := (yX8_requireDenial, cX8_requireDenial, none, [])
def n_X8_requireHeight : mv_N := (yX8_requireHeight, cX8_requireHeight, none, [])
def n_X8_requireWindStrength : mv_N := (yX8_requireWindStrength, cX8_requireWindStrength, none, [])
def n_X8_requireDropSet : mv_N := (yX8_requireDropSet, cX8_requireDropSet, some (FieldType.int), [])
def n_X8_isWithin : mv_N := (yX8_isWithin, cX8_isWithin, some (FieldType.boolean), [])
def n_X9_init : mv_N := (yX9_init, cX9_init, none, [])
def n_X9_thrown : mv_N := (yX9_thrown, cX9_thrown, some (FieldType.int), [])
def n_X9_fails : mv_N := (yX9_fails, cX9_fails, some (FieldType.int), [])
def n_X9_in : mv_N := (yX9_in, cX9_in, some (FieldType.boolean), [])
def n_X9_remembers : mv_N := (yX9_remembers, cX9_remembers, none, [])
def n_X9_changed : mv_N := (yX9_changed, cX9_changed, some (FieldType.int), [])
def n_X9_done : mv_N := (yX9_done, cX9_done, some (FieldType.int), [])
def n_X9_denied : mv_N := (yX9_denied, cX9_denied, some (FieldType.int), [])
def n_X9_ends : mv_N := (yX9_ends, cX9_ends, some (FieldType.int), [])
def n_X9_isBerth : mv_N := (yX9_isBerth, cX9_isBerth, some (FieldType.boolean), [])
def n_X9_isHour : mv_N := (yX9_isHour, cX9_isHour, some (FieldType.boolean), [])
def n_X9_of : mv_N := (yX9_of, cX9_of, some (FieldType.int), [])
def n_X9_sets : mv_N := (yX9_sets, cX9_sets, none, [])
def n_X9_isHere : mv_N := (yX9_isHere, cX9_isHere, some (FieldType.boolean), [])
def n_X9_isPilot : mv_N := (yX9_isPilot, cX9_isPilot, some (FieldType.boolean), [])
def n_X9_pilot : mv_N := (yX9_pilot, cX9_pilot, some (FieldType.int), [])
def n_X9_now : mv_N := (yX9_now, cX9_now, some (FieldType.int), [])
def n_X9_ballastWithout : mv_N := (yX9_ballastWithout, cX9_ballastWithout, some (FieldType.int), [])
def n_X9_spare : mv_N := (yX9_spare, cX9_spare, some (FieldType.int), [])
def n_X9_highOf : mv_N := (yX9_highOf, cX9_highOf, some (FieldType.int), [])
def n_X9_high : mv_N := (yX9_high, cX9_high, some (FieldType.int), [])
def n_X9_isTooHigh : mv_N := (yX9_isTooHigh, cX9_isTooHigh, some (FieldType.boolean), [])
def n_X9_topOf : mv_N := (yX9_topOf, cX9_topOf, some (FieldType.int), [])
def n_X9_bits : mv_N := (yX9_bits, cX9_bits, some (FieldType.int), [])
def n_X9_isBetter : mv_N := (yX9_isBetter, cX9_isBetter, some (FieldType.boolean), [])
def n_X9_best : mv_N := (yX9_best, cX9_best, some (FieldType.int), [])
def n_X9_takesBag : mv_N := (yX9_takesBag, cX9_takesBag, none, [])
def n_X9_clears : mv_N := (yX9_clears, cX9_clears, none, [])
def n_X9_waits : mv_N := (yX9_waits, cX9_waits, none, [])
def n_X9_shakes : mv_N := (yX9_shakes, cX9_shakes, none, [])
def n_X9_oneHour : mv_N := (yX9_oneHour, cX9_oneHour, some (FieldType.int), [])
def n_X9_moors : mv_N := (yX9_moors, cX9_moors, some (FieldType.int), [])
def n_X9_casts : mv_N := (yX9_casts, cX9_casts, some (FieldType.int), [])
def n_X9_loads : mv_N := (yX9_loads, cX9_loads, some (FieldType.int), [])
def n_X9_drops : mv_N := (yX9_drops, cX9_drops, some (FieldType.int), [])
def n_X9_rises : mv_N := (yX9_rises, cX9_rises, some (FieldType.int), [])
def n_X9_blows : mv_N := (yX9_blows, cX9_blows, some (FieldType.int), [])
def n_X9_passes : mv_N := (yX9_passes, cX9_passes, some (FieldType.int), [])
def n_X9_joins : mv_N := (yX9_joins, cX9_joins, some (FieldType.int), [])
def n_X9_leaves : mv_N := (yX9_leaves, cX9_leaves, some (FieldType.int), [])
def n_X9_moor : mv_N := (yX9_moor, cX9_moor, some (FieldType.int), [])
def n_X9_castOff : mv_N := (yX9_castOff, cX9_castOff, some (FieldType.int), [])
def n_X9_load : mv_N := (yX9_load, cX9_load, some (FieldType.int), [])
def n_X9_drop : mv_N := (yX9_drop, cX9_drop, some (FieldType.int), [])
def n_X9_rise : mv_N := (yX9_rise, cX9_rise, some (FieldType.int), [])
def n_X9_setWind : mv_N := (yX9_setWind, cX9_setWind, some (FieldType.int), [])
def n_X9_addPilot : mv_N := (yX9_addPilot, cX9_addPilot, some (FieldType.int), [])
def n_X9_removePilot : mv_N := (yX9_removePilot, cX9_removePilot, some (FieldType.int), [])
def n_X9_pass : mv_N := (yX9_pass, cX9_pass, some (FieldType.int), [])
def n_X9_balloonCount : mv_N := (yX9_balloonCount, cX9_balloonCount, some (FieldType.int), [])
def n_X9_isMoored : mv_N := (yX9_isMoored, cX9_isMoored, some (FieldType.boolean), [])
def n_X9_isAsked : mv_N := (yX9_isAsked, cX9_isAsked, some (FieldType.boolean), [])
def n_X9_lift : mv_N := (yX9_lift, cX9_lift, some (FieldType.int), [])
def n_X9_ballast : mv_N := (yX9_ballast, cX9_ballast, some (FieldType.int), [])
def n_X9_height : mv_N := (yX9_height, cX9_height, some (FieldType.int), [])
def n_X9_isBursting : mv_N := (yX9_isBursting, cX9_isBursting, some (FieldType.boolean), [])
def n_X9_isAhead : mv_N := (yX9_isAhead, cX9_isAhead, some (FieldType.boolean), [])
def n_X9_berthByHeight : mv_N := (yX9_berthByHeight, cX9_berthByHeight, some (FieldType.int), [])
def n_X9_bagCount : mv_N := (yX9_bagCount, cX9_bagCount, some (FieldType.int), [])
def n_X9_bagWeight : mv_N := (yX9_bagWeight, cX9_bagWeight, some (FieldType.int), [])
def n_X9_asked : mv_N := (yX9_asked, cX9_asked, some (FieldType.int), [])
def n_X9_fewestDrops : mv_N := (yX9_fewestDrops, cX9_fewestDrops, some (FieldType.int), [])
def n_X9_fewestDropsBySets : mv_N := (yX9_fewestDropsBySets, cX9_fewestDropsBySets, some (FieldType.int), [])
def n_X9_dropWeight : mv_N := (yX9_dropWeight, cX9_dropWeight, some (FieldType.int), [])
def n_X9_wind : mv_N := (yX9_wind, cX9_wind, some (FieldType.int), [])
def n_X9_top : mv_N := (yX9_top, cX9_top, some (FieldType.int), [])
def n_X9_tangles : mv_N := (yX9_tangles, cX9_tangles, some (FieldType.int), [])
def n_X9_tanglesByMerging : mv_N := (yX9_tanglesByMerging, cX9_tanglesByMerging, some (FieldType.int), [])
def n_X9_longestCalm : mv_N := (yX9_longestCalm, cX9_longestCalm, some (FieldType.int), [])
def n_X9_longestCalmByTrying : mv_N := (yX9_longestCalmByTrying, cX9_longestCalmByTrying, some (FieldType.int), [])
def n_X9_pilotCount : mv_N := (yX9_pilotCount, cX9_pilotCount, some (FieldType.int), [])
def n_X9_isOn : mv_N := (yX9_isOn, cX9_isOn, some (FieldType.boolean), [])
def n_X9_crews : mv_N := (yX9_crews, cX9_crews, some (FieldType.boolean), [])
def n_X9_isOnDuty : mv_N := (yX9_isOnDuty, cX9_isOnDuty, some (FieldType.boolean), [])
def n_X9_canCrew : mv_N := (yX9_canCrew, cX9_canCrew, some (FieldType.boolean), [])
def n_X9_mostCrewed : mv_N := (yX9_mostCrewed, cX9_mostCrewed, some (FieldType.int), [])
def n_X9_mostCrewedBySets : mv_N := (yX9_mostCrewedBySets, cX9_mostCrewedBySets, some (FieldType.int), [])
def n_X9_burstsAhead : mv_N := (yX9_burstsAhead, cX9_burstsAhead, some (FieldType.int), [])
def n_X9_hour : mv_N := (yX9_hour, cX9_hour, some (FieldType.int), [])
def n_X9_bursts : mv_N := (yX9_bursts, cX9_bursts, some (FieldType.int), [])
def n_X9_loaded : mv_N := (yX9_loaded, cX9_loaded, some (FieldType.int), [])
def n_X9_aboard : mv_N := (yX9_aboard, cX9_aboard, some (FieldType.int), [])
def n_X9_dropped : mv_N := (yX9_dropped, cX9_dropped, some (FieldType.int), [])
def n_X9_lost : mv_N := (yX9_lost, cX9_lost, some (FieldType.int), [])
def n_X9_meanHeight : mv_N := (yX9_meanHeight, cX9_meanHeight, some (FieldType.double), [])
def n_X9_strain : mv_N := (yX9_strain, cX9_strain, some (FieldType.float), [])
def n_X9_feed : mv_N := (yX9_feed, cX9_feed, some (FieldType.int), [])
def n_X9_here : mv_N := (yX9_here, cX9_here, some (FieldType.int), [])
def n_X9_says : mv_N := (yX9_says, cX9_says, none, [])
def n_X9_number : mv_N := (yX9_number, cX9_number, none, [])
def n_X9_readsWind : mv_N := (yX9_readsWind, cX9_readsWind, none, [])
def n_X9_readsOne : mv_N := (yX9_readsOne, cX9_readsOne, none, [])
def n_X9_does : mv_N := (yX9_does, cX9_does, some (FieldType.int), [])
def n_X9_execute : mv_N := (yX9_execute, cX9_execute, some (FieldType.int), [])
def n_X9_faultPosition : mv_N := (yX9_faultPosition, cX9_faultPosition, some (FieldType.int), [])
def n_X9_writes : mv_N := (yX9_writes, cX9_writes, none, [])
def n_X9_writesNumber : mv_N := (yX9_writesNumber, cX9_writesNumber, none, [])
def n_X9_writeBalloon : mv_N := (yX9_writeBalloon, cX9_writeBalloon, some (FieldType.int), [])
def n_X9_lineCharacter : mv_N := (yX9_lineCharacter, cX9_lineCharacter, some (FieldType.char), [])
def n_X9_denial : mv_N := (yX9_denial, cX9_denial, some (FieldType.int), [])
def n_X9_denialDetail : mv_N := (yX9_denialDetail, cX9_denialDetail, some (FieldType.int), [])
def n_X9_denialCause : mv_N := (yX9_denialCause, cX9_denialCause, some (FieldType.int), [])
def n_X9_undo : mv_N := (yX9_undo, cX9_undo, some (FieldType.int), [])
def n_X9_undoCount : mv_N := (yX9_undoCount, cX9_undoCount, some (FieldType.int), [])
def n_X9_saveSnapshot : mv_N := (yX9_saveSnapshot, cX9_saveSnapshot, some (FieldType.int), [])
def n_X9_restoreSnapshot : mv_N := (yX9_restoreSnapshot, cX9_restoreSnapshot, some (FieldType.int), [])
def n_J5_init_d00df : mv_N := (yJ5_init_d00df, cJ5_init_d00df, none, [])
def n_J5_length_8abf5 : mv_N := (yJ5_length_8abf5, cJ5_length_8abf5, some (FieldType.int), [])
def n_J5_ensureCapacityInternal_d00df : mv_N := (yJ5_ensureCapacityInternal_d00df, cJ5_ensureCapacityInternal_d00df, none, [])
def n_J5_newCapacity_0f7a4 : mv_N := (yJ5_newCapacity_0f7a4, cJ5_newCapacity_0f7a4, some (FieldType.int), [])
def n_J5_setLength_d00df : mv_N := (yJ5_setLength_d00df, cJ5_setLength_d00df, none, [])
def n_J5_charAt_5068e : mv_N := (yJ5_charAt_5068e, cJ5_charAt_5068e, some (FieldType.char), [])
def n_J5_append_3fe6f : mv_N := (yJ5_append_3fe6f, cJ5_append_3fe6f, some ((FieldType.object "java/lang/AbstractStringBuilder")), [])
def n_J5_append_c97b9 : mv_N := (yJ5_append_c97b9, cJ5_append_c97b9, some ((FieldType.object "java/lang/AbstractStringBuilder")), [])
def n_J5_isLatin1_aae02 : mv_N := (yJ5_isLatin1_aae02, cJ5_isLatin1_aae02, some (FieldType.boolean), [])
def n_J6_getChars_ba4f3 : mv_N := (yJ6_getChars_ba4f3, cJ6_getChars_ba4f3, some (FieldType.int), [])
def n_J6_stringSize_0f7a4 : mv_N := (yJ6_stringSize_0f7a4, cJ6_stringSize_0f7a4, some (FieldType.int), [])
def n_J6_bitCount_0f7a4 : mv_N := (yJ6_bitCount_0f7a4, cJ6_bitCount_0f7a4, some (FieldType.int), [])
def n_J9_abs_0f7a4 : mv_N := (yJ9_abs_0f7a4, cJ9_abs_0f7a4, some (FieldType.int), [])
def n_J9_max_7cf53 : mv_N := (yJ9_max_7cf53, cJ9_max_7cf53, some (FieldType.int), [])
def n_J9_min_7cf53 : mv_N := (yJ9_min_7cf53, cJ9_min_7cf53, some (FieldType.int), [])
def n_J0_length_8abf5 : mv_N := (yJ0_length_8abf5, cJ0_length_8abf5, some (FieldType.int), [])
def n_J0_charAt_5068e : mv_N := (yJ0_charAt_5068e, cJ0_charAt_5068e, some (FieldType.char), [])
def n_J0_coder_7d493 : mv_N := (yJ0_coder_7d493, cJ0_coder_7d493, some (FieldType.byte), [])
def n_J0_isLatin1_aae02 : mv_N := (yJ0_isLatin1_aae02, cJ0_isLatin1_aae02, some (FieldType.boolean), [])
def n_J0_checkIndex_df160 : mv_N := (yJ0_checkIndex_df160, cJ0_checkIndex_df160, none, [])
def n_J4_init_da8c8 : mv_N := (yJ4_init_da8c8, cJ4_init_da8c8, none, [])
def n_J4_append_cf468 : mv_N := (yJ4_append_cf468, cJ4_append_cf468, some ((FieldType.object "java/lang/StringBuilder")), [])
def n_J4_append_bf812 : mv_N := (yJ4_append_bf812, cJ4_append_bf812, some ((FieldType.object "java/lang/StringBuilder")), [])
def n_J4_charAt_5068e : mv_N := (yJ4_charAt_5068e, cJ4_charAt_5068e, some (FieldType.char), [])
def n_J4_setLength_d00df : mv_N := (yJ4_setLength_d00df, cJ4_setLength_d00df, none, [])
def n_J4_length_8abf5 : mv_N := (yJ4_length_8abf5, cJ4_length_8abf5, some (FieldType.int), [])
def n_J1_charAt_3b067 : mv_N := (yJ1_charAt_3b067, cJ1_charAt_3b067, some (FieldType.char), [])
def n_J1_canEncode_fc78d : mv_N := (yJ1_canEncode_fc78d, cJ1_canEncode_fc78d, some (FieldType.boolean), [])
def n_J7_fill_53178 : mv_N := (yJ7_fill_53178, cJ7_fill_53178, none, [])
def n_J7_copyOf_9075b : mv_N := (yJ7_copyOf_9075b, cJ7_copyOf_9075b, some ((FieldType.array FieldType.byte)), [])
def n_J8_newLength_cabcc : mv_N := (yJ8_newLength_cabcc, cJ8_newLength_cabcc, some (FieldType.int), [])
def n_J3_checkIndex_8e157 : mv_N := (yJ3_checkIndex_8e157, cJ3_checkIndex_8e157, some (FieldType.int), [])
def n_L_moor : mv_N := (yL_moor, cL_moor, some (FieldType.int), [(0, 14, 17, 13), (0, 14, 21, 15)])
def n_L_castOff : mv_N := (yL_castOff, cL_castOff, some (FieldType.int), [(0, 9, 12, 21)])
def n_L_isMoored : mv_N := (yL_isMoored, cL_isMoored, some (FieldType.int), [(0, 16, 19, 13)])
def n_L_lift : mv_N := (yL_lift, cL_lift, some (FieldType.int), [(0, 9, 12, 21)])
def n_L_ballast : mv_N := (yL_ballast, cL_ballast, some (FieldType.int), [(0, 9, 12, 21)])
def n_L_height : mv_N := (yL_height, cL_height, some (FieldType.int), [(0, 9, 12, 21)])
def n_L_isBursting : mv_N := (yL_isBursting, cL_isBursting, some (FieldType.int), [(0, 16, 19, 21)])
def n_L_berthByHeight : mv_N := (yL_berthByHeight, cL_berthByHeight, some (FieldType.int), [(0, 9, 12, 21)])
def n_L_load : mv_N := (yL_load, cL_load, some (FieldType.int), [(0, 10, 13, 21), (0, 10, 17, 13), (0, 10, 21, 15)])
def n_L_drop : mv_N := (yL_drop, cL_drop, some (FieldType.int), [(0, 10, 13, 21), (0, 10, 17, 49)])
def n_L_rise : mv_N := (yL_rise, cL_rise, some (FieldType.int), [(0, 10, 13, 21), (0, 10, 17, 13), (0, 10, 21, 15)])
def n_L_bagCount : mv_N := (yL_bagCount, cL_bagCount, some (FieldType.int), [(0, 9, 12, 21)])
def n_L_bagWeight : mv_N := (yL_bagWeight, cL_bagWeight, some (FieldType.int), [(0, 10, 13, 21), (0, 10, 17, 49)])
def n_L_fewestDrops : mv_N := (yL_fewestDrops, cL_fewestDrops, some (FieldType.int), [(0, 10, 13, 13), (0, 10, 17, 21)])
def n_L_fewestDropsBySets : mv_N := (yL_fewestDropsBySets, cL_fewestDropsBySets, some (FieldType.int), [(0, 10, 13, 13), (0, 10, 17, 21)])
def n_L_dropWeight : mv_N := (yL_dropWeight, cL_dropWeight, some (FieldType.int), [(0, 10, 13, 13), (0, 10, 17, 21)])
def n_L_setWind : mv_N := (yL_setWind, cL_setWind, some (FieldType.int), [(0, 10, 13, 13), (0, 10, 17, 15)])
def n_L_wind : mv_N := (yL_wind, cL_wind, some (FieldType.int), [(0, 9, 12, 13)])
def n_L_top : mv_N := (yL_top, cL_top, some (FieldType.int), [(0, 9, 12, 21)])
def n_L_longestCalm : mv_N := (yL_longestCalm, cL_longestCalm, some (FieldType.int), [(0, 9, 12, 13)])
def n_L_longestCalmByTrying : mv_N := (yL_longestCalmByTrying, cL_longestCalmByTrying, some (FieldType.int), [(0, 9, 12, 13)])
def n_L_addPilot : mv_N := (yL_addPilot, cL_addPilot, some (FieldType.int), [(0, 12, 15, 13), (0, 12, 19, 15)])
def n_L_removePilot : mv_N := (yL_removePilot, cL_removePilot, some (FieldType.int), [(0, 9, 12, 49)])
def n_L_isOnDuty : mv_N := (yL_isOnDuty, cL_isOnDuty, some (FieldType.int), [(0, 17, 20, 49), (0, 17, 24, 13)])
def n_L_canCrew : mv_N := (yL_canCrew, cL_canCrew, some (FieldType.int), [(0, 17, 20, 49), (0, 17, 24, 21)])
def n_L_pass : mv_N := (yL_pass, cL_pass, some (FieldType.int), [(0, 9, 12, 13)])
def n_L_meanHeight : mv_N := (yL_meanHeight, cL_meanHeight, some (FieldType.int), [(0, 7, 10, 105)])
def n_L_strain : mv_N := (yL_strain, cL_strain, some (FieldType.int), [(0, 9, 12, 21)])
def n_L_feed : mv_N := (yL_feed, cL_feed, some (FieldType.int), [(0, 9, 12, 115)])
def n_L_execute : mv_N := (yL_execute, cL_execute, some (FieldType.int), [(0, 8, 11, 13), (0, 8, 14, 15)])
def n_L_faultPosition : mv_N := (yL_faultPosition, cL_faultPosition, some (FieldType.int), [(0, 8, 11, 21)])
def n_L_writeBalloon : mv_N := (yL_writeBalloon, cL_writeBalloon, some (FieldType.int), [(0, 9, 12, 21)])
def n_L_lineCharacter : mv_N := (yL_lineCharacter, cL_lineCharacter, some (FieldType.int), [(0, 9, 12, 49)])
def n_L_denial : mv_N := (yL_denial, cL_denial, some (FieldType.int), [(0, 8, 11, 21)])
def n_L_denialDetail : mv_N := (yL_denialDetail, cL_denialDetail, some (FieldType.int), [(0, 8, 11, 21)])
def n_L_denialCause : mv_N := (yL_denialCause, cL_denialCause, some (FieldType.int), [(0, 8, 11, 21)])
def n_L_undo : mv_N := (yL_undo, cL_undo, some (FieldType.int), [(0, 8, 11, 115)])
def n_L_restoreSnapshot : mv_N := (yL_restoreSnapshot, cL_restoreSnapshot, some (FieldType.int), [(0, 8, 11, 115)])
def n_L_law : mv_N := (yL_law, cL_law, some .boolean, [])
def mv_mt : List (List (Nat × mv_N)) := [[(0, n_X0_init), (1, n_X0_copyFrom), (2, n_X0_begin), (3, n_X0_spareLift), (4, n_X0_heightWith), (5, n_X0_presentHeight), (6, n_X0_isOverstrained), (7, n_X0_changeLift), (8, n_X0_hasBag), (9, n_X0_addBag), (10, n_X0_removeBag), (11, n_X0_weightOf), (12, n_X0_bestDropSet), (13, n_X0_isBetter), (14, n_X0_fewestBagsByWeight), (15, n_X0_heaviestOutside)],
  [(16, n_X1_init), (17, n_X1_begin), (18, n_X1_add), (19, n_X1_set), (20, n_X2_init), (21, n_X2_mostByChanging), (22, n_X2_findsBalloon), (23, n_X2_mostBySets), (24, n_X2_giveToOnePilot), (25, n_X3_init), (26, n_X3_copyFrom), (27, n_X3_hasBalloon), (28, n_X3_hasPilot), (29, n_X3_hourOfDay), (30, n_X3_countBalloons), (31, n_X3_weightAboard)],
  [(32, n_X3_sumOfHeights), (33, n_X3_berthAtRank), (34, n_X3_countAhead), (35, n_X3_isAhead), (36, n_X3_topOf), (37, n_X3_calmOfTwoDays), (38, n_X3_calmByTrying), (39, n_X3_fitsCrew), (40, n_X3_refusalOf), (41, n_X3_refusalToMoor), (42, n_X3_refusalToLoad), (43, n_X3_refusalToDrop), (44, n_X3_refusalToRise), (45, n_X3_refusalOfWind), (46, n_X3_refusalOfPilot), (47, n_X3_detailOf)],
  [(48, n_X3_carryOut), (49, n_X3_putBalloon), (50, n_X3_removeBalloon), (51, n_X3_loadBag), (52, n_X3_dropBag), (53, n_X3_dropBestSet), (54, n_X3_replaceWind), (55, n_X3_putPilot), (56, n_X3_takePilot), (57, n_X3_passHours), (58, n_X3_burstBalloons), (59, n_X3_shake), (60, n_X3_queueIfOverstrained), (61, n_X4_init), (62, n_X4_remember), (63, n_X4_bringBack)],
  [(64, n_X5_init), (65, n_X5_set), (66, n_X5_copyFrom), (67, n_X5_worksAt), (68, n_X6_init), (69, n_X6_append), (70, n_X6_read), (71, n_X6_readCommand), (72, n_X6_readAs), (73, n_X6_formOf), (74, n_X6_readPart), (75, n_X6_readNumber), (76, n_X6_readCharacter), (77, n_X7_init), (78, n_X7_collect), (79, n_X7_tangledByPairs)],
  [(80, n_X7_tangledByMerging), (81, n_X7_sortAndCount), (82, n_X7_mergeAndCount), (83, n_X8_init), (84, n_X8_moor), (85, n_X8_castOff), (86, n_X8_balloonCount), (87, n_X8_isMoored), (88, n_X8_lift), (89, n_X8_ballast), (90, n_X8_height), (91, n_X8_isBursting), (92, n_X8_berthByHeight), (93, n_X8_load), (94, n_X8_drop), (95, n_X8_rise)],
  [(96, n_X8_bagCount), (97, n_X8_bagWeight), (98, n_X8_fewestDrops), (99, n_X8_fewestDropsBySets), (100, n_X8_dropWeight), (101, n_X8_setWind), (102, n_X8_wind), (103, n_X8_top), (104, n_X8_tangles), (105, n_X8_tanglesByMerging), (106, n_X8_longestCalm), (107, n_X8_longestCalmByTrying), (108, n_X8_addPilot), (109, n_X8_removePilot), (110, n_X8_pilotCount), (111, n_X8_isOnDuty)],
  [(112, n_X8_canCrew), (113, n_X8_mostCrewed), (114, n_X8_mostCrewedBySets), (115, n_X8_pass), (116, n_X8_burstsAhead), (117, n_X8_hour), (118, n_X8_bursts), (119, n_X8_loaded), (120, n_X8_aboard), (121, n_X8_dropped), (122, n_X8_lost), (123, n_X8_meanHeight), (124, n_X8_strain), (125, n_X8_feed), (126, n_X8_execute), (127, n_X8_faultPosition)],
  [(128, n_X8_writeBalloon), (129, n_X8_lineCharacter), (130, n_X8_denial), (131, n_X8_denialDetail), (132, n_X8_denialCause), (133, n_X8_undo), (134, n_X8_undoCount), (135, n_X8_saveSnapshot), (136, n_X8_restoreSnapshot), (137, n_X8_change), (138, n_X8_refuse), (139, n_X8_keepDenial), (140, n_X8_balloonAt), (141, n_X8_requirePilot), (142, n_X8_requireDenial), (143, n_X8_requireHeight)],
  [(144, n_X8_requireWindStrength), (145, n_X8_requireDropSet), (146, n_X8_isWithin), (147, n_X9_init), (148, n_X9_thrown), (149, n_X9_fails), (150, n_X9_in), (151, n_X9_remembers), (152, n_X9_changed), (153, n_X9_done), (154, n_X9_denied), (155, n_X9_ends), (156, n_X9_isBerth), (157, n_X9_isHour), (158, n_X9_of), (159, n_X9_sets)],
  [(160, n_X9_isHere), (161, n_X9_isPilot), (162, n_X9_pilot), (163, n_X9_now), (164, n_X9_ballastWithout), (165, n_X9_spare), (166, n_X9_highOf), (167, n_X9_high), (168, n_X9_isTooHigh), (169, n_X9_topOf), (170, n_X9_bits), (171, n_X9_isBetter), (172, n_X9_best), (173, n_X9_takesBag), (174, n_X9_clears), (175, n_X9_waits)],
  [(176, n_X9_shakes), (177, n_X9_oneHour), (178, n_X9_moors), (179, n_X9_casts), (180, n_X9_loads), (181, n_X9_drops), (182, n_X9_rises), (183, n_X9_blows), (184, n_X9_passes), (185, n_X9_joins), (186, n_X9_leaves), (187, n_X9_moor), (188, n_X9_castOff), (189, n_X9_load), (190, n_X9_drop), (191, n_X9_rise)],
  [(192, n_X9_setWind), (193, n_X9_addPilot), (194, n_X9_removePilot), (195, n_X9_pass), (196, n_X9_balloonCount), (197, n_X9_isMoored), (198, n_X9_isAsked), (199, n_X9_lift), (200, n_X9_ballast), (201, n_X9_height), (202, n_X9_isBursting), (203, n_X9_isAhead), (204, n_X9_berthByHeight), (205, n_X9_bagCount), (206, n_X9_bagWeight), (207, n_X9_asked)],
  [(208, n_X9_fewestDrops), (209, n_X9_fewestDropsBySets), (210, n_X9_dropWeight), (211, n_X9_wind), (212, n_X9_top), (213, n_X9_tangles), (214, n_X9_tanglesByMerging), (215, n_X9_longestCalm), (216, n_X9_longestCalmByTrying), (217, n_X9_pilotCount), (218, n_X9_isOn), (219, n_X9_crews), (220, n_X9_isOnDuty), (221, n_X9_canCrew), (222, n_X9_mostCrewed), (223, n_X9_mostCrewedBySets)],
  [(224, n_X9_burstsAhead), (225, n_X9_hour), (226, n_X9_bursts), (227, n_X9_loaded), (228, n_X9_aboard), (229, n_X9_dropped), (230, n_X9_lost), (231, n_X9_meanHeight), (232, n_X9_strain), (233, n_X9_feed), (234, n_X9_here), (235, n_X9_says), (236, n_X9_number), (237, n_X9_readsWind), (238, n_X9_readsOne), (239, n_X9_does)],
  [(240, n_X9_execute), (241, n_X9_faultPosition), (242, n_X9_writes), (243, n_X9_writesNumber), (244, n_X9_writeBalloon), (245, n_X9_lineCharacter), (246, n_X9_denial), (247, n_X9_denialDetail), (248, n_X9_denialCause), (249, n_X9_undo), (250, n_X9_undoCount), (251, n_X9_saveSnapshot), (252, n_X9_restoreSnapshot), (253, n_J5_init_d00df), (254, n_J5_length_8abf5), (255, n_J5_ensureCapacityInternal_d00df)],
  [(256, n_J5_newCapacity_0f7a4), (257, n_J5_setLength_d00df), (258, n_J5_charAt_5068e), (259, n_J5_append_3fe6f), (260, n_J5_append_c97b9), (261, n_J5_isLatin1_aae02), (262, n_J6_getChars_ba4f3), (263, n_J6_stringSize_0f7a4), (264, n_J6_bitCount_0f7a4), (265, n_J9_abs_0f7a4), (266, n_J9_max_7cf53), (267, n_J9_min_7cf53), (268, n_J0_length_8abf5), (269, n_J0_charAt_5068e), (270, n_J0_coder_7d493), (271, n_J0_isLatin1_aae02)],
  [(272, n_J0_checkIndex_df160), (273, n_J4_init_da8c8), (274, n_J4_append_cf468), (275, n_J4_append_bf812), (276, n_J4_charAt_5068e), (277, n_J4_setLength_d00df), (278, n_J4_length_8abf5), (279, n_J1_charAt_3b067), (280, n_J1_canEncode_fc78d), (281, n_J7_fill_53178), (282, n_J7_copyOf_9075b), (283, n_J8_newLength_cabcc), (284, n_J3_checkIndex_8e157), (285, n_L_moor), (286, n_L_castOff), (287, n_L_isMoored)],
  [(288, n_L_lift), (289, n_L_ballast), (290, n_L_height), (291, n_L_isBursting), (292, n_L_berthByHeight), (293, n_L_load), (294, n_L_drop), (295, n_L_rise), (296, n_L_bagCount), (297, n_L_bagWeight), (298, n_L_fewestDrops), (299, n_L_fewestDropsBySets), (300, n_L_dropWeight), (301, n_L_setWind), (302, n_L_wind), (303, n_L_top)],
  [(304, n_L_longestCalm), (305, n_L_longestCalmByTrying), (306, n_L_addPilot), (307, n_L_removePilot), (308, n_L_isOnDuty), (309, n_L_canCrew), (310, n_L_pass), (311, n_L_meanHeight), (312, n_L_strain), (313, n_L_feed), (314, n_L_execute), (315, n_L_faultPosition), (316, n_L_writeBalloon), (317, n_L_lineCharacter), (318, n_L_denial), (319, n_L_denialDetail)],
  [(320, n_L_denialCause), (321, n_L_undo), (322, n_L_restoreSnapshot), (323, n_L_law)]]
def mv_tab : List (List (Nat × mv_M)) := [[(0, m_X0_init), (1, m_X0_copyFrom), (2, m_X0_begin), (3, m_X0_spareLift), (4, m_X0_heightWith), (5, m_X0_presentHeight), (6, m_X0_isOverstrained), (7, m_X0_changeLift), (8, m_X0_hasBag), (9, m_X0_addBag), (10, m_X0_removeBag), (11, m_X0_weightOf), (12, m_X0_bestDropSet), (13, m_X0_isBetter), (14, m_X0_fewestBagsByWeight), (15, m_X0_heaviestOutside)],
  [(16, m_X1_init), (17, m_X1_begin), (18, m_X1_add), (19, m_X1_set), (20, m_X2_init), (21, m_X2_mostByChanging), (22, m_X2_findsBalloon), (23, m_X2_mostBySets), (24, m_X2_giveToOnePilot), (25, m_X3_init), (26, m_X3_copyFrom), (27, m_X3_hasBalloon), (28, m_X3_hasPilot), (29, m_X3_hourOfDay), (30, m_X3_countBalloons), (31, m_X3_weightAboard)],
  [(32, m_X3_sumOfHeights), (33, m_X3_berthAtRank), (34, m_X3_countAhead), (35, m_X3_isAhead), (36, m_X3_topOf), (37, m_X3_calmOfTwoDays), (38, m_X3_calmByTrying), (39, m_X3_fitsCrew), (40, m_X3_refusalOf), (41, m_X3_refusalToMoor), (42, m_X3_refusalToLoad), (43, m_X3_refusalToDrop), (44, m_X3_refusalToRise), (45, m_X3_refusalOfWind), (46, m_X3_refusalOfPilot), (47, m_X3_detailOf)],
  [(48, m_X3_carryOut), (49, m_X3_putBalloon), (50, m_X3_removeBalloon), (51, m_X3_loadBag), (52, m_X3_dropBag), (53, m_X3_dropBestSet), (54, m_X3_replaceWind), (55, m_X3_putPilot), (56, m_X3_takePilot), (57, m_X3_passHours), (58, m_X3_burstBalloons), (59, m_X3_shake), (60, m_X3_queueIfOverstrained), (61, m_X4_init), (62, m_X4_remember), (63, m_X4_bringBack)],
  [(64, m_X5_init), (65, m_X5_set), (66, m_X5_copyFrom), (67, m_X5_worksAt), (68, m_X6_init), (69, m_X6_append), (70, m_X6_read), (71, m_X6_readCommand), (72, m_X6_readAs), (73, m_X6_formOf), (74, m_X6_readPart), (75, m_X6_readNumber), (76, m_X6_readCharacter), (77, m_X7_init), (78, m_X7_collect), (79, m_X7_tangledByPairs)],
  [(80, m_X7_tangledByMerging), (81, m_X7_sortAndCount), (82, m_X7_mergeAndCount), (83, m_X8_init), (84, m_X8_moor), (85, m_X8_castOff), (86, m_X8_balloonCount), (87, m_X8_isMoored), (88, m_X8_lift), (89, m_X8_ballast), (90, m_X8_height), (91, m_X8_isBursting), (92, m_X8_berthByHeight), (93, m_X8_load), (94, m_X8_drop), (95, m_X8_rise)],
  [(96, m_X8_bagCount), (97, m_X8_bagWeight), (98, m_X8_fewestDrops), (99, m_X8_fewestDropsBySets), (100, m_X8_dropWeight), (101, m_X8_setWind), (102, m_X8_wind), (103, m_X8_top), (104, m_X8_tangles), (105, m_X8_tanglesByMerging), (106, m_X8_longestCalm), (107, m_X8_longestCalmByTrying), (108, m_X8_addPilot), (109, m_X8_removePilot), (110, m_X8_pilotCount), (111, m_X8_isOnDuty)],
  [(112, m_X8_canCrew), (113, m_X8_mostCrewed), (114, m_X8_mostCrewedBySets), (115, m_X8_pass), (116, m_X8_burstsAhead), (117, m_X8_hour), (118, m_X8_bursts), (119, m_X8_loaded), (120, m_X8_aboard), (121, m_X8_dropped), (122, m_X8_lost), (123, m_X8_meanHeight), (124, m_X8_strain), (125, m_X8_feed), (126, m_X8_execute), (127, m_X8_faultPosition)],
  [(128, m_X8_writeBalloon), (129, m_X8_lineCharacter), (130, m_X8_denial), (131, m_X8_denialDetail), (132, m_X8_denialCause), (133, m_X8_undo), (134, m_X8_undoCount), (135, m_X8_saveSnapshot), (136, m_X8_restoreSnapshot), (137, m_X8_change), (138, m_X8_refuse), (139, m_X8_keepDenial), (140, m_X8_balloonAt), (141, m_X8_requirePilot), (142, m_X8_requireDenial), (143, m_X8_requireHeight)],
  [(144, m_X8_requireWindStrength), (145, m_X8_requireDropSet), (146, m_X8_isWithin), (147, m_X9_init), (148, m_X9_thrown), (149, m_X9_fails), (150, m_X9_in), (151, m_X9_remembers), (152, m_X9_changed), (153, m_X9_done), (154, m_X9_denied), (155, m_X9_ends), (156, m_X9_isBerth), (157, m_X9_isHour), (158, m_X9_of), (159, m_X9_sets)],
  [(160, m_X9_isHere), (161, m_X9_isPilot), (162, m_X9_pilot), (163, m_X9_now), (164, m_X9_ballastWithout), (165, m_X9_spare), (166, m_X9_highOf), (167, m_X9_high), (168, m_X9_isTooHigh), (169, m_X9_topOf), (170, m_X9_bits), (171, m_X9_isBetter), (172, m_X9_best), (173, m_X9_takesBag), (174, m_X9_clears), (175, m_X9_waits)],
  [(176, m_X9_shakes), (177, m_X9_oneHour), (178, m_X9_moors), (179, m_X9_casts), (180, m_X9_loads), (181, m_X9_drops), (182, m_X9_rises), (183, m_X9_blows), (184, m_X9_passes), (185, m_X9_joins), (186, m_X9_leaves), (187, m_X9_moor), (188, m_X9_castOff), (189, m_X9_load), (190, m_X9_drop), (191, m_X9_rise)],
  [(192, m_X9_setWind), (193, m_X9_addPilot), (194, m_X9_removePilot), (195, m_X9_pass), (196, m_X9_balloonCount), (197, m_X9_isMoored), (198, m_X9_isAsked), (199, m_X9_lift), (200, m_X9_ballast), (201, m_X9_height), (202, m_X9_isBursting), (203, m_X9_isAhead), (204, m_X9_berthByHeight), (205, m_X9_bagCount), (206, m_X9_bagWeight), (207, m_X9_asked)],
  [(208, m_X9_fewestDrops), (209, m_X9_fewestDropsBySets), (210, m_X9_dropWeight), (211, m_X9_wind), (212, m_X9_top), (213, m_X9_tangles), (214, m_X9_tanglesByMerging), (215, m_X9_longestCalm), (216, m_X9_longestCalmByTrying), (217, m_X9_pilotCount), (218, m_X9_isOn), (219, m_X9_crews), (220, m_X9_isOnDuty), (221, m_X9_canCrew), (222, m_X9_mostCrewed), (223, m_X9_mostCrewedBySets)],
  [(224, m_X9_burstsAhead), (225, m_X9_hour), (226, m_X9_bursts), (227, m_X9_loaded), (228, m_X9_aboard), (229, m_X9_dropped), (230, m_X9_lost), (231, m_X9_meanHeight), (232, m_X9_strain), (233, m_X9_feed), (234, m_X9_here), (235, m_X9_says), (236, m_X9_number), (237, m_X9_readsWind), (238, m_X9_readsOne), (239, m_X9_does)],
  [(240, m_X9_execute), (241, m_X9_faultPosition), (242, m_X9_writes), (243, m_X9_writesNumber), (244, m_X9_writeBalloon), (245, m_X9_lineCharacter), (246, m_X9_denial), (247, m_X9_denialDetail), (248, m_X9_denialCause), (249, m_X9_undo), (250, m_X9_undoCount), (251, m_X9_saveSnapshot), (252, m_X9_restoreSnapshot), (253, m_J5_init_d00df), (254, m_J5_length_8abf5), (255, m_J5_ensureCapacityInternal_d00df)],
  [(256, m_J5_newCapacity_0f7a4), (257, m_J5_setLength_d00df), (258, m_J5_charAt_5068e), (259, m_J5_append_3fe6f), (260, m_J5_append_c97b9), (261, m_J5_isLatin1_aae02), (262, m_J6_getChars_ba4f3), (263, m_J6_stringSize_0f7a4), (264, m_J6_bitCount_0f7a4), (265, m_J9_abs_0f7a4), (266, m_J9_max_7cf53), (267, m_J9_min_7cf53), (268, m_J0_length_8abf5), (269, m_J0_charAt_5068e), (270, m_J0_coder_7d493), (271, m_J0_isLatin1_aae02)],
  [(272, m_J0_checkIndex_df160), (273, m_J4_init_da8c8), (274, m_J4_append_cf468), (275, m_J4_append_bf812), (276, m_J4_charAt_5068e), (277, m_J4_setLength_d00df), (278, m_J4_length_8abf5), (279, m_J1_charAt_3b067), (280, m_J1_canEncode_fc78d), (281, m_J7_fill_53178), (282, m_J7_copyOf_9075b), (283, m_J8_newLength_cabcc), (284, m_J3_checkIndex_8e157), (285, m_L_moor), (286, m_L_castOff), (287, m_L_isMoored)],
  [(288, m_L_lift), (289, m_L_ballast), (290, m_L_height), (291, m_L_isBursting), (292, m_L_berthByHeight), (293, m_L_load), (294, m_L_drop), (295, m_L_rise), (296, m_L_bagCount), (297, m_L_bagWeight), (298, m_L_fewestDrops), (299, m_L_fewestDropsBySets), (300, m_L_dropWeight), (301, m_L_setWind), (302, m_L_wind), (303, m_L_top)],
  [(304, m_L_longestCalm), (305, m_L_longestCalmByTrying), (306, m_L_addPilot), (307, m_L_removePilot), (308, m_L_isOnDuty), (309, m_L_canCrew), (310, m_L_pass), (311, m_L_meanHeight), (312, m_L_strain), (313, m_L_feed), (314, m_L_execute), (315, m_L_faultPosition), (316, m_L_writeBalloon), (317, m_L_lineCharacter), (318, m_L_denial), (319, m_L_denialDetail)],
  [(320, m_L_denialCause), (321, m_L_undo), (322, m_L_restoreSnapshot), (323, m_L_law)]]
end
section
/-! ONE STEP GOES ON ONCE: what mv_F does with its rest is one call of it, or none -/
def mv_TL (φ : mv_K → Option mv_R) : Prop := (∃ a b c d, ∀ k, φ k = k a b c d) ∨ ∃ r, ∀ k, φ k = r
theorem mv_TLk (a : Nat) (b c : List Value) (d : mv_H) : mv_TL (fun k => k a b c d) := Or.inl ⟨a, b, c, d, fun _ => rfl⟩
theorem mv_TLc (r : Option mv_R) : mv_TL (fun _ => r) := Or.inr ⟨r, fun _ => rfl⟩
theorem mv_TL_popI {st : List Value} {f : mv_K → Int32 → List Value → Option mv_R} (h : ∀ x r, mv_TL (fun k => f k x r)) : mv_TL (fun k => mv_popI st (f k)) := by
  cases st with
  | nil => exact mv_TLc none
  | cons v r => cases v <;> first | exact h _ _ | exact mv_TLc none
theorem mv_TL_popR {st : List Value} {f : mv_K → Nat → List Value → Option mv_R} (h : ∀ x r, mv_TL (fun k => f k x r)) : mv_TL (fun k => mv_popR st (f k)) := by
  cases st with
  | nil => exact mv_TLc none
  | cons v r => cases v <;> first | exact h _ _ | exact mv_TLc none
theorem mv_TL_popL {st : List Value} {f : mv_K → Int64 → List Value → Option mv_R} (h : ∀ x r, mv_TL (fun k => f k x r)) : mv_TL (fun k => mv_popL st (f k)) := by
  cases st with
  | nil => exact mv_TLc none
  | cons v r => cases v <;> first | exact h _ _ | exact mv_TLc none
theorem mv_TL_popF {st : List Value} {f : mv_K → UInt32 → List Value → Option mv_R} (h : ∀ x r, mv_TL (fun k => f k x r)) : mv_TL (fun k => mv_popF st (f k)) := by
  cases st with
  | nil => exact mv_TLc none
  | cons v r => cases v <;> first | exact h _ _ | exact mv_TLc none
theorem mv_TL_popD {st : List Value} {f : mv_K → UInt64 → List Value → Option mv_R} (h : ∀ x r, mv_TL (fun k => f k x r)) : mv_TL (fun k => mv_popD st (f k)) := by
  cases st with
  | nil => exact mv_TLc none
  | cons v r => cases v <;> first | exact h _ _ | exact mv_TLc none
theorem mv_TL_pop1 {st : List Value} {f : mv_K → Value → List Value → Option mv_R} (h : ∀ x r, mv_TL (fun k => f k x r)) : mv_TL (fun k => mv_pop1 st (f k)) := by
  cases st with
  | nil => exact mv_TLc none
  | cons v r => cases v <;> first | exact h _ _ | exact mv_TLc none
theorem mv_TL_int {v : Value} {f : mv_K → Int32 → Option mv_R} (h : ∀ x, mv_TL (fun k => f k x)) : mv_TL (fun k => mv_int v (f k)) := by
  cases v <;> first | exact h _ | exact mv_TLc none
theorem mv_TL_ref {v : Value} {f : mv_K → Nat → Option mv_R} (h : ∀ x, mv_TL (fun k => f k x)) : mv_TL (fun k => mv_ref v (f k)) := by
  cases v <;> first | exact h _ | exact mv_TLc none
theorem mv_TL_lng {v : Value} {f : mv_K → Int64 → Option mv_R} (h : ∀ x, mv_TL (fun k => f k x)) : mv_TL (fun k => mv_lng v (f k)) := by
  cases v <;> first | exact h _ | exact mv_TLc none
theorem mv_TL_flt {v : Value} {f : mv_K → UInt32 → Option mv_R} (h : ∀ x, mv_TL (fun k => f k x)) : mv_TL (fun k => mv_flt v (f k)) := by
  cases v <;> first | exact h _ | exact mv_TLc none
theorem mv_TL_dbl {v : Value} {f : mv_K → UInt64 → Option mv_R} (h : ∀ x, mv_TL (fun k => f k x)) : mv_TL (fun k => mv_dbl v (f k)) := by
  cases v <;> first | exact h _ | exact mv_TLc none
theorem mv_TL_chk {b : Bool} {f : mv_K → Option mv_R} (h : mv_TL f) : mv_TL (fun k => mv_chk b (f k)) := by
  cases b
  · exact mv_TLc none
  · exact h
theorem mv_TL_ite {P : Prop} {d : Decidable P} {f g : mv_K → Option mv_R} (h : mv_TL f) (h2 : mv_TL g) : mv_TL (fun k => @ite _ P d (f k) (g k)) := by
  cases d with
  | isTrue hp =>
    have e : (fun k => @ite _ P (isTrue hp) (f k) (g k)) = f := funext fun k => if_pos hp
    rw [e]; exact h
  | isFalse hp =>
    have e : (fun k => @ite _ P (isFalse hp) (f k) (g k)) = g := funext fun k => if_neg hp
    rw [e]; exact h2
theorem mv_TL_ld {ls : List Value} {i : Nat} {f : mv_K → Value → Option mv_R} (h : ∀ x, mv_TL (fun k => f k x)) : mv_TL (fun k => mv_ld ls i (f k)) := by
  unfold mv_ld
  cases ls[i]? with
  | none => exact mv_TLc none
  | some v => exact h v
theorem mv_TL_st {w : Bool} {ls : List Value} {i : Nat} {v : Value} {f : mv_K → List Value → Option mv_R} (h : ∀ x, mv_TL (fun k => f k x)) : mv_TL (fun k => mv_st w ls i v (f k)) :=
  mv_TL_chk (mv_TL_chk (h _))
theorem mv_TL_st2 {w : Bool} {ls : List Value} {i : Nat} {v : Value} {f : mv_K → List Value → Option mv_R} (h : ∀ x, mv_TL (fun k => f k x)) : mv_TL (fun k => mv_st2 w ls i v (f k)) :=
  mv_TL_chk (mv_TL_chk (h _))
theorem mv_TL_gf {X : mv_X} {hh : mv_H} {a ci n : Nat} {f : mv_K → Value → Option mv_R} (h : ∀ x, mv_TL (fun k => f k x)) : mv_TL (fun k => mv_gf X hh a ci n (f k)) := by
  unfold mv_gf
  cases mv_cell X hh a with
  | none => exact mv_TLc none
  | some c =>
    cases c with
    | inr q => exact mv_TLc none
    | inl q =>
      obtain ⟨c, fs⟩ := q
      refine mv_TL_ite ?_ (mv_TLc none)
      cases fs[n]? with
      | none => exact mv_TLc none
      | some v => exact h v
theorem mv_TL_gI {X : mv_X} {hh : mv_H} {a ci n : Nat} {f : mv_K → Int32 → Option mv_R} (h : ∀ x, mv_TL (fun k => f k x)) : mv_TL (fun k => mv_gI X hh a ci n (f k)) := mv_TL_gf fun _ => mv_TL_int h
theorem mv_TL_gR {X : mv_X} {hh : mv_H} {a ci n : Nat} {f : mv_K → Nat → Option mv_R} (h : ∀ x, mv_TL (fun k => f k x)) : mv_TL (fun k => mv_gR X hh a ci n (f k)) := mv_TL_gf fun _ => mv_TL_ref h
theorem mv_TL_pf {hh : mv_H} {a ci n : Nat} {v : Value} {f : mv_K → mv_H → Option mv_R} (h : ∀ x, mv_TL (fun k => f k x)) : mv_TL (fun k => mv_pf hh a ci n v (f k)) := by
  unfold mv_pf
  cases hh.1 a with
  | none => exact mv_TLc none
  | some c =>
    cases c with
    | inr q => exact mv_TLc none
    | inl q =>
      obtain ⟨c, fs⟩ := q
      exact mv_TL_ite (mv_TL_ite (h _) (mv_TLc none)) (mv_TLc none)
theorem mv_TL_ar {X : mv_X} {hh : mv_H} {t a : Nat} {i : Int32} {f : mv_K → Value → Option mv_R} (h : ∀ x, mv_TL (fun k => f k x)) : mv_TL (fun k => mv_ar X hh t a i (f k)) := by
  unfold mv_ar
  cases mv_cell X hh a with
  | none => exact mv_TLc none
  | some c =>
    cases c with
    | inl q => exact mv_TLc none
    | inr q =>
      obtain ⟨t, n, g⟩ := q
      exact mv_TL_chk (mv_TL_ite (h _) (mv_TLc none))
theorem mv_TL_aI {X : mv_X} {hh : mv_H} {t a : Nat} {i : Int32} {f : mv_K → Int32 → Option mv_R} (h : ∀ x, mv_TL (fun k => f k x)) : mv_TL (fun k => mv_aI X hh t a i (f k)) := mv_TL_ar fun _ => mv_TL_int h
theorem mv_TL_aR {X : mv_X} {hh : mv_H} {a : Nat} {i : Int32} {f : mv_K → Nat → Option mv_R} (h : ∀ x, mv_TL (fun k => f k x)) : mv_TL (fun k => mv_aR X hh a i (f k)) := mv_TL_ar fun _ => mv_TL_ref h
theorem mv_TL_aL {X : mv_X} {hh : mv_H} {a : Nat} {i : Int32} {f : mv_K → Int64 → Option mv_R} (h : ∀ x, mv_TL (fun k => f k x)) : mv_TL (fun k => mv_aL X hh a i (f k)) := mv_TL_ar fun _ => mv_TL_lng h
theorem mv_TL_aD {X : mv_X} {hh : mv_H} {a : Nat} {i : Int32} {f : mv_K → UInt64 → Option mv_R} (h : ∀ x, mv_TL (fun k => f k x)) : mv_TL (fun k => mv_aD X hh a i (f k)) := mv_TL_ar fun _ => mv_TL_dbl h
theorem mv_TL_len {X : mv_X} {hh : mv_H} {a : Nat} {f : mv_K → Int32 → Option mv_R} (h : ∀ x, mv_TL (fun k => f k x)) : mv_TL (fun k => mv_len X hh a (f k)) := by
  unfold mv_len
  cases mv_cell X hh a with
  | none => exact mv_TLc none
  | some c =>
    cases c with
    | inl q => exact mv_TLc none
    | inr q => exact h _
theorem mv_TL_as {hh : mv_H} {t a : Nat} {i : Int32} {v : Value} {f : mv_K → mv_H → Option mv_R} (h : ∀ x, mv_TL (fun k => f k x)) : mv_TL (fun k => mv_as hh t a i v (f k)) := by
  unfold mv_as
  cases hh.1 a with
  | none => exact mv_TLc none
  | some c =>
    cases c with
    | inl q => exact mv_TLc none
    | inr q =>
      obtain ⟨t, n, g⟩ := q
      exact mv_TL_chk (mv_TL_ite (h _) (mv_TLc none))
theorem mv_TL_aa {hh : mv_H} {a b : Nat} {i : Int32} {f : mv_K → mv_H → Option mv_R} (h : ∀ x, mv_TL (fun k => f k x)) : mv_TL (fun k => mv_aa hh a i b (f k)) := by
  unfold mv_aa
  cases hh.1 b with
  | none => exact mv_TLc none
  | some c =>
    cases c with
    | inr q => exact mv_TLc none
    | inl q =>
      obtain ⟨c, fs⟩ := q
      cases hh.1 a with
      | none => exact mv_TLc none
      | some c2 =>
        cases c2 with
        | inl q => exact mv_TLc none
        | inr q =>
          obtain ⟨t, n, g⟩ := q
          cases t <;> first | exact mv_TLc none | exact mv_TL_chk (mv_TL_ite (h _) (mv_TLc none))
theorem mv_TL_new {hh : mv_H} {c : mv_C} {sl : Nat} {f : mv_K → Nat → mv_H → Option mv_R} (h : ∀ a x, mv_TL (fun k => f k a x)) : mv_TL (fun k => mv_new hh c sl (f k)) := h _ _
theorem mv_TL_newa {hh : mv_H} {t : FieldType} {v : Value} {n : Int32} {f : mv_K → Nat → mv_H → Option mv_R} (h : ∀ a x, mv_TL (fun k => f k a x)) : mv_TL (fun k => mv_newa hh t v n (f k)) :=
  mv_TL_ite (mv_TL_new h) (mv_TLc none)
theorem mv_TL_cpy {hh : mv_H} {a0 a1 : Nat} {sp dp n : Int32} {f : mv_K → mv_H → Option mv_R} (h : ∀ x, mv_TL (fun k => f k x)) : mv_TL (fun k => mv_cpy hh a0 sp a1 dp n (f k)) := by
  unfold mv_cpy
  cases hh.1 a0 with
  | none => exact mv_TLc none
  | some c0 =>
    cases c0 with
    | inl q => exact mv_TLc none
    | inr q0 =>
      cases hh.1 a1 with
      | none => exact mv_TLc none
      | some c1 =>
        cases c1 with
        | inl q => exact mv_TLc none
        | inr q1 => exact mv_TL_chk (mv_TL_ite (mv_TL_ite (h _) (mv_TLc none)) (mv_TLc none))
theorem mv_TL_cl {call : mv_G} {y : Nat} {as : List Value} {hh : mv_H} {g : mv_K → Nat → Nat → mv_H → Option mv_R} {f : mv_K → Option Value → mv_H → Option mv_R} (hg : ∀ e q x, mv_TL (fun k => g k e q x)) (h : ∀ v x, mv_TL (fun k => f k v x)) : mv_TL (fun k => mv_cl call y as hh (g k) (f k)) := by
  unfold mv_cl
  cases call y as hh with
  | none => exact mv_TLc none
  | some r =>
    obtain ⟨o, h'⟩ := r
    cases o with
    | inl v => exact h v h'
    | inr q => exact hg _ _ _
theorem mv_TL_cal {rk : Nat} {call : mv_G} {y : Nat} {as : List Value} {hh : mv_H} {g : mv_K → Nat → Nat → mv_H → Option mv_R} {f : mv_K → List Value → mv_H → Option mv_R} (hg : ∀ e q x, mv_TL (fun k => g k e q x)) (h : ∀ v x, mv_TL (fun k => f k v x)) : mv_TL (fun k => mv_cal rk call y as hh (g k) (f k)) := by
  unfold mv_cal
  split
  · refine mv_TL_cl hg fun v x => ?_
    cases v with
    | none => exact h _ _
    | some v => exact mv_TLc none
  · refine mv_TL_cl hg fun v x => ?_
    cases v with
    | none => exact mv_TLc none
    | some v => cases v <;> first | exact mv_TLc none | exact h _ _
  · refine mv_TL_cl hg fun v x => ?_
    cases v with
    | none => exact mv_TLc none
    | some v => cases v <;> first | exact mv_TLc none | exact h _ _
  · refine mv_TL_cl hg fun v x => ?_
    cases v with
    | none => exact mv_TLc none
    | some v => cases v <;> first | exact mv_TLc none | exact h _ _
  · refine mv_TL_cl hg fun v x => ?_
    cases v with
    | none => exact mv_TLc none
    | some v => cases v <;> first | exact mv_TLc none | exact h _ _
  · exact mv_TLc none
theorem mv_TL_thr {hs : List (Nat × Nat × Nat × Nat × Nat)} {pc : Nat} {ls : List Value} (e q : Nat) (x : mv_H) : mv_TL (fun k => mv_thr hs pc ls k e q x) := by
  cases hs with
  | nil => exact mv_TLc _
  | cons z r =>
    show mv_TL (fun k => match mv_hs (z :: r) pc e with
      | some t => k t.1 (ls.set t.2 (.retAddr 0)) [] x
      | none => mv_raise e q x)
    cases mv_hs (z :: r) pc e with
    | none => exact mv_TLc _
    | some t => exact mv_TLk _ _ _ _
theorem mv_TL_args {st : List Value} {n : Nat} {f : mv_K → List Value → List Value → Option mv_R} (h : ∀ a b, mv_TL (fun k => f k a b)) : mv_TL (fun k => mv_args st n (f k)) := mv_TL_chk (h _ _)
theorem mv_TL_rcv {X : mv_X} {hh : mv_H} {as : List Value} {c : Nat} {f : mv_K → Option mv_R} (h : mv_TL f) : mv_TL (fun k => mv_rcv X hh as c (f k)) := by
  unfold mv_rcv
  cases as with
  | nil => exact mv_TLc none
  | cons v r =>
    cases v with
    | ref a =>
      show mv_TL (fun k => match mv_cell X hh a with
        | some (.inl (c', _)) => if c' = c then f k else none
        | _ => none)
      cases mv_cell X hh a with
      | none => exact mv_TLc none
      | some q =>
        cases q with
        | inr q => exact mv_TLc none
        | inl q => exact mv_TL_ite h (mv_TLc none)
    | _ => exact mv_TLc none
theorem mv_TL_isr {as : List Value} {f : mv_K → Option mv_R} (h : mv_TL f) : mv_TL (fun k => mv_isr as (f k)) := by
  unfold mv_isr
  cases as with
  | nil => exact mv_TLc none
  | cons v r => cases v <;> first | exact h | exact mv_TLc none
theorem mv_TL_lk {M : mv_M} {i : Nat} {f : mv_K → mv_L → Option mv_R} (h : ∀ q, mv_TL (fun k => f k q)) : mv_TL (fun k => mv_lk M i (f k)) := by
  unfold mv_lk
  cases mv_look M.2.2.2.2.1 16 i with
  | none => exact mv_TLc none
  | some q => exact h q
theorem mv_TL_sw {x : Int32} {t : Nat} {f : mv_K → Nat → Option mv_R} (h : ∀ q, mv_TL (fun k => f k q)) : ∀ sw, mv_TL (fun k => mv_sw x t (f k) sw)
  | [] => h t
  | q :: r => mv_TL_ite (h q.2) (mv_TL_sw h r)
theorem mv_TL_icmp {c : ClassFile.Cond} {x y : Int32} {f g : mv_K → Option mv_R} (h : mv_TL f) (h2 : mv_TL g) : mv_TL (fun k => mv_icmp c x y (f k) (g k)) := by
  cases c <;> first | exact mv_TL_ite h h2 | exact mv_TL_ite h2 h
theorem mv_TL_inv {X : mv_X} {call : mv_G} {M : mv_M} {pc : Nat} {ls st : List Value} {hh : mv_H} {tag y n c rk : Nat} : mv_TL (fun k => mv_inv X call M k pc ls st hh tag y n c rk) := by
  unfold mv_inv
  split
  · exact mv_TL_args fun _ _ => mv_TL_rcv (mv_TL_cal mv_TL_thr fun _ _ => mv_TLk _ _ _ _)
  · exact mv_TL_args fun _ _ => mv_TL_rcv (mv_TL_cal mv_TL_thr fun _ _ => mv_TLk _ _ _ _)
  · exact mv_TL_args fun _ _ => mv_TL_cal mv_TL_thr fun _ _ => mv_TLk _ _ _ _
  · exact mv_TL_args fun _ _ => mv_TL_isr (mv_TL_cal mv_TL_thr fun _ _ => mv_TLk _ _ _ _)
  · refine mv_TL_args fun a b => ?_
    split
    · exact mv_TLk _ _ _ _
    · exact mv_TLc none
  · refine mv_TL_args fun a b => ?_
    split
    · exact mv_TL_cpy fun _ => mv_TLk _ _ _ _
    · exact mv_TLc none
  · exact mv_TLc none
set_option maxHeartbeats 4000000 in
theorem mv_TL_F (X : mv_X) (call : mv_G) (M : mv_M) (pc : Nat) (ls st : List Value) (h : mv_H) : mv_TL (fun k => mv_F X call M k pc ls st h) := by
  unfold mv_F
  cases mv_look M.2.2.2.1 32 pc with
  | none => exact mv_TLc none
  | some q =>
    obtain ⟨i, t, sw⟩ := q
    show mv_TL (fun k => mv_E X call M k i t sw pc ls st h)
    unfold mv_E
    cases i
    all_goals first
      | exact mv_TLc none
      | exact mv_TLk _ _ _ _
      | exact mv_TL_lk fun _ => mv_TL_inv
      | exact mv_TL_ld fun _ => mv_TL_int fun _ => mv_TLk _ _ _ _
      | exact mv_TL_ld fun _ => mv_TL_ref fun _ => mv_TLk _ _ _ _
      | exact mv_TL_ld fun _ => mv_TL_flt fun _ => mv_TLk _ _ _ _
      | exact mv_TL_ld fun _ => mv_TL_dbl fun _ => mv_TLk _ _ _ _
      | exact mv_TL_ld fun _ => mv_TL_int fun _ => mv_TL_st fun _ => mv_TLk _ _ _ _
      | exact mv_TL_popI fun _ _ => mv_TL_st fun _ => mv_TLk _ _ _ _
      | exact mv_TL_popR fun _ _ => mv_TL_st fun _ => mv_TLk _ _ _ _
      | exact mv_TL_popF fun _ _ => mv_TL_st fun _ => mv_TLk _ _ _ _
      | exact mv_TL_popD fun _ _ => mv_TL_st2 fun _ => mv_TLk _ _ _ _
      | exact mv_TL_popI fun _ _ => mv_TL_popI fun _ _ => mv_TLk _ _ _ _
      | exact mv_TL_popI fun _ _ => mv_TL_popI fun _ _ => mv_TL_ite (mv_TLc none) (mv_TLk _ _ _ _)
      | exact mv_TL_popI fun _ _ => mv_TLk _ _ _ _
      | exact mv_TL_popL fun _ _ => mv_TL_popL fun _ _ => mv_TLk _ _ _ _
      | exact mv_TL_popD fun _ _ => mv_TL_popD fun _ _ => mv_TLk _ _ _ _
      | exact mv_TL_popF fun _ _ => mv_TL_popF fun _ _ => mv_TLk _ _ _ _
      | exact mv_TL_popD fun _ _ => mv_TL_popD fun _ _ => mv_TL_chk (mv_TLk _ _ _ _)
      | exact mv_TL_popF fun _ _ => mv_TL_popF fun _ _ => mv_TL_chk (mv_TLk _ _ _ _)
      | exact mv_TL_popF fun _ _ => mv_TL_chk (mv_TLk _ _ _ _)
      | exact mv_TL_pop1 fun _ _ => mv_TLk _ _ _ _
      | exact mv_TL_pop1 fun _ _ => mv_TL_pop1 fun _ _ => mv_TLk _ _ _ _
      | exact mv_TL_popI fun _ _ => mv_TL_icmp (mv_TLk _ _ _ _) (mv_TLk _ _ _ _)
      | exact mv_TL_popI fun _ _ => mv_TL_popI fun _ _ => mv_TL_icmp (mv_TLk _ _ _ _) (mv_TLk _ _ _ _)
      | exact mv_TL_popI fun _ _ => mv_TL_sw (fun _ => mv_TLk _ _ _ _) _
      | exact mv_TL_popI fun _ _ => mv_TL_popR fun _ _ => mv_TL_aI fun _ => mv_TLk _ _ _ _
      | exact mv_TL_popI fun _ _ => mv_TL_popR fun _ _ => mv_TL_aR fun _ => mv_TLk _ _ _ _
      | exact mv_TL_popI fun _ _ => mv_TL_popR fun _ _ => mv_TL_aL fun _ => mv_TLk _ _ _ _
      | exact mv_TL_popI fun _ _ => mv_TL_popR fun _ _ => mv_TL_aD fun _ => mv_TLk _ _ _ _
      | exact mv_TL_popI fun _ _ => mv_TL_popI fun _ _ => mv_TL_popR fun _ _ => mv_TL_as fun _ => mv_TLk _ _ _ _
      | exact mv_TL_popL fun _ _ => mv_TL_popI fun _ _ => mv_TL_popR fun _ _ => mv_TL_as fun _ => mv_TLk _ _ _ _
      | exact mv_TL_popD fun _ _ => mv_TL_popI fun _ _ => mv_TL_popR fun _ _ => mv_TL_as fun _ => mv_TLk _ _ _ _
      | exact mv_TL_popR fun _ _ => mv_TL_popI fun _ _ => mv_TL_popR fun _ _ => mv_TL_aa fun _ => mv_TLk _ _ _ _
      | exact mv_TL_popR fun _ _ => mv_TL_len fun _ => mv_TLk _ _ _ _
      | exact mv_TL_popI fun _ _ => mv_TL_newa fun _ _ => mv_TLk _ _ _ _
      | exact mv_TL_popI fun _ _ => mv_TL_lk fun _ => mv_TL_chk (mv_TL_newa fun _ _ => mv_TLk _ _ _ _)
      | exact mv_TL_popI fun _ _ => mv_TLc _
      | exact mv_TL_popR fun _ _ => mv_TLc _
      | exact mv_TL_popF fun _ _ => mv_TLc _
      | exact mv_TL_popD fun _ _ => mv_TLc _
      | exact mv_TLc _
      | exact mv_TL_lk fun _ => mv_TL_chk (mv_TLk _ _ _ _)
      | (cases sw with
          | cons q r => exact mv_TLk _ _ _ _
          | nil => exact mv_TL_lk fun _ => mv_TL_chk (mv_TLk _ _ _ _))
      | (refine mv_TL_popR fun _ _ => mv_TL_lk fun q => mv_TL_chk ?_
         split
         · exact mv_TL_gR fun _ => mv_TLk _ _ _ _
         · exact mv_TL_gI fun _ => mv_TLk _ _ _ _)
      | (refine mv_TL_lk fun q => mv_TL_chk ?_
         split
         · exact mv_TL_popR fun _ _ => mv_TL_popR fun _ _ => mv_TL_pf fun _ => mv_TLk _ _ _ _
         · exact mv_TL_popI fun _ _ => mv_TL_popR fun _ _ => mv_TL_chk (mv_TL_pf fun _ => mv_TLk _ _ _ _))
      | (refine mv_TL_lk fun q => mv_TL_chk ?_
         split
         · exact mv_TL_ref fun _ => mv_TLk _ _ _ _
         · exact mv_TL_chk (mv_TLk _ _ _ _)
         · exact mv_TL_int fun _ => mv_TLk _ _ _ _)
      | (refine mv_TL_lk fun q => ?_
         split
         · exact mv_TL_new fun _ _ => mv_TLk _ _ _ _
         · exact mv_TLc _
         · exact mv_TLc none)
/-- n steps at most -/
def mv_fu (X : mv_X) (call : mv_G) (M : mv_M) : Nat → mv_K
  | 0 => fun _ _ _ _ => none
  | n + 1 => mv_F X call M (mv_fu X call M n)
theorem mv_fu_up {X : mv_X} {call : mv_G} {M : mv_M} : ∀ {n m : Nat} {pc : Nat} {ls st : List Value} {h : mv_H} {r : mv_R}, mv_fu X call M n pc ls st h = some r → n ≤ m → mv_fu X call M m pc ls st h = some r := by
  intro n
  induction n with
  | zero => intro m pc ls st h r e; cases e
  | succ n ih =>
    intro m pc ls st h r e hm
    obtain ⟨m, rfl⟩ : ∃ k, m = k + 1 := ⟨m - 1, by omega⟩
    show mv_F X call M (mv_fu X call M m) pc ls st h = some r
    have e : mv_F X call M (mv_fu X call M n) pc ls st h = some r := e
    rcases mv_TL_F X call M pc ls st h with ⟨a, b, c, d, q⟩ | ⟨z, q⟩
    · have q1 := q (mv_fu X call M n)
      have q2 := q (mv_fu X call M m)
      simp only at q1 q2
      rw [q2]; rw [q1] at e
      exact ih e (by omega)
    · have q1 := q (mv_fu X call M n)
      have q2 := q (mv_fu X call M m)
      simp only at q1 q2
      rw [q2, ← q1]; exact e
/-- to the end, if there is one -/
noncomputable def mv_run (X : mv_X) (call : mv_G) (M : mv_M) : mv_K := fun pc ls st h =>
  @dite (Option mv_R) (∃ r, ∃ n, mv_fu X call M n pc ls st h = some r) (Classical.propDecidable _) (fun q => some q.choose) (fun _ => none)
theorem mv_run_iff {X : mv_X} {call : mv_G} {M : mv_M} {pc : Nat} {ls st : List Value} {h : mv_H} {r : mv_R} : mv_run X call M pc ls st h = some r ↔ ∃ n, mv_fu X call M n pc ls st h = some r := by
  unfold mv_run
  constructor
  · intro e
    split at e
    · next q =>
      cases e
      exact q.choose_spec
    · cases e
  · rintro ⟨n, e⟩
    have q : ∃ r, ∃ n, mv_fu X call M n pc ls st h = some r := ⟨r, n, e⟩
    rw [dif_pos q]
    obtain ⟨n', e'⟩ := q.choose_spec
    have a := mv_fu_up e (Nat.le_max_left n n')
    have b := mv_fu_up e' (Nat.le_max_right n n')
    rw [a] at b
    exact b.symm
theorem mv_run_eq (X : mv_X) (call : mv_G) (M : mv_M) (pc : Nat) (ls st : List Value) (h : mv_H) : mv_run X call M pc ls st h = mv_F X call M (mv_run X call M) pc ls st h := by
  have key : ∀ r, mv_run X call M pc ls st h = some r ↔ mv_F X call M (mv_run X call M) pc ls st h = some r := by
    intro r
    rw [mv_run_iff]
    rcases mv_TL_F X call M pc ls st h with ⟨a, b, c, d, q⟩ | ⟨z, q⟩
    · have q1 := q (mv_run X call M)
      simp only at q1
      rw [q1, mv_run_iff]
      constructor
      · rintro ⟨n, e⟩
        cases n with
        | zero => cases e
        | succ n =>
          have e : mv_F X call M (mv_fu X call M n) pc ls st h = some r := e
          have q2 := q (mv_fu X call M n)
          simp only at q2
          rw [q2] at e
          exact ⟨n, e⟩
      · rintro ⟨n, e⟩
        refine ⟨n + 1, ?_⟩
        show mv_F X call M (mv_fu X call M n) pc ls st h = some r
        have q2 := q (mv_fu X call M n)
        simp only at q2
        rw [q2]
        exact e
    · have q1 := q (mv_run X call M)
      simp only at q1
      rw [q1]
      constructor
      · rintro ⟨n, e⟩
        cases n with
        | zero => cases e
        | succ n =>
          have e : mv_F X call M (mv_fu X call M n) pc ls st h = some r := e
          have q2 := q (mv_fu X call M n)
          simp only at q2
          rw [q2] at e
          exact e
      · intro e
        refine ⟨1, ?_⟩
        show mv_F X call M (mv_fu X call M 0) pc ls st h = some r
        have q2 := q (mv_fu X call M 0)
        simp only at q2
        rw [q2]
        exact e
  cases e1 : mv_run X call M pc ls st h with
  | some r => exact ((key r).mp e1).symm
  | none =>
    cases e2 : mv_F X call M (mv_run X call M) pc ls st h with
    | none => rfl
    | some r =>
      have := (key r).mpr e2
      rw [e1] at this
      cases this
/-- method y, called at depth d -/
noncomputable def mv_call (X : mv_X) : Nat → mv_G
  | 0 => fun _ _ _ => none
  | d + 1 => fun y as h => match mv_look mv_tab 16 y with
    | some M => mv_chk (Nat.ble as.length M.1) (mv_run X (mv_call X d) M 0 (as ++ List.replicate (M.1 - as.length) (.retAddr 0)) [] h)
    | none => none
end
section
/-! ONE INSTRUCTION, ONE ROW (of the small machine) -/
section MVS
variable {X : mv_X} {call : mv_G} {M : mv_M} {pc t : Nat} {sw : List (Int × Nat)} {ls st : List Value} {h : mv_H}
theorem mv_step {i : Instr} (hl : mv_look M.2.2.2.1 32 pc = some (i, t, sw)) : mv_run X call M pc ls st h = mv_E X call M (mv_run X call M) i t sw pc ls st h := by
  rw [mv_run_eq]
  show (match mv_look M.2.2.2.1 32 pc with
    | none => none
    | some q => mv_E X call M (mv_run X call M) q.1 q.2.1 q.2.2 pc ls st h) = _
  rw [hl]
theorem s_iload_n {j : Fin 4} {x : Int32} (hl : mv_look M.2.2.2.1 32 pc = some (.iload_n j, t, sw)) (hx : ls[(j : Nat)]? = some (.int x)) : mv_run X call M pc ls st h = mv_run X call M (pc + 1) ls (.int x :: st) h := (mv_step hl).trans (by show mv_ld ls j _ = _; unfold mv_ld; rw [hx]; rfl)
theorem s_aload_n {j : Fin 4} {x : Nat} (hl : mv_look M.2.2.2.1 32 pc = some (.aload_n j, t, sw)) (hx : ls[(j : Nat)]? = some (.ref x)) : mv_run X call M pc ls st h = mv_run X call M (pc + 1) ls (.ref x :: st) h := (mv_step hl).trans (by show mv_ld ls j _ = _; unfold mv_ld; rw [hx]; rfl)
theorem s_aloadJ_n {j : Fin 4} {w : Value} (hl : mv_look M.2.2.2.1 32 pc = some (.aload_n j, t, sw)) (hx : ls[(j : Nat)]? = some w) : mv_run X call M pc ls st h = mv_ref w fun x => mv_run X call M (pc + 1) ls (.ref x :: st) h := (mv_step hl).trans (by show mv_ld ls j _ = _; unfold mv_ld; rw [hx])
theorem s_iload {j : Nat} {x : Int32} (hl : mv_look M.2.2.2.1 32 pc = some (.iload j, t, sw)) (hx : ls[j]? = some (.int x)) : mv_run X call M pc ls st h = mv_run X call M (pc + 2) ls (.int x :: st) h := (mv_step hl).trans (by show mv_ld ls j _ = _; unfold mv_ld; rw [hx]; rfl)
theorem s_aload {j : Nat} {x : Nat} (hl : mv_look M.2.2.2.1 32 pc = some (.aload j, t, sw)) (hx : ls[j]? = some (.ref x)) : mv_run X call M pc ls st h = mv_run X call M (pc + 2) ls (.ref x :: st) h := (mv_step hl).trans (by show mv_ld ls j _ = _; unfold mv_ld; rw [hx]; rfl)
theorem s_fload {j : Nat} {x : UInt32} (hl : mv_look M.2.2.2.1 32 pc = some (.fload j, t, sw)) (hx : ls[j]? = some (.float x)) : mv_run X call M pc ls st h = mv_run X call M (pc + 2) ls (.float x :: st) h := (mv_step hl).trans (by show mv_ld ls j _ = _; unfold mv_ld; rw [hx]; rfl)
theorem s_dload {j : Nat} {x : UInt64} (hl : mv_look M.2.2.2.1 32 pc = some (.dload j, t, sw)) (hx : ls[j]? = some (.double x)) : mv_run X call M pc ls st h = mv_run X call M (pc + 2) ls (.double x :: st) h := (mv_step hl).trans (by show mv_ld ls j _ = _; unfold mv_ld; rw [hx]; rfl)
theorem s_istore_n {j : Fin 4} {x : Int32} {ls2 : List Value} (hl : mv_look M.2.2.2.1 32 pc = some (.istore_n j, t, sw)) (hs : ∀ f, mv_st M.2.1 ls (j : Nat) (.int x) f = f ls2) : mv_run X call M pc ls (.int x :: st) h = mv_run X call M (pc + 1) ls2 st h := (mv_step hl).trans (hs fun ls => mv_run X call M (pc + 1) ls st h)
theorem s_istore {j : Nat} {x : Int32} {ls2 : List Value} (hl : mv_look M.2.2.2.1 32 pc = some (.istore j, t, sw)) (hs : ∀ f, mv_st M.2.1 ls j (.int x) f = f ls2) : mv_run X call M pc ls (.int x :: st) h = mv_run X call M (pc + 2) ls2 st h := (mv_step hl).trans (hs fun ls => mv_run X call M (pc + 2) ls st h)
theorem s_astore_n {j : Fin 4} {x : Nat} {ls2 : List Value} (hl : mv_look M.2.2.2.1 32 pc = some (.astore_n j, t, sw)) (hs : ∀ f, mv_st M.2.1 ls (j : Nat) (.ref x) f = f ls2) : mv_run X call M pc ls (.ref x :: st) h = mv_run X call M (pc + 1) ls2 st h := (mv_step hl).trans (hs fun ls => mv_run X call M (pc + 1) ls st h)
theorem s_astore {j : Nat} {x : Nat} {ls2 : List Value} (hl : mv_look M.2.2.2.1 32 pc = some (.astore j, t, sw)) (hs : ∀ f, mv_st M.2.1 ls j (.ref x) f = f ls2) : mv_run X call M pc ls (.ref x :: st) h = mv_run X call M (pc + 2) ls2 st h := (mv_step hl).trans (hs fun ls => mv_run X call M (pc + 2) ls st h)
theorem s_fstore {j : Nat} {x : UInt32} {ls2 : List Value} (hl : mv_look M.2.2.2.1 32 pc = some (.fstore j, t, sw)) (hs : ∀ f, mv_st M.2.1 ls j (.float x) f = f ls2) : mv_run X call M pc ls (.float x :: st) h = mv_run X call M (pc + 2) ls2 st h := (mv_step hl).trans (hs fun ls => mv_run X call M (pc + 2) ls st h)
theorem s_dstore {j : Nat} {x : UInt64} {ls2 : List Value} (hl : mv_look M.2.2.2.1 32 pc = some (.dstore j, t, sw)) (hs : ∀ f, mv_st2 M.2.1 ls j (.double x) f = f ls2) : mv_run X call M pc ls (.double x :: st) h = mv_run X call M (pc + 2) ls2 st h := (mv_step hl).trans (hs fun ls => mv_run X call M (pc + 2) ls st h)
theorem s_iinc {j : Nat} {n : Int} {x : Int32} {ls2 : List Value} (hl : mv_look M.2.2.2.1 32 pc = some (.iinc j n, t, sw)) (hx : ls[j]? = some (.int x)) (hs : ∀ f, mv_st M.2.1 ls j (.int (x + nZ n)) f = f ls2) : mv_run X call M pc ls st h = mv_run X call M (pc + 3) ls2 st h := (mv_step hl).trans (by show mv_ld ls j _ = _; unfold mv_ld; rw [hx]; exact hs fun ls => mv_run X call M (pc + 3) ls st h)
theorem s_iconst {n : Int} (hl : mv_look M.2.2.2.1 32 pc = some (.iconst n, t, sw)) : mv_run X call M pc ls st h = mv_run X call M (pc + 1) ls (.int (nZ n) :: st) h := (mv_step hl).trans rfl
theorem s_bipush {n : Int} (hl : mv_look M.2.2.2.1 32 pc = some (.bipush n, t, sw)) : mv_run X call M pc ls st h = mv_run X call M (pc + 2) ls (.int (nZ n) :: st) h := (mv_step hl).trans rfl
theorem s_sipush {n : Int} (hl : mv_look M.2.2.2.1 32 pc = some (.sipush n, t, sw)) : mv_run X call M pc ls st h = mv_run X call M (pc + 3) ls (.int (nZ n) :: st) h := (mv_step hl).trans rfl
theorem s_lconst {n : Fin 2} (v : Nat) (hl : mv_look M.2.2.2.1 32 pc = some (.lconst n, t, sw)) (hv : (n : Nat) = v) : mv_run X call M pc ls st h = mv_run X call M (pc + 1) ls (.long (Int64.ofNat v) :: st) h := (mv_step hl).trans (by subst hv; rfl)
theorem s_fconst {n : Fin 3} (hl : mv_look M.2.2.2.1 32 pc = some (.fconst n, t, sw)) : mv_run X call M pc ls st h = mv_run X call M (pc + 1) ls (.float FP.fconst0 :: st) h := (mv_step hl).trans rfl
theorem s_dconst {n : Fin 2} (hl : mv_look M.2.2.2.1 32 pc = some (.dconst n, t, sw)) : mv_run X call M pc ls st h = mv_run X call M (pc + 1) ls (.double FP.dconst0 :: st) h := (mv_step hl).trans rfl
theorem s_ldcI {j z : Nat} (v : Int) (hl : mv_look M.2.2.2.1 32 pc = some (.ldc j, t, (v, z) :: sw)) : mv_run X call M pc ls st h = mv_run X call M (pc + 2) ls (.int (nZ v) :: st) h := (mv_step hl).trans rfl
theorem s_ldcS {j y : Nat} {z : Nat × Nat × Nat} (hl : mv_look M.2.2.2.1 32 pc = some (.ldc j, t, [])) (hk : mv_look M.2.2.2.2.1 16 j = some (14, y, z)) : mv_run X call M pc ls st h = mv_run X call M (pc + 2) ls (.ref (X.2.1 y) :: st) h := (mv_step hl).trans (by show mv_lk M j _ = _; unfold mv_lk; rw [hk]; rfl)
theorem s_ldcI_w {j z : Nat} (v : Int) (hl : mv_look M.2.2.2.1 32 pc = some (.ldc_w j, t, (v, z) :: sw)) : mv_run X call M pc ls st h = mv_run X call M (pc + 3) ls (.int (nZ v) :: st) h := (mv_step hl).trans rfl
theorem s_ldcS_w {j y : Nat} {z : Nat × Nat × Nat} (hl : mv_look M.2.2.2.1 32 pc = some (.ldc_w j, t, [])) (hk : mv_look M.2.2.2.2.1 16 j = some (14, y, z)) : mv_run X call M pc ls st h = mv_run X call M (pc + 3) ls (.ref (X.2.1 y) :: st) h := (mv_step hl).trans (by show mv_lk M j _ = _; unfold mv_lk; rw [hk]; rfl)
theorem s_iadd {x y : Int32} (hl : mv_look M.2.2.2.1 32 pc = some (.iadd, t, sw)) : mv_run X call M pc ls (.int y :: .int x :: st) h = mv_run X call M (pc + 1) ls (.int (x + y) :: st) h := (mv_step hl).trans rfl
theorem s_isub {x y : Int32} (hl : mv_look M.2.2.2.1 32 pc = some (.isub, t, sw)) : mv_run X call M pc ls (.int y :: .int x :: st) h = mv_run X call M (pc + 1) ls (.int (x - y) :: st) h := (mv_step hl).trans rfl
theorem s_imul {x y : Int32} (hl : mv_look M.2.2.2.1 32 pc = some (.imul, t, sw)) : mv_run X call M pc ls (.int y :: .int x :: st) h = mv_run X call M (pc + 1) ls (.int (x * y) :: st) h := (mv_step hl).trans rfl
theorem s_iand {x y : Int32} (hl : mv_look M.2.2.2.1 32 pc = some (.iand, t, sw)) : mv_run X call M pc ls (.int y :: .int x :: st) h = mv_run X call M (pc + 1) ls (.int (x &&& y) :: st) h := (mv_step hl).trans rfl
theorem s_ior {x y : Int32} (hl : mv_look M.2.2.2.1 32 pc = some (.ior, t, sw)) : mv_run X call M pc ls (.int y :: .int x :: st) h = mv_run X call M (pc + 1) ls (.int (x ||| y) :: st) h := (mv_step hl).trans rfl
theorem s_ixor {x y : Int32} (hl : mv_look M.2.2.2.1 32 pc = some (.ixor, t, sw)) : mv_run X call M pc ls (.int y :: .int x :: st) h = mv_run X call M (pc + 1) ls (.int (x ^^^ y) :: st) h := (mv_step hl).trans rfl
theorem s_ishl {x y : Int32} (hl : mv_look M.2.2.2.1 32 pc = some (.ishl, t, sw)) : mv_run X call M pc ls (.int y :: .int x :: st) h = mv_run X call M (pc + 1) ls (.int (x <<< (y &&& 31)) :: st) h := (mv_step hl).trans rfl
theorem s_ishr {x y : Int32} (hl : mv_look M.2.2.2.1 32 pc = some (.ishr, t, sw)) : mv_run X call M pc ls (.int y :: .int x :: st) h = mv_run X call M (pc + 1) ls (.int (x >>> (y &&& 31)) :: st) h := (mv_step hl).trans rfl
theorem s_iushr {x y : Int32} (hl : mv_look M.2.2.2.1 32 pc = some (.iushr, t, sw)) : mv_run X call M pc ls (.int y :: .int x :: st) h = mv_run X call M (pc + 1) ls (.int (((x).toUInt32 >>> ((y).toUInt32 &&& Int32.toUInt32 31)).toInt32) :: st) h := (mv_step hl).trans rfl
theorem s_idiv {x y : Int32} (hl : mv_look M.2.2.2.1 32 pc = some (.idiv, t, sw)) : mv_run X call M pc ls (.int y :: .int x :: st) h = if y = 0 then none else mv_run X call M (pc + 1) ls (.int (x / y) :: st) h := (mv_step hl).trans rfl
theorem s_irem {x y : Int32} (hl : mv_look M.2.2.2.1 32 pc = some (.irem, t, sw)) : mv_run X call M pc ls (.int y :: .int x :: st) h = if y = 0 then none else mv_run X call M (pc + 1) ls (.int (x - x / y * y) :: st) h := (mv_step hl).trans rfl
theorem s_ineg {x : Int32} (hl : mv_look M.2.2.2.1 32 pc = some (.ineg, t, sw)) : mv_run X call M pc ls (.int x :: st) h = mv_run X call M (pc + 1) ls (.int (-x) :: st) h := (mv_step hl).trans rfl
theorem s_i2l {x : Int32} (hl : mv_look M.2.2.2.1 32 pc = some (.i2l, t, sw)) : mv_run X call M pc ls (.int x :: st) h = mv_run X call M (pc + 1) ls (.long ((x).toInt64) :: st) h := (mv_step hl).trans rfl
theorem s_i2b {x : Int32} (hl : mv_look M.2.2.2.1 32 pc = some (.i2b, t, sw)) : mv_run X call M pc ls (.int x :: st) h = mv_run X call M (pc + 1) ls (.int ((x).toInt8.toInt32) :: st) h := (mv_step hl).trans rfl
theorem s_i2c {x : Int32} (hl : mv_look M.2.2.2.1 32 pc = some (.i2c, t, sw)) : mv_run X call M pc ls (.int x :: st) h = mv_run X call M (pc + 1) ls (.int (((x).toUInt32 % 65536).toInt32) :: st) h := (mv_step hl).trans rfl
theorem s_i2d {x : Int32} (hl : mv_look M.2.2.2.1 32 pc = some (.i2d, t, sw)) : mv_run X call M pc ls (.int x :: st) h = mv_run X call M (pc + 1) ls (.double (FP.i2d x) :: st) h := (mv_step hl).trans rfl
theorem s_i2f {x : Int32} (hl : mv_look M.2.2.2.1 32 pc = some (.i2f, t, sw)) : mv_run X call M pc ls (.int x :: st) h = mv_run X call M (pc + 1) ls (.float (FP.i2f x) :: st) h := (mv_step hl).trans rfl
theorem s_f2d {x : UInt32} (hl : mv_look M.2.2.2.1 32 pc = some (.f2d, t, sw)) : mv_run X call M pc ls (.float x :: st) h = mv_chk (decide (FP.f2d x &&& 0x7fffffffffffffff ≤ 0x7ff0000000000000)) (mv_run X call M (pc + 1) ls (.double (FP.f2d x) :: st) h) := (mv_step hl).trans rfl
theorem s_ddiv {x y : UInt64} (hl : mv_look M.2.2.2.1 32 pc = some (.ddiv, t, sw)) : mv_run X call M pc ls (.double y :: .double x :: st) h = mv_chk (decide (FP.ddiv x y &&& 0x7fffffffffffffff ≤ 0x7ff0000000000000)) (mv_run X call M (pc + 1) ls (.double (FP.ddiv x y) :: st) h) := (mv_step hl).trans rfl
theorem s_fdiv {x y : UInt32} (hl : mv_look M.2.2.2.1 32 pc = some (.fdiv, t, sw)) : mv_run X call M pc ls (.float y :: .float x :: st) h = mv_chk (decide (FP.fdiv x y &&& 0x7fffffff ≤ 0x7f800000)) (mv_run X call M (pc + 1) ls (.float (FP.fdiv x y) :: st) h) := (mv_step hl).trans rfl
theorem s_lcmp {x y : Int64} (hl : mv_look M.2.2.2.1 32 pc = some (.lcmp, t, sw)) : mv_run X call M pc ls (.long y :: .long x :: st) h = mv_run X call M (pc + 1) ls (.int (lg_cmp x y) :: st) h := (mv_step hl).trans rfl
theorem s_dcmp {x y : UInt64} {op : CmpOp} (hl : mv_look M.2.2.2.1 32 pc = some (.dcmp op, t, sw)) : mv_run X call M pc ls (.double y :: .double x :: st) h = mv_run X call M (pc + 1) ls (.int (Op.cmpValue (FP.dcmp x y) op) :: st) h := (mv_step hl).trans rfl
theorem s_fcmp {x y : UInt32} {op : CmpOp} (hl : mv_look M.2.2.2.1 32 pc = some (.fcmp op, t, sw)) : mv_run X call M pc ls (.float y :: .float x :: st) h = mv_run X call M (pc + 1) ls (.int (Op.cmpValue (FP.fcmp x y) op) :: st) h := (mv_step hl).trans rfl
theorem s_dupI {v : Int32} (hl : mv_look M.2.2.2.1 32 pc = some (.dup, t, sw)) : mv_run X call M pc ls (.int v :: st) h = mv_run X call M (pc + 1) ls (.int v :: .int v :: st) h := (mv_step hl).trans rfl
theorem s_dupR {v : Nat} (hl : mv_look M.2.2.2.1 32 pc = some (.dup, t, sw)) : mv_run X call M pc ls (.ref v :: st) h = mv_run X call M (pc + 1) ls (.ref v :: .ref v :: st) h := (mv_step hl).trans rfl
theorem s_popI {v : Int32} (hl : mv_look M.2.2.2.1 32 pc = some (.pop, t, sw)) : mv_run X call M pc ls (.int v :: st) h = mv_run X call M (pc + 1) ls (st) h := (mv_step hl).trans rfl
theorem s_popR {v : Nat} (hl : mv_look M.2.2.2.1 32 pc = some (.pop, t, sw)) : mv_run X call M pc ls (.ref v :: st) h = mv_run X call M (pc + 1) ls (st) h := (mv_step hl).trans rfl
theorem s_dup_x1 {v : Int32} {w : Nat} (hl : mv_look M.2.2.2.1 32 pc = some (.dup_x1, t, sw)) : mv_run X call M pc ls (.int v :: .ref w :: st) h = mv_run X call M (pc + 1) ls (.int v :: .ref w :: .int v :: st) h := (mv_step hl).trans rfl
theorem s_dup2 {v : Int32} {w : Nat} (hl : mv_look M.2.2.2.1 32 pc = some (.dup2, t, sw)) : mv_run X call M pc ls (.int v :: .ref w :: st) h = mv_run X call M (pc + 1) ls (.int v :: .ref w :: .int v :: .ref w :: st) h := (mv_step hl).trans rfl
theorem s_goto {o : Int} (hl : mv_look M.2.2.2.1 32 pc = some (.goto o, t, sw)) : mv_run X call M pc ls st h = mv_run X call M (t) ls (st) h := (mv_step hl).trans rfl
theorem s_if_eq {x : Int32} {o : Int} (hl : mv_look M.2.2.2.1 32 pc = some (.ifCond .eq o, t, sw)) : mv_run X call M pc ls (.int x :: st) h = if x = 0 then mv_run X call M t ls st h else mv_run X call M (pc + 3) ls st h := (mv_step hl).trans rfl
theorem s_icmp_eq {x y : Int32} {o : Int} (hl : mv_look M.2.2.2.1 32 pc = some (.if_icmp .eq o, t, sw)) : mv_run X call M pc ls (.int y :: .int x :: st) h = if x = y then mv_run X call M t ls st h else mv_run X call M (pc + 3) ls st h := (mv_step hl).trans rfl
theorem s_if_ne {x : Int32} {o : Int} (hl : mv_look M.2.2.2.1 32 pc = some (.ifCond .ne o, t, sw)) : mv_run X call M pc ls (.int x :: st) h = if x = 0 then mv_run X call M (pc + 3) ls st h else mv_run X call M t ls st h := (mv_step hl).trans rfl
theorem s_icmp_ne {x y : Int32} {o : Int} (hl : mv_look M.2.2.2.1 32 pc = some (.if_icmp .ne o, t, sw)) : mv_run X call M pc ls (.int y :: .int x :: st) h = if x = y then mv_run X call M (pc + 3) ls st h else mv_run X call M t ls st h := (mv_step hl).trans rfl
theorem s_if_lt {x : Int32} {o : Int} (hl : mv_look M.2.2.2.1 32 pc = some (.ifCond .lt o, t, sw)) : mv_run X call M pc ls (.int x :: st) h = if x < 0 then mv_run X call M t ls st h else mv_run X call M (pc + 3) ls st h := (mv_step hl).trans rfl
theorem s_icmp_lt {x y : Int32} {o : Int} (hl : mv_look M.2.2.2.1 32 pc = some (.if_icmp .lt o, t, sw)) : mv_run X call M pc ls (.int y :: .int x :: st) h = if x < y then mv_run X call M t ls st h else mv_run X call M (pc + 3) ls st h := (mv_step hl).trans rfl
theorem s_if_ge {x : Int32} {o : Int} (hl : mv_look M.2.2.2.1 32 pc = some (.ifCond .ge o, t, sw)) : mv_run X call M pc ls (.int x :: st) h = if 0 ≤ x then mv_run X call M t ls st h else mv_run X call M (pc + 3) ls st h := (mv_step hl).trans rfl
theorem s_icmp_ge {x y : Int32} {o : Int} (hl : mv_look M.2.2.2.1 32 pc = some (.if_icmp .ge o, t, sw)) : mv_run X call M pc ls (.int y :: .int x :: st) h = if y ≤ x then mv_run X call M t ls st h else mv_run X call M (pc + 3) ls st h := (mv_step hl).trans rfl
theorem s_if_gt {x : Int32} {o : Int} (hl : mv_look M.2.2.2.1 32 pc = some (.ifCond .gt o, t, sw)) : mv_run X call M pc ls (.int x :: st) h = if 0 < x then mv_run X call M t ls st h else mv_run X call M (pc + 3) ls st h := (mv_step hl).trans rfl
theorem s_icmp_gt {x y : Int32} {o : Int} (hl : mv_look M.2.2.2.1 32 pc = some (.if_icmp .gt o, t, sw)) : mv_run X call M pc ls (.int y :: .int x :: st) h = if y < x then mv_run X call M t ls st h else mv_run X call M (pc + 3) ls st h := (mv_step hl).trans rfl
theorem s_if_le {x : Int32} {o : Int} (hl : mv_look M.2.2.2.1 32 pc = some (.ifCond .le o, t, sw)) : mv_run X call M pc ls (.int x :: st) h = if x ≤ 0 then mv_run X call M t ls st h else mv_run X call M (pc + 3) ls st h := (mv_step hl).trans rfl
theorem s_icmp_le {x y : Int32} {o : Int} (hl : mv_look M.2.2.2.1 32 pc = some (.if_icmp .le o, t, sw)) : mv_run X call M pc ls (.int y :: .int x :: st) h = if x ≤ y then mv_run X call M t ls st h else mv_run X call M (pc + 3) ls st h := (mv_step hl).trans rfl
theorem s_tsw {x : Int32} {a b c : Int} {d : Array Int} (hl : mv_look M.2.2.2.1 32 pc = some (.tableswitch a b c d, t, sw)) : mv_run X call M pc ls (.int x :: st) h = mv_sw x t (fun t => mv_run X call M t ls st h) sw := (mv_step hl).trans rfl
theorem s_lsw {x : Int32} {a : Int} {d : Array (Int × Int)} (hl : mv_look M.2.2.2.1 32 pc = some (.lookupswitch a d, t, sw)) : mv_run X call M pc ls (.int x :: st) h = mv_sw x t (fun t => mv_run X call M t ls st h) sw := (mv_step hl).trans rfl
theorem s_gf1 {j a ci n z : Nat} (hl : mv_look M.2.2.2.1 32 pc = some (.getfield j, t, sw)) (hk : mv_look M.2.2.2.2.1 16 j = some (1, ci, n, 1, z)) : mv_run X call M pc ls (.ref a :: st) h = mv_gI X h a ci n fun x => mv_run X call M (pc + 3) ls (.int x :: st) h := (mv_step hl).trans (by show mv_lk M j _ = _; unfold mv_lk; rw [hk]; rfl)
theorem s_gf6 {j a ci n z : Nat} (hl : mv_look M.2.2.2.1 32 pc = some (.getfield j, t, sw)) (hk : mv_look M.2.2.2.2.1 16 j = some (1, ci, n, 6, z)) : mv_run X call M pc ls (.ref a :: st) h = mv_gI X h a ci n fun x => mv_run X call M (pc + 3) ls (.int x :: st) h := (mv_step hl).trans (by show mv_lk M j _ = _; unfold mv_lk; rw [hk]; rfl)
theorem s_gf7 {j a ci n z : Nat} (hl : mv_look M.2.2.2.1 32 pc = some (.getfield j, t, sw)) (hk : mv_look M.2.2.2.2.1 16 j = some (1, ci, n, 7, z)) : mv_run X call M pc ls (.ref a :: st) h = mv_gI X h a ci n fun x => mv_run X call M (pc + 3) ls (.int x :: st) h := (mv_step hl).trans (by show mv_lk M j _ = _; unfold mv_lk; rw [hk]; rfl)
theorem s_gf8 {j a ci n z : Nat} (hl : mv_look M.2.2.2.1 32 pc = some (.getfield j, t, sw)) (hk : mv_look M.2.2.2.2.1 16 j = some (1, ci, n, 8, z)) : mv_run X call M pc ls (.ref a :: st) h = mv_gI X h a ci n fun x => mv_run X call M (pc + 3) ls (.int x :: st) h := (mv_step hl).trans (by show mv_lk M j _ = _; unfold mv_lk; rw [hk]; rfl)
theorem s_gf2 {j a ci n z : Nat} (hl : mv_look M.2.2.2.1 32 pc = some (.getfield j, t, sw)) (hk : mv_look M.2.2.2.2.1 16 j = some (1, ci, n, 2, z)) : mv_run X call M pc ls (.ref a :: st) h = mv_gR X h a ci n fun x => mv_run X call M (pc + 3) ls (.ref x :: st) h := (mv_step hl).trans (by show mv_lk M j _ = _; unfold mv_lk; rw [hk]; rfl)
theorem s_pf2 {j a ci n z x : Nat} (hl : mv_look M.2.2.2.1 32 pc = some (.putfield j, t, sw)) (hk : mv_look M.2.2.2.2.1 16 j = some (1, ci, n, 2, z)) : mv_run X call M pc ls (.ref x :: .ref a :: st) h = mv_pf h a ci n (.ref x) fun h => mv_run X call M (pc + 3) ls (st) h := (mv_step hl).trans (by show mv_lk M j _ = _; unfold mv_lk; rw [hk]; rfl)
theorem s_pf1 {j a ci n z : Nat} {x : Int32} (hl : mv_look M.2.2.2.1 32 pc = some (.putfield j, t, sw)) (hk : mv_look M.2.2.2.2.1 16 j = some (1, ci, n, 1, z)) : mv_run X call M pc ls (.int x :: .ref a :: st) h = mv_pf h a ci n (.int x) fun h => mv_run X call M (pc + 3) ls (st) h := (mv_step hl).trans (by show mv_lk M j _ = _; unfold mv_lk; rw [hk]; rfl)
theorem s_pf6 {j a ci n z : Nat} {x : Int32} (hl : mv_look M.2.2.2.1 32 pc = some (.putfield j, t, sw)) (hk : mv_look M.2.2.2.2.1 16 j = some (1, ci, n, 6, z)) : mv_run X call M pc ls (.int x :: .ref a :: st) h = mv_chk (mv_ok 6 x) (mv_pf h a ci n (.int x) fun h => mv_run X call M (pc + 3) ls (st) h) := (mv_step hl).trans (by show mv_lk M j _ = _; unfold mv_lk; rw [hk]; rfl)
theorem s_pf7 {j a ci n z : Nat} {x : Int32} (hl : mv_look M.2.2.2.1 32 pc = some (.putfield j, t, sw)) (hk : mv_look M.2.2.2.2.1 16 j = some (1, ci, n, 7, z)) : mv_run X call M pc ls (.int x :: .ref a :: st) h = mv_chk (mv_ok 7 x) (mv_pf h a ci n (.int x) fun h => mv_run X call M (pc + 3) ls (st) h) := (mv_step hl).trans (by show mv_lk M j _ = _; unfold mv_lk; rw [hk]; rfl)
theorem s_pf8 {j a ci n z : Nat} {x : Int32} (hl : mv_look M.2.2.2.1 32 pc = some (.putfield j, t, sw)) (hk : mv_look M.2.2.2.2.1 16 j = some (1, ci, n, 8, z)) : mv_run X call M pc ls (.int x :: .ref a :: st) h = mv_chk (mv_ok 8 x) (mv_pf h a ci n (.int x) fun h => mv_run X call M (pc + 3) ls (st) h) := (mv_step hl).trans (by show mv_lk M j _ = _; unfold mv_lk; rw [hk]; rfl)
theorem s_gs1 {j n : Nat} {z : Nat × Nat} (hl : mv_look M.2.2.2.1 32 pc = some (.getstatic j, t, sw)) (hk : mv_look M.2.2.2.2.1 16 j = some (13, n, 1, z)) : mv_run X call M pc ls st h = mv_int (X.2.2 n) fun x => mv_run X call M (pc + 3) ls (.int x :: st) h := (mv_step hl).trans (by show mv_lk M j _ = _; unfold mv_lk; rw [hk]; rfl)
theorem s_gs6 {j n : Nat} {z : Nat × Nat} (hl : mv_look M.2.2.2.1 32 pc = some (.getstatic j, t, sw)) (hk : mv_look M.2.2.2.2.1 16 j = some (13, n, 6, z)) : mv_run X call M pc ls st h = mv_int (X.2.2 n) fun x => mv_run X call M (pc + 3) ls (.int x :: st) h := (mv_step hl).trans (by show mv_lk M j _ = _; unfold mv_lk; rw [hk]; rfl)
theorem s_gs2 {j n : Nat} {z : Nat × Nat} (hl : mv_look M.2.2.2.1 32 pc = some (.getstatic j, t, sw)) (hk : mv_look M.2.2.2.2.1 16 j = some (13, n, 2, z)) : mv_run X call M pc ls st h = mv_ref (X.2.2 n) fun x => mv_run X call M (pc + 3) ls (.ref x :: st) h := (mv_step hl).trans (by show mv_lk M j _ = _; unfold mv_lk; rw [hk]; rfl)
theorem s_gs9 {j n : Nat} {z : Nat × Nat} (hl : mv_look M.2.2.2.1 32 pc = some (.getstatic j, t, sw)) (hk : mv_look M.2.2.2.2.1 16 j = some (13, n, 9, z)) : mv_run X call M pc ls st h = mv_chk (mv_nr (X.2.2 n)) (mv_run X call M (pc + 3) ls (X.2.2 n :: st) h) := (mv_step hl).trans (by show mv_lk M j _ = _; unfold mv_lk; rw [hk]; rfl)
theorem s_iaload {a : Nat} {i : Int32} (hl : mv_look M.2.2.2.1 32 pc = some (.iaload, t, sw)) : mv_run X call M pc ls (.int i :: .ref a :: st) h = mv_aI X h 1 a i fun x => mv_run X call M (pc + 1) ls (.int x :: st) h := (mv_step hl).trans rfl
theorem s_caload {a : Nat} {i : Int32} (hl : mv_look M.2.2.2.1 32 pc = some (.caload, t, sw)) : mv_run X call M pc ls (.int i :: .ref a :: st) h = mv_aI X h 7 a i fun x => mv_run X call M (pc + 1) ls (.int x :: st) h := (mv_step hl).trans rfl
theorem s_baload {a : Nat} {i : Int32} (hl : mv_look M.2.2.2.1 32 pc = some (.baload, t, sw)) : mv_run X call M pc ls (.int i :: .ref a :: st) h = mv_aI X h 8 a i fun x => mv_run X call M (pc + 1) ls (.int x :: st) h := (mv_step hl).trans rfl
theorem s_aaload {a : Nat} {i : Int32} (hl : mv_look M.2.2.2.1 32 pc = some (.aaload, t, sw)) : mv_run X call M pc ls (.int i :: .ref a :: st) h = mv_aR X h a i fun x => mv_run X call M (pc + 1) ls (.ref x :: st) h := (mv_step hl).trans rfl
theorem s_laload {a : Nat} {i : Int32} (hl : mv_look M.2.2.2.1 32 pc = some (.laload, t, sw)) : mv_run X call M pc ls (.int i :: .ref a :: st) h = mv_aL X h a i fun x => mv_run X call M (pc + 1) ls (.long x :: st) h := (mv_step hl).trans rfl
theorem s_daload {a : Nat} {i : Int32} (hl : mv_look M.2.2.2.1 32 pc = some (.daload, t, sw)) : mv_run X call M pc ls (.int i :: .ref a :: st) h = mv_aD X h a i fun x => mv_run X call M (pc + 1) ls (.double x :: st) h := (mv_step hl).trans rfl
theorem s_iastore {a : Nat} {i : Int32} {x : Int32} (hl : mv_look M.2.2.2.1 32 pc = some (.iastore, t, sw)) : mv_run X call M pc ls (.int x :: .int i :: .ref a :: st) h = mv_as h 1 a i (.int x) fun h => mv_run X call M (pc + 1) ls (st) h := (mv_step hl).trans rfl
theorem s_castore {a : Nat} {i : Int32} {x : Int32} (hl : mv_look M.2.2.2.1 32 pc = some (.castore, t, sw)) : mv_run X call M pc ls (.int x :: .int i :: .ref a :: st) h = mv_as h 7 a i (.int (vp_nar .char x)) fun h => mv_run X call M (pc + 1) ls (st) h := (mv_step hl).trans rfl
theorem s_bastore {a : Nat} {i : Int32} {x : Int32} (hl : mv_look M.2.2.2.1 32 pc = some (.bastore, t, sw)) : mv_run X call M pc ls (.int x :: .int i :: .ref a :: st) h = mv_as h 8 a i (.int (x).toInt8.toInt32) fun h => mv_run X call M (pc + 1) ls (st) h := (mv_step hl).trans rfl
theorem s_lastore {a : Nat} {i : Int32} {x : Int64} (hl : mv_look M.2.2.2.1 32 pc = some (.lastore, t, sw)) : mv_run X call M pc ls (.long x :: .int i :: .ref a :: st) h = mv_as h 3 a i (.long x) fun h => mv_run X call M (pc + 1) ls (st) h := (mv_step hl).trans rfl
theorem s_dastore {a : Nat} {i : Int32} {x : UInt64} (hl : mv_look M.2.2.2.1 32 pc = some (.dastore, t, sw)) : mv_run X call M pc ls (.double x :: .int i :: .ref a :: st) h = mv_as h 5 a i (.double x) fun h => mv_run X call M (pc + 1) ls (st) h := (mv_step hl).trans rfl
theorem s_aastore {a b : Nat} {i : Int32} (hl : mv_look M.2.2.2.1 32 pc = some (.aastore, t, sw)) : mv_run X call M pc ls (.ref b :: .int i :: .ref a :: st) h = mv_aa h a i b fun h => mv_run X call M (pc + 1) ls (st) h := (mv_step hl).trans rfl
theorem s_alen {a : Nat} (hl : mv_look M.2.2.2.1 32 pc = some (.arraylength, t, sw)) : mv_run X call M pc ls (.ref a :: st) h = mv_len X h a fun x => mv_run X call M (pc + 1) ls (.int x :: st) h := (mv_step hl).trans rfl
theorem s_new {j c : Nat} {z : Nat × Nat × Nat} (hl : mv_look M.2.2.2.1 32 pc = some (.new j, t, sw)) (hk : mv_look M.2.2.2.2.1 16 j = some (10, c, z)) : mv_run X call M pc ls st h = mv_new h (.inl (c, mv_df c)) (mv_df c).length fun a h => mv_run X call M (pc + 3) ls (.ref a :: st) h := (mv_step hl).trans (by show mv_lk M j _ = _; unfold mv_lk; rw [hk]; rfl)
theorem s_exc {j c t : Nat} {z : Nat × Nat × Nat} (hl : mv_look M.2.2.2.1 32 pc = some (.new j, t, sw)) (hk : mv_look M.2.2.2.2.1 16 j = some (11, c, z)) (hc : (Nat.blt 0 t && Nat.ble st.length 8 && (st.all fun v => Nat.beq v.category 1) && M.2.2.2.2.2.isEmpty) = true) : mv_run X call M pc ls st h = mv_raise c h.2.1 (h.1, h.2.1 + 1, h.2.2 + 6) := (mv_step hl).trans (by show mv_lk M j _ = _; unfold mv_lk; rw [hk]; show mv_chk _ _ = _; rw [hc]; rfl)
theorem s_newa {ty : ArrayType} {n : Int32} (hl : mv_look M.2.2.2.1 32 pc = some (.newarray ty, t, sw)) : mv_run X call M pc ls (.int n :: st) h = mv_newa h (newarray.typeOf ty) (defaultValue (newarray.typeOf ty)) n fun a h => mv_run X call M (pc + 2) ls (.ref a :: st) h := (mv_step hl).trans rfl
theorem s_newa_int {n : Int32} (hl : mv_look M.2.2.2.1 32 pc = some (.newarray .int, t, sw)) : mv_run X call M pc ls (.int n :: st) h = mv_newa h .int (.int 0) n fun a h => mv_run X call M (pc + 2) ls (.ref a :: st) h := s_newa hl
theorem s_newa_char {n : Int32} (hl : mv_look M.2.2.2.1 32 pc = some (.newarray .char, t, sw)) : mv_run X call M pc ls (.int n :: st) h = mv_newa h .char (.int 0) n fun a h => mv_run X call M (pc + 2) ls (.ref a :: st) h := s_newa hl
theorem s_newa_byte {n : Int32} (hl : mv_look M.2.2.2.1 32 pc = some (.newarray .byte, t, sw)) : mv_run X call M pc ls (.int n :: st) h = mv_newa h .byte (.int 0) n fun a h => mv_run X call M (pc + 2) ls (.ref a :: st) h := s_newa hl
theorem s_newa_long {n : Int32} (hl : mv_look M.2.2.2.1 32 pc = some (.newarray .long, t, sw)) : mv_run X call M pc ls (.int n :: st) h = mv_newa h .long (.long 0) n fun a h => mv_run X call M (pc + 2) ls (.ref a :: st) h := s_newa hl
theorem s_newa_double {n : Int32} (hl : mv_look M.2.2.2.1 32 pc = some (.newarray .double, t, sw)) : mv_run X call M pc ls (.int n :: st) h = mv_newa h .double (.double 0) n fun a h => mv_run X call M (pc + 2) ls (.ref a :: st) h := s_newa hl
theorem s_anewa {j c : Nat} {n : Int32} {z : Nat × Nat × Nat} (hl : mv_look M.2.2.2.1 32 pc = some (.anewarray j, t, sw)) (hk : mv_look M.2.2.2.2.1 16 j = some (10, c, z)) : mv_run X call M pc ls (.int n :: st) h = mv_newa h (.object (mv_cn c)) .null n fun a h => mv_run X call M (pc + 3) ls (.ref a :: st) h := (mv_step hl).trans (by show mv_lk M j _ = _; unfold mv_lk; rw [hk]; rfl)
theorem s_v0 {j y n c : Nat} (as rest : List Value) (hl : mv_look M.2.2.2.1 32 pc = some (.invokevirtual j, t, sw)) (hk : mv_look M.2.2.2.2.1 16 j = some (20, y, n, c, 0)) (ha : ∀ f, mv_args st (n + 1) f = f as rest) : mv_run X call M pc ls st h = mv_rcv X h as c (mv_clV call y as h (mv_thr M.2.2.2.2.2 pc ls (mv_run X call M)) fun h => mv_run X call M (pc + 3) ls rest h) := (mv_step hl).trans (by show mv_lk M j _ = _; unfold mv_lk; rw [hk]; show mv_inv X call M (mv_run X call M) pc ls st h 20 y n c 0 = _; rw [mv_inv, ha]; rfl)
theorem s_u0 {j y n c : Nat} (as rest : List Value) (hl : mv_look M.2.2.2.1 32 pc = some (.invokespecial j, t, sw)) (hk : mv_look M.2.2.2.2.1 16 j = some (25, y, n, c, 0)) (ha : ∀ f, mv_args st (n + 1) f = f as rest) : mv_run X call M pc ls st h = mv_rcv X h as c (mv_clV call y as h (mv_thr M.2.2.2.2.2 pc ls (mv_run X call M)) fun h => mv_run X call M (pc + 3) ls rest h) := (mv_step hl).trans (by show mv_lk M j _ = _; unfold mv_lk; rw [hk]; show mv_inv X call M (mv_run X call M) pc ls st h 25 y n c 0 = _; rw [mv_inv, ha]; rfl)
theorem s_s0 {j y n c : Nat} (as rest : List Value) (hl : mv_look M.2.2.2.1 32 pc = some (.invokestatic j, t, sw)) (hk : mv_look M.2.2.2.2.1 16 j = some (21, y, n, c, 0)) (ha : ∀ f, mv_args st (n) f = f as rest) : mv_run X call M pc ls st h = mv_clV call y as h (mv_thr M.2.2.2.2.2 pc ls (mv_run X call M)) fun h => mv_run X call M (pc + 3) ls rest h := (mv_step hl).trans (by show mv_lk M j _ = _; unfold mv_lk; rw [hk]; show mv_inv X call M (mv_run X call M) pc ls st h 21 y n c 0 = _; rw [mv_inv, ha]; rfl)
theorem s_i0 {j y n c b : Nat} (as rest : List Value) (hl : mv_look M.2.2.2.1 32 pc = some (.invokespecial j, t, sw)) (hk : mv_look M.2.2.2.2.1 16 j = some (22, y, n, c, 0)) (ha : ∀ f, mv_args st (n + 1) f = f (.ref b :: as) rest) : mv_run X call M pc ls st h = mv_clV call y (.ref b :: as) h (mv_thr M.2.2.2.2.2 pc ls (mv_run X call M)) fun h => mv_run X call M (pc + 3) ls rest h := (mv_step hl).trans (by show mv_lk M j _ = _; unfold mv_lk; rw [hk]; show mv_inv X call M (mv_run X call M) pc ls st h 22 y n c 0 = _; rw [mv_inv, ha]; rfl)
theorem s_v1 {j y n c : Nat} (as rest : List Value) (hl : mv_look M.2.2.2.1 32 pc = some (.invokevirtual j, t, sw)) (hk : mv_look M.2.2.2.2.1 16 j = some (20, y, n, c, 1)) (ha : ∀ f, mv_args st (n + 1) f = f as rest) : mv_run X call M pc ls st h = mv_rcv X h as c (mv_clI call y as h (mv_thr M.2.2.2.2.2 pc ls (mv_run X call M)) fun x h => mv_run X call M (pc + 3) ls (.int x :: rest) h) := (mv_step hl).trans (by show mv_lk M j _ = _; unfold mv_lk; rw [hk]; show mv_inv X call M (mv_run X call M) pc ls st h 20 y n c 1 = _; rw [mv_inv, ha]; rfl)
theorem s_u1 {j y n c : Nat} (as rest : List Value) (hl : mv_look M.2.2.2.1 32 pc = some (.invokespecial j, t, sw)) (hk : mv_look M.2.2.2.2.1 16 j = some (25, y, n, c, 1)) (ha : ∀ f, mv_args st (n + 1) f = f as rest) : mv_run X call M pc ls st h = mv_rcv X h as c (mv_clI call y as h (mv_thr M.2.2.2.2.2 pc ls (mv_run X call M)) fun x h => mv_run X call M (pc + 3) ls (.int x :: rest) h) := (mv_step hl).trans (by show mv_lk M j _ = _; unfold mv_lk; rw [hk]; show mv_inv X call M (mv_run X call M) pc ls st h 25 y n c 1 = _; rw [mv_inv, ha]; rfl)
theorem s_s1 {j y n c : Nat} (as rest : List Value) (hl : mv_look M.2.2.2.1 32 pc = some (.invokestatic j, t, sw)) (hk : mv_look M.2.2.2.2.1 16 j = some (21, y, n, c, 1)) (ha : ∀ f, mv_args st (n) f = f as rest) : mv_run X call M pc ls st h = mv_clI call y as h (mv_thr M.2.2.2.2.2 pc ls (mv_run X call M)) fun x h => mv_run X call M (pc + 3) ls (.int x :: rest) h := (mv_step hl).trans (by show mv_lk M j _ = _; unfold mv_lk; rw [hk]; show mv_inv X call M (mv_run X call M) pc ls st h 21 y n c 1 = _; rw [mv_inv, ha]; rfl)
theorem s_i1 {j y n c b : Nat} (as rest : List Value) (hl : mv_look M.2.2.2.1 32 pc = some (.invokespecial j, t, sw)) (hk : mv_look M.2.2.2.2.1 16 j = some (22, y, n, c, 1)) (ha : ∀ f, mv_args st (n + 1) f = f (.ref b :: as) rest) : mv_run X call M pc ls st h = mv_clI call y (.ref b :: as) h (mv_thr M.2.2.2.2.2 pc ls (mv_run X call M)) fun x h => mv_run X call M (pc + 3) ls (.int x :: rest) h := (mv_step hl).trans (by show mv_lk M j _ = _; unfold mv_lk; rw [hk]; show mv_inv X call M (mv_run X call M) pc ls st h 22 y n c 1 = _; rw [mv_inv, ha]; rfl)
theorem s_v2 {j y n c : Nat} (as rest : List Value) (hl : mv_look M.2.2.2.1 32 pc = some (.invokevirtual j, t, sw)) (hk : mv_look M.2.2.2.2.1 16 j = some (20, y, n, c, 2)) (ha : ∀ f, mv_args st (n + 1) f = f as rest) : mv_run X call M pc ls st h = mv_rcv X h as c (mv_clR call y as h (mv_thr M.2.2.2.2.2 pc ls (mv_run X call M)) fun x h => mv_run X call M (pc + 3) ls (.ref x :: rest) h) := (mv_step hl).trans (by show mv_lk M j _ = _; unfold mv_lk; rw [hk]; show mv_inv X call M (mv_run X call M) pc ls st h 20 y n c 2 = _; rw [mv_inv, ha]; rfl)
theorem s_u2 {j y n c : Nat} (as rest : List Value) (hl : mv_look M.2.2.2.1 32 pc = some (.invokespecial j, t, sw)) (hk : mv_look M.2.2.2.2.1 16 j = some (25, y, n, c, 2)) (ha : ∀ f, mv_args st (n + 1) f = f as rest) : mv_run X call M pc ls st h = mv_rcv X h as c (mv_clR call y as h (mv_thr M.2.2.2.2.2 pc ls (mv_run X call M)) fun x h => mv_run X call M (pc + 3) ls (.ref x :: rest) h) := (mv_step hl).trans (by show mv_lk M j _ = _; unfold mv_lk; rw [hk]; show mv_inv X call M (mv_run X call M) pc ls st h 25 y n c 2 = _; rw [mv_inv, ha]; rfl)
theorem s_s2 {j y n c : Nat} (as rest : List Value) (hl : mv_look M.2.2.2.1 32 pc = some (.invokestatic j, t, sw)) (hk : mv_look M.2.2.2.2.1 16 j = some (21, y, n, c, 2)) (ha : ∀ f, mv_args st (n) f = f as rest) : mv_run X call M pc ls st h = mv_clR call y as h (mv_thr M.2.2.2.2.2 pc ls (mv_run X call M)) fun x h => mv_run X call M (pc + 3) ls (.ref x :: rest) h := (mv_step hl).trans (by show mv_lk M j _ = _; unfold mv_lk; rw [hk]; show mv_inv X call M (mv_run X call M) pc ls st h 21 y n c 2 = _; rw [mv_inv, ha]; rfl)
theorem s_i2 {j y n c b : Nat} (as rest : List Value) (hl : mv_look M.2.2.2.1 32 pc = some (.invokespecial j, t, sw)) (hk : mv_look M.2.2.2.2.1 16 j = some (22, y, n, c, 2)) (ha : ∀ f, mv_args st (n + 1) f = f (.ref b :: as) rest) : mv_run X call M pc ls st h = mv_clR call y (.ref b :: as) h (mv_thr M.2.2.2.2.2 pc ls (mv_run X call M)) fun x h => mv_run X call M (pc + 3) ls (.ref x :: rest) h := (mv_step hl).trans (by show mv_lk M j _ = _; unfold mv_lk; rw [hk]; show mv_inv X call M (mv_run X call M) pc ls st h 22 y n c 2 = _; rw [mv_inv, ha]; rfl)
theorem s_v4 {j y n c : Nat} (as rest : List Value) (hl : mv_look M.2.2.2.1 32 pc = some (.invokevirtual j, t, sw)) (hk : mv_look M.2.2.2.2.1 16 j = some (20, y, n, c, 4)) (ha : ∀ f, mv_args st (n + 1) f = f as rest) : mv_run X call M pc ls st h = mv_rcv X h as c (mv_clF call y as h (mv_thr M.2.2.2.2.2 pc ls (mv_run X call M)) fun x h => mv_run X call M (pc + 3) ls (.float x :: rest) h) := (mv_step hl).trans (by show mv_lk M j _ = _; unfold mv_lk; rw [hk]; show mv_inv X call M (mv_run X call M) pc ls st h 20 y n c 4 = _; rw [mv_inv, ha]; rfl)
theorem s_u4 {j y n c : Nat} (as rest : List Value) (hl : mv_look M.2.2.2.1 32 pc = some (.invokespecial j, t, sw)) (hk : mv_look M.2.2.2.2.1 16 j = some (25, y, n, c, 4)) (ha : ∀ f, mv_args st (n + 1) f = f as rest) : mv_run X call M pc ls st h = mv_rcv X h as c (mv_clF call y as h (mv_thr M.2.2.2.2.2 pc ls (mv_run X call M)) fun x h => mv_run X call M (pc + 3) ls (.float x :: rest) h) := (mv_step hl).trans (by show mv_lk M j _ = _; unfold mv_lk; rw [hk]; show mv_inv X call M (mv_run X call M) pc ls st h 25 y n c 4 = _; rw [mv_inv, ha]; rfl)
theorem s_s4 {j y n c : Nat} (as rest : List Value) (hl : mv_look M.2.2.2.1 32 pc = some (.invokestatic j, t, sw)) (hk : mv_look M.2.2.2.2.1 16 j = some (21, y, n, c, 4)) (ha : ∀ f, mv_args st (n) f = f as rest) : mv_run X call M pc ls st h = mv_clF call y as h (mv_thr M.2.2.2.2.2 pc ls (mv_run X call M)) fun x h => mv_run X call M (pc + 3) ls (.float x :: rest) h := (mv_step hl).trans (by show mv_lk M j _ = _; unfold mv_lk; rw [hk]; show mv_inv X call M (mv_run X call M) pc ls st h 21 y n c 4 = _; rw [mv_inv, ha]; rfl)
theorem s_i4 {j y n c b : Nat} (as rest : List Value) (hl : mv_look M.2.2.2.1 32 pc = some (.invokespecial j, t, sw)) (hk : mv_look M.2.2.2.2.1 16 j = some (22, y, n, c, 4)) (ha : ∀ f, mv_args st (n + 1) f = f (.ref b :: as) rest) : mv_run X call M pc ls st h = mv_clF call y (.ref b :: as) h (mv_thr M.2.2.2.2.2 pc ls (mv_run X call M)) fun x h => mv_run X call M (pc + 3) ls (.float x :: rest) h := (mv_step hl).trans (by show mv_lk M j _ = _; unfold mv_lk; rw [hk]; show mv_inv X call M (mv_run X call M) pc ls st h 22 y n c 4 = _; rw [mv_inv, ha]; rfl)
theorem s_v5 {j y n c : Nat} (as rest : List Value) (hl : mv_look M.2.2.2.1 32 pc = some (.invokevirtual j, t, sw)) (hk : mv_look M.2.2.2.2.1 16 j = some (20, y, n, c, 5)) (ha : ∀ f, mv_args st (n + 1) f = f as rest) : mv_run X call M pc ls st h = mv_rcv X h as c (mv_clD call y as h (mv_thr M.2.2.2.2.2 pc ls (mv_run X call M)) fun x h => mv_run X call M (pc + 3) ls (.double x :: rest) h) := (mv_step hl).trans (by show mv_lk M j _ = _; unfold mv_lk; rw [hk]; show mv_inv X call M (mv_run X call M) pc ls st h 20 y n c 5 = _; rw [mv_inv, ha]; rfl)
theorem s_u5 {j y n c : Nat} (as rest : List Value) (hl : mv_look M.2.2.2.1 32 pc = some (.invokespecial j, t, sw)) (hk : mv_look M.2.2.2.2.1 16 j = some (25, y, n, c, 5)) (ha : ∀ f, mv_args st (n + 1) f = f as rest) : mv_run X call M pc ls st h = mv_rcv X h as c (mv_clD call y as h (mv_thr M.2.2.2.2.2 pc ls (mv_run X call M)) fun x h => mv_run X call M (pc + 3) ls (.double x :: rest) h) := (mv_step hl).trans (by show mv_lk M j _ = _; unfold mv_lk; rw [hk]; show mv_inv X call M (mv_run X call M) pc ls st h 25 y n c 5 = _; rw [mv_inv, ha]; rfl)
theorem s_s5 {j y n c : Nat} (as rest : List Value) (hl : mv_look M.2.2.2.1 32 pc = some (.invokestatic j, t, sw)) (hk : mv_look M.2.2.2.2.1 16 j = some (21, y, n, c, 5)) (ha : ∀ f, mv_args st (n) f = f as rest) : mv_run X call M pc ls st h = mv_clD call y as h (mv_thr M.2.2.2.2.2 pc ls (mv_run X call M)) fun x h => mv_run X call M (pc + 3) ls (.double x :: rest) h := (mv_step hl).trans (by show mv_lk M j _ = _; unfold mv_lk; rw [hk]; show mv_inv X call M (mv_run X call M) pc ls st h 21 y n c 5 = _; rw [mv_inv, ha]; rfl)
theorem s_i5 {j y n c b : Nat} (as rest : List Value) (hl : mv_look M.2.2.2.1 32 pc = some (.invokespecial j, t, sw)) (hk : mv_look M.2.2.2.2.1 16 j = some (22, y, n, c, 5)) (ha : ∀ f, mv_args st (n + 1) f = f (.ref b :: as) rest) : mv_run X call M pc ls st h = mv_clD call y (.ref b :: as) h (mv_thr M.2.2.2.2.2 pc ls (mv_run X call M)) fun x h => mv_run X call M (pc + 3) ls (.double x :: rest) h := (mv_step hl).trans (by show mv_lk M j _ = _; unfold mv_lk; rw [hk]; show mv_inv X call M (mv_run X call M) pc ls st h 22 y n c 5 = _; rw [mv_inv, ha]; rfl)
theorem s_oinit {j a : Nat} {z : Nat × Nat × Nat × Nat} (rest : List Value) (hl : mv_look M.2.2.2.1 32 pc = some (.invokespecial j, t, sw)) (hk : mv_look M.2.2.2.2.1 16 j = some (23, z)) (ha : ∀ f, mv_args st 1 f = f [.ref a] rest) : mv_run X call M pc ls st h = mv_run X call M (pc + 3) ls rest h := (mv_step hl).trans (by show mv_lk M j _ = _; unfold mv_lk; rw [hk]; show mv_inv X call M (mv_run X call M) pc ls st h 23 z.1 z.2.1 z.2.2.1 z.2.2.2 = _; rw [mv_inv, ha])
theorem s_cpy {j a0 a1 : Nat} {sp dp n : Int32} {z : Nat × Nat × Nat × Nat} (rest : List Value) (hl : mv_look M.2.2.2.1 32 pc = some (.invokestatic j, t, sw)) (hk : mv_look M.2.2.2.2.1 16 j = some (24, z)) (ha : ∀ f, mv_args st 5 f = f [.ref a0, .int sp, .ref a1, .int dp, .int n] rest) : mv_run X call M pc ls st h = mv_cpy h a0 sp a1 dp n fun h => mv_run X call M (pc + 3) ls rest h := (mv_step hl).trans (by show mv_lk M j _ = _; unfold mv_lk; rw [hk]; show mv_inv X call M (mv_run X call M) pc ls st h 24 z.1 z.2.1 z.2.2.1 z.2.2.2 = _; rw [mv_inv, ha])
theorem s_iret {x : Int32} (hl : mv_look M.2.2.2.1 32 pc = some (.ireturn, t, sw)) : mv_run X call M pc ls [.int x] h = mv_chk (mv_ok M.2.2.1 x) (some (.inl (some (.int x)), h)) := (mv_step hl).trans rfl
theorem s_iret1 {x : Int32} (hl : mv_look M.2.2.2.1 32 pc = some (.ireturn, t, sw)) (hr : M.2.2.1 = 1) : mv_run X call M pc ls [.int x] h = some (.inl (some (.int x)), h) := (s_iret hl).trans (by rw [hr]; rfl)
theorem s_iretb {x : Int32} (hl : mv_look M.2.2.2.1 32 pc = some (.ireturn, t, sw)) (hr : mv_ok M.2.2.1 x = true) : mv_run X call M pc ls [.int x] h = some (.inl (some (.int x)), h) := (s_iret hl).trans (by rw [hr]; rfl)
theorem s_areturn {x : Nat} (hl : mv_look M.2.2.2.1 32 pc = some (.areturn, t, sw)) (hr : M.2.2.1 = 2) : mv_run X call M pc ls [.ref x] h = some (.inl (some (.ref x)), h) := (mv_step hl).trans (by show mv_chk (true && Nat.beq M.2.2.1 2) _ = _; rw [hr]; rfl)
theorem s_freturn {x : UInt32} (hl : mv_look M.2.2.2.1 32 pc = some (.freturn, t, sw)) (hr : M.2.2.1 = 4) : mv_run X call M pc ls [.float x] h = some (.inl (some (.float x)), h) := (mv_step hl).trans (by show mv_chk (true && Nat.beq M.2.2.1 4) _ = _; rw [hr]; rfl)
theorem s_dreturn {x : UInt64} (hl : mv_look M.2.2.2.1 32 pc = some (.dreturn, t, sw)) (hr : M.2.2.1 = 5) : mv_run X call M pc ls [.double x] h = some (.inl (some (.double x)), h) := (mv_step hl).trans (by show mv_chk (true && Nat.beq M.2.2.1 5) _ = _; rw [hr]; rfl)
theorem s_dead (i : Instr) (hl : mv_look M.2.2.2.1 32 pc = some (i, t, sw)) (hd : mv_E X call M (mv_run X call M) i t sw pc ls st h = none) : mv_run X call M pc ls st h = none := (mv_step hl).trans hd
theorem s_ret (hl : mv_look M.2.2.2.1 32 pc = some (.return_, t, sw)) (hr : M.2.2.1 = 0) : mv_run X call M pc ls [] h = some (.inl none, h) := (mv_step hl).trans (by show mv_chk (true && Nat.beq M.2.2.1 0) _ = _; rw [hr]; rfl)
end MVS
theorem c_ite {P : Prop} {d : Decidable P} {a a' b b' : Option mv_R} (ha : a = a') (hb : b = b') : @ite _ P d a b = @ite _ P d a' b' := by rw [ha, hb]
theorem c_chk {b : Bool} {a a' : Option mv_R} (ha : a = a') : mv_chk b a = mv_chk b a' := by rw [ha]
theorem c_gI {X : mv_X} {h : mv_H} {a c n : Nat} {f g : Int32 → Option mv_R} (e : ∀ x, f x = g x) : mv_gI X h a c n f = mv_gI X h a c n g := by rw [funext e]
theorem c_gR {X : mv_X} {h : mv_H} {a c n : Nat} {f g : Nat → Option mv_R} (e : ∀ x, f x = g x) : mv_gR X h a c n f = mv_gR X h a c n g := by rw [funext e]
theorem c_int {v : Value} {f g : Int32 → Option mv_R} (e : ∀ x, f x = g x) : mv_int v f = mv_int v g := by rw [funext e]
theorem c_ref {v : Value} {f g : Nat → Option mv_R} (e : ∀ x, f x = g x) : mv_ref v f = mv_ref v g := by rw [funext e]
theorem c_pf {h : mv_H} {a c n : Nat} {v : Value} {f g : mv_H → Option mv_R} (e : ∀ x, f x = g x) : mv_pf h a c n v f = mv_pf h a c n v g := by rw [funext e]
theorem c_aR {X : mv_X} {h : mv_H} {a : Nat} {i : Int32} {f g : Nat → Option mv_R} (e : ∀ x, f x = g x) : mv_aR X h a i f = mv_aR X h a i g := by rw [funext e]
theorem c_aL {X : mv_X} {h : mv_H} {a : Nat} {i : Int32} {f g : Int64 → Option mv_R} (e : ∀ x, f x = g x) : mv_aL X h a i f = mv_aL X h a i g := by rw [funext e]
theorem c_aD {X : mv_X} {h : mv_H} {a : Nat} {i : Int32} {f g : UInt64 → Option mv_R} (e : ∀ x, f x = g x) : mv_aD X h a i f = mv_aD X h a i g := by rw [funext e]
theorem c_aI {X : mv_X} {h : mv_H} {k a : Nat} {i : Int32} {f g : Int32 → Option mv_R} (e : ∀ x, f x = g x) : mv_aI X h k a i f = mv_aI X h k a i g := by rw [funext e]
theorem c_len {X : mv_X} {h : mv_H} {a : Nat} {f g : Int32 → Option mv_R} (e : ∀ x, f x = g x) : mv_len X h a f = mv_len X h a g := by rw [funext e]
theorem c_as {h : mv_H} {k a : Nat} {i : Int32} {v : Value} {f g : mv_H → Option mv_R} (e : ∀ x, f x = g x) : mv_as h k a i v f = mv_as h k a i v g := by rw [funext e]
theorem c_aa {h : mv_H} {a b : Nat} {i : Int32} {f g : mv_H → Option mv_R} (e : ∀ x, f x = g x) : mv_aa h a i b f = mv_aa h a i b g := by rw [funext e]
theorem c_new {h : mv_H} {c : mv_C} {n : Nat} {f g : Nat → mv_H → Option mv_R} (e : ∀ a x, f a x = g a x) : mv_new h c n f = mv_new h c n g := e _ _
theorem c_newa {h : mv_H} {t : FieldType} {v : Value} {n : Int32} {f g : Nat → mv_H → Option mv_R} (e : ∀ a x, f a x = g a x) : mv_newa h t v n f = mv_newa h t v n g := by rw [funext fun a => funext (e a)]
theorem c_cpy {h : mv_H} {a0 a1 : Nat} {sp dp n : Int32} {f g : mv_H → Option mv_R} (e : ∀ x, f x = g x) : mv_cpy h a0 sp a1 dp n f = mv_cpy h a0 sp a1 dp n g := by rw [funext e]
theorem c_rcv {X : mv_X} {h : mv_H} {as : List Value} {c : Nat} {f g : Option mv_R} (e : f = g) : mv_rcv X h as c f = mv_rcv X h as c g := by rw [e]
theorem c_clV {call : mv_G} {y : Nat} {as : List Value} {h : mv_H} {r : Nat → Nat → mv_H → Option mv_R} {f g : mv_H → Option mv_R} (e : ∀ x, f x = g x) : mv_clV call y as h r f = mv_clV call y as h r g := by rw [funext e]
theorem c_clI {call : mv_G} {y : Nat} {as : List Value} {h : mv_H} {r : Nat → Nat → mv_H → Option mv_R} {f g : Int32 → mv_H → Option mv_R} (e : ∀ x h, f x h = g x h) : mv_clI call y as h r f = mv_clI call y as h r g := by rw [funext fun a => funext (e a)]
theorem c_clR {call : mv_G} {y : Nat} {as : List Value} {h : mv_H} {r : Nat → Nat → mv_H → Option mv_R} {f g : Nat → mv_H → Option mv_R} (e : ∀ x h, f x h = g x h) : mv_clR call y as h r f = mv_clR call y as h r g := by rw [funext fun a => funext (e a)]
theorem c_clF {call : mv_G} {y : Nat} {as : List Value} {h : mv_H} {r : Nat → Nat → mv_H → Option mv_R} {f g : UInt32 → mv_H → Option mv_R} (e : ∀ x h, f x h = g x h) : mv_clF call y as h r f = mv_clF call y as h r g := by rw [funext fun a => funext (e a)]
theorem c_clD {call : mv_G} {y : Nat} {as : List Value} {h : mv_H} {r : Nat → Nat → mv_H → Option mv_R} {f g : UInt64 → mv_H → Option mv_R} (e : ∀ x h, f x h = g x h) : mv_clD call y as h r f = mv_clD call y as h r g := by rw [funext fun a => funext (e a)]
theorem c_swc {x : Int32} {t : Nat} {f : Nat → Option mv_R} {v : Int} {tg : Nat} {r : List (Int × Nat)} {a b : Option mv_R} (ha : f tg = a) (hb : mv_sw x t f r = b) : mv_sw x t f ((v, tg) :: r) = if x = nZ v then a else b := by show (if x = nZ v then f tg else mv_sw x t f r) = _; rw [ha, hb]
theorem c_swn {x : Int32} {t : Nat} {f : Nat → Option mv_R} {a : Option mv_R} (ha : f t = a) : mv_sw x t f [] = a := ha
theorem c_chkH {b : Bool} {a a' : Option mv_R} (ha : b = true → a = a') : mv_chk b a = mv_chk b a' := by
  cases b
  · rfl
  · exact ha rfl
theorem mv_nr_cat {v : Value} (h : mv_nr v = true) : v.category = 1 := by cases v <;> first | rfl | cases h
theorem mv_args_J {v : Value} (hb : mv_nr v = true) {a b : Int32} (f : List Value → List Value → Option mv_R) : mv_args [v, .int b, .int a] 3 f = f [.int a, .int b, v] [] := by
  have h := mv_nr_cat hb
  have e : (Nat.ble 3 [v, .int b, .int a].length && Nat.ble [v, .int b, .int a].length (3 + 8) && [v, .int b, .int a].all fun w => Nat.beq w.category 1) = true := by
    show (true && (Nat.beq v.category 1 && true)) = true
    rw [h]
    rfl
  unfold mv_args
  rw [e]
  rfl
end
section
theorem mc_J5_init_d00df (X : mv_X) (d : Nat) (h : mv_H) (a0 : Nat) (v1 : Int32) : mv_call X (d + 1) 253 [.ref a0, .int v1] h = mv_run X (mv_call X d) m_J5_init_d00df 0 [.ref a0, .int v1] [] h := rfl
theorem bk_J5_init_d00df_0 (X : mv_X) (call : mv_G) (h : mv_H) (a0 : Nat) (v1 : Int32) : mv_run X call m_J5_init_d00df 0 [.ref a0, .int v1] [] h =
  mv_int (X.2.2 0) fun x1 =>
  if x1 = 0 then 
  (none)
  else (mv_newa h .byte (.int 0) v1 fun r1 h1 =>
    mv_pf h1 a0 1 0 (.ref r1) fun h2 =>
    mv_chk (mv_ok 8 (nZ 0)) (mv_pf h2 a0 1 1 (.int (nZ 0)) fun h3 =>
    (some (.inl none, h3)))) :=
  (s_aload_n rfl rfl).trans <| (s_oinit [] rfl rfl (fun _ => rfl)).trans <| (s_gs6 rfl rfl).trans <| c_int fun x1 => (s_if_eq rfl).trans <| c_ite ((s_aload_n rfl rfl).trans <| (s_iload_n rfl rfl).trans <| s_dead (.invokestatic 26) rfl rfl) ((s_aload_n rfl rfl).trans <| (s_iload_n rfl rfl).trans <| (s_newa_byte rfl).trans <| c_newa fun r1 h1 => (s_pf2 rfl rfl).trans <| c_pf fun h2 => (s_aload_n rfl rfl).trans <| (s_iconst rfl).trans <| (s_pf8 rfl rfl).trans <| c_chk <| c_pf fun h3 => (s_goto rfl).trans <| s_ret rfl rfl)
theorem mc_J5_length_8abf5 (X : mv_X) (d : Nat) (h : mv_H) (a0 : Nat) : mv_call X (d + 1) 254 [.ref a0] h = mv_run X (mv_call X d) m_J5_length_8abf5 0 [.ref a0] [] h := rfl
theorem bk_J5_length_8abf5_0 (X : mv_X) (call : mv_G) (h : mv_H) (a0 : Nat) : mv_run X call m_J5_length_8abf5 0 [.ref a0] [] h =
  mv_gI X h a0 1 3 fun x1 =>
  (some (.inl (some (.int x1)), h)) :=
  (s_aload_n rfl rfl).trans <| (s_gf1 rfl rfl).trans <| c_gI fun x1 => s_iret1 rfl rfl
theorem mc_J5_ensureCapacityInternal_d00df (X : mv_X) (d : Nat) (h : mv_H) (a0 : Nat) (v1 : Int32) : mv_call X (d + 1) 255 [.ref a0, .int v1] h = mv_run X (mv_call X d) m_J5_ensureCapacityInternal_d00df 0 [.ref a0, .int v1, .retAddr 0] [] h := rfl
theorem bk_J5_ensureCapacityInternal_d00df_0 (X : mv_X) (call : mv_G) (h : mv_H) (a0 : Nat) (v1 : Int32) : mv_run X call m_J5_ensureCapacityInternal_d00df 0 [.ref a0, .int v1, .retAddr 0] [] h =
  mv_gR X h a0 1 0 fun r1 =>
  mv_len X h r1 fun x1 =>
  mv_gI X h a0 1 1 fun x2 =>
  if (v1 - (x1 >>> (x2 &&& 31))) ≤ 0 then 
  ((some (.inl none, h)))
  else (mv_gR X h a0 1 0 fun r2 =>
    mv_rcv X h [.ref a0, .int v1] 1 (mv_clI call 256 [.ref a0, .int v1] h mv_raise fun x3 h1 =>
    mv_gI X h1 a0 1 1 fun x4 =>
    mv_clR call 282 [.ref r2, .int (x3 <<< (x4 &&& 31))] h1 mv_raise fun r3 h2 =>
    mv_pf h2 a0 1 0 (.ref r3) fun h3 =>
    (some (.inl none, h3)))) :=
  (s_aload_n rfl rfl).trans <| (s_gf2 rfl rfl).trans <| c_gR fun r1 => (s_alen rfl).trans <| c_len fun x1 => (s_aload_n rfl rfl).trans <| (s_gf8 rfl rfl).trans <| c_gI fun x2 => (s_ishr rfl).trans <| (s_istore_n (ls2 := [.ref a0, .int v1, .int (x1 >>> (x2 &&& 31))]) rfl (fun _ => rfl)).trans <| (s_iload_n rfl rfl).trans <| (s_iload_n rfl rfl).trans <| (s_isub rfl).trans <| (s_if_le rfl).trans <| c_ite (s_ret rfl rfl) ((s_aload_n rfl rfl).trans <| (s_aload_n rfl rfl).trans <| (s_gf2 rfl rfl).trans <| c_gR fun r2 => (s_aload_n rfl rfl).trans <| (s_iload_n rfl rfl).trans <| (s_v1 [.ref a0, .int v1] [.ref r2, .ref a0] rfl rfl (fun _ => rfl)).trans <| c_rcv <| c_clI fun x3 h1 => (s_aload_n rfl rfl).trans <| (s_gf8 rfl rfl).trans <| c_gI fun x4 => (s_ishl rfl).trans <| (s_s2 [.ref r2, .int (x3 <<< (x4 &&& 31))] [.ref a0] rfl rfl (fun _ => rfl)).trans <| c_clR fun r3 h2 => (s_pf2 rfl rfl).trans <| c_pf fun h3 => s_ret rfl rfl)
theorem mc_J5_newCapacity_0f7a4 (X : mv_X) (d : Nat) (h : mv_H) (a0 : Nat) (v1 : Int32) : mv_call X (d + 1) 256 [.ref a0, .int v1] h = mv_run X (mv_call X d) m_J5_newCapacity_0f7a4 0 [.ref a0, .int v1, .retAddr 0, .retAddr 0, .retAddr 0, .retAddr 0] [] h := rfl
theorem bk_J5_newCapacity_0f7a4_0 (X : mv_X) (call : mv_G) (h : mv_H) (a0 : Nat) (v1 : Int32) : mv_run X call m_J5_newCapacity_0f7a4 0 [.ref a0, .int v1, .retAddr 0, .retAddr 0, .retAddr 0, .retAddr 0] [] h =
  mv_gR X h a0 1 0 fun r1 =>
  mv_len X h r1 fun x1 =>
  mv_gI X h a0 1 1 fun x2 =>
  mv_gI X h a0 1 1 fun x3 =>
  mv_clI call 283 [.int x1, .int ((v1 <<< (x2 &&& 31)) - x1), .int (x1 + ((nZ 2) <<< (x3 &&& 31)))] h mv_raise fun x4 h1 =>
  if x4 = (nZ 2147483647) then 
  (none)
  else (mv_gI X h1 a0 1 1 fun x5 =>
    (some (.inl (some (.int (x4 >>> (x5 &&& 31)))), h1))) :=
  (s_aload_n rfl rfl).trans <| (s_gf2 rfl rfl).trans <| c_gR fun r1 => (s_alen rfl).trans <| c_len fun x1 => (s_istore_n (ls2 := [.ref a0, .int v1, .int x1, .retAddr 0, .retAddr 0, .retAddr 0]) rfl (fun _ => rfl)).trans <| (s_iload_n rfl rfl).trans <| (s_aload_n rfl rfl).trans <| (s_gf8 rfl rfl).trans <| c_gI fun x2 => (s_ishl rfl).trans <| (s_istore_n (ls2 := [.ref a0, .int v1, .int x1, .int (v1 <<< (x2 &&& 31)), .retAddr 0, .retAddr 0]) rfl (fun _ => rfl)).trans <| (s_iload_n rfl rfl).trans <| (s_iload_n rfl rfl).trans <| (s_isub rfl).trans <| (s_istore (ls2 := [.ref a0, .int v1, .int x1, .int (v1 <<< (x2 &&& 31)), .int ((v1 <<< (x2 &&& 31)) - x1), .retAddr 0]) rfl (fun _ => rfl)).trans <| (s_iload_n rfl rfl).trans <| (s_iload rfl rfl).trans <| (s_iload_n rfl rfl).trans <| (s_iconst rfl).trans <| (s_aload_n rfl rfl).trans <| (s_gf8 rfl rfl).trans <| c_gI fun x3 => (s_ishl rfl).trans <| (s_iadd rfl).trans <| (s_s1 [.int x1, .int ((v1 <<< (x2 &&& 31)) - x1), .int (x1 + ((nZ 2) <<< (x3 &&& 31)))] [] rfl rfl (fun _ => rfl)).trans <| c_clI fun x4 h1 => (s_istore (ls2 := [.ref a0, .int v1, .int x1, .int (v1 <<< (x2 &&& 31)), .int ((v1 <<< (x2 &&& 31)) - x1), .int x4]) rfl (fun _ => rfl)).trans <| (s_iload rfl rfl).trans <| (s_ldcI 2147483647 rfl).trans <| (s_icmp_ne rfl).trans <| c_ite (s_dead (.new 120) rfl rfl) ((s_iload rfl rfl).trans <| (s_aload_n rfl rfl).trans <| (s_gf8 rfl rfl).trans <| c_gI fun x5 => (s_ishr rfl).trans <| s_iret1 rfl rfl)
theorem mc_J5_setLength_d00df (X : mv_X) (d : Nat) (h : mv_H) (a0 : Nat) (v1 : Int32) : mv_call X (d + 1) 257 [.ref a0, .int v1] h = mv_run X (mv_call X d) m_J5_setLength_d00df 0 [.ref a0, .int v1] [] h := rfl
theorem bk_J5_setLength_d00df_0 (X : mv_X) (call : mv_G) (h : mv_H) (a0 : Nat) (v1 : Int32) : mv_run X call m_J5_setLength_d00df 0 [.ref a0, .int v1] [] h =
  if 0 ≤ v1 then 
  (mv_rcv X h [.ref a0, .int v1] 1 (mv_clV call 255 [.ref a0, .int v1] h mv_raise fun h1 =>
    mv_gI X h1 a0 1 3 fun x1 =>
    if v1 ≤ x1 then 
    (mv_gI X h1 a0 1 3 fun x2 =>
      if x2 ≤ v1 then 
      (mv_pf h1 a0 1 3 (.int v1) fun h2 =>
        (some (.inl none, h2)))
      else (mv_chk (mv_ok 6 (nZ 1)) (mv_pf h1 a0 1 2 (.int (nZ 1)) fun h3 =>
        mv_pf h3 a0 1 3 (.int v1) fun h4 =>
        (some (.inl none, h4)))))
    else (mv_rcv X h1 [.ref a0] 1 (mv_clI call 261 [.ref a0] h1 mv_raise fun x3 h5 =>
      if x3 = 0 then 
      (mv_gR X h5 a0 1 0 fun r1 =>
        mv_gI X h5 a0 1 3 fun x4 =>
        none)
      else (mv_gR X h5 a0 1 0 fun r2 =>
        mv_gI X h5 a0 1 3 fun x5 =>
        none)))))
  else (mv_new h (.inl (3, mv_df 3)) 6 fun r3 h6 =>
    none) :=
  (s_iload_n rfl rfl).trans <| (s_if_ge rfl).trans <| c_ite ((s_aload_n rfl rfl).trans <| (s_iload_n rfl rfl).trans <| (s_v0 [.ref a0, .int v1] [] rfl rfl (fun _ => rfl)).trans <| c_rcv <| c_clV fun h1 => (s_aload_n rfl rfl).trans <| (s_gf1 rfl rfl).trans <| c_gI fun x1 => (s_iload_n rfl rfl).trans <| (s_icmp_ge rfl).trans <| c_ite ((s_aload_n rfl rfl).trans <| (s_gf1 rfl rfl).trans <| c_gI fun x2 => (s_iload_n rfl rfl).trans <| (s_icmp_le rfl).trans <| c_ite ((s_aload_n rfl rfl).trans <| (s_iload_n rfl rfl).trans <| (s_pf1 rfl rfl).trans <| c_pf fun h2 => s_ret rfl rfl) ((s_aload_n rfl rfl).trans <| (s_iconst rfl).trans <| (s_pf6 rfl rfl).trans <| c_chk <| c_pf fun h3 => (s_aload_n rfl rfl).trans <| (s_iload_n rfl rfl).trans <| (s_pf1 rfl rfl).trans <| c_pf fun h4 => s_ret rfl rfl)) ((s_aload_n rfl rfl).trans <| (s_v1 [.ref a0] [] rfl rfl (fun _ => rfl)).trans <| c_rcv <| c_clI fun x3 h5 => (s_if_eq rfl).trans <| c_ite ((s_aload_n rfl rfl).trans <| (s_gf2 rfl rfl).trans <| c_gR fun r1 => (s_aload_n rfl rfl).trans <| (s_gf1 rfl rfl).trans <| c_gI fun x4 => (s_iload_n rfl rfl).trans <| s_dead (.invokestatic 137) rfl rfl) ((s_aload_n rfl rfl).trans <| (s_gf2 rfl rfl).trans <| c_gR fun r2 => (s_aload_n rfl rfl).trans <| (s_gf1 rfl rfl).trans <| c_gI fun x5 => (s_iload_n rfl rfl).trans <| s_dead (.invokestatic 133) rfl rfl))) ((s_new rfl rfl).trans <| c_new fun r3 h6 => (s_dupR rfl).trans <| (s_iload_n rfl rfl).trans <| s_dead (.invokespecial 131) rfl rfl)
theorem mc_J5_charAt_5068e (X : mv_X) (d : Nat) (h : mv_H) (a0 : Nat) (v1 : Int32) : mv_call X (d + 1) 258 [.ref a0, .int v1] h = mv_run X (mv_call X d) m_J5_charAt_5068e 0 [.ref a0, .int v1, .retAddr 0, .retAddr 0, .retAddr 0] [] h := rfl
theorem bk_J5_charAt_5068e_0 (X : mv_X) (call : mv_G) (h : mv_H) (a0 : Nat) (v1 : Int32) : mv_run X call m_J5_charAt_5068e 0 [.ref a0, .int v1, .retAddr 0, .retAddr 0, .retAddr 0] [] h =
  mv_gI X h a0 1 1 fun x1 =>
  mv_gR X h a0 1 0 fun r1 =>
  mv_gI X h a0 1 3 fun x2 =>
  mv_len X h r1 fun x3 =>
  mv_clI call 267 [.int x2, .int (x3 >>> (x1 &&& 31))] h mv_raise fun x4 h1 =>
  mv_clV call 272 [.int v1, .int x4] h1 mv_raise fun h2 =>
  if x1 = 0 then 
  (mv_aI X h2 8 r1 v1 fun x5 =>
    mv_chk (mv_ok 7 (((x5 &&& (nZ 255))).toUInt32 % 65536).toInt32) (some (.inl (some (.int (((x5 &&& (nZ 255))).toUInt32 % 65536).toInt32)), h2)))
  else (none) :=
  (s_aload_n rfl rfl).trans <| (s_gf8 rfl rfl).trans <| c_gI fun x1 => (s_istore_n (ls2 := [.ref a0, .int v1, .int x1, .retAddr 0, .retAddr 0]) rfl (fun _ => rfl)).trans <| (s_aload_n rfl rfl).trans <| (s_gf2 rfl rfl).trans <| c_gR fun r1 => (s_astore_n (ls2 := [.ref a0, .int v1, .int x1, .ref r1, .retAddr 0]) rfl (fun _ => rfl)).trans <| (s_aload_n rfl rfl).trans <| (s_gf1 rfl rfl).trans <| c_gI fun x2 => (s_aload_n rfl rfl).trans <| (s_alen rfl).trans <| c_len fun x3 => (s_iload_n rfl rfl).trans <| (s_ishr rfl).trans <| (s_s1 [.int x2, .int (x3 >>> (x1 &&& 31))] [] rfl rfl (fun _ => rfl)).trans <| c_clI fun x4 h1 => (s_istore (ls2 := [.ref a0, .int v1, .int x1, .ref r1, .int x4]) rfl (fun _ => rfl)).trans <| (s_iload_n rfl rfl).trans <| (s_iload rfl rfl).trans <| (s_s0 [.int v1, .int x4] [] rfl rfl (fun _ => rfl)).trans <| c_clV fun h2 => (s_iload_n rfl rfl).trans <| (s_if_ne rfl).trans <| c_ite ((s_aload_n rfl rfl).trans <| (s_iload_n rfl rfl).trans <| (s_baload rfl).trans <| c_aI fun x5 => (s_sipush rfl).trans <| (s_iand rfl).trans <| (s_i2c rfl).trans <| s_iret rfl) ((s_aload_n rfl rfl).trans <| (s_iload_n rfl rfl).trans <| s_dead (.invokestatic 148) rfl rfl)
theorem mc_J5_append_3fe6f (X : mv_X) (d : Nat) (h : mv_H) (a0 : Nat) (v1 : Int32) : mv_call X (d + 1) 259 [.ref a0, .int v1] h = mv_run X (mv_call X d) m_J5_append_3fe6f 0 [.ref a0, .int v1] [] h := rfl
theorem bk_J5_append_3fe6f_0 (X : mv_X) (call : mv_G) (h : mv_H) (a0 : Nat) (v1 : Int32) : mv_run X call m_J5_append_3fe6f 0 [.ref a0, .int v1] [] h =
  mv_gI X h a0 1 3 fun x1 =>
  mv_rcv X h [.ref a0, .int (x1 + (nZ 1))] 1 (mv_clV call 255 [.ref a0, .int (x1 + (nZ 1))] h mv_raise fun h1 =>
  mv_rcv X h1 [.ref a0] 1 (mv_clI call 261 [.ref a0] h1 mv_raise fun x2 h2 =>
  if x2 = 0 then 
  (mv_rcv X h2 [.ref a0] 1 (mv_clI call 261 [.ref a0] h2 mv_raise fun x3 h3 =>
    if x3 = 0 then 
    (mv_gR X h3 a0 1 0 fun r1 =>
      mv_gI X h3 a0 1 3 fun x4 =>
      mv_pf h3 a0 1 3 (.int (x4 + (nZ 1))) fun h4 =>
      none)
    else (none)))
  else (mv_clI call 280 [.int v1] h2 mv_raise fun x5 h5 =>
    if x5 = 0 then 
    (mv_rcv X h5 [.ref a0] 1 (mv_clI call 261 [.ref a0] h5 mv_raise fun x6 h6 =>
      if x6 = 0 then 
      (mv_gR X h6 a0 1 0 fun r2 =>
        mv_gI X h6 a0 1 3 fun x7 =>
        mv_pf h6 a0 1 3 (.int (x7 + (nZ 1))) fun h7 =>
        none)
      else (none)))
    else (mv_gR X h5 a0 1 0 fun r3 =>
      mv_gI X h5 a0 1 3 fun x8 =>
      mv_pf h5 a0 1 3 (.int (x8 + (nZ 1))) fun h8 =>
      mv_as h8 8 r3 x8 (.int ((v1).toInt8.toInt32).toInt8.toInt32) fun h9 =>
      (some (.inl (some (.ref a0)), h9)))))) :=
  (s_aload_n rfl rfl).trans <| (s_aload_n rfl rfl).trans <| (s_gf1 rfl rfl).trans <| c_gI fun x1 => (s_iconst rfl).trans <| (s_iadd rfl).trans <| (s_v0 [.ref a0, .int (x1 + (nZ 1))] [] rfl rfl (fun _ => rfl)).trans <| c_rcv <| c_clV fun h1 => (s_aload_n rfl rfl).trans <| (s_v1 [.ref a0] [] rfl rfl (fun _ => rfl)).trans <| c_rcv <| c_clI fun x2 h2 => (s_if_eq rfl).trans <| c_ite ((s_aload_n rfl rfl).trans <| (s_v1 [.ref a0] [] rfl rfl (fun _ => rfl)).trans <| c_rcv <| c_clI fun x3 h3 => (s_if_eq rfl).trans <| c_ite ((s_aload_n rfl rfl).trans <| (s_gf2 rfl rfl).trans <| c_gR fun r1 => (s_aload_n rfl rfl).trans <| (s_dupR rfl).trans <| (s_gf1 rfl rfl).trans <| c_gI fun x4 => (s_dup_x1 rfl).trans <| (s_iconst rfl).trans <| (s_iadd rfl).trans <| (s_pf1 rfl rfl).trans <| c_pf fun h4 => (s_iload_n rfl rfl).trans <| s_dead (.invokestatic 197) rfl rfl) ((s_aload_n rfl rfl).trans <| s_dead (.invokevirtual 195) rfl rfl)) ((s_iload_n rfl rfl).trans <| (s_s1 [.int v1] [] rfl rfl (fun _ => rfl)).trans <| c_clI fun x5 h5 => (s_if_eq rfl).trans <| c_ite ((s_aload_n rfl rfl).trans <| (s_v1 [.ref a0] [] rfl rfl (fun _ => rfl)).trans <| c_rcv <| c_clI fun x6 h6 => (s_if_eq rfl).trans <| c_ite ((s_aload_n rfl rfl).trans <| (s_gf2 rfl rfl).trans <| c_gR fun r2 => (s_aload_n rfl rfl).trans <| (s_dupR rfl).trans <| (s_gf1 rfl rfl).trans <| c_gI fun x7 => (s_dup_x1 rfl).trans <| (s_iconst rfl).trans <| (s_iadd rfl).trans <| (s_pf1 rfl rfl).trans <| c_pf fun h7 => (s_iload_n rfl rfl).trans <| s_dead (.invokestatic 197) rfl rfl) ((s_aload_n rfl rfl).trans <| s_dead (.invokevirtual 195) rfl rfl)) ((s_aload_n rfl rfl).trans <| (s_gf2 rfl rfl).trans <| c_gR fun r3 => (s_aload_n rfl rfl).trans <| (s_dupR rfl).trans <| (s_gf1 rfl rfl).trans <| c_gI fun x8 => (s_dup_x1 rfl).trans <| (s_iconst rfl).trans <| (s_iadd rfl).trans <| (s_pf1 rfl rfl).trans <| c_pf fun h8 => (s_iload_n rfl rfl).trans <| (s_i2b rfl).trans <| (s_bastore rfl).trans <| c_as fun h9 => (s_goto rfl).trans <| (s_aload_n rfl rfl).trans <| s_areturn rfl rfl))
theorem mc_J5_append_c97b9 (X : mv_X) (d : Nat) (h : mv_H) (a0 : Nat) (v1 : Int32) : mv_call X (d + 1) 260 [.ref a0, .int v1] h = mv_run X (mv_call X d) m_J5_append_c97b9 0 [.ref a0, .int v1, .retAddr 0, .retAddr 0] [] h := rfl
theorem bk_J5_append_c97b9_0 (X : mv_X) (call : mv_G) (h : mv_H) (a0 : Nat) (v1 : Int32) : mv_run X call m_J5_append_c97b9 0 [.ref a0, .int v1, .retAddr 0, .retAddr 0] [] h =
  mv_gI X h a0 1 3 fun x1 =>
  mv_clI call 263 [.int v1] h mv_raise fun x2 h1 =>
  mv_rcv X h1 [.ref a0, .int (x1 + x2)] 1 (mv_clV call 255 [.ref a0, .int (x1 + x2)] h1 mv_raise fun h2 =>
  mv_rcv X h2 [.ref a0] 1 (mv_clI call 261 [.ref a0] h2 mv_raise fun x3 h3 =>
  if x3 = 0 then 
  (mv_gR X h3 a0 1 0 fun r1 =>
    none)
  else (mv_gR X h3 a0 1 0 fun r2 =>
    mv_clI call 262 [.int v1, .int (x1 + x2), .ref r2] h3 mv_raise fun x4 h4 =>
    mv_pf h4 a0 1 3 (.int (x1 + x2)) fun h5 =>
    (some (.inl (some (.ref a0)), h5))))) :=
  (s_aload_n rfl rfl).trans <| (s_gf1 rfl rfl).trans <| c_gI fun x1 => (s_istore_n (ls2 := [.ref a0, .int v1, .int x1, .retAddr 0]) rfl (fun _ => rfl)).trans <| (s_iload_n rfl rfl).trans <| (s_iload_n rfl rfl).trans <| (s_s1 [.int v1] [.int x1] rfl rfl (fun _ => rfl)).trans <| c_clI fun x2 h1 => (s_iadd rfl).trans <| (s_istore_n (ls2 := [.ref a0, .int v1, .int x1, .int (x1 + x2)]) rfl (fun _ => rfl)).trans <| (s_aload_n rfl rfl).trans <| (s_iload_n rfl rfl).trans <| (s_v0 [.ref a0, .int (x1 + x2)] [] rfl rfl (fun _ => rfl)).trans <| c_rcv <| c_clV fun h2 => (s_aload_n rfl rfl).trans <| (s_v1 [.ref a0] [] rfl rfl (fun _ => rfl)).trans <| c_rcv <| c_clI fun x3 h3 => (s_if_eq rfl).trans <| c_ite ((s_iload_n rfl rfl).trans <| (s_iload_n rfl rfl).trans <| (s_iload_n rfl rfl).trans <| (s_aload_n rfl rfl).trans <| (s_gf2 rfl rfl).trans <| c_gR fun r1 => s_dead (.invokestatic 251) rfl rfl) ((s_iload_n rfl rfl).trans <| (s_iload_n rfl rfl).trans <| (s_aload_n rfl rfl).trans <| (s_gf2 rfl rfl).trans <| c_gR fun r2 => (s_s1 [.int v1, .int (x1 + x2), .ref r2] [] rfl rfl (fun _ => rfl)).trans <| c_clI fun x4 h4 => (s_popI rfl).trans <| (s_goto rfl).trans <| (s_aload_n rfl rfl).trans <| (s_iload_n rfl rfl).trans <| (s_pf1 rfl rfl).trans <| c_pf fun h5 => (s_aload_n rfl rfl).trans <| s_areturn rfl rfl)
theorem mc_J5_isLatin1_aae02 (X : mv_X) (d : Nat) (h : mv_H) (a0 : Nat) : mv_call X (d + 1) 261 [.ref a0] h = mv_run X (mv_call X d) m_J5_isLatin1_aae02 0 [.ref a0] [] h := rfl
theorem bk_J5_isLatin1_aae02_0 (X : mv_X) (call : mv_G) (h : mv_H) (a0 : Nat) : mv_run X call m_J5_isLatin1_aae02 0 [.ref a0] [] h =
  mv_int (X.2.2 0) fun x1 =>
  if x1 = 0 then 
  ((some (.inl (some (.int (nZ 0))), h)))
  else (mv_gI X h a0 1 1 fun x2 =>
    if x2 = 0 then 
    ((some (.inl (some (.int (nZ 1))), h)))
    else ((some (.inl (some (.int (nZ 0))), h)))) :=
  (s_gs6 rfl rfl).trans <| c_int fun x1 => (s_if_eq rfl).trans <| c_ite ((s_iconst rfl).trans <| s_iretb rfl rfl) ((s_aload_n rfl rfl).trans <| (s_gf8 rfl rfl).trans <| c_gI fun x2 => (s_if_ne rfl).trans <| c_ite ((s_iconst rfl).trans <| (s_goto rfl).trans <| s_iretb rfl rfl) ((s_iconst rfl).trans <| s_iretb rfl rfl))
theorem mc_J6_getChars_ba4f3 (X : mv_X) (d : Nat) (h : mv_H) (v0 : Int32) (v1 : Int32) (a2 : Nat) : mv_call X (d + 1) 262 [.int v0, .int v1, .ref a2] h = mv_run X (mv_call X d) m_J6_getChars_ba4f3 0 [.int v0, .int v1, .ref a2, .retAddr 0, .retAddr 0, .retAddr 0, .retAddr 0] [] h := rfl
theorem bk_J6_getChars_ba4f3_0 (X : mv_X) (call : mv_G) (h : mv_H) (v0 : Int32) (v1 : Int32) (a2 : Nat) : mv_run X call m_J6_getChars_ba4f3 0 [.int v0, .int v1, .ref a2, .retAddr 0, .retAddr 0, .retAddr 0, .retAddr 0] [] h =
  if 0 ≤ v0 then 
  (if (nZ 0) = 0 then 
    (mv_run X call m_J6_getChars_ba4f3 22 [.int (-v0), .int v1, .ref a2, .retAddr 0, .retAddr 0, .int v1, .int (nZ 0)] [] h)
    else (mv_run X call m_J6_getChars_ba4f3 22 [.int v0, .int v1, .ref a2, .retAddr 0, .retAddr 0, .int v1, .int (nZ 0)] [] h))
  else (if (nZ 1) = 0 then 
    (mv_run X call m_J6_getChars_ba4f3 22 [.int (-v0), .int v1, .ref a2, .retAddr 0, .retAddr 0, .int v1, .int (nZ 1)] [] h)
    else (mv_run X call m_J6_getChars_ba4f3 22 [.int v0, .int v1, .ref a2, .retAddr 0, .retAddr 0, .int v1, .int (nZ 1)] [] h)) :=
  (s_iload_n rfl rfl).trans <| (s_istore (ls2 := [.int v0, .int v1, .ref a2, .retAddr 0, .retAddr 0, .int v1, .retAddr 0]) rfl (fun _ => rfl)).trans <| (s_iload_n rfl rfl).trans <| (s_if_ge rfl).trans <| c_ite ((s_iconst rfl).trans <| (s_istore (ls2 := [.int v0, .int v1, .ref a2, .retAddr 0, .retAddr 0, .int v1, .int (nZ 0)]) rfl (fun _ => rfl)).trans <| (s_iload rfl rfl).trans <| (s_if_ne rfl).trans <| c_ite ((s_iload_n rfl rfl).trans <| (s_ineg rfl).trans <| (s_istore_n (ls2 := [.int (-v0), .int v1, .ref a2, .retAddr 0, .retAddr 0, .int v1, .int (nZ 0)]) rfl (fun _ => rfl)).trans <| rfl) (rfl)) ((s_iconst rfl).trans <| (s_goto rfl).trans <| (s_istore (ls2 := [.int v0, .int v1, .ref a2, .retAddr 0, .retAddr 0, .int v1, .int (nZ 1)]) rfl (fun _ => rfl)).trans <| (s_iload rfl rfl).trans <| (s_if_ne rfl).trans <| c_ite ((s_iload_n rfl rfl).trans <| (s_ineg rfl).trans <| (s_istore_n (ls2 := [.int (-v0), .int v1, .ref a2, .retAddr 0, .retAddr 0, .int v1, .int (nZ 1)]) rfl (fun _ => rfl)).trans <| rfl) (rfl))
theorem bk_J6_getChars_ba4f3_22 (X : mv_X) (call : mv_G) (h : mv_H) (v0 : Int32) (v1 : Int32) (a2 : Nat) (j3 : Value) (j4 : Value) (v5 : Int32) (v6 : Int32) : mv_run X call m_J6_getChars_ba4f3 22 [.int v0, .int v1, .ref a2, j3, j4, .int v5, .int v6] [] h =
  if (nZ (-100)) < v0 then 
  (mv_ref (X.2.2 1) fun r1 =>
    mv_aI X h 8 r1 (-v0) fun x1 =>
    mv_as h 8 a2 (v5 + nZ (-1)) (.int (x1).toInt8.toInt32) fun h1 =>
    if (nZ (-9)) ≤ v0 then 
    (if v6 = 0 then 
      ((some (.inl (some (.int (v5 + nZ (-1)))), h1)))
      else (mv_as h1 8 a2 ((v5 + nZ (-1)) + nZ (-1)) (.int ((nZ 45)).toInt8.toInt32) fun h2 =>
        (some (.inl (some (.int ((v5 + nZ (-1)) + nZ (-1)))), h2))))
    else (mv_ref (X.2.2 2) fun r2 =>
      mv_aI X h1 8 r2 (-v0) fun x2 =>
      mv_as h1 8 a2 ((v5 + nZ (-1)) + nZ (-1)) (.int (x2).toInt8.toInt32) fun h3 =>
      if v6 = 0 then 
      ((some (.inl (some (.int ((v5 + nZ (-1)) + nZ (-1)))), h3)))
      else (mv_as h3 8 a2 (((v5 + nZ (-1)) + nZ (-1)) + nZ (-1)) (.int ((nZ 45)).toInt8.toInt32) fun h4 =>
        (some (.inl (some (.int (((v5 + nZ (-1)) + nZ (-1)) + nZ (-1)))), h4)))))
  else (if (nZ 100) = 0 then none else 
    mv_ref (X.2.2 1) fun r3 =>
    mv_aI X h 8 r3 (((v0 / (nZ 100)) * (nZ 100)) - v0) fun x3 =>
    mv_as h 8 a2 (v5 + nZ (-1)) (.int (x3).toInt8.toInt32) fun h5 =>
    mv_ref (X.2.2 2) fun r4 =>
    mv_aI X h5 8 r4 (((v0 / (nZ 100)) * (nZ 100)) - v0) fun x4 =>
    mv_as h5 8 a2 ((v5 + nZ (-1)) + nZ (-1)) (.int (x4).toInt8.toInt32) fun h6 =>
    mv_run X call m_J6_getChars_ba4f3 22 [.int (v0 / (nZ 100)), .int v1, .ref a2, .int (v0 / (nZ 100)), .int (((v0 / (nZ 100)) * (nZ 100)) - v0), .int ((v5 + nZ (-1)) + nZ (-1)), .int v6] [] h6) :=
  (s_iload_n rfl rfl).trans <| (s_bipush rfl).trans <| (s_icmp_gt rfl).trans <| c_ite ((s_aload_n rfl rfl).trans <| (s_iinc (ls2 := [.int v0, .int v1, .ref a2, j3, j4, .int (v5 + nZ (-1)), .int v6]) rfl rfl (fun _ => rfl)).trans <| (s_iload rfl rfl).trans <| (s_gs2 rfl rfl).trans <| c_ref fun r1 => (s_iload_n rfl rfl).trans <| (s_ineg rfl).trans <| (s_baload rfl).trans <| c_aI fun x1 => (s_bastore rfl).trans <| c_as fun h1 => (s_iload_n rfl rfl).trans <| (s_bipush rfl).trans <| (s_icmp_ge rfl).trans <| c_ite ((s_iload rfl rfl).trans <| (s_if_eq rfl).trans <| c_ite ((s_iload rfl rfl).trans <| s_iret1 rfl rfl) ((s_aload_n rfl rfl).trans <| (s_iinc (ls2 := [.int v0, .int v1, .ref a2, j3, j4, .int ((v5 + nZ (-1)) + nZ (-1)), .int v6]) rfl rfl (fun _ => rfl)).trans <| (s_iload rfl rfl).trans <| (s_bipush rfl).trans <| (s_bastore rfl).trans <| c_as fun h2 => (s_iload rfl rfl).trans <| s_iret1 rfl rfl)) ((s_aload_n rfl rfl).trans <| (s_iinc (ls2 := [.int v0, .int v1, .ref a2, j3, j4, .int ((v5 + nZ (-1)) + nZ (-1)), .int v6]) rfl rfl (fun _ => rfl)).trans <| (s_iload rfl rfl).trans <| (s_gs2 rfl rfl).trans <| c_ref fun r2 => (s_iload_n rfl rfl).trans <| (s_ineg rfl).trans <| (s_baload rfl).trans <| c_aI fun x2 => (s_bastore rfl).trans <| c_as fun h3 => (s_iload rfl rfl).trans <| (s_if_eq rfl).trans <| c_ite ((s_iload rfl rfl).trans <| s_iret1 rfl rfl) ((s_aload_n rfl rfl).trans <| (s_iinc (ls2 := [.int v0, .int v1, .ref a2, j3, j4, .int (((v5 + nZ (-1)) + nZ (-1)) + nZ (-1)), .int v6]) rfl rfl (fun _ => rfl)).trans <| (s_iload rfl rfl).trans <| (s_bipush rfl).trans <| (s_bastore rfl).trans <| c_as fun h4 => (s_iload rfl rfl).trans <| s_iret1 rfl rfl))) ((s_iload_n rfl rfl).trans <| (s_bipush rfl).trans <| (s_idiv rfl).trans <| c_ite rfl <| (s_istore_n (ls2 := [.int v0, .int v1, .ref a2, .int (v0 / (nZ 100)), j4, .int v5, .int v6]) rfl (fun _ => rfl)).trans <| (s_iload_n rfl rfl).trans <| (s_bipush rfl).trans <| (s_imul rfl).trans <| (s_iload_n rfl rfl).trans <| (s_isub rfl).trans <| (s_istore (ls2 := [.int v0, .int v1, .ref a2, .int (v0 / (nZ 100)), .int (((v0 / (nZ 100)) * (nZ 100)) - v0), .int v5, .int v6]) rfl (fun _ => rfl)).trans <| (s_iload_n rfl rfl).trans <| (s_istore_n (ls2 := [.int (v0 / (nZ 100)), .int v1, .ref a2, .int (v0 / (nZ 100)), .int (((v0 / (nZ 100)) * (nZ 100)) - v0), .int v5, .int v6]) rfl (fun _ => rfl)).trans <| (s_aload_n rfl rfl).trans <| (s_iinc (ls2 := [.int (v0 / (nZ 100)), .int v1, .ref a2, .int (v0 / (nZ 100)), .int (((v0 / (nZ 100)) * (nZ 100)) - v0), .int (v5 + nZ (-1)), .int v6]) rfl rfl (fun _ => rfl)).trans <| (s_iload rfl rfl).trans <| (s_gs2 rfl rfl).trans <| c_ref fun r3 => (s_iload rfl rfl).trans <| (s_baload rfl).trans <| c_aI fun x3 => (s_bastore rfl).trans <| c_as fun h5 => (s_aload_n rfl rfl).trans <| (s_iinc (ls2 := [.int (v0 / (nZ 100)), .int v1, .ref a2, .int (v0 / (nZ 100)), .int (((v0 / (nZ 100)) * (nZ 100)) - v0), .int ((v5 + nZ (-1)) + nZ (-1)), .int v6]) rfl rfl (fun _ => rfl)).trans <| (s_iload rfl rfl).trans <| (s_gs2 rfl rfl).trans <| c_ref fun r4 => (s_iload rfl rfl).trans <| (s_baload rfl).trans <| c_aI fun x4 => (s_bastore rfl).trans <| c_as fun h6 => (s_goto rfl).trans <| rfl)
theorem mc_J6_stringSize_0f7a4 (X : mv_X) (d : Nat) (h : mv_H) (v0 : Int32) : mv_call X (d + 1) 263 [.int v0] h = mv_run X (mv_call X d) m_J6_stringSize_0f7a4 0 [.int v0, .retAddr 0, .retAddr 0, .retAddr 0] [] h := rfl
theorem bk_J6_stringSize_0f7a4_0 (X : mv_X) (call : mv_G) (h : mv_H) (v0 : Int32) : mv_run X call m_J6_stringSize_0f7a4 0 [.int v0, .retAddr 0, .retAddr 0, .retAddr 0] [] h =
  if v0 < 0 then 
  (mv_run X call m_J6_stringSize_0f7a4 16 [.int v0, .int (nZ 1), .int (nZ (-10)), .int (nZ 1)] [] h)
  else (mv_run X call m_J6_stringSize_0f7a4 16 [.int (-v0), .int (nZ 0), .int (nZ (-10)), .int (nZ 1)] [] h) :=
  (s_iconst rfl).trans <| (s_istore_n (ls2 := [.int v0, .int (nZ 1), .retAddr 0, .retAddr 0]) rfl (fun _ => rfl)).trans <| (s_iload_n rfl rfl).trans <| (s_if_lt rfl).trans <| c_ite ((s_bipush rfl).trans <| (s_istore_n (ls2 := [.int v0, .int (nZ 1), .int (nZ (-10)), .retAddr 0]) rfl (fun _ => rfl)).trans <| (s_iconst rfl).trans <| (s_istore_n (ls2 := [.int v0, .int (nZ 1), .int (nZ (-10)), .int (nZ 1)]) rfl (fun _ => rfl)).trans <| rfl) ((s_iconst rfl).trans <| (s_istore_n (ls2 := [.int v0, .int (nZ 0), .retAddr 0, .retAddr 0]) rfl (fun _ => rfl)).trans <| (s_iload_n rfl rfl).trans <| (s_ineg rfl).trans <| (s_istore_n (ls2 := [.int (-v0), .int (nZ 0), .retAddr 0, .retAddr 0]) rfl (fun _ => rfl)).trans <| (s_bipush rfl).trans <| (s_istore_n (ls2 := [.int (-v0), .int (nZ 0), .int (nZ (-10)), .retAddr 0]) rfl (fun _ => rfl)).trans <| (s_iconst rfl).trans <| (s_istore_n (ls2 := [.int (-v0), .int (nZ 0), .int (nZ (-10)), .int (nZ 1)]) rfl (fun _ => rfl)).trans <| rfl)
theorem bk_J6_stringSize_0f7a4_16 (X : mv_X) (call : mv_G) (h : mv_H) (v0 : Int32) (v1 : Int32) (v2 : Int32) (v3 : Int32) : mv_run X call m_J6_stringSize_0f7a4 16 [.int v0, .int v1, .int v2, .int v3] [] h =
  if (nZ 10) ≤ v3 then 
  ((some (.inl (some (.int ((nZ 10) + v1))), h)))
  else (if v0 ≤ v2 then 
    (mv_run X call m_J6_stringSize_0f7a4 16 [.int v0, .int v1, .int ((nZ 10) * v2), .int (v3 + nZ 1)] [] h)
    else ((some (.inl (some (.int (v3 + v1))), h)))) :=
  (s_iload_n rfl rfl).trans <| (s_bipush rfl).trans <| (s_icmp_ge rfl).trans <| c_ite ((s_bipush rfl).trans <| (s_iload_n rfl rfl).trans <| (s_iadd rfl).trans <| s_iret1 rfl rfl) ((s_iload_n rfl rfl).trans <| (s_iload_n rfl rfl).trans <| (s_icmp_le rfl).trans <| c_ite ((s_bipush rfl).trans <| (s_iload_n rfl rfl).trans <| (s_imul rfl).trans <| (s_istore_n (ls2 := [.int v0, .int v1, .int ((nZ 10) * v2), .int v3]) rfl (fun _ => rfl)).trans <| (s_iinc (ls2 := [.int v0, .int v1, .int ((nZ 10) * v2), .int (v3 + nZ 1)]) rfl rfl (fun _ => rfl)).trans <| (s_goto rfl).trans <| rfl) ((s_iload_n rfl rfl).trans <| (s_iload_n rfl rfl).trans <| (s_iadd rfl).trans <| s_iret1 rfl rfl))
theorem mc_J6_bitCount_0f7a4 (X : mv_X) (d : Nat) (h : mv_H) (v0 : Int32) : mv_call X (d + 1) 264 [.int v0] h = mv_run X (mv_call X d) m_J6_bitCount_0f7a4 0 [.int v0] [] h := rfl
theorem bk_J6_bitCount_0f7a4_0 (X : mv_X) (call : mv_G) (h : mv_H) (v0 : Int32) : mv_run X call m_J6_bitCount_0f7a4 0 [.int v0] [] h =
  (some (.inl (some (.int ((((((((v0 - (((v0).toUInt32 >>> (((nZ 1)).toUInt32 &&& Int32.toUInt32 31)).toInt32 &&& (nZ 1431655765))) &&& (nZ 858993459)) + ((((v0 - (((v0).toUInt32 >>> (((nZ 1)).toUInt32 &&& Int32.toUInt32 31)).toInt32 &&& (nZ 1431655765)))).toUInt32 >>> (((nZ 2)).toUInt32 &&& Int32.toUInt32 31)).toInt32 &&& (nZ 858993459))) + (((((v0 - (((v0).toUInt32 >>> (((nZ 1)).toUInt32 &&& Int32.toUInt32 31)).toInt32 &&& (nZ 1431655765))) &&& (nZ 858993459)) + ((((v0 - (((v0).toUInt32 >>> (((nZ 1)).toUInt32 &&& Int32.toUInt32 31)).toInt32 &&& (nZ 1431655765)))).toUInt32 >>> (((nZ 2)).toUInt32 &&& Int32.toUInt32 31)).toInt32 &&& (nZ 858993459)))).toUInt32 >>> (((nZ 4)).toUInt32 &&& Int32.toUInt32 31)).toInt32) &&& (nZ 252645135)) + (((((((v0 - (((v0).toUInt32 >>> (((nZ 1)).toUInt32 &&& Int32.toUInt32 31)).toInt32 &&& (nZ 1431655765))) &&& (nZ 858993459)) + ((((v0 - (((v0).toUInt32 >>> (((nZ 1)).toUInt32 &&& Int32.toUInt32 31)).toInt32 &&& (nZ 1431655765)))).toUInt32 >>> (((nZ 2)).toUInt32 &&& Int32.toUInt32 31)).toInt32 &&& (nZ 858993459))) + (((((v0 - (((v0).toUInt32 >>> (((nZ 1)).toUInt32 &&& Int32.toUInt32 31)).toInt32 &&& (nZ 1431655765))) &&& (nZ 858993459)) + ((((v0 - (((v0).toUInt32 >>> (((nZ 1)).toUInt32 &&& Int32.toUInt32 31)).toInt32 &&& (nZ 1431655765)))).toUInt32 >>> (((nZ 2)).toUInt32 &&& Int32.toUInt32 31)).toInt32 &&& (nZ 858993459)))).toUInt32 >>> (((nZ 4)).toUInt32 &&& Int32.toUInt32 31)).toInt32) &&& (nZ 252645135))).toUInt32 >>> (((nZ 8)).toUInt32 &&& Int32.toUInt32 31)).toInt32) + ((((((((v0 - (((v0).toUInt32 >>> (((nZ 1)).toUInt32 &&& Int32.toUInt32 31)).toInt32 &&& (nZ 1431655765))) &&& (nZ 858993459)) + ((((v0 - (((v0).toUInt32 >>> (((nZ 1)).toUInt32 &&& Int32.toUInt32 31)).toInt32 &&& (nZ 1431655765)))).toUInt32 >>> (((nZ 2)).toUInt32 &&& Int32.toUInt32 31)).toInt32 &&& (nZ 858993459))) + (((((v0 - (((v0).toUInt32 >>> (((nZ 1)).toUInt32 &&& Int32.toUInt32 31)).toInt32 &&& (nZ 1431655765))) &&& (nZ 858993459)) + ((((v0 - (((v0).toUInt32 >>> (((nZ 1)).toUInt32 &&& Int32.toUInt32 31)).toInt32 &&& (nZ 1431655765)))).toUInt32 >>> (((nZ 2)).toUInt32 &&& Int32.toUInt32 31)).toInt32 &&& (nZ 858993459)))).toUInt32 >>> (((nZ 4)).toUInt32 &&& Int32.toUInt32 31)).toInt32) &&& (nZ 252645135)) + (((((((v0 - (((v0).toUInt32 >>> (((nZ 1)).toUInt32 &&& Int32.toUInt32 31)).toInt32 &&& (nZ 1431655765))) &&& (nZ 858993459)) + ((((v0 - (((v0).toUInt32 >>> (((nZ 1)).toUInt32 &&& Int32.toUInt32 31)).toInt32 &&& (nZ 1431655765)))).toUInt32 >>> (((nZ 2)).toUInt32 &&& Int32.toUInt32 31)).toInt32 &&& (nZ 858993459))) + (((((v0 - (((v0).toUInt32 >>> (((nZ 1)).toUInt32 &&& Int32.toUInt32 31)).toInt32 &&& (nZ 1431655765))) &&& (nZ 858993459)) + ((((v0 - (((v0).toUInt32 >>> (((nZ 1)).toUInt32 &&& Int32.toUInt32 31)).toInt32 &&& (nZ 1431655765)))).toUInt32 >>> (((nZ 2)).toUInt32 &&& Int32.toUInt32 31)).toInt32 &&& (nZ 858993459)))).toUInt32 >>> (((nZ 4)).toUInt32 &&& Int32.toUInt32 31)).toInt32) &&& (nZ 252645135))).toUInt32 >>> (((nZ 8)).toUInt32 &&& Int32.toUInt32 31)).toInt32)).toUInt32 >>> (((nZ 16)).toUInt32 &&& Int32.toUInt32 31)).toInt32) &&& (nZ 63)))), h)) :=
  (s_iload_n rfl rfl).trans <| (s_iload_n rfl rfl).trans <| (s_iconst rfl).trans <| (s_iushr rfl).trans <| (s_ldcI_w 1431655765 rfl).trans <| (s_iand rfl).trans <| (s_isub rfl).trans <| (s_istore_n (ls2 := [.int (v0 - (((v0).toUInt32 >>> (((nZ 1)).toUInt32 &&& Int32.toUInt32 31)).toInt32 &&& (nZ 1431655765)))]) rfl (fun _ => rfl)).trans <| (s_iload_n rfl rfl).trans <| (s_ldcI_w 858993459 rfl).trans <| (s_iand rfl).trans <| (s_iload_n rfl rfl).trans <| (s_iconst rfl).trans <| (s_iushr rfl).trans <| (s_ldcI_w 858993459 rfl).trans <| (s_iand rfl).trans <| (s_iadd rfl).trans <| (s_istore_n (ls2 := [.int (((v0 - (((v0).toUInt32 >>> (((nZ 1)).toUInt32 &&& Int32.toUInt32 31)).toInt32 &&& (nZ 1431655765))) &&& (nZ 858993459)) + ((((v0 - (((v0).toUInt32 >>> (((nZ 1)).toUInt32 &&& Int32.toUInt32 31)).toInt32 &&& (nZ 1431655765)))).toUInt32 >>> (((nZ 2)).toUInt32 &&& Int32.toUInt32 31)).toInt32 &&& (nZ 858993459)))]) rfl (fun _ => rfl)).trans <| (s_iload_n rfl rfl).trans <| (s_iload_n rfl rfl).trans <| (s_iconst rfl).trans <| (s_iushr rfl).trans <| (s_iadd rfl).trans <| (s_ldcI_w 252645135 rfl).trans <| (s_iand rfl).trans <| (s_istore_n (ls2 := [.int (((((v0 - (((v0).toUInt32 >>> (((nZ 1)).toUInt32 &&& Int32.toUInt32 31)).toInt32 &&& (nZ 1431655765))) &&& (nZ 858993459)) + ((((v0 - (((v0).toUInt32 >>> (((nZ 1)).toUInt32 &&& Int32.toUInt32 31)).toInt32 &&& (nZ 1431655765)))).toUInt32 >>> (((nZ 2)).toUInt32 &&& Int32.toUInt32 31)).toInt32 &&& (nZ 858993459))) + (((((v0 - (((v0).toUInt32 >>> (((nZ 1)).toUInt32 &&& Int32.toUInt32 31)).toInt32 &&& (nZ 1431655765))) &&& (nZ 858993459)) + ((((v0 - (((v0).toUInt32 >>> (((nZ 1)).toUInt32 &&& Int32.toUInt32 31)).toInt32 &&& (nZ 1431655765)))).toUInt32 >>> (((nZ 2)).toUInt32 &&& Int32.toUInt32 31)).toInt32 &&& (nZ 858993459)))).toUInt32 >>> (((nZ 4)).toUInt32 &&& Int32.toUInt32 31)).toInt32) &&& (nZ 252645135))]) rfl (fun _ => rfl)).trans <| (s_iload_n rfl rfl).trans <| (s_iload_n rfl rfl).trans <| (s_bipush rfl).trans <| (s_iushr rfl).trans <| (s_iadd rfl).trans <| (s_istore_n (ls2 := [.int ((((((v0 - (((v0).toUInt32 >>> (((nZ 1)).toUInt32 &&& Int32.toUInt32 31)).toInt32 &&& (nZ 1431655765))) &&& (nZ 858993459)) + ((((v0 - (((v0).toUInt32 >>> (((nZ 1)).toUInt32 &&& Int32.toUInt32 31)).toInt32 &&& (nZ 1431655765)))).toUInt32 >>> (((nZ 2)).toUInt32 &&& Int32.toUInt32 31)).toInt32 &&& (nZ 858993459))) + (((((v0 - (((v0).toUInt32 >>> (((nZ 1)).toUInt32 &&& Int32.toUInt32 31)).toInt32 &&& (nZ 1431655765))) &&& (nZ 858993459)) + ((((v0 - (((v0).toUInt32 >>> (((nZ 1)).toUInt32 &&& Int32.toUInt32 31)).toInt32 &&& (nZ 1431655765)))).toUInt32 >>> (((nZ 2)).toUInt32 &&& Int32.toUInt32 31)).toInt32 &&& (nZ 858993459)))).toUInt32 >>> (((nZ 4)).toUInt32 &&& Int32.toUInt32 31)).toInt32) &&& (nZ 252645135)) + (((((((v0 - (((v0).toUInt32 >>> (((nZ 1)).toUInt32 &&& Int32.toUInt32 31)).toInt32 &&& (nZ 1431655765))) &&& (nZ 858993459)) + ((((v0 - (((v0).toUInt32 >>> (((nZ 1)).toUInt32 &&& Int32.toUInt32 31)).toInt32 &&& (nZ 1431655765)))).toUInt32 >>> (((nZ 2)).toUInt32 &&& Int32.toUInt32 31)).toInt32 &&& (nZ 858993459))) + (((((v0 - (((v0).toUInt32 >>> (((nZ 1)).toUInt32 &&& Int32.toUInt32 31)).toInt32 &&& (nZ 1431655765))) &&& (nZ 858993459)) + ((((v0 - (((v0).toUInt32 >>> (((nZ 1)).toUInt32 &&& Int32.toUInt32 31)).toInt32 &&& (nZ 1431655765)))).toUInt32 >>> (((nZ 2)).toUInt32 &&& Int32.toUInt32 31)).toInt32 &&& (nZ 858993459)))).toUInt32 >>> (((nZ 4)).toUInt32 &&& Int32.toUInt32 31)).toInt32) &&& (nZ 252645135))).toUInt32 >>> (((nZ 8)).toUInt32 &&& Int32.toUInt32 31)).toInt32)]) rfl (fun _ => rfl)).trans <| (s_iload_n rfl rfl).trans <| (s_iload_n rfl rfl).trans <| (s_bipush rfl).trans <| (s_iushr rfl).trans <| (s_iadd rfl).trans <| (s_istore_n (ls2 := [.int (((((((v0 - (((v0).toUInt32 >>> (((nZ 1)).toUInt32 &&& Int32.toUInt32 31)).toInt32 &&& (nZ 1431655765))) &&& (nZ 858993459)) + ((((v0 - (((v0).toUInt32 >>> (((nZ 1)).toUInt32 &&& Int32.toUInt32 31)).toInt32 &&& (nZ 1431655765)))).toUInt32 >>> (((nZ 2)).toUInt32 &&& Int32.toUInt32 31)).toInt32 &&& (nZ 858993459))) + (((((v0 - (((v0).toUInt32 >>> (((nZ 1)).toUInt32 &&& Int32.toUInt32 31)).toInt32 &&& (nZ 1431655765))) &&& (nZ 858993459)) + ((((v0 - (((v0).toUInt32 >>> (((nZ 1)).toUInt32 &&& Int32.toUInt32 31)).toInt32 &&& (nZ 1431655765)))).toUInt32 >>> (((nZ 2)).toUInt32 &&& Int32.toUInt32 31)).toInt32 &&& (nZ 858993459)))).toUInt32 >>> (((nZ 4)).toUInt32 &&& Int32.toUInt32 31)).toInt32) &&& (nZ 252645135)) + (((((((v0 - (((v0).toUInt32 >>> (((nZ 1)).toUInt32 &&& Int32.toUInt32 31)).toInt32 &&& (nZ 1431655765))) &&& (nZ 858993459)) + ((((v0 - (((v0).toUInt32 >>> (((nZ 1)).toUInt32 &&& Int32.toUInt32 31)).toInt32 &&& (nZ 1431655765)))).toUInt32 >>> (((nZ 2)).toUInt32 &&& Int32.toUInt32 31)).toInt32 &&& (nZ 858993459))) + (((((v0 - (((v0).toUInt32 >>> (((nZ 1)).toUInt32 &&& Int32.toUInt32 31)).toInt32 &&& (nZ 1431655765))) &&& (nZ 858993459)) + ((((v0 - (((v0).toUInt32 >>> (((nZ 1)).toUInt32 &&& Int32.toUInt32 31)).toInt32 &&& (nZ 1431655765)))).toUInt32 >>> (((nZ 2)).toUInt32 &&& Int32.toUInt32 31)).toInt32 &&& (nZ 858993459)))).toUInt32 >>> (((nZ 4)).toUInt32 &&& Int32.toUInt32 31)).toInt32) &&& (nZ 252645135))).toUInt32 >>> (((nZ 8)).toUInt32 &&& Int32.toUInt32 31)).toInt32) + ((((((((v0 - (((v0).toUInt32 >>> (((nZ 1)).toUInt32 &&& Int32.toUInt32 31)).toInt32 &&& (nZ 1431655765))) &&& (nZ 858993459)) + ((((v0 - (((v0).toUInt32 >>> (((nZ 1)).toUInt32 &&& Int32.toUInt32 31)).toInt32 &&& (nZ 1431655765)))).toUInt32 >>> (((nZ 2)).toUInt32 &&& Int32.toUInt32 31)).toInt32 &&& (nZ 858993459))) + (((((v0 - (((v0).toUInt32 >>> (((nZ 1)).toUInt32 &&& Int32.toUInt32 31)).toInt32 &&& (nZ 1431655765))) &&& (nZ 858993459)) + ((((v0 - (((v0).toUInt32 >>> (((nZ 1)).toUInt32 &&& Int32.toUInt32 31)).toInt32 &&& (nZ 1431655765)))).toUInt32 >>> (((nZ 2)).toUInt32 &&& Int32.toUInt32 31)).toInt32 &&& (nZ 858993459)))).toUInt32 >>> (((nZ 4)).toUInt32 &&& Int32.toUInt32 31)).toInt32) &&& (nZ 252645135)) + (((((((v0 - (((v0).toUInt32 >>> (((nZ 1)).toUInt32 &&& Int32.toUInt32 31)).toInt32 &&& (nZ 1431655765))) &&& (nZ 858993459)) + ((((v0 - (((v0).toUInt32 >>> (((nZ 1)).toUInt32 &&& Int32.toUInt32 31)).toInt32 &&& (nZ 1431655765)))).toUInt32 >>> (((nZ 2)).toUInt32 &&& Int32.toUInt32 31)).toInt32 &&& (nZ 858993459))) + (((((v0 - (((v0).toUInt32 >>> (((nZ 1)).toUInt32 &&& Int32.toUInt32 31)).toInt32 &&& (nZ 1431655765))) &&& (nZ 858993459)) + ((((v0 - (((v0).toUInt32 >>> (((nZ 1)).toUInt32 &&& Int32.toUInt32 31)).toInt32 &&& (nZ 1431655765)))).toUInt32 >>> (((nZ 2)).toUInt32 &&& Int32.toUInt32 31)).toInt32 &&& (nZ 858993459)))).toUInt32 >>> (((nZ 4)).toUInt32 &&& Int32.toUInt32 31)).toInt32) &&& (nZ 252645135))).toUInt32 >>> (((nZ 8)).toUInt32 &&& Int32.toUInt32 31)).toInt32)).toUInt32 >>> (((nZ 16)).toUInt32 &&& Int32.toUInt32 31)).toInt32)]) rfl (fun _ => rfl)).trans <| (s_iload_n rfl rfl).trans <| (s_bipush rfl).trans <| (s_iand rfl).trans <| s_iret1 rfl rfl
theorem mc_J9_abs_0f7a4 (X : mv_X) (d : Nat) (h : mv_H) (v0 : Int32) : mv_call X (d + 1) 265 [.int v0] h = mv_run X (mv_call X d) m_J9_abs_0f7a4 0 [.int v0] [] h := rfl
theorem bk_J9_abs_0f7a4_0 (X : mv_X) (call : mv_G) (h : mv_H) (v0 : Int32) : mv_run X call m_J9_abs_0f7a4 0 [.int v0] [] h =
  if 0 ≤ v0 then 
  ((some (.inl (some (.int v0)), h)))
  else ((some (.inl (some (.int (-v0))), h))) :=
  (s_iload_n rfl rfl).trans <| (s_if_ge rfl).trans <| c_ite ((s_iload_n rfl rfl).trans <| s_iret1 rfl rfl) ((s_iload_n rfl rfl).trans <| (s_ineg rfl).trans <| (s_goto rfl).trans <| s_iret1 rfl rfl)
theorem mc_J9_max_7cf53 (X : mv_X) (d : Nat) (h : mv_H) (v0 : Int32) (v1 : Int32) : mv_call X (d + 1) 266 [.int v0, .int v1] h = mv_run X (mv_call X d) m_J9_max_7cf53 0 [.int v0, .int v1] [] h := rfl
theorem bk_J9_max_7cf53_0 (X : mv_X) (call : mv_G) (h : mv_H) (v0 : Int32) (v1 : Int32) : mv_run X call m_J9_max_7cf53 0 [.int v0, .int v1] [] h =
  if v0 < v1 then 
  ((some (.inl (some (.int v1)), h)))
  else ((some (.inl (some (.int v0)), h))) :=
  (s_iload_n rfl rfl).trans <| (s_iload_n rfl rfl).trans <| (s_icmp_lt rfl).trans <| c_ite ((s_iload_n rfl rfl).trans <| s_iret1 rfl rfl) ((s_iload_n rfl rfl).trans <| (s_goto rfl).trans <| s_iret1 rfl rfl)
theorem mc_J9_min_7cf53 (X : mv_X) (d : Nat) (h : mv_H) (v0 : Int32) (v1 : Int32) : mv_call X (d + 1) 267 [.int v0, .int v1] h = mv_run X (mv_call X d) m_J9_min_7cf53 0 [.int v0, .int v1] [] h := rfl
theorem bk_J9_min_7cf53_0 (X : mv_X) (call : mv_G) (h : mv_H) (v0 : Int32) (v1 : Int32) : mv_run X call m_J9_min_7cf53 0 [.int v0, .int v1] [] h =
  if v1 < v0 then 
  ((some (.inl (some (.int v1)), h)))
  else ((some (.inl (some (.int v0)), h))) :=
  (s_iload_n rfl rfl).trans <| (s_iload_n rfl rfl).trans <| (s_icmp_gt rfl).trans <| c_ite ((s_iload_n rfl rfl).trans <| s_iret1 rfl rfl) ((s_iload_n rfl rfl).trans <| (s_goto rfl).trans <| s_iret1 rfl rfl)
theorem mc_J0_length_8abf5 (X : mv_X) (d : Nat) (h : mv_H) (a0 : Nat) : mv_call X (d + 1) 268 [.ref a0] h = mv_run X (mv_call X d) m_J0_length_8abf5 0 [.ref a0] [] h := rfl
theorem bk_J0_length_8abf5_0 (X : mv_X) (call : mv_G) (h : mv_H) (a0 : Nat) : mv_run X call m_J0_length_8abf5 0 [.ref a0] [] h =
  mv_gR X h a0 0 0 fun r1 =>
  mv_len X h r1 fun x1 =>
  mv_rcv X h [.ref a0] 0 (mv_clI call 270 [.ref a0] h mv_raise fun x2 h1 =>
  (some (.inl (some (.int (x1 >>> (x2 &&& 31)))), h1))) :=
  (s_aload_n rfl rfl).trans <| (s_gf2 rfl rfl).trans <| c_gR fun r1 => (s_alen rfl).trans <| c_len fun x1 => (s_aload_n rfl rfl).trans <| (s_v1 [.ref a0] [.int x1] rfl rfl (fun _ => rfl)).trans <| c_rcv <| c_clI fun x2 h1 => (s_ishr rfl).trans <| s_iret1 rfl rfl
theorem mc_J0_charAt_5068e (X : mv_X) (d : Nat) (h : mv_H) (a0 : Nat) (v1 : Int32) : mv_call X (d + 1) 269 [.ref a0, .int v1] h = mv_run X (mv_call X d) m_J0_charAt_5068e 0 [.ref a0, .int v1] [] h := rfl
theorem bk_J0_charAt_5068e_0 (X : mv_X) (call : mv_G) (h : mv_H) (a0 : Nat) (v1 : Int32) : mv_run X call m_J0_charAt_5068e 0 [.ref a0, .int v1] [] h =
  mv_rcv X h [.ref a0] 0 (mv_clI call 271 [.ref a0] h mv_raise fun x1 h1 =>
  if x1 = 0 then 
  (mv_gR X h1 a0 0 0 fun r1 =>
    none)
  else (mv_gR X h1 a0 0 0 fun r2 =>
    mv_clI call 279 [.ref r2, .int v1] h1 mv_raise fun x2 h2 =>
    mv_chk (mv_ok 7 x2) (some (.inl (some (.int x2)), h2)))) :=
  (s_aload_n rfl rfl).trans <| (s_v1 [.ref a0] [] rfl rfl (fun _ => rfl)).trans <| c_rcv <| c_clI fun x1 h1 => (s_if_eq rfl).trans <| c_ite ((s_aload_n rfl rfl).trans <| (s_gf2 rfl rfl).trans <| c_gR fun r1 => (s_iload_n rfl rfl).trans <| s_dead (.invokestatic 498) rfl rfl) ((s_aload_n rfl rfl).trans <| (s_gf2 rfl rfl).trans <| c_gR fun r2 => (s_iload_n rfl rfl).trans <| (s_s1 [.ref r2, .int v1] [] rfl rfl (fun _ => rfl)).trans <| c_clI fun x2 h2 => s_iret rfl)
theorem mc_J0_coder_7d493 (X : mv_X) (d : Nat) (h : mv_H) (a0 : Nat) : mv_call X (d + 1) 270 [.ref a0] h = mv_run X (mv_call X d) m_J0_coder_7d493 0 [.ref a0] [] h := rfl
theorem bk_J0_coder_7d493_0 (X : mv_X) (call : mv_G) (h : mv_H) (a0 : Nat) : mv_run X call m_J0_coder_7d493 0 [.ref a0] [] h =
  mv_int (X.2.2 0) fun x1 =>
  if x1 = 0 then 
  ((some (.inl (some (.int (nZ 1))), h)))
  else (mv_gI X h a0 0 1 fun x2 =>
    mv_chk (mv_ok 8 x2) (some (.inl (some (.int x2)), h))) :=
  (s_gs6 rfl rfl).trans <| c_int fun x1 => (s_if_eq rfl).trans <| c_ite ((s_iconst rfl).trans <| s_iretb rfl rfl) ((s_aload_n rfl rfl).trans <| (s_gf8 rfl rfl).trans <| c_gI fun x2 => (s_goto rfl).trans <| s_iret rfl)
theorem mc_J0_isLatin1_aae02 (X : mv_X) (d : Nat) (h : mv_H) (a0 : Nat) : mv_call X (d + 1) 271 [.ref a0] h = mv_run X (mv_call X d) m_J0_isLatin1_aae02 0 [.ref a0] [] h := rfl
theorem bk_J0_isLatin1_aae02_0 (X : mv_X) (call : mv_G) (h : mv_H) (a0 : Nat) : mv_run X call m_J0_isLatin1_aae02 0 [.ref a0] [] h =
  mv_int (X.2.2 0) fun x1 =>
  if x1 = 0 then 
  ((some (.inl (some (.int (nZ 0))), h)))
  else (mv_gI X h a0 0 1 fun x2 =>
    if x2 = 0 then 
    ((some (.inl (some (.int (nZ 1))), h)))
    else ((some (.inl (some (.int (nZ 0))), h)))) :=
  (s_gs6 rfl rfl).trans <| c_int fun x1 => (s_if_eq rfl).trans <| c_ite ((s_iconst rfl).trans <| s_iretb rfl rfl) ((s_aload_n rfl rfl).trans <| (s_gf8 rfl rfl).trans <| c_gI fun x2 => (s_if_ne rfl).trans <| c_ite ((s_iconst rfl).trans <| (s_goto rfl).trans <| s_iretb rfl rfl) ((s_iconst rfl).trans <| s_iretb rfl rfl))
theorem mc_J0_checkIndex_df160 (X : mv_X) (d : Nat) (h : mv_H) (v0 : Int32) (v1 : Int32) : mv_call X (d + 1) 272 [.int v0, .int v1] h = mv_run X (mv_call X d) m_J0_checkIndex_df160 0 [.int v0, .int v1] [] h := rfl
theorem bk_J0_checkIndex_df160_0 (X : mv_X) (call : mv_G) (h : mv_H) (v0 : Int32) (v1 : Int32) : mv_run X call m_J0_checkIndex_df160 0 [.int v0, .int v1] [] h =
  mv_chk (mv_nr (X.2.2 3)) (
  mv_clI call 284 [.int v0, .int v1, (X.2.2 3)] h mv_raise fun x1 h1 =>
  (some (.inl none, h1))) :=
  (s_iload_n rfl rfl).trans <| (s_iload_n rfl rfl).trans <| (s_gs9 rfl rfl).trans <| c_chkH fun hb => (s_s1 [.int v0, .int v1, (X.2.2 3)] [] rfl rfl (mv_args_J hb)).trans <| c_clI fun x1 h1 => (s_popI rfl).trans <| s_ret rfl rfl
theorem mc_J4_init_da8c8 (X : mv_X) (d : Nat) (h : mv_H) (a0 : Nat) : mv_call X (d + 1) 273 [.ref a0] h = mv_run X (mv_call X d) m_J4_init_da8c8 0 [.ref a0] [] h := rfl
theorem bk_J4_init_da8c8_0 (X : mv_X) (call : mv_G) (h : mv_H) (a0 : Nat) : mv_run X call m_J4_init_da8c8 0 [.ref a0] [] h =
  mv_clV call 253 [.ref a0, .int (nZ 16)] h mv_raise fun h1 =>
  (some (.inl none, h1)) :=
  (s_aload_n rfl rfl).trans <| (s_bipush rfl).trans <| (s_i0 [.int (nZ 16)] [] rfl rfl (fun _ => rfl)).trans <| c_clV fun h1 => s_ret rfl rfl
theorem mc_J4_append_cf468 (X : mv_X) (d : Nat) (h : mv_H) (a0 : Nat) (v1 : Int32) : mv_call X (d + 1) 274 [.ref a0, .int v1] h = mv_run X (mv_call X d) m_J4_append_cf468 0 [.ref a0, .int v1] [] h := rfl
theorem bk_J4_append_cf468_0 (X : mv_X) (call : mv_G) (h : mv_H) (a0 : Nat) (v1 : Int32) : mv_run X call m_J4_append_cf468 0 [.ref a0, .int v1] [] h =
  mv_rcv X h [.ref a0, .int v1] 1 (mv_clR call 259 [.ref a0, .int v1] h mv_raise fun r1 h1 =>
  (some (.inl (some (.ref a0)), h1))) :=
  (s_aload_n rfl rfl).trans <| (s_iload_n rfl rfl).trans <| (s_u2 [.ref a0, .int v1] [] rfl rfl (fun _ => rfl)).trans <| c_rcv <| c_clR fun r1 h1 => (s_popR rfl).trans <| (s_aload_n rfl rfl).trans <| s_areturn rfl rfl
theorem mc_J4_append_bf812 (X : mv_X) (d : Nat) (h : mv_H) (a0 : Nat) (v1 : Int32) : mv_call X (d + 1) 275 [.ref a0, .int v1] h = mv_run X (mv_call X d) m_J4_append_bf812 0 [.ref a0, .int v1] [] h := rfl
theorem bk_J4_append_bf812_0 (X : mv_X) (call : mv_G) (h : mv_H) (a0 : Nat) (v1 : Int32) : mv_run X call m_J4_append_bf812 0 [.ref a0, .int v1] [] h =
  mv_rcv X h [.ref a0, .int v1] 1 (mv_clR call 260 [.ref a0, .int v1] h mv_raise fun r1 h1 =>
  (some (.inl (some (.ref a0)), h1))) :=
  (s_aload_n rfl rfl).trans <| (s_iload_n rfl rfl).trans <| (s_u2 [.ref a0, .int v1] [] rfl rfl (fun _ => rfl)).trans <| c_rcv <| c_clR fun r1 h1 => (s_popR rfl).trans <| (s_aload_n rfl rfl).trans <| s_areturn rfl rfl
theorem mc_J4_charAt_5068e (X : mv_X) (d : Nat) (h : mv_H) (a0 : Nat) (v1 : Int32) : mv_call X (d + 1) 276 [.ref a0, .int v1] h = mv_run X (mv_call X d) m_J4_charAt_5068e 0 [.ref a0, .int v1] [] h := rfl
theorem bk_J4_charAt_5068e_0 (X : mv_X) (call : mv_G) (h : mv_H) (a0 : Nat) (v1 : Int32) : mv_run X call m_J4_charAt_5068e 0 [.ref a0, .int v1] [] h =
  mv_rcv X h [.ref a0, .int v1] 1 (mv_clI call 258 [.ref a0, .int v1] h mv_raise fun x1 h1 =>
  mv_chk (mv_ok 7 x1) (some (.inl (some (.int x1)), h1))) :=
  (s_aload_n rfl rfl).trans <| (s_iload_n rfl rfl).trans <| (s_u1 [.ref a0, .int v1] [] rfl rfl (fun _ => rfl)).trans <| c_rcv <| c_clI fun x1 h1 => s_iret rfl
theorem mc_J4_setLength_d00df (X : mv_X) (d : Nat) (h : mv_H) (a0 : Nat) (v1 : Int32) : mv_call X (d + 1) 277 [.ref a0, .int v1] h = mv_run X (mv_call X d) m_J4_setLength_d00df 0 [.ref a0, .int v1] [] h := rfl
theorem bk_J4_setLength_d00df_0 (X : mv_X) (call : mv_G) (h : mv_H) (a0 : Nat) (v1 : Int32) : mv_run X call m_J4_setLength_d00df 0 [.ref a0, .int v1] [] h =
  mv_rcv X h [.ref a0, .int v1] 1 (mv_clV call 257 [.ref a0, .int v1] h mv_raise fun h1 =>
  (some (.inl none, h1))) :=
  (s_aload_n rfl rfl).trans <| (s_iload_n rfl rfl).trans <| (s_u0 [.ref a0, .int v1] [] rfl rfl (fun _ => rfl)).trans <| c_rcv <| c_clV fun h1 => s_ret rfl rfl
theorem mc_J4_length_8abf5 (X : mv_X) (d : Nat) (h : mv_H) (a0 : Nat) : mv_call X (d + 1) 278 [.ref a0] h = mv_run X (mv_call X d) m_J4_length_8abf5 0 [.ref a0] [] h := rfl
theorem bk_J4_length_8abf5_0 (X : mv_X) (call : mv_G) (h : mv_H) (a0 : Nat) : mv_run X call m_J4_length_8abf5 0 [.ref a0] [] h =
  mv_rcv X h [.ref a0] 1 (mv_clI call 254 [.ref a0] h mv_raise fun x1 h1 =>
  (some (.inl (some (.int x1)), h1))) :=
  (s_aload_n rfl rfl).trans <| (s_u1 [.ref a0] [] rfl rfl (fun _ => rfl)).trans <| c_rcv <| c_clI fun x1 h1 => s_iret1 rfl rfl
theorem mc_J1_charAt_3b067 (X : mv_X) (d : Nat) (h : mv_H) (a0 : Nat) (v1 : Int32) : mv_call X (d + 1) 279 [.ref a0, .int v1] h = mv_run X (mv_call X d) m_J1_charAt_3b067 0 [.ref a0, .int v1] [] h := rfl
theorem bk_J1_charAt_3b067_0 (X : mv_X) (call : mv_G) (h : mv_H) (a0 : Nat) (v1 : Int32) : mv_run X call m_J1_charAt_3b067 0 [.ref a0, .int v1] [] h =
  mv_len X h a0 fun x1 =>
  mv_clV call 272 [.int v1, .int x1] h mv_raise fun h1 =>
  mv_aI X h1 8 a0 v1 fun x2 =>
  mv_chk (mv_ok 7 (((x2 &&& (nZ 255))).toUInt32 % 65536).toInt32) (some (.inl (some (.int (((x2 &&& (nZ 255))).toUInt32 % 65536).toInt32)), h1)) :=
  (s_iload_n rfl rfl).trans <| (s_aload_n rfl rfl).trans <| (s_alen rfl).trans <| c_len fun x1 => (s_s0 [.int v1, .int x1] [] rfl rfl (fun _ => rfl)).trans <| c_clV fun h1 => (s_aload_n rfl rfl).trans <| (s_iload_n rfl rfl).trans <| (s_baload rfl).trans <| c_aI fun x2 => (s_sipush rfl).trans <| (s_iand rfl).trans <| (s_i2c rfl).trans <| s_iret rfl
theorem mc_J1_canEncode_fc78d (X : mv_X) (d : Nat) (h : mv_H) (v0 : Int32) : mv_call X (d + 1) 280 [.int v0] h = mv_run X (mv_call X d) m_J1_canEncode_fc78d 0 [.int v0] [] h := rfl
theorem bk_J1_canEncode_fc78d_0 (X : mv_X) (call : mv_G) (h : mv_H) (v0 : Int32) : mv_run X call m_J1_canEncode_fc78d 0 [.int v0] [] h =
  if (nZ 255) < v0 then 
  ((some (.inl (some (.int (nZ 0))), h)))
  else ((some (.inl (some (.int (nZ 1))), h))) :=
  (s_iload_n rfl rfl).trans <| (s_sipush rfl).trans <| (s_icmp_gt rfl).trans <| c_ite ((s_iconst rfl).trans <| s_iretb rfl rfl) ((s_iconst rfl).trans <| (s_goto rfl).trans <| s_iretb rfl rfl)
theorem mc_J7_fill_53178 (X : mv_X) (d : Nat) (h : mv_H) (a0 : Nat) (v1 : Int32) : mv_call X (d + 1) 281 [.ref a0, .int v1] h = mv_run X (mv_call X d) m_J7_fill_53178 0 [.ref a0, .int v1, .retAddr 0, .retAddr 0] [] h := rfl
theorem bk_J7_fill_53178_0 (X : mv_X) (call : mv_G) (h : mv_H) (a0 : Nat) (v1 : Int32) : mv_run X call m_J7_fill_53178 0 [.ref a0, .int v1, .retAddr 0, .retAddr 0] [] h =
  mv_len X h a0 fun x1 =>
  mv_run X call m_J7_fill_53178 5 [.ref a0, .int v1, .int (nZ 0), .int x1] [] h :=
  (s_iconst rfl).trans <| (s_istore_n (ls2 := [.ref a0, .int v1, .int (nZ 0), .retAddr 0]) rfl (fun _ => rfl)).trans <| (s_aload_n rfl rfl).trans <| (s_alen rfl).trans <| c_len fun x1 => (s_istore_n (ls2 := [.ref a0, .int v1, .int (nZ 0), .int x1]) rfl (fun _ => rfl)).trans <| rfl
theorem bk_J7_fill_53178_5 (X : mv_X) (call : mv_G) (h : mv_H) (a0 : Nat) (v1 : Int32) (v2 : Int32) (v3 : Int32) : mv_run X call m_J7_fill_53178 5 [.ref a0, .int v1, .int v2, .int v3] [] h =
  if v3 ≤ v2 then 
  ((some (.inl none, h)))
  else (mv_as h 1 a0 v2 (.int v1) fun h1 =>
    mv_run X call m_J7_fill_53178 5 [.ref a0, .int v1, .int (v2 + nZ 1), .int v3] [] h1) :=
  (s_iload_n rfl rfl).trans <| (s_iload_n rfl rfl).trans <| (s_icmp_ge rfl).trans <| c_ite (s_ret rfl rfl) ((s_aload_n rfl rfl).trans <| (s_iload_n rfl rfl).trans <| (s_iload_n rfl rfl).trans <| (s_iastore rfl).trans <| c_as fun h1 => (s_iinc (ls2 := [.ref a0, .int v1, .int (v2 + nZ 1), .int v3]) rfl rfl (fun _ => rfl)).trans <| (s_goto rfl).trans <| rfl)
theorem mc_J7_copyOf_9075b (X : mv_X) (d : Nat) (h : mv_H) (a0 : Nat) (v1 : Int32) : mv_call X (d + 1) 282 [.ref a0, .int v1] h = mv_run X (mv_call X d) m_J7_copyOf_9075b 0 [.ref a0, .int v1, .retAddr 0] [] h := rfl
theorem bk_J7_copyOf_9075b_0 (X : mv_X) (call : mv_G) (h : mv_H) (a0 : Nat) (v1 : Int32) : mv_run X call m_J7_copyOf_9075b 0 [.ref a0, .int v1, .retAddr 0] [] h =
  mv_len X h a0 fun x1 =>
  if v1 = x1 then 
  (none)
  else (mv_newa h .byte (.int 0) v1 fun r1 h1 =>
    mv_len X h1 a0 fun x2 =>
    mv_clI call 267 [.int x2, .int v1] h1 mv_raise fun x3 h2 =>
    mv_cpy h2 a0 (nZ 0) r1 (nZ 0) x3 fun h3 =>
    (some (.inl (some (.ref r1)), h3))) :=
  (s_iload_n rfl rfl).trans <| (s_aload_n rfl rfl).trans <| (s_alen rfl).trans <| c_len fun x1 => (s_icmp_ne rfl).trans <| c_ite ((s_aload_n rfl rfl).trans <| s_dead (.invokevirtual 310) rfl rfl) ((s_iload_n rfl rfl).trans <| (s_newa_byte rfl).trans <| c_newa fun r1 h1 => (s_astore_n (ls2 := [.ref a0, .int v1, .ref r1]) rfl (fun _ => rfl)).trans <| (s_aload_n rfl rfl).trans <| (s_iconst rfl).trans <| (s_aload_n rfl rfl).trans <| (s_iconst rfl).trans <| (s_aload_n rfl rfl).trans <| (s_alen rfl).trans <| c_len fun x2 => (s_iload_n rfl rfl).trans <| (s_s1 [.int x2, .int v1] [.int (nZ 0), .ref r1, .int (nZ 0), .ref a0] rfl rfl (fun _ => rfl)).trans <| c_clI fun x3 h2 => (s_cpy [] rfl rfl (fun _ => rfl)).trans <| c_cpy fun h3 => (s_aload_n rfl rfl).trans <| s_areturn rfl rfl)
theorem mc_J8_newLength_cabcc (X : mv_X) (d : Nat) (h : mv_H) (v0 : Int32) (v1 : Int32) (v2 : Int32) : mv_call X (d + 1) 283 [.int v0, .int v1, .int v2] h = mv_run X (mv_call X d) m_J8_newLength_cabcc 0 [.int v0, .int v1, .int v2, .retAddr 0] [] h := rfl
theorem bk_J8_newLength_cabcc_0 (X : mv_X) (call : mv_G) (h : mv_H) (v0 : Int32) (v1 : Int32) (v2 : Int32) : mv_run X call m_J8_newLength_cabcc 0 [.int v0, .int v1, .int v2, .retAddr 0] [] h =
  mv_clI call 266 [.int v1, .int v2] h mv_raise fun x1 h1 =>
  if (v0 + x1) ≤ (nZ 0) then 
  (none)
  else (if (nZ 2147483639) < (v0 + x1) then 
    (none)
    else ((some (.inl (some (.int (v0 + x1))), h1)))) :=
  (s_iload_n rfl rfl).trans <| (s_iload_n rfl rfl).trans <| (s_iload_n rfl rfl).trans <| (s_s1 [.int v1, .int v2] [.int v0] rfl rfl (fun _ => rfl)).trans <| c_clI fun x1 h1 => (s_iadd rfl).trans <| (s_istore_n (ls2 := [.int v0, .int v1, .int v2, .int (v0 + x1)]) rfl (fun _ => rfl)).trans <| (s_iconst rfl).trans <| (s_iload_n rfl rfl).trans <| (s_icmp_ge rfl).trans <| c_ite ((s_iload_n rfl rfl).trans <| (s_iload_n rfl rfl).trans <| s_dead (.invokestatic 201) rfl rfl) ((s_iload_n rfl rfl).trans <| (s_ldcI 2147483639 rfl).trans <| (s_icmp_gt rfl).trans <| c_ite ((s_iload_n rfl rfl).trans <| (s_iload_n rfl rfl).trans <| s_dead (.invokestatic 201) rfl rfl) ((s_iload_n rfl rfl).trans <| s_iret1 rfl rfl))
theorem mc_J3_checkIndex_8e157 (X : mv_X) (d : Nat) (h : mv_H) (v0 : Int32) (v1 : Int32) (j2 : Value) : mv_call X (d + 1) 284 [.int v0, .int v1, j2] h = mv_run X (mv_call X d) m_J3_checkIndex_8e157 0 [.int v0, .int v1, j2] [] h := rfl
theorem bk_J3_checkIndex_8e157_0 (X : mv_X) (call : mv_G) (h : mv_H) (v0 : Int32) (v1 : Int32) (j2 : Value) : mv_run X call m_J3_checkIndex_8e157 0 [.int v0, .int v1, j2] [] h =
  if v0 < 0 then 
  (mv_ref j2 fun r1 =>
    none)
  else (if v0 < v1 then 
    ((some (.inl (some (.int v0)), h)))
    else (mv_ref j2 fun r2 =>
      none)) :=
  (s_iload_n rfl rfl).trans <| (s_if_lt rfl).trans <| c_ite ((s_aloadJ_n rfl rfl).trans <| c_ref fun r1 => (s_iload_n rfl rfl).trans <| (s_iload_n rfl rfl).trans <| s_dead (.invokestatic 95) rfl rfl) ((s_iload_n rfl rfl).trans <| (s_iload_n rfl rfl).trans <| (s_icmp_lt rfl).trans <| c_ite ((s_iload_n rfl rfl).trans <| s_iret1 rfl rfl) ((s_aloadJ_n rfl rfl).trans <| c_ref fun r2 => (s_iload_n rfl rfl).trans <| (s_iload_n rfl rfl).trans <| s_dead (.invokestatic 95) rfl rfl))
end
section
/-! WHAT AN ANSWER OF THE SMALL MACHINE SAYS OF ITS STEP -/
theorem mi_popI {st : List Value} {f : Int32 → List Value → Option mv_R} {r : mv_R} (e : mv_popI st f = some r) : ∃ x t, st = .int x :: t ∧ f x t = some r := by
  unfold mv_popI at e; split at e
  · exact ⟨_, _, rfl, e⟩
  · cases e
theorem mi_popR {st : List Value} {f : Nat → List Value → Option mv_R} {r : mv_R} (e : mv_popR st f = some r) : ∃ x t, st = .ref x :: t ∧ f x t = some r := by
  unfold mv_popR at e; split at e
  · exact ⟨_, _, rfl, e⟩
  · cases e
theorem mi_popL {st : List Value} {f : Int64 → List Value → Option mv_R} {r : mv_R} (e : mv_popL st f = some r) : ∃ x t, st = .long x :: t ∧ f x t = some r := by
  unfold mv_popL at e; split at e
  · exact ⟨_, _, rfl, e⟩
  · cases e
theorem mi_popF {st : List Value} {f : UInt32 → List Value → Option mv_R} {r : mv_R} (e : mv_popF st f = some r) : ∃ x t, st = .float x :: t ∧ f x t = some r := by
  unfold mv_popF at e; split at e
  · exact ⟨_, _, rfl, e⟩
  · cases e
theorem mi_popD {st : List Value} {f : UInt64 → List Value → Option mv_R} {r : mv_R} (e : mv_popD st f = some r) : ∃ x t, st = .double x :: t ∧ f x t = some r := by
  unfold mv_popD at e; split at e
  · exact ⟨_, _, rfl, e⟩
  · cases e
theorem mi_chk {b : Bool} {f : Option mv_R} {r : mv_R} (e : mv_chk b f = some r) : b = true ∧ f = some r := by
  cases b
  · cases e
  · exact ⟨rfl, e⟩
theorem mi_pop1 {st : List Value} {f : Value → List Value → Option mv_R} {r : mv_R} (e : mv_pop1 st f = some r) : ∃ x t, st = x :: t ∧ x.category = 1 ∧ f x t = some r := by
  cases st with
  | nil => cases e
  | cons v t =>
    have e : (bif Nat.beq v.category 1 then f v t else none) = some r := e
    cases hc : Nat.beq v.category 1 with
    | false => rw [hc] at e; cases e
    | true => rw [hc] at e; exact ⟨v, t, rfl, Nat.eq_of_beq_eq_true hc, e⟩
theorem mi_ld {ls : List Value} {i : Nat} {f : Value → Option mv_R} {r : mv_R} (e : mv_ld ls i f = some r) : ∃ v, ls[i]? = some v ∧ f v = some r := by
  unfold mv_ld at e; split at e
  · next v h => exact ⟨v, h, e⟩
  · cases e
theorem mi_int {v : Value} {f : Int32 → Option mv_R} {r : mv_R} (e : mv_int v f = some r) : ∃ x, v = .int x ∧ f x = some r := by
  unfold mv_int at e; split at e
  · exact ⟨_, rfl, e⟩
  · cases e
theorem mi_ref {v : Value} {f : Nat → Option mv_R} {r : mv_R} (e : mv_ref v f = some r) : ∃ x, v = .ref x ∧ f x = some r := by
  unfold mv_ref at e; split at e
  · exact ⟨_, rfl, e⟩
  · cases e
theorem mi_lng {v : Value} {f : Int64 → Option mv_R} {r : mv_R} (e : mv_lng v f = some r) : ∃ x, v = .long x ∧ f x = some r := by
  unfold mv_lng at e; split at e
  · exact ⟨_, rfl, e⟩
  · cases e
theorem mi_flt {v : Value} {f : UInt32 → Option mv_R} {r : mv_R} (e : mv_flt v f = some r) : ∃ x, v = .float x ∧ f x = some r := by
  unfold mv_flt at e; split at e
  · exact ⟨_, rfl, e⟩
  · cases e
theorem mi_dbl {v : Value} {f : UInt64 → Option mv_R} {r : mv_R} (e : mv_dbl v f = some r) : ∃ x, v = .double x ∧ f x = some r := by
  unfold mv_dbl at e; split at e
  · exact ⟨_, rfl, e⟩
  · cases e
theorem mi_st {w : Bool} {ls : List Value} {i : Nat} {v : Value} {f : List Value → Option mv_R} {r : mv_R} (e : mv_st w ls i v f = some r) : i < ls.length ∧ (w = true → mv_wid (ls.getD (i - 1) .null) = false) ∧ f (ls.set i v) = some r := by
  obtain ⟨h1, e⟩ := mi_chk e
  obtain ⟨h2, e⟩ := mi_chk e
  refine ⟨by simpa [Nat.blt_eq] using h1, fun hw => ?_, e⟩
  subst hw
  simpa using h2
theorem mi_st2 {w : Bool} {ls : List Value} {i : Nat} {v : Value} {f : List Value → Option mv_R} {r : mv_R} (e : mv_st2 w ls i v f = some r) : i + 1 < ls.length ∧ w = true ∧ mv_wid (ls.getD (i - 1) .null) = false ∧ f ((ls.set i v).set (i + 1) (.retAddr 0)) = some r := by
  obtain ⟨h1, e⟩ := mi_chk e
  obtain ⟨h2, e⟩ := mi_chk e
  rw [Bool.and_eq_true] at h2
  exact ⟨by simpa [Nat.blt_eq] using h1, h2.1, by simpa using h2.2, e⟩
theorem mi_gf {X : mv_X} {h : mv_H} {a ci n : Nat} {f : Value → Option mv_R} {r : mv_R} (e : mv_gf X h a ci n f = some r) : ∃ fs v, mv_cell X h a = some (.inl (ci, fs)) ∧ fs[n]? = some v ∧ f v = some r := by
  unfold mv_gf at e
  split at e
  · next c fs hc =>
    split at e
    · next hcc =>
      subst hcc
      split at e
      · next v hv => exact ⟨fs, v, hc, hv, e⟩
      · cases e
    · cases e
  · cases e
theorem mi_pf {h : mv_H} {a ci n : Nat} {v : Value} {f : mv_H → Option mv_R} {r : mv_R} (e : mv_pf h a ci n v f = some r) : ∃ fs, h.1 a = some (.inl (ci, fs)) ∧ n < fs.length ∧ f (mv_up h.1 a (some (.inl (ci, fs.set n v))), h.2) = some r := by
  unfold mv_pf at e
  split at e
  · next c fs hc =>
    split at e
    · next hcc =>
      subst hcc
      split at e
      · next hn => exact ⟨fs, hc, hn, e⟩
      · cases e
    · cases e
  · cases e
theorem mi_ar {X : mv_X} {h : mv_H} {k a : Nat} {i : Int32} {f : Value → Option mv_R} {r : mv_R} (e : mv_ar X h k a i f = some r) : ∃ t n g, mv_cell X h a = some (.inr (t, n, g)) ∧ mv_ak k t = true ∧ 0 ≤ i.toInt ∧ i.toInt < n ∧ f (g i.toInt.toNat) = some r := by
  unfold mv_ar at e
  split at e
  · next t n g hc =>
    obtain ⟨h1, e⟩ := mi_chk e
    split at e
    · next hi => exact ⟨t, n, g, hc, h1, hi.1, hi.2, e⟩
    · cases e
  · cases e
theorem mi_len {X : mv_X} {h : mv_H} {a : Nat} {f : Int32 → Option mv_R} {r : mv_R} (e : mv_len X h a f = some r) : ∃ t n g, mv_cell X h a = some (.inr (t, n, g)) ∧ f (nZ n) = some r := by
  unfold mv_len at e
  split at e
  · next t n g hc => exact ⟨t, n, g, hc, e⟩
  · cases e
theorem mi_as {h : mv_H} {k a : Nat} {i : Int32} {v : Value} {f : mv_H → Option mv_R} {r : mv_R} (e : mv_as h k a i v f = some r) : ∃ t n g, h.1 a = some (.inr (t, n, g)) ∧ mv_ak k t = true ∧ 0 ≤ i.toInt ∧ i.toInt < n ∧ f (mv_up h.1 a (some (.inr (t, n, mv_up g i.toInt.toNat v))), h.2) = some r := by
  unfold mv_as at e
  split at e
  · next t n g hc =>
    obtain ⟨h1, e⟩ := mi_chk e
    split at e
    · next hi => exact ⟨t, n, g, hc, h1, hi.1, hi.2, e⟩
    · cases e
  · cases e
theorem mi_aa {h : mv_H} {a b : Nat} {i : Int32} {f : mv_H → Option mv_R} {r : mv_R} (e : mv_aa h a i b f = some r) : ∃ c fs C n g, h.1 b = some (.inl (c, fs)) ∧ h.1 a = some (.inr (.object C, n, g)) ∧ mv_cn c = C ∧ 0 ≤ i.toInt ∧ i.toInt < n ∧ f (mv_up h.1 a (some (.inr (.object C, n, mv_up g i.toInt.toNat (.ref b)))), h.2) = some r := by
  unfold mv_aa at e
  split at e
  · next c fs hb =>
    split at e
    · next C n g ha =>
      obtain ⟨h1, e⟩ := mi_chk e
      split at e
      · next hi => exact ⟨c, fs, C, n, g, hb, ha, by simpa using h1, hi.1, hi.2, e⟩
      · cases e
    · cases e
  · cases e
theorem mi_newa {h : mv_H} {t : FieldType} {v : Value} {n : Int32} {f : Nat → mv_H → Option mv_R} {r : mv_R} (e : mv_newa h t v n f = some r) : 0 ≤ n.toInt ∧ n.toInt ≤ 65536 ∧ f h.2.1 (mv_up h.1 h.2.1 (some (.inr (t, n.toInt.toNat, fun _ => v))), h.2.1 + 1, h.2.2 + n.toInt.toNat) = some r := by
  unfold mv_newa at e
  split at e
  · next hi => exact ⟨hi.1, hi.2, e⟩
  · cases e
theorem mi_cpy {h : mv_H} {a0 a1 : Nat} {sp dp n : Int32} {f : mv_H → Option mv_R} {r : mv_R} (e : mv_cpy h a0 sp a1 dp n f = some r) : ∃ t n0 g0 n1 g1, h.1 a0 = some (.inr (t, n0, g0)) ∧ h.1 a1 = some (.inr (t, n1, g1)) ∧ mv_prim t = true ∧ 0 ≤ sp.toInt ∧ 0 ≤ dp.toInt ∧ 0 ≤ n.toInt ∧ sp.toInt + n.toInt ≤ n0 ∧ dp.toInt + n.toInt ≤ n1 ∧
    f (mv_up h.1 a1 (some (.inr (t, n1, mv_cpf g0 g1 sp.toInt.toNat dp.toInt.toNat n.toInt.toNat))), h.2) = some r := by
  unfold mv_cpy at e
  split at e
  · next t0 n0 g0 t1 n1 g1 h0 h1 =>
    obtain ⟨hp, e⟩ := mi_chk e
    split at e
    · next ht =>
      subst ht
      split at e
      · next hi => exact ⟨t0, n0, g0, n1, g1, h0, h1, hp, hi.1, hi.2.1, hi.2.2.1, hi.2.2.2.1, hi.2.2.2.2, e⟩
      · cases e
    · cases e
  · cases e
theorem mi_cl {call : mv_G} {y : Nat} {as : List Value} {h : mv_H} {g : Nat → Nat → mv_H → Option mv_R} {f : Option Value → mv_H → Option mv_R} {r : mv_R} (e : mv_cl call y as h g f = some r) : (∃ v h', call y as h = some (.inl v, h') ∧ f v h' = some r) ∨ ∃ x q h', call y as h = some (.inr (x, q), h') ∧ g x q h' = some r := by
  unfold mv_cl at e
  split at e
  · next v h' hc => exact Or.inl ⟨v, h', hc, e⟩
  · next x q h' hc => exact Or.inr ⟨x, q, h', hc, e⟩
  · cases e
theorem mi_cal {rk : Nat} {call : mv_G} {y : Nat} {as : List Value} {h : mv_H} {g : Nat → Nat → mv_H → Option mv_R} {f : List Value → mv_H → Option mv_R} {r : mv_R} (e : mv_cal rk call y as h g f = some r) : (∃ v h', call y as h = some (.inl v, h') ∧ f v.toList h' = some r) ∨ ∃ x q h', call y as h = some (.inr (x, q), h') ∧ g x q h' = some r := by
  unfold mv_cal at e
  split at e
  · rcases mi_cl e with ⟨v, h', hc, e⟩ | h
    · cases v with
      | none => exact Or.inl ⟨none, h', hc, e⟩
      | some v => cases e
    · exact Or.inr h
  · rcases mi_cl e with ⟨v, h', hc, e⟩ | h
    · cases v with
      | none => cases e
      | some v => cases v <;> first | exact Or.inl ⟨_, h', hc, e⟩ | cases e
    · exact Or.inr h
  · rcases mi_cl e with ⟨v, h', hc, e⟩ | h
    · cases v with
      | none => cases e
      | some v => cases v <;> first | exact Or.inl ⟨_, h', hc, e⟩ | cases e
    · exact Or.inr h
  · rcases mi_cl e with ⟨v, h', hc, e⟩ | h
    · cases v with
      | none => cases e
      | some v => cases v <;> first | exact Or.inl ⟨_, h', hc, e⟩ | cases e
    · exact Or.inr h
  · rcases mi_cl e with ⟨v, h', hc, e⟩ | h
    · cases v with
      | none => cases e
      | some v => cases v <;> first | exact Or.inl ⟨_, h', hc, e⟩ | cases e
    · exact Or.inr h
  · cases e
theorem mi_args {st : List Value} {n : Nat} {f : List Value → List Value → Option mv_R} {r : mv_R} (e : mv_args st n f = some r) : ∃ as rest, st = as.reverse ++ rest ∧ as.length = n ∧ rest.length ≤ 8 ∧ (∀ v ∈ as, v.category = 1) ∧ (∀ v ∈ rest, v.category = 1) ∧ f as rest = some r := by
  obtain ⟨h1, e⟩ := mi_chk e
  simp only [Bool.and_eq_true, Nat.ble_eq, List.all_eq_true] at h1
  obtain ⟨⟨h1, h2⟩, h3⟩ := h1
  refine ⟨_, _, ?_, ?_, ?_, ?_, ?_, e⟩
  · rw [List.reverse_reverse, List.take_append_drop]
  · rw [List.length_reverse, List.length_take]; omega
  · rw [List.length_drop]; omega
  · intro v hv
    exact Nat.eq_of_beq_eq_true (h3 v (List.mem_of_mem_take (List.mem_reverse.mp hv)))
  · intro v hv
    exact Nat.eq_of_beq_eq_true (h3 v (List.mem_of_mem_drop hv))
theorem mi_rcv {X : mv_X} {h : mv_H} {as : List Value} {c : Nat} {f : Option mv_R} {r : mv_R} (e : mv_rcv X h as c f = some r) : ∃ a t fs, as = .ref a :: t ∧ mv_cell X h a = some (.inl (c, fs)) ∧ f = some r := by
  unfold mv_rcv at e
  split at e
  · split at e
    · next a t q c' fs hc =>
      split at e
      · next hcc => subst hcc; exact ⟨_, _, _, rfl, hc, e⟩
      · cases e
    · cases e
  · cases e
theorem mi_isr {as : List Value} {f : Option mv_R} {r : mv_R} (e : mv_isr as f = some r) : ∃ a t, as = .ref a :: t ∧ f = some r := by
  unfold mv_isr at e
  split at e
  · exact ⟨_, _, rfl, e⟩
  · cases e
theorem mi_thr {hs : List (Nat × Nat × Nat × Nat × Nat)} {pc : Nat} {ls : List Value} {k : mv_K} {x q : Nat} {h : mv_H} {r : mv_R} (e : mv_thr hs pc ls k x q h = some r) : (r = (.inr (x, q), h) ∧ mv_hs hs pc x = none) ∨ ∃ t, mv_hs hs pc x = some t ∧ k t.1 (ls.set t.2 (.retAddr 0)) [] h = some r := by
  cases hs with
  | nil =>
    cases e
    exact Or.inl ⟨rfl, rfl⟩
  | cons z t =>
    have e : (match mv_hs (z :: t) pc x with
      | some t => k t.1 (ls.set t.2 (.retAddr 0)) [] h
      | none => mv_raise x q h) = some r := e
    cases hh : mv_hs (z :: t) pc x with
    | none =>
      rw [hh] at e
      cases e
      exact Or.inl ⟨rfl, rfl⟩
    | some t' =>
      rw [hh] at e
      exact Or.inr ⟨t', rfl, e⟩
theorem mi_lk {M : mv_M} {i : Nat} {f : mv_L → Option mv_R} {r : mv_R} (e : mv_lk M i f = some r) : ∃ q, mv_look M.2.2.2.2.1 16 i = some q ∧ f q = some r := by
  unfold mv_lk at e
  split at e
  · next q hq => exact ⟨q, hq, e⟩
  · cases e
theorem mi_find {α : Type} {l : List (Nat × α)} {n : Nat} {x : α} (e : mv_find l n = some x) : (n, x) ∈ l := by
  induction l with
  | nil => cases e
  | cons q r ih =>
    have e : (bif Nat.beq q.1 n then some q.2 else mv_find r n) = some x := e
    cases hb : Nat.beq q.1 n with
    | true =>
      rw [hb] at e
      cases e
      have := Nat.eq_of_beq_eq_true hb
      subst this
      exact List.mem_cons_self
    | false =>
      rw [hb] at e
      exact List.mem_cons_of_mem _ (ih e)
theorem mi_look {α : Type} {t : List (List (Nat × α))} {sh n : Nat} {x : α} (e : mv_look t sh n = some x) : ∃ l ∈ t, (n, x) ∈ l := by
  unfold mv_look at e
  split at e
  · next l hl => exact ⟨l, List.mem_of_getElem? hl, mi_find e⟩
  · cases e
theorem mi_hs {hs : List (Nat × Nat × Nat × Nat × Nat)} {pc e : Nat} {t : Nat × Nat} (h : mv_hs hs pc e = some t) : ∃ pre x suf, hs = pre ++ x :: suf ∧ (∀ z ∈ pre, ¬ (z.1 ≤ pc ∧ pc < z.2.1) ∨ z.2.2.2.1 ≠ e) ∧ x.1 ≤ pc ∧ pc < x.2.1 ∧ x.2.2.2.1 = e ∧ t = (x.2.2.1, x.2.2.2.2) := by
  induction hs with
  | nil => cases h
  | cons x r ih =>
    have h : (bif Nat.ble x.1 pc && Nat.blt pc x.2.1 && Nat.beq x.2.2.2.1 e then some (x.2.2.1, x.2.2.2.2) else mv_hs r pc e) = some t := h
    cases hb : Nat.ble x.1 pc && Nat.blt pc x.2.1 && Nat.beq x.2.2.2.1 e with
    | true =>
      rw [hb] at h
      simp only [Bool.and_eq_true, Nat.ble_eq, Nat.blt_eq] at hb
      cases h
      exact ⟨[], x, r, rfl, fun z hz => (nomatch hz), hb.1.1, hb.1.2, Nat.eq_of_beq_eq_true hb.2, rfl⟩
    | false =>
      rw [hb] at h
      obtain ⟨pre, x', suf, e1, e2, e3⟩ := ih h
      refine ⟨x :: pre, x', suf, by rw [e1]; rfl, fun z hz => ?_, e3⟩
      rcases List.mem_cons.mp hz with rfl | hz
      · by_cases q : z.1 ≤ pc ∧ pc < z.2.1
        · refine Or.inr fun he => ?_
          rw [Bool.and_eq_false_iff, Bool.and_eq_false_iff] at hb
          rcases hb with (hb | hb) | hb
          · have := Nat.ble_eq.mpr q.1; rw [hb] at this; cases this
          · have := Nat.blt_eq.mpr q.2; rw [hb] at this; cases this
          · rw [he] at hb
            have := Nat.beq_refl e
            rw [hb] at this; cases this
        · exact Or.inl q
      · exact e2 z hz
theorem mi_hn {hs : List (Nat × Nat × Nat × Nat × Nat)} {pc e : Nat} (h : mv_hs hs pc e = none) : ∀ z ∈ hs, ¬ (z.1 ≤ pc ∧ pc < z.2.1) ∨ z.2.2.2.1 ≠ e := by
  induction hs with
  | nil => intro z hz; cases hz
  | cons x r ih =>
    have h : (bif Nat.ble x.1 pc && Nat.blt pc x.2.1 && Nat.beq x.2.2.2.1 e then some (x.2.2.1, x.2.2.2.2) else mv_hs r pc e) = none := h
    cases hb : Nat.ble x.1 pc && Nat.blt pc x.2.1 && Nat.beq x.2.2.2.1 e with
    | true => rw [hb] at h; cases h
    | false =>
      rw [hb] at h
      intro z hz
      rcases List.mem_cons.mp hz with rfl | hz
      · by_cases q : z.1 ≤ pc ∧ pc < z.2.1
        · refine Or.inr fun he => ?_
          rw [Bool.and_eq_false_iff, Bool.and_eq_false_iff] at hb
          rcases hb with (hb | hb) | hb
          · have := Nat.ble_eq.mpr q.1; rw [hb] at this; cases this
          · have := Nat.blt_eq.mpr q.2; rw [hb] at this; cases this
          · rw [he] at hb
            have := Nat.beq_refl e
            rw [hb] at this; cases this
        · exact Or.inl q
      · exact ih h z hz
end
section
/-! THE SMALL MACHINE'S LOCALS AND HEAP, AND THE REAL ONES -/
def mv_ra (v : Value) : Bool := match v with
  | .retAddr _ => true
  | _ => false
def mv_prs (ls : List Value) : List (Nat × Value) := (List.range ls.length).filterMap fun i => match ls[i]? with
  | some v => bif mv_ra v then none else some (i, v)
  | none => none
theorem mv_mem_prs {ls : List Value} {i : Nat} {v : Value} : (i, v) ∈ mv_prs ls ↔ ls[i]? = some v ∧ mv_ra v = false := by
  unfold mv_prs
  rw [List.mem_filterMap]
  constructor
  · rintro ⟨k, hk, e⟩
    cases h : ls[k]? with
    | none => rw [h] at e; cases e
    | some w =>
      rw [h] at e
      cases hr : mv_ra w with
      | true => simp only [hr, cond_true] at e; cases e
      | false =>
        simp only [hr, cond_false] at e
        cases e
        exact ⟨h, hr⟩
  · rintro ⟨h, hr⟩
    refine ⟨i, List.mem_range.mpr (List.getElem?_eq_some_iff.mp h).1, ?_⟩
    simp only [h, hr, cond_false]
def mv_lr (w : Bool) (n : Nat) (ls : List Value) (rls : Array Slot) : Prop := ls.length = n ∧ lv_has rls n (mv_prs ls) ∧ (w = false → ∀ v ∈ ls, v.category = 1)
theorem mv_lr_at {w : Bool} {n : Nat} {ls : List Value} {rls : Array Slot} (h : mv_lr w n ls rls) {i : Nat} {v : Value} (hi : ls[i]? = some v) (hv : mv_ra v = false) : rls[i]? = some (.val v) :=
  h.2.1.2.2 (i, v) (mv_mem_prs.mpr ⟨hi, hv⟩)
theorem mv_lr_pos {w : Bool} {n : Nat} {ls : List Value} {rls : Array Slot} (h : mv_lr w n ls rls) {i : Nat} {v : Value} (hi : ls[i]? = some v) (hv : mv_ra v = false) : ∃ k : Nat, (mv_prs ls)[k]? = some (i, v) :=
  List.mem_iff_getElem?.mp (mv_mem_prs.mpr ⟨hi, hv⟩)
theorem mv_wid_cat {v : Value} (h : mv_wid v = false) : ¬ v.category = 2 := by cases v <;> simp_all [mv_wid, Value.category]
theorem mv_ra_cat {v : Value} (h : mv_ra v = true) : v.category = 1 := by cases v <;> simp_all [mv_ra, Value.category]
/-- behind a store of one slot: of a value, or (v') of one that is forgotten -/
theorem mv_lr_set {w : Bool} {n : Nat} {ls : List Value} {rls rls' : Array Slot} (h : mv_lr w n ls rls) {i : Nat} {v v' : Value} (hc : v'.category = 1) (hv : v' = v ∨ mv_ra v' = true)
    (hw : w = true → mv_wid (ls.getD (i - 1) .null) = false) (h' : lv_has rls' n ((i, v) :: (mv_prs ls).filter (fun q => !(q.1 == i) && !(q.1 + 1 == i && q.2.category == 2)))) : mv_lr w n (ls.set i v') rls' := by
  refine ⟨by rw [List.length_set]; exact h.1, ⟨h'.1, h'.2.1, fun q hq => ?_⟩, fun hw2 x hx => ?_⟩
  · obtain ⟨j, x⟩ := q
    obtain ⟨h1, h2⟩ := mv_mem_prs.mp hq
    by_cases hj : j = i
    · subst hj
      rw [List.getElem?_set] at h1
      simp only [if_true] at h1
      split at h1
      · cases h1
        rcases hv with rfl | hv
        · exact h'.2.2 _ List.mem_cons_self
        · rw [hv] at h2; cases h2
      · cases h1
    · rw [List.getElem?_set_ne (fun e => hj e.symm)] at h1
      refine h'.2.2 (j, x) (List.mem_cons_of_mem _ (List.mem_filter.mpr ⟨mv_mem_prs.mpr ⟨h1, h2⟩, ?_⟩))
      have a1 : (j == i) = false := by simpa using hj
      have a2 : (j + 1 == i && x.category == 2) = false := by
        by_cases hj1 : j + 1 = i
        · have hx : ¬ x.category = 2 := by
            cases w with
            | false => have := h.2.2 rfl x (List.mem_of_getElem? h1); omega
            | true =>
              have e : ls.getD (i - 1) .null = x := by
                subst hj1
                show ls.getD (j + 1 - 1) .null = x
                rw [Nat.add_sub_cancel, List.getD_eq_getElem?_getD, h1]; rfl
              have := hw rfl
              rw [e] at this
              exact mv_wid_cat this
          simp [hx]
        · simp [hj1]
      simp only [a1, a2]; rfl
  · rcases List.mem_or_eq_of_mem_set hx with hx | rfl
    · exact h.2.2 hw2 x hx
    · exact hc
theorem mv_lr_set2 {n : Nat} {ls : List Value} {rls rls' : Array Slot} (h : mv_lr true n ls rls) {i : Nat} {v : Value}
    (hw : mv_wid (ls.getD (i - 1) .null) = false) (h' : lv_has rls' n ((i, v) :: (mv_prs ls).filter (fun q => !(q.1 == i) && (!(q.1 == i + 1) && !(q.1 + 1 == i && q.2.category == 2))))) : mv_lr true n ((ls.set i v).set (i + 1) (.retAddr 0)) rls' := by
  refine ⟨by rw [List.length_set, List.length_set]; exact h.1, ⟨h'.1, h'.2.1, fun q hq => ?_⟩, fun hw2 => by cases hw2⟩
  obtain ⟨j, x⟩ := q
  obtain ⟨h1, h2⟩ := mv_mem_prs.mp hq
  by_cases hj2 : j = i + 1
  · subst hj2
    rw [List.getElem?_set] at h1
    simp only [if_true] at h1
    split at h1
    · cases h1; cases h2
    · cases h1
  · rw [List.getElem?_set_ne (fun e => hj2 e.symm)] at h1
    by_cases hj : j = i
    · subst hj
      rw [List.getElem?_set] at h1
      simp only [if_true] at h1
      split at h1
      · cases h1
        exact h'.2.2 _ List.mem_cons_self
      · cases h1
    · rw [List.getElem?_set_ne (fun e => hj e.symm)] at h1
      refine h'.2.2 (j, x) (List.mem_cons_of_mem _ (List.mem_filter.mpr ⟨mv_mem_prs.mpr ⟨h1, h2⟩, ?_⟩))
      have a1 : (j == i) = false := by simpa using hj
      have a3 : (j == i + 1) = false := by simpa using hj2
      have a2 : (j + 1 == i && x.category == 2) = false := by
        by_cases hj1 : j + 1 = i
        · have hx : ¬ x.category = 2 := by
            have e : ls.getD (i - 1) .null = x := by
              subst hj1
              show ls.getD (j + 1 - 1) .null = x
              rw [Nat.add_sub_cancel, List.getD_eq_getElem?_getD, h1]; rfl
            rw [e] at hw
            exact mv_wid_cat hw
          simp [hx]
        · simp [hj1]
      simp only [a1, a2, a3]; rfl
theorem mv_up_s {α : Type} (o : Nat → α) (a : Nat) (c : α) : mv_up o a c a = c := if_pos rfl
theorem mv_up_n {α : Type} (o : Nat → α) {a b : Nat} (c : α) (h : b ≠ a) : mv_up o a c b = o b := if_neg h
-- the heap
def mv_is (D : va_G) (s0 : State) (a : Nat) (c : mv_C) (H : Heap) : Prop := match c with
  | .inl q => ∃ r : vw_C, vwCl[q.1]? = some r ∧ q.2.length = r.2.2 ∧ t_OB a (D.1 q.1) r.2.2 (D.2 q.1) H (vp_V q.2)
  | .inr q => ∃ cA, H[a]? = some (arrV cA q.2.1 q.2.2) ∧ ArrOfT s0 cA q.1 ∧ va_RA s0 cA q.1 ∧ (mv_prim q.1 = true → ∀ j, j < q.2.1 → fits q.1 (q.2.2 j) = true)
theorem mv_is_eq {D : va_G} {s0 : State} {a : Nat} {c : mv_C} {H H' : Heap} (h : H'[a]? = H[a]?) (k : mv_is D s0 a c H) : mv_is D s0 a c H' := by
  cases c with
  | inl q =>
    obtain ⟨r, h1, h2, cell, h3, h4⟩ := k
    exact ⟨r, h1, h2, cell, by rw [h]; exact h3, h4⟩
  | inr q =>
    obtain ⟨cA, h1, h2⟩ := k
    exact ⟨cA, by rw [h]; exact h1, h2⟩
theorem mv_is_lt {D : va_G} {s0 : State} {a : Nat} {c : mv_C} {H : Heap} (k : mv_is D s0 a c H) : a < H.size := by
  cases c with
  | inl q =>
    obtain ⟨r, h1, h2, cell, h3, h4⟩ := k
    exact (Array.getElem?_eq_some_iff.mp h3).1
  | inr q =>
    obtain ⟨cA, h1, h2⟩ := k
    exact (Array.getElem?_eq_some_iff.mp h1).1
def mv_HR (D : va_G) (s0 : State) (h : mv_H) (H : Heap) : Prop := H.size = h.2.1 ∧ s0.heap.size ≤ h.2.1 ∧ (∀ q, q < s0.heap.size → H[q]? = s0.heap[q]?) ∧ ∀ a c, h.1 a = some c → s0.heap.size ≤ a ∧ mv_is D s0 a c H
theorem mv_HR_up {D : va_G} {s0 : State} {h : mv_H} {H H' : Heap} (k : mv_HR D s0 h H) {a : Nat} {c : mv_C} (ha : s0.heap.size ≤ a) (hz : H'.size = H.size) (hk : ∀ q, q ≠ a → H'[q]? = H[q]?) (hc : mv_is D s0 a c H') : mv_HR D s0 (mv_up h.1 a (some c), h.2) H' := by
  refine ⟨hz.trans k.1, k.2.1, fun q hq => (hk q (by omega)).trans (k.2.2.1 q hq), fun b c' hb => ?_⟩
  have hb : mv_up h.1 a (some c) b = some c' := hb
  by_cases e : b = a
  · subst e; rw [mv_up_s] at hb; cases hb; exact ⟨ha, hc⟩
  · rw [mv_up_n _ _ e] at hb; exact ⟨(k.2.2.2 b c' hb).1, mv_is_eq (hk b e) (k.2.2.2 b c' hb).2⟩
theorem mv_HR_new {D : va_G} {s0 : State} {h : mv_H} {H H' : Heap} (k : mv_HR D s0 h H) {c : mv_C} {sl : Nat} (hz : H'.size = H.size + 1) (hk : ∀ q, q < H.size → H'[q]? = H[q]?) (hc : mv_is D s0 h.2.1 c H') : mv_HR D s0 (mv_up h.1 h.2.1 (some c), h.2.1 + 1, sl) H' := by
  have h1 := k.1
  refine ⟨by show H'.size = h.2.1 + 1; omega, by have := k.2.1; show s0.heap.size ≤ h.2.1 + 1; omega, fun q hq => (hk q (by have := k.2.1; omega)).trans (k.2.2.1 q hq), fun b c' hb => ?_⟩
  have hb : mv_up h.1 h.2.1 (some c) b = some c' := hb
  by_cases e : b = h.2.1
  · subst e; rw [mv_up_s] at hb; cases hb; exact ⟨k.2.1, hc⟩
  · rw [mv_up_n _ _ e] at hb; exact ⟨(k.2.2.2 b c' hb).1, mv_is_eq (hk b (mv_is_lt (k.2.2.2 b c' hb).2)) (k.2.2.2 b c' hb).2⟩
/-- one more cell of which nothing is known -/
theorem mv_HR_one {D : va_G} {s0 : State} {h : mv_H} {H H' : Heap} (k : mv_HR D s0 h H) {sl : Nat} (hz : H'.size = H.size + 1) (hk : ∀ q, q < H.size → H'[q]? = H[q]?) : mv_HR D s0 (h.1, h.2.1 + 1, sl) H' := by
  have h1 := k.1
  refine ⟨by show H'.size = h.2.1 + 1; omega, by have := k.2.1; show s0.heap.size ≤ h.2.1 + 1; omega, fun q hq => (hk q (by have := k.2.1; omega)).trans (k.2.2.1 q hq), fun b c' hb => ?_⟩
  exact ⟨(k.2.2.2 b c' hb).1, mv_is_eq (hk b (mv_is_lt (k.2.2.2 b c' hb).2)) (k.2.2.2 b c' hb).2⟩
/-- what holds of the launch, of the start, of what stands outside -/
def mv_GL (D : va_G) (l : Launch) (s0 : State) (a0 : Array Value) (X : mv_X) : Prop :=
  l.stackTraces = false ∧ (∀ w ∈ lw_tbl, w.before a0 s0 = true) ∧ va_K D vwCl [] s0 ∧ (∀ a c, X.1 a = some c → a < s0.heap.size ∧ mv_is D s0 a c s0.heap) ∧
  (∀ n q, mv_sn n = some q → vk_R q.1 q.2.1 q.2.2 (X.2.1 n) s0) ∧ (∀ n q, mv_tn n = some q → va_Z q.1 q.2.1 q.2.2 (X.2.2 n) (fun a => s0.heap.size ≤ a) s0 s0.heap) ∧
  vx_Zq Bundle.tN "UNASSIGNED_STACK" Bundle.steD (fun a => s0.heap.size ≤ a) s0 s0.heap ∧ vx_Zq Bundle.tN "SUPPRESSED_SENTINEL" Bundle.listD (fun a => s0.heap.size ≤ a) s0 s0.heap ∧
  (∀ e e', e < 6 → e' < 6 → e ≠ e' → va_Nc (mv_en e) (mv_en e') s0) ∧ (∀ n, n < 14 → va_AO (mv_cn n) s0 ∨ mv_ao n = false)
theorem mv_cell_is {D : va_G} {l : Launch} {s0 : State} {a0 : Array Value} {X : mv_X} (G : mv_GL D l s0 a0 X) {h : mv_H} {H : Heap} (k : mv_HR D s0 h H) {a : Nat} {c : mv_C} (e : mv_cell X h a = some c) : mv_is D s0 a c H := by
  unfold mv_cell at e
  split at e
  · next c' hc => cases e; exact (k.2.2.2 a c hc).2
  · next hc =>
    obtain ⟨h1, h2⟩ := G.2.2.2.1 a c e
    exact mv_is_eq (k.2.2.1 a h1) h2
/-- words that every warmed state keeps -/
def mv_nst : Cond → Bool
  | .fieldLinkNest .. => true
  | .methodLinkNest .. => true
  | _ => false
def mv_gg (w : Cond) : Bool := goodWord w || mv_nst w
theorem mv_gg_at {a a' : Array Value} {s U : State} (hU : s.WarmedH U.vm) {w : Cond} (hg : mv_gg w = true) (h : w.before a s = true) : w.before a' U = true := by
  unfold mv_gg at hg
  rw [Bool.or_eq_true] at hg
  rcases hg with hg | hg
  · exact word_at hU (good_of_word hg) h
  · have h3 : w.onTables = true ∧ w.before a (s.setVm U.vm) = true := by
      cases w <;> first | (exact ⟨rfl, Cond.fieldLinkNest_warmed hU h⟩) | (exact ⟨rfl, Cond.methodLinkNest_warmed hU h⟩) | cases hg
    have h4 : w.before a' (U.setVm U.vm) = true := by
      rw [Cond.onTables_vm (A' := a) (U' := s) U.vm w h3.1]
      exact h3.2
    rwa [State.setVm_self] at h4
theorem mv_word {D : va_G} {l : Launch} {s0 : State} {a0 : Array Value} {X : mv_X} (G : mv_GL D l s0 a0 X) {s : State} (hW : s0.WarmedH s.vm) {w : Cond} {args : Array Value} (hw : w ∈ lw_tbl) (hg : mv_gg w = true) : w.before args s = true :=
  mv_gg_at hW hg (G.2.1 w hw)
end
section
/-! WHAT IS CHECKED OF A METHOD BY PROGRAM: its code against the real bytes, its links against the tables' words -/
def mv_il (i : Instr) : Nat := match i with
  | .iload _ | .aload _ | .fload _ | .dload _ | .istore _ | .astore _ | .fstore _ | .dstore _ | .bipush _ | .ldc _ | .newarray _ => 2
  | .iinc _ _ | .sipush _ | .ldc_w _ | .goto _ | .ifCond _ _ | .if_icmp _ _ | .getfield _ | .putfield _ | .getstatic _ | .new _ | .anewarray _ | .invokevirtual _ | .invokespecial _ | .invokestatic _ => 3
  | _ => 1
def mv_lno (i : Instr) (n : Nat) : Bool := match i with
  | .tableswitch _ _ _ _ | .lookupswitch _ _ => true
  | _ => Nat.beq n (mv_il i)
def mv_cw (q : mv_N) (M : mv_M) : Cond := match q.2.2.2 with
  | [] => .code q.1 q.2.1 M.1 q.2.2.1
  | z :: r => .codeWith q.1 q.2.1 M.1 q.2.2.1 (z :: r)
/-- a link's words -/
def mv_lws (own : String) (j : Nat) (q : mv_L) (kd : Nat) : List Cond := match q.1 with
  | 1 => (match vwCl[q.2.1]? with
    | some r => (match kd with
      | 0 => [.fieldLink own j (r.2.1 q.2.2.1).1 (r.2.1 q.2.2.1).2.1 (r.2.1 q.2.2.1).2.2.1]
      | _ => [.fieldLinkNest own j (r.2.1 q.2.2.1).1 (r.2.1 q.2.2.1).2.1 (r.2.1 q.2.2.1).2.2.1 "BalloonHarbour"])
    | none => [])
  | 10 => [.classLink own j (mv_cn q.2.1), .instantiable (mv_cn q.2.1) (mv_df q.2.1).length, .initialized (mv_cn q.2.1)]
  | 11 => [.classLink own j (mv_en q.2.1), .initialized (mv_en q.2.1)]
  | 13 => (match mv_tn q.2.1 with
    | some z => [.fieldLink own j z.1 z.2.1 z.2.2]
    | none => [])
  | 15 => [.constant own j (nZ q.2.1)]
  | 23 => [.methodLink own j Lib.objectInit, .instanceMethod Lib.objectInit, .code Lib.objectInit ⟨#[0xb1]⟩ 1 none]
  | 24 => [.methodLink own j arraycopyName, .native arraycopyName, .static arraycopyName, .initialized "java/lang/System"]
  | 14 => []
  | _ => (match mv_look mv_mt 16 q.2.1 with
    | some N => (match mv_look mv_tab 16 q.2.1 with
      | some M => mv_cw N M :: .initialized N.1.cls :: (match kd with
        | 0 => [.methodLink own j N.1, .instanceMethod N.1, .selects (mv_cn q.2.2.2.1) N.1 N.1]
        | 2 => [.methodLink own j N.1, .sameMethod N.1.cls N.1.cls N.1.name N.1.desc, .superclass own N.1.cls, .instanceMethod N.1]
        | 3 => [.methodLink own j N.1, .static N.1]
        | 4 => [.methodLinkNest own j N.1 "BalloonHarbour", .static N.1]
        | 6 => [.methodLink own j N.1, .instanceMethod N.1]
        | _ => [.methodLinkNest own j N.1 "BalloonHarbour", .instanceMethod N.1])
      | none => [])
    | none => [])
def mv_fk (k : Nat) (t : FieldType) : Bool := match k, t with
  | 1, .int => true
  | 2, .object _ => true
  | 2, .array _ => true
  | 6, .boolean => true
  | 7, .char => true
  | 8, .byte => true
  | _, _ => false
def mv_plainY (Y : MethodName) : Bool := Y.cls != "java/lang/invoke/MethodHandle" && Y.cls != "java/lang/invoke/VarHandle"
/-- .. and what else is asked of it -/
def mv_sd (own : String) (j : Nat) (q : mv_L) (kd : Nat) : Bool := match q.1 with
  | 1 => (match vwCl[q.2.1]? with
    | some r => Nat.blt q.2.2.1 r.2.2 && (match parseFieldDescriptor (r.2.1 q.2.2.1).2.2.1 with
      | some ty => mv_fk q.2.2.2.1 ty
      | none => false) && (Nat.beq kd 0 || (r.2.1 q.2.2.1).1 != own)
    | none => false)
  | 10 => (match vwCl[q.2.1]? with
    | some r => decide (r.1 = mv_cn q.2.1) && Nat.beq r.2.2 (mv_df q.2.1).length
    | none => false)
  | 11 => Nat.blt q.2.1 6
  | 13 => (mv_tn q.2.1).isSome
  | 14 => (match mv_sn q.2.1 with
    | some z => decide (z.1 = own) && Nat.beq z.2.1 j
    | none => false)
  | 15 => Nat.blt q.2.1 2147483648
  | 23 => true
  | 24 => true
  | 20 => (match mv_look mv_mt 16 q.2.1 with
    | some N => N.2.2.2.isEmpty && mv_plainY N.1 && decide ((parseMethodDescriptor N.1.desc).map (fun d => d.parameters.length) = some q.2.2.1) && Nat.blt q.2.2.2.1 14 && Nat.beq kd 0
    | none => false)
  | 25 => (match mv_look mv_mt 16 q.2.1 with
    | some N => N.2.2.2.isEmpty && mv_plainY N.1 && decide ((parseMethodDescriptor N.1.desc).map (fun d => d.parameters.length) = some q.2.2.1) && Nat.blt q.2.2.2.1 14 && Nat.beq kd 2 && N.1.name != "<init>"
    | none => false)
  | 21 => (match mv_look mv_mt 16 q.2.1 with
    | some N => mv_plainY N.1 && decide ((parseMethodDescriptor N.1.desc).map (fun d => d.parameters.length) = some q.2.2.1) && (Nat.beq kd 3 || (Nat.beq kd 4 && N.2.2.2.isEmpty))
    | none => false)
  | 22 => (match mv_look mv_mt 16 q.2.1 with
    | some N => N.2.2.2.isEmpty && mv_plainY N.1 && decide ((parseMethodDescriptor N.1.desc).map (fun d => d.parameters.length) = some q.2.2.1) && (Nat.beq kd 6 || Nat.beq kd 7) && N.1.name == "<init>" && N.2.2.1.isNone
    | none => false)
  | _ => false
/-- a link checked: its kind, the places of its words -/
def mv_lck (own : String) (j : Nat) (q : mv_L) (kd : Nat) (ps : List Nat) : Bool :=
  mv_sd own j q kd && Nat.beq (mv_lws own j q kd).length ps.length && ((mv_lws own j q kd).zip ps).all (fun z => mv_gg z.1 && decide (lw_tbl[z.2]? = some z.1))
def mv_lok (own : String) (j : Nat) (q : mv_L) : Prop := ∃ kd, mv_sd own j q kd = true ∧ ∀ w ∈ mv_lws own j q kd, mv_gg w = true ∧ w ∈ lw_tbl
theorem mv_lok_of {own : String} {j : Nat} {q : mv_L} {kd : Nat} {ps : List Nat} (h : mv_lck own j q kd ps = true) : mv_lok own j q := by
  simp only [mv_lck, Bool.and_eq_true, List.all_eq_true] at h
  obtain ⟨⟨h1, h2⟩, h3⟩ := h
  refine ⟨kd, h1, fun w hw => ?_⟩
  obtain ⟨i, hi⟩ := List.mem_iff_getElem?.mp hw
  have hl := Nat.eq_of_beq_eq_true h2
  have hlt : i < (mv_lws own j q kd).length := (List.getElem?_eq_some_iff.mp hi).1
  have hp : ps[i]? = some (ps[i]'(by omega)) := List.getElem?_eq_getElem (by omega)
  have hz : ((mv_lws own j q kd).zip ps)[i]? = some (w, ps[i]'(by omega)) := by
    rw [List.getElem?_zip_eq_some]
    exact ⟨hi, hp⟩
  have := h3 _ (List.mem_of_getElem? hz)
  simp only [decide_eq_true_eq] at this
  exact ⟨this.1, List.mem_of_getElem? this.2⟩
def mv_xc (e : Nat) : Nat := match e with
  | 0 => 97
  | 1 => 131
  | 2 => 142
  | 3 => 292
  | 4 => 260
  | _ => 246
def mv_xn : List String := ["java/lang/RuntimeException", "java/lang/Exception"]
def mv_nt (t : ArrayType) : Bool := match t with
  | .int | .byte | .char | .long | .double => true
  | _ => false
/-- what is asked of an instruction beside its bytes -/
def mv_ex (N : mv_N) (M : mv_M) (pc : Nat) (i : Instr) (t : Nat) (sw : List (Int × Nat)) : Bool := match i with
  | .goto o => decide ((pc : Int) + o = (t : Int))
  | .ifCond _ o => decide ((pc : Int) + o = (t : Int))
  | .if_icmp _ o => decide ((pc : Int) + o = (t : Int))
  | .bipush n => decide (-128 ≤ n) && decide (n ≤ 127)
  | .sipush n => decide (-32768 ≤ n) && decide (n ≤ 32767)
  | .fconst n => decide (n = 0)
  | .dconst n => decide (n = 0)
  | .tableswitch d lo hi offs => decide ((pc : Int) + d = (t : Int)) && decide (-2147483648 ≤ lo) && decide (hi < 2147483648) && decide (hi + 1 = lo + sw.length) &&
      (List.range sw.length).all fun j => decide (sw[j]? = (offs[j]?).map fun o => (lo + j, ((pc : Int) + o).toNat)) && (match offs[j]? with
        | some o => decide (0 ≤ (pc : Int) + o)
        | none => false)
  | .lookupswitch d ps => decide ((pc : Int) + d = (t : Int)) && (ps.toList.zip (ps.toList.drop 1)).all (fun (a, next) => a.1 < next.1) && decide (sw = ps.toList.map fun a => (a.1, ((pc : Int) + a.2).toNat)) &&
      ps.toList.all fun a => decide (0 ≤ (pc : Int) + a.2) && decide (-2147483648 ≤ a.1) && decide (a.1 < 2147483648)
  | .ldc j => (match sw with
    | [] => true
    | q :: _ => (match mv_look M.2.2.2.2.1 16 j with
      | some z => Nat.beq z.1 15 && decide (q.1 = (z.2.1 : Int))
      | none => false))
  | .ldc_w j => (match sw with
    | [] => true
    | q :: _ => (match mv_look M.2.2.2.2.1 16 j with
      | some z => Nat.beq z.1 15 && decide (q.1 = (z.2.1 : Int))
      | none => false))
  | .putfield j => (match mv_look M.2.2.2.2.1 16 j with
    | some z => (match vwCl[z.2.1]? with
      | some r => !(r.2.1 z.2.2.1).2.2.2 || (N.1.name == "<init>" && (r.2.1 z.2.2.1).1 == N.1.cls)
      | none => false)
    | none => false)
  | .invokevirtual j => (match mv_look M.2.2.2.2.1 16 j with
    | some z => Nat.beq z.1 20
    | none => true)
  | .invokespecial j => (match mv_look M.2.2.2.2.1 16 j with
    | some z => Nat.beq z.1 22 || Nat.beq z.1 23 || Nat.beq z.1 25
    | none => true)
  | .invokestatic j => (match mv_look M.2.2.2.2.1 16 j with
    | some z => Nat.beq z.1 21 || Nat.beq z.1 24
    | none => true)
  | .newarray t => mv_nt t
  | .anewarray j => (match mv_look M.2.2.2.2.1 16 j with
    | some z => mv_ao z.2.1
    | none => false)
  | .new j => (match t with
    | 0 => true
    | 1 => (match mv_look M.2.2.2.2.1 16 j, decode N.2.1 (pc + 4) with
      | some z, .ok (.ldc s, 2) => (match mv_look M.2.2.2.2.1 16 s with
        | some y => Nat.beq y.1 14 && N.1.cls == "BalloonHarbour" && Nat.beq z.1 11 && Nat.blt z.2.1 6 && decide (decode N.2.1 (pc + 3) = .ok (.dup, 1)) && decide (decode N.2.1 (pc + 6) = .ok (.invokespecial (mv_xc z.2.1), 3)) && decide (decode N.2.1 (pc + 9) = .ok (.athrow, 1))
        | none => false)
      | _, _ => false)
    | _ => (match mv_look M.2.2.2.2.1 16 j, decode N.2.1 (pc + 4) with
      | some z, .ok (.ldc_w s, 3) => (match mv_look M.2.2.2.2.1 16 s with
        | some y => Nat.beq y.1 14 && N.1.cls == "BalloonHarbour" && Nat.beq z.1 11 && Nat.blt z.2.1 6 && decide (decode N.2.1 (pc + 3) = .ok (.dup, 1)) && decide (decode N.2.1 (pc + 7) = .ok (.invokespecial (mv_xc z.2.1), 3)) && decide (decode N.2.1 (pc + 10) = .ok (.athrow, 1))
        | none => false)
      | _, _ => false))
  | _ => true
def mv_dck (N : mv_N) (M : mv_M) (pc : Nat) (q : mv_I) : Bool :=
  (match decode N.2.1 pc with
    | .ok z => decide (z.1 = q.1) && mv_lno q.1 z.2
    | .error _ => false) && mv_ex N M pc q.1 q.2.1 q.2.2
def mv_rkok (k : Nat) (t : Option FieldType) : Bool := match k, t with
  | 0, none => true
  | 1, some .int => true
  | 2, some (.object _) => true
  | 2, some (.array _) => true
  | 4, some .float => true
  | 5, some .double => true
  | 6, some .boolean => true
  | 7, some .char => true
  | 8, some .byte => true
  | _, _ => false
/-- a handler against the real table -/
def mv_hck (N : mv_N) (M : mv_M) (x : Nat × Nat × Nat × Nat) (z : Nat × Nat × Nat × Nat × Nat) : Bool :=
  Nat.beq x.1 z.1 && Nat.beq x.2.1 z.2.1 && !(Nat.beq x.2.2.2 0) && Nat.blt z.2.2.2.2 M.1 && !M.2.1 && Nat.blt z.2.2.2.1 6 && (match mv_look M.2.2.2.2.1 16 x.2.2.2 with
    | some y => Nat.beq y.1 11 && Nat.beq y.2.1 z.2.2.2.1
    | none => false) && (match decode N.2.1 x.2.2.1 with
    | .ok (.astore_n k, 1) => Nat.beq k z.2.2.2.2 && Nat.beq z.2.2.1 (x.2.2.1 + 1)
    | .ok (.astore k, 2) => Nat.beq k z.2.2.2.2 && Nat.beq z.2.2.1 (x.2.2.1 + 2)
    | _ => false)
def mv_mck (N : mv_N) (M : mv_M) : Bool :=
  Nat.ble M.1 13 && mv_rkok M.2.2.1 N.2.2.1 && Nat.beq N.2.2.2.length M.2.2.2.2.2.length && (N.2.2.2.zip M.2.2.2.2.2).all (fun z => mv_hck N M z.1 z.2) && M.2.2.2.1.all (fun l => l.all fun q => mv_dck N M q.1 q.2)
/-- all that the walk wants of a method -/
def mv_good (N : mv_N) (M : mv_M) : Prop := mv_mck N M = true ∧ ∀ j q, mv_look M.2.2.2.2.1 16 j = some q → mv_lok N.1.cls j q
theorem mv_good_d {N : mv_N} {M : mv_M} (h : mv_good N M) {pc t : Nat} {i : Instr} {sw : List (Int × Nat)} (hl : mv_look M.2.2.2.1 32 pc = some (i, t, sw)) : (∃ n, decode N.2.1 pc = .ok (i, n) ∧ mv_lno i n = true) ∧ mv_ex N M pc i t sw = true := by
  have h1 := h.1
  simp only [mv_mck, Bool.and_eq_true, List.all_eq_true] at h1
  obtain ⟨l, hl1, hl2⟩ := mi_look hl
  have h2 := h1.2 l hl1 _ hl2
  simp only [mv_dck, Bool.and_eq_true] at h2
  refine ⟨?_, h2.2⟩
  have h3 := h2.1
  split at h3
  · next z hz =>
    rw [Bool.and_eq_true, decide_eq_true_eq] at h3
    obtain ⟨a, b⟩ := z
    obtain ⟨e, h4⟩ := h3
    have e : a = i := e
    subst e
    exact ⟨b, hz, h4⟩
  · cases h3
/-- a class, checked: the places of its words -/
def mv_clk (ci : Nat) (r : vw_C) (ps : List Nat) : Bool :=
  Nat.beq (u_ws r.1 r.2.1 r.2.2).length ps.length && ((u_ws r.1 r.2.1 r.2.2).zip ps).all (fun z => mv_gg z.1 && decide (lw_tbl[z.2]? = some z.1)) && decide (mv_cn ci = r.1) && Nat.beq (mv_df ci).length r.2.2 &&
  (List.range r.2.2).all (fun k => (match parseFieldDescriptor (r.2.1 k).2.2.1 with
    | some ty => decide (defaultValue ty = vp_V (mv_df ci) k)
    | none => false) && (List.range r.2.2).all fun b => Nat.beq k b || decide ((r.2.1 k).2.1 ≠ (r.2.1 b).2.1))
theorem mv_zip_ok {ws : List Cond} {ps : List Nat} (h2 : Nat.beq ws.length ps.length = true) (h3 : (ws.zip ps).all (fun z => mv_gg z.1 && decide (lw_tbl[z.2]? = some z.1)) = true) : ∀ w ∈ ws, mv_gg w = true ∧ w ∈ lw_tbl := by
  intro w hw
  obtain ⟨i, hi⟩ := List.mem_iff_getElem?.mp hw
  have hl := Nat.eq_of_beq_eq_true h2
  have hlt : i < ws.length := (List.getElem?_eq_some_iff.mp hi).1
  have hp : ps[i]? = some (ps[i]'(by omega)) := List.getElem?_eq_getElem (by omega)
  have hz : (ws.zip ps)[i]? = some (w, ps[i]'(by omega)) := by
    rw [List.getElem?_zip_eq_some]
    exact ⟨hi, hp⟩
  have := List.all_eq_true.mp h3 _ (List.mem_of_getElem? hz)
  simp only [Bool.and_eq_true, decide_eq_true_eq] at this
  exact ⟨this.1, List.mem_of_getElem? this.2⟩
theorem mv_clk_ok {ci : Nat} {r : vw_C} {ps : List Nat} (h : mv_clk ci r ps = true) : (∀ w ∈ u_ws r.1 r.2.1 r.2.2, mv_gg w = true ∧ w ∈ lw_tbl) ∧ mv_cn ci = r.1 ∧ (mv_df ci).length = r.2.2 ∧ (∃ ty : Nat → FieldType, ∀ k, k < r.2.2 → parseFieldDescriptor (r.2.1 k).2.2.1 = some (ty k) ∧ defaultValue (ty k) = vp_V (mv_df ci) k) ∧ ∀ a, a < r.2.2 → ∀ b, b < r.2.2 → a ≠ b → (r.2.1 a).2.1 ≠ (r.2.1 b).2.1 := by
  simp only [mv_clk, Bool.and_eq_true] at h
  obtain ⟨⟨⟨⟨h1, h2⟩, h3⟩, h4⟩, h5⟩ := h
  rw [List.all_eq_true] at h5
  refine ⟨mv_zip_ok h1 h2, of_decide_eq_true h3, Nat.eq_of_beq_eq_true h4, ⟨fun k => (parseFieldDescriptor (r.2.1 k).2.2.1).getD .int, fun k hk => ?_⟩, fun a ha b hb hab => ?_⟩
  · have := h5 k (List.mem_range.mpr hk)
    rw [Bool.and_eq_true] at this
    have := this.1
    split at this
    · next ty hty =>
      have e : (parseFieldDescriptor (r.2.1 k).2.2.1).getD .int = ty := by rw [hty]; rfl
      show _ = some ((parseFieldDescriptor (r.2.1 k).2.2.1).getD .int) ∧ defaultValue ((parseFieldDescriptor (r.2.1 k).2.2.1).getD .int) = _
      rw [e]
      exact ⟨hty, of_decide_eq_true this⟩
    · cases this
  · have := h5 a (List.mem_range.mpr ha)
    rw [Bool.and_eq_true, List.all_eq_true] at this
    have := this.2 b (List.mem_range.mpr hb)
    rw [Bool.or_eq_true] at this
    rcases this with h | h
    · exact absurd (Nat.eq_of_beq_eq_true h) hab
    · exact of_decide_eq_true h
def mv_clks : List (vw_C × List Nat) → Nat → Bool
  | [], _ => true
  | q :: r, n => mv_clk n q.1 q.2 && mv_clks r (n + 1)
theorem mv_clks_ok : ∀ {L : List (vw_C × List Nat)} {n : Nat}, mv_clks L n = true → ∀ (k : Nat) (r : vw_C), (L.map (·.1))[k]? = some r → ∃ ps, mv_clk (n + k) r ps = true
  | [], n, _, k, r, h => by simp at h
  | q :: L, n, h0, k, r, h => by
    have h0 : (mv_clk n q.1 q.2 && mv_clks L (n + 1)) = true := h0
    rw [Bool.and_eq_true] at h0
    cases k with
    | zero =>
      simp only [List.map_cons, List.getElem?_cons_zero] at h
      cases h
      exact ⟨q.2, h0.1⟩
    | succ k =>
      simp only [List.map_cons, List.getElem?_cons_succ] at h
      have := mv_clks_ok h0.2 k r h
      rw [show n + (k + 1) = n + 1 + k by omega]
      exact this
end
section
def mv_clz : List (vw_C × List Nat) := [((RJ0, TJ0, 2), [969, 971]),
  ((RJ4, TJ4, 4), [325, 327, 329, 331]),
  ((RJx00060, TJx00060, 6), [957, 958, 959, 960, 961, 962]),
  ((RJx7c733, TJx7c733, 6), [1507, 1508, 1509, 1510, 1511, 1512]),
  ((RX0, TX0, 7), [155, 157, 159, 161, 163, 165, 167]),
  ((RX1, TX1, 3), [265, 267, 269]),
  ((RX2, TX2, 3), [357, 359, 361]),
  ((RX3, TX3, 12), [209, 211, 213, 215, 217, 219, 221, 223, 225, 227, 229, 231]),
  ((RX4, TX4, 3), [247, 249, 251]),
  ((RX5, TX5, 3), [180, 182, 184]),
  ((RX6, TX6, 5), [290, 292, 294, 296, 298]),
  ((RX7, TX7, 2), [343, 345]),
  ((RX8, TX8, 14), [378, 380, 382, 384, 386, 388, 390, 392, 394, 396, 398, 400, 402, 404]),
  ((RX9, TX9, 27), [1652, 1654, 1656, 1658, 1660, 1662, 1664, 1666, 1668, 1670, 1672, 1674, 1676, 1678, 1680, 1682, 1684, 1686, 1688, 1690, 1692, 1694, 1696, 1698, 1700, 1702, 1704])]
theorem mv_clz_ok : mv_clks mv_clz 0 = true := by decide +kernel
theorem mv_cl_ok {ci : Nat} {r : vw_C} (h : vwCl[ci]? = some r) : ∃ ps, mv_clk ci r ps = true := by
  have := mv_clks_ok mv_clz_ok ci r h
  rwa [Nat.zero_add] at this
theorem mv_at_int : Cond.arrayClass .int ∈ lw_tbl := List.mem_of_getElem? (i := 170) (by decide +kernel)
theorem mv_at_byte : Cond.arrayClass .byte ∈ lw_tbl := List.mem_of_getElem? (i := 334) (by decide +kernel)
theorem mv_at_char : Cond.arrayClass .char ∈ lw_tbl := List.mem_of_getElem? (i := 301) (by decide +kernel)
theorem mv_at_long : Cond.arrayClass .long ∈ lw_tbl := List.mem_of_getElem? (i := 2143) (by decide +kernel)
theorem mv_at_double : Cond.arrayClass .double ∈ lw_tbl := List.mem_of_getElem? (i := 2144) (by decide +kernel)
theorem mv_at_ok {t : ArrayType} (h : mv_nt t = true) : Cond.arrayClass (newarray.typeOf t) ∈ lw_tbl := by
  cases t <;> first | exact mv_at_int | exact mv_at_byte | exact mv_at_char | exact mv_at_long | exact mv_at_double | cases h
theorem mv_cast_0 : Cond.castable (mv_en 0) (mv_en 0) ∈ lw_tbl := List.mem_of_getElem? (i := 676) (by decide +kernel)
theorem mv_cast_1 : Cond.castable (mv_en 1) (mv_en 1) ∈ lw_tbl := List.mem_of_getElem? (i := 748) (by decide +kernel)
theorem mv_cast_2 : Cond.castable (mv_en 2) (mv_en 2) ∈ lw_tbl := List.mem_of_getElem? (i := 764) (by decide +kernel)
theorem mv_cast_3 : Cond.castable (mv_en 3) (mv_en 3) ∈ lw_tbl := List.mem_of_getElem? (i := 788) (by decide +kernel)
theorem mv_cast_4 : Cond.castable (mv_en 4) (mv_en 4) ∈ lw_tbl := List.mem_of_getElem? (i := 1182) (by decide +kernel)
theorem mv_cast_5 : Cond.castable (mv_en 5) (mv_en 5) ∈ lw_tbl := List.mem_of_getElem? (i := 1152) (by decide +kernel)
theorem mv_cast_ok {e : Nat} (h : e < 6) : Cond.castable (mv_en e) (mv_en e) ∈ lw_tbl := by
  have h : e = 0 ∨ e = 1 ∨ e = 2 ∨ e = 3 ∨ e = 4 ∨ e = 5 := by omega
  rcases h with rfl | rfl | rfl | rfl | rfl | rfl
  · exact mv_cast_0
  · exact mv_cast_1
  · exact mv_cast_2
  · exact mv_cast_3
  · exact mv_cast_4
  · exact mv_cast_5
end
section
/-! THE REAL MACHINE FOLLOWS THE SMALL ONE: one activation -/
def mv_Cx (D : va_G) (l : Launch) (s0 : State) (a0 : Array Value) (X : mv_X) (p : Program) (s : State) (m : MethodId) (meth : Method) (c : Code) (N : mv_N) (M : mv_M) : Prop :=
  mv_GL D l s0 a0 X ∧ p.tables.exec = Jvm.exec ∧ s0.WarmedH s.vm ∧ c.code = N.2.1 ∧ c.maxLocals = M.1 ∧ meth.sig.returnType = N.2.2.1 ∧ s.vm.findClass N.1.cls = some m.cls ∧ meth.locks = false ∧ meth.name = N.1.name ∧ c.exceptionTable.toList = tableOf N.2.2.2 ∧ mv_good N M ∧ s0.heap.size ≤ s.heap.size ∧ ∀ q, q < s0.heap.size → s.heap[q]? = s0.heap[q]?
def mv_Le (h h' : mv_H) : Prop := h.2.1 ≤ h'.2.1 ∧ h.2.2 ≤ h'.2.2
def mv_Qc (D : va_G) (s0 : State) (r : mv_R) : Array Value → State → Outcome → State → Prop := fun _ _ o t => ∃ v, r.1 = .inl v ∧ o = .returned v ∧ mv_HR D s0 r.2 t.heap
def mv_XC (D : va_G) (s0 : State) (r : mv_R) : String → State → State → Prop := fun E _ t => ∃ x q, r.1 = .inr (x, q) ∧ x < 6 ∧ E = mv_en x ∧ mv_HR D s0 r.2 t.heap
def mv_Pc (D : va_G) (s0 : State) (as : List Value) (h : mv_H) : Array Value → State → Prop := fun v U => v = as.toArray ∧ s0.WarmedH U.vm ∧ mv_HR D s0 h U.heap
def mv_rm (d mc ms : Nat) : Room := { frames := d + 8, cells := mc, slots := ms, locals := 32 * d + 300 }
def mv_CallOK (D : va_G) (l : Launch) (s0 : State) (d : Nat) (call : mv_G) : Prop := ∀ y as h r, call y as h = some r → mv_Le h r.2 ∧ (∃ M, mv_look mv_tab 16 y = some M) ∧ ∀ N M, mv_look mv_mt 16 y = some N → mv_look mv_tab 16 y = some M → (∀ v ∈ as, v.category = 1) →
  vx_Met l N.1 [mv_cw N M] (mv_rm d (r.2.2.1 - h.2.1) (r.2.2.2 - h.2.2)) (mv_Pc D s0 as h) (mv_Qc D s0 r) (mv_XC D s0 r) (r.2.2.1 - h.2.1) (r.2.2.2 - h.2.2) (fun q => s0.heap.size ≤ q)
def mv_Go (D : va_G) (s0 : State) (p : Program) (l : Launch) (e : Env) (R : Room) (s : State) (m : MethodId) (args : Array Value) (below : List Frame) (meth : Method) (c : Code) (M : mv_M) (r : mv_R) (pc : Nat) (ls st : List Value) (h : mv_H) : Prop :=
  mv_Le h r.2 ∧ ∀ (H : Heap) (locs : List Loc) (cells slots mc ms : Nat) (rls : Array Slot), mv_HR D s0 h H → mv_lr M.2.1 M.1 ls rls → (∀ q ∈ locs, s0.heap.size ≤ q.base) → s.heap.size ≤ h.2.1 → cells + (r.2.2.1 - h.2.1) ≤ mc → slots + (r.2.2.2 - h.2.2) ≤ ms → mc ≤ R.cells → ms ≤ R.slots →
    W p l e R s m args below meth c H locs cells slots (vx_MQ below (mv_Qc D s0 r) (mv_XC D s0 r) args s mc ms (fun q => s0.heap.size ≤ q)) (F0 m pc rls st)
theorem W.mono' {p : Program} {l : Launch} {e : Env} {R : Room} {s : State} {m : MethodId} {args : Array Value} {below : List Frame} {meth : Method} {c : Code} {H : Heap} {locs : List Loc} {cells slots : Nat} {Q Q' : State → Prop} {g : JFrame} (h : ∀ t, Q t → Q' t) (k : W p l e R s m args below meth c H locs cells slots Q g) : W p l e R s m args below meth c H locs cells slots Q' g := fun T hT X => by
  obtain ⟨t, a, b⟩ := k T hT X
  exact ⟨t, a, h t b⟩
theorem mv_dg {cc : ByteArray} {pc n : Nat} {i : Instr} (h : decode cc pc = .ok (i, n)) (hn : Nat.beq n (mv_il i) = true) : decode cc pc = .ok (i, mv_il i) := by rw [h, Nat.eq_of_beq_eq_true hn]
theorem mv_ge0 {x : Int32} : ¬ x < 0 ↔ 0 ≤ x.toInt := by rw [Int32.not_lt, Int32.le_iff_toInt_le]; rfl
theorem mv_i8 {n : Int} (h1 : -128 ≤ n) (h2 : n ≤ 127) : (Int8.ofInt n).toInt32 = nZ n := by
  apply Int32.toInt_inj.mp
  rw [Int8.toInt_toInt32, nZ, Int8.toInt_ofInt, Int32.toInt_ofInt]
  simp only [Int.bmod_def, Int8.size, Int32.size]
  omega
theorem mv_i16 {n : Int} (h1 : -32768 ≤ n) (h2 : n ≤ 32767) : (Int16.ofInt n).toInt32 = nZ n := by
  apply Int32.toInt_inj.mp
  rw [Int16.toInt_toInt32, nZ, Int16.toInt_ofInt, Int32.toInt_ofInt]
  simp only [Int.bmod_def, Int16.size, Int32.size]
  omega
section SIM
variable {D : va_G} {l : Launch} {s0 : State} {a0 : Array Value} {X : mv_X} {p : Program} {e : Env} {R : Room} {s : State} {m : MethodId} {args : Array Value} {below : List Frame} {meth : Method} {c : Code} {N : mv_N} {M : mv_M} {r : mv_R} {pc pc2 : Nat} {ls st st2 : List Value} {h : mv_H}
theorem mv_pure (g : mv_Go D s0 p l e R s m args below meth c M r pc2 ls st2 h)
    (k : ∀ {H : Heap} {locs : List Loc} {cells slots : Nat} {Q : State → Prop} {rls : Array Slot}, mv_HR D s0 h H → mv_lr M.2.1 M.1 ls rls → W p l e R s m args below meth c H locs cells slots Q (F0 m pc2 rls st2) → W p l e R s m args below meth c H locs cells slots Q (F0 m pc rls st)) : mv_Go D s0 p l e R s m args below meth c M r pc ls st h :=
  ⟨g.1, fun H locs cells slots mc ms rls a1 a2 a3 a4 a5 a6 a7 a8 => k a1 a2 (g.2 H locs cells slots mc ms rls a1 a2 a3 a4 a5 a6 a7 a8)⟩
theorem mv_sto {ls2 : List Value} (g : mv_Go D s0 p l e R s m args below meth c M r pc2 ls2 st2 h)
    (k : ∀ {H : Heap} {locs : List Loc} {cells slots : Nat} {Q : State → Prop} {rls : Array Slot}, mv_lr M.2.1 M.1 ls rls → (∀ rls', mv_lr M.2.1 M.1 ls2 rls' → W p l e R s m args below meth c H locs cells slots Q (F0 m pc2 rls' st2)) → W p l e R s m args below meth c H locs cells slots Q (F0 m pc rls st)) : mv_Go D s0 p l e R s m args below meth c M r pc ls st h :=
  ⟨g.1, fun H locs cells slots mc ms rls a1 a2 a3 a4 a5 a6 a7 a8 => k a2 fun rls' a2' => g.2 H locs cells slots mc ms rls' a1 a2' a3 a4 a5 a6 a7 a8⟩

theorem si_iload_n (C : mv_Cx D l s0 a0 X p s m meth c N M) {j : Fin 4} {x : Int32} (hx : ls[(j : Nat)]? = some (.int x)) (dg : decode N.2.1 pc = .ok (.iload_n j, 1)) (g : mv_Go D s0 p l e R s m args below meth c M r (pc + 1) ls (.int x :: st) h) : mv_Go D s0 p l e R s m args below meth c M r pc ls (st) h := mv_pure g fun _ a k => lv_iload_n C.2.1 C.2.2.2.1 dg rfl (mv_lr_at a hx rfl) k
theorem si_iload (C : mv_Cx D l s0 a0 X p s m meth c N M) {j : Nat} {x : Int32} (hx : ls[j]? = some (.int x)) (dg : decode N.2.1 pc = .ok (.iload j, 2)) (g : mv_Go D s0 p l e R s m args below meth c M r (pc + 2) ls (.int x :: st) h) : mv_Go D s0 p l e R s m args below meth c M r pc ls (st) h := mv_pure g fun _ a k => lv_iload C.2.1 C.2.2.2.1 dg (mv_lr_at a hx rfl) k
theorem si_aload_n (C : mv_Cx D l s0 a0 X p s m meth c N M) {j : Fin 4} {x : Nat} (hx : ls[(j : Nat)]? = some (.ref x)) (dg : decode N.2.1 pc = .ok (.aload_n j, 1)) (g : mv_Go D s0 p l e R s m args below meth c M r (pc + 1) ls (.ref x :: st) h) : mv_Go D s0 p l e R s m args below meth c M r pc ls (st) h := mv_pure g fun _ a k => lv_aload_n C.2.1 C.2.2.2.1 dg rfl (mv_lr_at a hx rfl) k
theorem si_aload (C : mv_Cx D l s0 a0 X p s m meth c N M) {j : Nat} {x : Nat} (hx : ls[j]? = some (.ref x)) (dg : decode N.2.1 pc = .ok (.aload j, 2)) (g : mv_Go D s0 p l e R s m args below meth c M r (pc + 2) ls (.ref x :: st) h) : mv_Go D s0 p l e R s m args below meth c M r pc ls (st) h := mv_pure g fun _ a k => lv_aload C.2.1 C.2.2.2.1 dg (mv_lr_at a hx rfl) k
theorem si_fload (C : mv_Cx D l s0 a0 X p s m meth c N M) {j : Nat} {x : UInt32} (hx : ls[j]? = some (.float x)) (dg : decode N.2.1 pc = .ok (.fload j, 2)) (g : mv_Go D s0 p l e R s m args below meth c M r (pc + 2) ls (.float x :: st) h) : mv_Go D s0 p l e R s m args below meth c M r pc ls (st) h := mv_pure g fun _ a k => lv_fload C.2.1 C.2.2.2.1 dg (mv_lr_at a hx rfl) k
theorem si_dload (C : mv_Cx D l s0 a0 X p s m meth c N M) {j : Nat} {x : UInt64} (hx : ls[j]? = some (.double x)) (dg : decode N.2.1 pc = .ok (.dload j, 2)) (g : mv_Go D s0 p l e R s m args below meth c M r (pc + 2) ls (.double x :: st) h) : mv_Go D s0 p l e R s m args below meth c M r pc ls (st) h := mv_pure g fun _ a k => lv_dload C.2.1 C.2.2.2.1 dg (mv_lr_at a hx rfl) k
theorem si_istore_n (C : mv_Cx D l s0 a0 X p s m meth c N M) {j : Fin 4} {x : Int32} (h1 : (j : Nat) < ls.length) (hw : M.2.1 = true → mv_wid (ls.getD ((j : Nat) - 1) .null) = false) (dg : decode N.2.1 pc = .ok (.istore_n j, 1)) (g : mv_Go D s0 p l e R s m args below meth c M r (pc + 1) (ls.set (j : Nat) (.int x)) (st) h) : mv_Go D s0 p l e R s m args below meth c M r pc ls (.int x :: st) h := mv_sto g fun a k => lv_istore_n C.2.1 C.2.2.2.1 dg rfl a.2.1 (a.1 ▸ h1) rfl fun rls2 a2 => k rls2 (mv_lr_set a rfl (Or.inl rfl) hw a2)
theorem si_istore (C : mv_Cx D l s0 a0 X p s m meth c N M) {j : Nat} {x : Int32} (h1 : j < ls.length) (hw : M.2.1 = true → mv_wid (ls.getD (j - 1) .null) = false) (dg : decode N.2.1 pc = .ok (.istore j, 2)) (g : mv_Go D s0 p l e R s m args below meth c M r (pc + 2) (ls.set j (.int x)) (st) h) : mv_Go D s0 p l e R s m args below meth c M r pc ls (.int x :: st) h := mv_sto g fun a k => lv_istore C.2.1 C.2.2.2.1 dg a.2.1 (a.1 ▸ h1) rfl fun rls2 a2 => k rls2 (mv_lr_set a rfl (Or.inl rfl) hw a2)
theorem si_astore_n (C : mv_Cx D l s0 a0 X p s m meth c N M) {j : Fin 4} {x : Nat} (h1 : (j : Nat) < ls.length) (hw : M.2.1 = true → mv_wid (ls.getD ((j : Nat) - 1) .null) = false) (dg : decode N.2.1 pc = .ok (.astore_n j, 1)) (g : mv_Go D s0 p l e R s m args below meth c M r (pc + 1) (ls.set (j : Nat) (.ref x)) (st) h) : mv_Go D s0 p l e R s m args below meth c M r pc ls (.ref x :: st) h := mv_sto g fun a k => lv_astore_n C.2.1 C.2.2.2.1 dg rfl a.2.1 (a.1 ▸ h1) rfl fun rls2 a2 => k rls2 (mv_lr_set a rfl (Or.inl rfl) hw a2)
theorem si_astore (C : mv_Cx D l s0 a0 X p s m meth c N M) {j : Nat} {x : Nat} (h1 : j < ls.length) (hw : M.2.1 = true → mv_wid (ls.getD (j - 1) .null) = false) (dg : decode N.2.1 pc = .ok (.astore j, 2)) (g : mv_Go D s0 p l e R s m args below meth c M r (pc + 2) (ls.set j (.ref x)) (st) h) : mv_Go D s0 p l e R s m args below meth c M r pc ls (.ref x :: st) h := mv_sto g fun a k => lv_astore C.2.1 C.2.2.2.1 dg a.2.1 (a.1 ▸ h1) rfl fun rls2 a2 => k rls2 (mv_lr_set a rfl (Or.inl rfl) hw a2)
theorem si_fstore (C : mv_Cx D l s0 a0 X p s m meth c N M) {j : Nat} {x : UInt32} (h1 : j < ls.length) (hw : M.2.1 = true → mv_wid (ls.getD (j - 1) .null) = false) (dg : decode N.2.1 pc = .ok (.fstore j, 2)) (g : mv_Go D s0 p l e R s m args below meth c M r (pc + 2) (ls.set j (.float x)) (st) h) : mv_Go D s0 p l e R s m args below meth c M r pc ls (.float x :: st) h := mv_sto g fun a k => lv_fstore C.2.1 C.2.2.2.1 dg a.2.1 (a.1 ▸ h1) rfl fun rls2 a2 => k rls2 (mv_lr_set a rfl (Or.inl rfl) hw a2)
theorem si_dstore (C : mv_Cx D l s0 a0 X p s m meth c N M) {j : Nat} {x : UInt64} (dg : decode N.2.1 pc = .ok (.dstore j, 2)) (h1 : j + 1 < ls.length) (hm : M.2.1 = true) (hw : mv_wid (ls.getD (j - 1) .null) = false) (g : mv_Go D s0 p l e R s m args below meth c M r (pc + 2) ((ls.set j (.double x)).set (j + 1) (.retAddr 0)) st h) : mv_Go D s0 p l e R s m args below meth c M r pc ls (.double x :: st) h := mv_sto g fun a k => lv_dstore C.2.1 C.2.2.2.1 dg a.2.1 (a.1 ▸ h1) rfl fun rls2 a2 => k rls2 (by rw [hm] at a ⊢; exact mv_lr_set2 a hw a2)
theorem si_iinc (C : mv_Cx D l s0 a0 X p s m meth c N M) {j : Nat} {n : Int} {x : Int32} (dg : decode N.2.1 pc = .ok (.iinc j n, 3)) (hx : ls[j]? = some (.int x)) (h1 : j < ls.length) (hw : M.2.1 = true → mv_wid (ls.getD (j - 1) .null) = false) (g : mv_Go D s0 p l e R s m args below meth c M r (pc + 3) (ls.set j (.int (x + nZ n))) st h) : mv_Go D s0 p l e R s m args below meth c M r pc ls st h := mv_sto g fun a k => (mv_lr_pos a hx rfl).elim fun i hi => lv_iinc C.2.1 C.2.2.2.1 dg a.2.1 hi rfl (a.1 ▸ h1) rfl fun rls2 a2 => k rls2 (mv_lr_set a rfl (Or.inl rfl) hw a2)
theorem si_iconst (C : mv_Cx D l s0 a0 X p s m meth c N M) {n : Int} (dg : decode N.2.1 pc = .ok (.iconst n, 1)) (g : mv_Go D s0 p l e R s m args below meth c M r (pc + 1) ls (.int (nZ n) :: st) h) : mv_Go D s0 p l e R s m args below meth c M r pc ls (st) h := mv_pure g fun _ a k => lv_iconst C.2.1 C.2.2.2.1 dg rfl k
theorem si_bipush (C : mv_Cx D l s0 a0 X p s m meth c N M) {n : Int} (h1 : -128 ≤ n) (h2 : n ≤ 127) (dg : decode N.2.1 pc = .ok (.bipush n, 2)) (g : mv_Go D s0 p l e R s m args below meth c M r (pc + 2) ls (.int (nZ n) :: st) h) : mv_Go D s0 p l e R s m args below meth c M r pc ls (st) h := mv_pure g fun _ a k => lv_bipush C.2.1 C.2.2.2.1 dg (mv_i8 h1 h2) k
theorem si_sipush (C : mv_Cx D l s0 a0 X p s m meth c N M) {n : Int} (h1 : -32768 ≤ n) (h2 : n ≤ 32767) (dg : decode N.2.1 pc = .ok (.sipush n, 3)) (g : mv_Go D s0 p l e R s m args below meth c M r (pc + 3) ls (.int (nZ n) :: st) h) : mv_Go D s0 p l e R s m args below meth c M r pc ls (st) h := mv_pure g fun _ a k => lv_sipush C.2.1 C.2.2.2.1 dg (mv_i16 h1 h2) k
theorem si_lconst (C : mv_Cx D l s0 a0 X p s m meth c N M) {n : Fin 2} (dg : decode N.2.1 pc = .ok (.lconst n, 1)) (g : mv_Go D s0 p l e R s m args below meth c M r (pc + 1) ls (.long (Int64.ofNat n) :: st) h) : mv_Go D s0 p l e R s m args below meth c M r pc ls (st) h := mv_pure g fun _ a k => lv_lconst C.2.1 C.2.2.2.1 dg rfl k
theorem si_fconst (C : mv_Cx D l s0 a0 X p s m meth c N M) (dg : decode N.2.1 pc = .ok (.fconst 0, 1)) (g : mv_Go D s0 p l e R s m args below meth c M r (pc + 1) ls (.float FP.fconst0 :: st) h) : mv_Go D s0 p l e R s m args below meth c M r pc ls (st) h := mv_pure g fun _ a k => lv_fconst0 C.2.1 C.2.2.2.1 dg k
theorem si_dconst (C : mv_Cx D l s0 a0 X p s m meth c N M) (dg : decode N.2.1 pc = .ok (.dconst 0, 1)) (g : mv_Go D s0 p l e R s m args below meth c M r (pc + 1) ls (.double FP.dconst0 :: st) h) : mv_Go D s0 p l e R s m args below meth c M r pc ls (st) h := mv_pure g fun _ a k => lv_dconst0 C.2.1 C.2.2.2.1 dg k
theorem si_iadd (C : mv_Cx D l s0 a0 X p s m meth c N M) {x y : Int32} (dg : decode N.2.1 pc = .ok (.iadd, 1)) (g : mv_Go D s0 p l e R s m args below meth c M r (pc + 1) ls (.int (x + y) :: st) h) : mv_Go D s0 p l e R s m args below meth c M r pc ls (.int y :: .int x :: st) h := mv_pure g fun _ a k => lv_iadd C.2.1 C.2.2.2.1 dg k
theorem si_isub (C : mv_Cx D l s0 a0 X p s m meth c N M) {x y : Int32} (dg : decode N.2.1 pc = .ok (.isub, 1)) (g : mv_Go D s0 p l e R s m args below meth c M r (pc + 1) ls (.int (x - y) :: st) h) : mv_Go D s0 p l e R s m args below meth c M r pc ls (.int y :: .int x :: st) h := mv_pure g fun _ a k => lv_isub C.2.1 C.2.2.2.1 dg k
theorem si_imul (C : mv_Cx D l s0 a0 X p s m meth c N M) {x y : Int32} (dg : decode N.2.1 pc = .ok (.imul, 1)) (g : mv_Go D s0 p l e R s m args below meth c M r (pc + 1) ls (.int (x * y) :: st) h) : mv_Go D s0 p l e R s m args below meth c M r pc ls (.int y :: .int x :: st) h := mv_pure g fun _ a k => lv_imul C.2.1 C.2.2.2.1 dg k
theorem si_iand (C : mv_Cx D l s0 a0 X p s m meth c N M) {x y : Int32} (dg : decode N.2.1 pc = .ok (.iand, 1)) (g : mv_Go D s0 p l e R s m args below meth c M r (pc + 1) ls (.int (x &&& y) :: st) h) : mv_Go D s0 p l e R s m args below meth c M r pc ls (.int y :: .int x :: st) h := mv_pure g fun _ a k => lv_iand C.2.1 C.2.2.2.1 dg k
theorem si_ior (C : mv_Cx D l s0 a0 X p s m meth c N M) {x y : Int32} (dg : decode N.2.1 pc = .ok (.ior, 1)) (g : mv_Go D s0 p l e R s m args below meth c M r (pc + 1) ls (.int (x ||| y) :: st) h) : mv_Go D s0 p l e R s m args below meth c M r pc ls (.int y :: .int x :: st) h := mv_pure g fun _ a k => lv_ior C.2.1 C.2.2.2.1 dg k
theorem si_ixor (C : mv_Cx D l s0 a0 X p s m meth c N M) {x y : Int32} (dg : decode N.2.1 pc = .ok (.ixor, 1)) (g : mv_Go D s0 p l e R s m args below meth c M r (pc + 1) ls (.int (x ^^^ y) :: st) h) : mv_Go D s0 p l e R s m args below meth c M r pc ls (.int y :: .int x :: st) h := mv_pure g fun _ a k => lv_ixor C.2.1 C.2.2.2.1 dg k
theorem si_ishl (C : mv_Cx D l s0 a0 X p s m meth c N M) {x y : Int32} (dg : decode N.2.1 pc = .ok (.ishl, 1)) (g : mv_Go D s0 p l e R s m args below meth c M r (pc + 1) ls (.int (x <<< (y &&& 31)) :: st) h) : mv_Go D s0 p l e R s m args below meth c M r pc ls (.int y :: .int x :: st) h := mv_pure g fun _ a k => lv_ishl C.2.1 C.2.2.2.1 dg k
theorem si_ishr (C : mv_Cx D l s0 a0 X p s m meth c N M) {x y : Int32} (dg : decode N.2.1 pc = .ok (.ishr, 1)) (g : mv_Go D s0 p l e R s m args below meth c M r (pc + 1) ls (.int (x >>> (y &&& 31)) :: st) h) : mv_Go D s0 p l e R s m args below meth c M r pc ls (.int y :: .int x :: st) h := mv_pure g fun _ a k => lv_ishr C.2.1 C.2.2.2.1 dg k
theorem si_iushr (C : mv_Cx D l s0 a0 X p s m meth c N M) {x y : Int32} (dg : decode N.2.1 pc = .ok (.iushr, 1)) (g : mv_Go D s0 p l e R s m args below meth c M r (pc + 1) ls (.int ((x).toUInt32 >>> ((y).toUInt32 &&& Int32.toUInt32 31)).toInt32 :: st) h) : mv_Go D s0 p l e R s m args below meth c M r pc ls (.int y :: .int x :: st) h := mv_pure g fun _ a k => lv_iushr C.2.1 C.2.2.2.1 dg rfl k
theorem si_idiv (C : mv_Cx D l s0 a0 X p s m meth c N M) {x y : Int32} (hy : ¬ y = 0) (dg : decode N.2.1 pc = .ok (.idiv, 1)) (g : mv_Go D s0 p l e R s m args below meth c M r (pc + 1) ls (.int (x / y) :: st) h) : mv_Go D s0 p l e R s m args below meth c M r pc ls (.int y :: .int x :: st) h := mv_pure g fun _ a k => lv_idiv C.2.1 C.2.2.2.1 dg hy k
theorem si_irem (C : mv_Cx D l s0 a0 X p s m meth c N M) {x y : Int32} (hy : ¬ y = 0) (dg : decode N.2.1 pc = .ok (.irem, 1)) (g : mv_Go D s0 p l e R s m args below meth c M r (pc + 1) ls (.int (x - x / y * y) :: st) h) : mv_Go D s0 p l e R s m args below meth c M r pc ls (.int y :: .int x :: st) h := mv_pure g fun _ a k => lv_irem C.2.1 C.2.2.2.1 dg hy k
theorem si_ineg (C : mv_Cx D l s0 a0 X p s m meth c N M) {x : Int32} (dg : decode N.2.1 pc = .ok (.ineg, 1)) (g : mv_Go D s0 p l e R s m args below meth c M r (pc + 1) ls (.int (-x) :: st) h) : mv_Go D s0 p l e R s m args below meth c M r pc ls (.int x :: st) h := mv_pure g fun _ a k => lv_ineg C.2.1 C.2.2.2.1 dg k
theorem si_i2l (C : mv_Cx D l s0 a0 X p s m meth c N M) {x : Int32} (dg : decode N.2.1 pc = .ok (.i2l, 1)) (g : mv_Go D s0 p l e R s m args below meth c M r (pc + 1) ls (.long ((x).toInt64) :: st) h) : mv_Go D s0 p l e R s m args below meth c M r pc ls (.int x :: st) h := mv_pure g fun _ a k => lv_i2l C.2.1 C.2.2.2.1 dg rfl k
theorem si_i2b (C : mv_Cx D l s0 a0 X p s m meth c N M) {x : Int32} (dg : decode N.2.1 pc = .ok (.i2b, 1)) (g : mv_Go D s0 p l e R s m args below meth c M r (pc + 1) ls (.int ((x).toInt8.toInt32) :: st) h) : mv_Go D s0 p l e R s m args below meth c M r pc ls (.int x :: st) h := mv_pure g fun _ a k => lv_i2b C.2.1 C.2.2.2.1 dg rfl k
theorem si_i2c (C : mv_Cx D l s0 a0 X p s m meth c N M) {x : Int32} (dg : decode N.2.1 pc = .ok (.i2c, 1)) (g : mv_Go D s0 p l e R s m args below meth c M r (pc + 1) ls (.int (((x).toUInt32 % 65536).toInt32) :: st) h) : mv_Go D s0 p l e R s m args below meth c M r pc ls (.int x :: st) h := mv_pure g fun _ a k => lv_i2c C.2.1 C.2.2.2.1 dg rfl k
theorem si_i2d (C : mv_Cx D l s0 a0 X p s m meth c N M) {x : Int32} (dg : decode N.2.1 pc = .ok (.i2d, 1)) (g : mv_Go D s0 p l e R s m args below meth c M r (pc + 1) ls (.double (FP.i2d x) :: st) h) : mv_Go D s0 p l e R s m args below meth c M r pc ls (.int x :: st) h := mv_pure g fun _ a k => lv_i2d C.2.1 C.2.2.2.1 dg k
theorem si_i2f (C : mv_Cx D l s0 a0 X p s m meth c N M) {x : Int32} (dg : decode N.2.1 pc = .ok (.i2f, 1)) (g : mv_Go D s0 p l e R s m args below meth c M r (pc + 1) ls (.float (FP.i2f x) :: st) h) : mv_Go D s0 p l e R s m args below meth c M r pc ls (.int x :: st) h := mv_pure g fun _ a k => lv_i2f C.2.1 C.2.2.2.1 dg k
theorem si_f2d (C : mv_Cx D l s0 a0 X p s m meth c N M) {x : UInt32} (hn : vf_n64 (FP.f2d x)) (dg : decode N.2.1 pc = .ok (.f2d, 1)) (g : mv_Go D s0 p l e R s m args below meth c M r (pc + 1) ls (.double (FP.f2d x) :: st) h) : mv_Go D s0 p l e R s m args below meth c M r pc ls (.float x :: st) h := mv_pure g fun _ a k => lv_f2d C.2.1 C.2.2.2.1 dg hn k
theorem si_ddiv (C : mv_Cx D l s0 a0 X p s m meth c N M) {x y : UInt64} (hn : vf_n64 (FP.ddiv x y)) (dg : decode N.2.1 pc = .ok (.ddiv, 1)) (g : mv_Go D s0 p l e R s m args below meth c M r (pc + 1) ls (.double (FP.ddiv x y) :: st) h) : mv_Go D s0 p l e R s m args below meth c M r pc ls (.double y :: .double x :: st) h := mv_pure g fun _ a k => lv_ddiv C.2.1 C.2.2.2.1 dg hn k
theorem si_fdiv (C : mv_Cx D l s0 a0 X p s m meth c N M) {x y : UInt32} (hn : vf_n32 (FP.fdiv x y)) (dg : decode N.2.1 pc = .ok (.fdiv, 1)) (g : mv_Go D s0 p l e R s m args below meth c M r (pc + 1) ls (.float (FP.fdiv x y) :: st) h) : mv_Go D s0 p l e R s m args below meth c M r pc ls (.float y :: .float x :: st) h := mv_pure g fun _ a k => lv_fdiv C.2.1 C.2.2.2.1 dg hn k
theorem si_lcmp (C : mv_Cx D l s0 a0 X p s m meth c N M) {x y : Int64} (dg : decode N.2.1 pc = .ok (.lcmp, 1)) (g : mv_Go D s0 p l e R s m args below meth c M r (pc + 1) ls (.int (lg_cmp x y) :: st) h) : mv_Go D s0 p l e R s m args below meth c M r pc ls (.long y :: .long x :: st) h := mv_pure g fun _ a k => W.lcmp C.2.1 C.2.2.2.1 dg k
theorem si_dcmp (C : mv_Cx D l s0 a0 X p s m meth c N M) {x y : UInt64} {op : CmpOp} (dg : decode N.2.1 pc = .ok (.dcmp op, 1)) (g : mv_Go D s0 p l e R s m args below meth c M r (pc + 1) ls (.int (Op.cmpValue (FP.dcmp x y) op) :: st) h) : mv_Go D s0 p l e R s m args below meth c M r pc ls (.double y :: .double x :: st) h := mv_pure g fun _ a k => lv_dcmp C.2.1 C.2.2.2.1 dg k
theorem si_fcmp (C : mv_Cx D l s0 a0 X p s m meth c N M) {x y : UInt32} {op : CmpOp} (dg : decode N.2.1 pc = .ok (.fcmp op, 1)) (g : mv_Go D s0 p l e R s m args below meth c M r (pc + 1) ls (.int (Op.cmpValue (FP.fcmp x y) op) :: st) h) : mv_Go D s0 p l e R s m args below meth c M r pc ls (.float y :: .float x :: st) h := mv_pure g fun _ a k => lv_fcmp C.2.1 C.2.2.2.1 dg k
theorem si_dup (C : mv_Cx D l s0 a0 X p s m meth c N M) {v : Value} (hv : v.category = 1) (dg : decode N.2.1 pc = .ok (.dup, 1)) (g : mv_Go D s0 p l e R s m args below meth c M r (pc + 1) ls (v :: v :: st) h) : mv_Go D s0 p l e R s m args below meth c M r pc ls (v :: st) h := mv_pure g fun _ a k => lv_dup C.2.1 C.2.2.2.1 dg hv k
theorem si_pop (C : mv_Cx D l s0 a0 X p s m meth c N M) {v : Value} (hv : v.category = 1) (dg : decode N.2.1 pc = .ok (.pop, 1)) (g : mv_Go D s0 p l e R s m args below meth c M r (pc + 1) ls (st) h) : mv_Go D s0 p l e R s m args below meth c M r pc ls (v :: st) h := mv_pure g fun _ a k => lv_pop C.2.1 C.2.2.2.1 dg hv k
theorem si_dup_x1 (C : mv_Cx D l s0 a0 X p s m meth c N M) {v w : Value} (hv : v.category = 1) (hw : w.category = 1) (dg : decode N.2.1 pc = .ok (.dup_x1, 1)) (g : mv_Go D s0 p l e R s m args below meth c M r (pc + 1) ls (v :: w :: v :: st) h) : mv_Go D s0 p l e R s m args below meth c M r pc ls (v :: w :: st) h := mv_pure g fun _ a k => lv_dup_x1 C.2.1 C.2.2.2.1 dg hv hw k
theorem si_dup2 (C : mv_Cx D l s0 a0 X p s m meth c N M) {v w : Value} (hv : v.category = 1) (hw : w.category = 1) (dg : decode N.2.1 pc = .ok (.dup2, 1)) (g : mv_Go D s0 p l e R s m args below meth c M r (pc + 1) ls (v :: w :: v :: w :: st) h) : mv_Go D s0 p l e R s m args below meth c M r pc ls (v :: w :: st) h := mv_pure g fun _ a k => lv_dup2_11 C.2.1 C.2.2.2.1 dg hv hw k
theorem si_goto (C : mv_Cx D l s0 a0 X p s m meth c N M) {o : Int} {t : Nat} (dg : decode N.2.1 pc = .ok (.goto o, 3)) (ht : (pc : Int) + o = (t : Int)) (g : mv_Go D s0 p l e R s m args below meth c M r t ls st h) : mv_Go D s0 p l e R s m args below meth c M r pc ls st h := mv_pure g fun _ a k => lv_goto C.2.1 C.2.2.2.1 dg ht k
theorem si_if_eq_t (C : mv_Cx D l s0 a0 X p s m meth c N M) {x : Int32} {o : Int} {t : Nat} (hp : x = 0) (dg : decode N.2.1 pc = .ok (.ifCond .eq o, 3)) (ht : (pc : Int) + o = (t : Int)) (g : mv_Go D s0 p l e R s m args below meth c M r t ls st h) : mv_Go D s0 p l e R s m args below meth c M r pc ls (.int x :: st) h := mv_pure g fun _ a k => lv_if_eq C.2.1 C.2.2.2.1 dg ht (fun _ => k) (fun z => absurd hp z)
theorem si_if_eq_f (C : mv_Cx D l s0 a0 X p s m meth c N M) {x : Int32} {o : Int} {t : Nat} (hp : ¬ x = 0) (dg : decode N.2.1 pc = .ok (.ifCond .eq o, 3)) (ht : (pc : Int) + o = (t : Int)) (g : mv_Go D s0 p l e R s m args below meth c M r (pc + 3) ls st h) : mv_Go D s0 p l e R s m args below meth c M r pc ls (.int x :: st) h := mv_pure g fun _ a k => lv_if_eq C.2.1 C.2.2.2.1 dg ht (fun z => absurd z hp) (fun _ => k)
theorem si_icmp_eq_t (C : mv_Cx D l s0 a0 X p s m meth c N M) {x y : Int32} {o : Int} {t : Nat} (hp : x = y) (dg : decode N.2.1 pc = .ok (.if_icmp .eq o, 3)) (ht : (pc : Int) + o = (t : Int)) (g : mv_Go D s0 p l e R s m args below meth c M r t ls st h) : mv_Go D s0 p l e R s m args below meth c M r pc ls (.int y :: .int x :: st) h := mv_pure g fun _ a k => lv_icmp_eq C.2.1 C.2.2.2.1 dg ht (fun _ => k) (fun z => absurd hp z)
theorem si_icmp_eq_f (C : mv_Cx D l s0 a0 X p s m meth c N M) {x y : Int32} {o : Int} {t : Nat} (hp : ¬ x = y) (dg : decode N.2.1 pc = .ok (.if_icmp .eq o, 3)) (ht : (pc : Int) + o = (t : Int)) (g : mv_Go D s0 p l e R s m args below meth c M r (pc + 3) ls st h) : mv_Go D s0 p l e R s m args below meth c M r pc ls (.int y :: .int x :: st) h := mv_pure g fun _ a k => lv_icmp_eq C.2.1 C.2.2.2.1 dg ht (fun z => absurd z hp) (fun _ => k)
theorem si_if_ne_t (C : mv_Cx D l s0 a0 X p s m meth c N M) {x : Int32} {o : Int} {t : Nat} (hp : ¬ x = 0) (dg : decode N.2.1 pc = .ok (.ifCond .ne o, 3)) (ht : (pc : Int) + o = (t : Int)) (g : mv_Go D s0 p l e R s m args below meth c M r t ls st h) : mv_Go D s0 p l e R s m args below meth c M r pc ls (.int x :: st) h := mv_pure g fun _ a k => lv_if_ne C.2.1 C.2.2.2.1 dg ht (fun _ => k) (fun z => absurd z hp)
theorem si_if_ne_f (C : mv_Cx D l s0 a0 X p s m meth c N M) {x : Int32} {o : Int} {t : Nat} (hp : x = 0) (dg : decode N.2.1 pc = .ok (.ifCond .ne o, 3)) (ht : (pc : Int) + o = (t : Int)) (g : mv_Go D s0 p l e R s m args below meth c M r (pc + 3) ls st h) : mv_Go D s0 p l e R s m args below meth c M r pc ls (.int x :: st) h := mv_pure g fun _ a k => lv_if_ne C.2.1 C.2.2.2.1 dg ht (fun z => absurd hp z) (fun _ => k)
theorem si_icmp_ne_t (C : mv_Cx D l s0 a0 X p s m meth c N M) {x y : Int32} {o : Int} {t : Nat} (hp : ¬ x = y) (dg : decode N.2.1 pc = .ok (.if_icmp .ne o, 3)) (ht : (pc : Int) + o = (t : Int)) (g : mv_Go D s0 p l e R s m args below meth c M r t ls st h) : mv_Go D s0 p l e R s m args below meth c M r pc ls (.int y :: .int x :: st) h := mv_pure g fun _ a k => lv_icmp_ne C.2.1 C.2.2.2.1 dg ht (fun _ => k) (fun z => absurd z hp)
theorem si_icmp_ne_f (C : mv_Cx D l s0 a0 X p s m meth c N M) {x y : Int32} {o : Int} {t : Nat} (hp : x = y) (dg : decode N.2.1 pc = .ok (.if_icmp .ne o, 3)) (ht : (pc : Int) + o = (t : Int)) (g : mv_Go D s0 p l e R s m args below meth c M r (pc + 3) ls st h) : mv_Go D s0 p l e R s m args below meth c M r pc ls (.int y :: .int x :: st) h := mv_pure g fun _ a k => lv_icmp_ne C.2.1 C.2.2.2.1 dg ht (fun z => absurd hp z) (fun _ => k)
theorem si_if_lt_t (C : mv_Cx D l s0 a0 X p s m meth c N M) {x : Int32} {o : Int} {t : Nat} (hp : x < 0) (dg : decode N.2.1 pc = .ok (.ifCond .lt o, 3)) (ht : (pc : Int) + o = (t : Int)) (g : mv_Go D s0 p l e R s m args below meth c M r t ls st h) : mv_Go D s0 p l e R s m args below meth c M r pc ls (.int x :: st) h := mv_pure g fun _ a k => lv_if_lt C.2.1 C.2.2.2.1 dg ht (fun _ => k) (fun z => absurd hp z)
theorem si_if_lt_f (C : mv_Cx D l s0 a0 X p s m meth c N M) {x : Int32} {o : Int} {t : Nat} (hp : ¬ x < 0) (dg : decode N.2.1 pc = .ok (.ifCond .lt o, 3)) (ht : (pc : Int) + o = (t : Int)) (g : mv_Go D s0 p l e R s m args below meth c M r (pc + 3) ls st h) : mv_Go D s0 p l e R s m args below meth c M r pc ls (.int x :: st) h := mv_pure g fun _ a k => lv_if_lt C.2.1 C.2.2.2.1 dg ht (fun z => absurd z hp) (fun _ => k)
theorem si_icmp_lt_t (C : mv_Cx D l s0 a0 X p s m meth c N M) {x y : Int32} {o : Int} {t : Nat} (hp : x < y) (dg : decode N.2.1 pc = .ok (.if_icmp .lt o, 3)) (ht : (pc : Int) + o = (t : Int)) (g : mv_Go D s0 p l e R s m args below meth c M r t ls st h) : mv_Go D s0 p l e R s m args below meth c M r pc ls (.int y :: .int x :: st) h := mv_pure g fun _ a k => lv_icmp_lt C.2.1 C.2.2.2.1 dg ht (fun _ => k) (fun z => absurd hp z)
theorem si_icmp_lt_f (C : mv_Cx D l s0 a0 X p s m meth c N M) {x y : Int32} {o : Int} {t : Nat} (hp : ¬ x < y) (dg : decode N.2.1 pc = .ok (.if_icmp .lt o, 3)) (ht : (pc : Int) + o = (t : Int)) (g : mv_Go D s0 p l e R s m args below meth c M r (pc + 3) ls st h) : mv_Go D s0 p l e R s m args below meth c M r pc ls (.int y :: .int x :: st) h := mv_pure g fun _ a k => lv_icmp_lt C.2.1 C.2.2.2.1 dg ht (fun z => absurd z hp) (fun _ => k)
theorem si_if_ge_t (C : mv_Cx D l s0 a0 X p s m meth c N M) {x : Int32} {o : Int} {t : Nat} (hp : 0 ≤ x) (dg : decode N.2.1 pc = .ok (.ifCond .ge o, 3)) (ht : (pc : Int) + o = (t : Int)) (g : mv_Go D s0 p l e R s m args below meth c M r t ls st h) : mv_Go D s0 p l e R s m args below meth c M r pc ls (.int x :: st) h := mv_pure g fun _ a k => lv_if_ge C.2.1 C.2.2.2.1 dg ht (fun _ => k) (fun z => absurd hp z)
theorem si_if_ge_f (C : mv_Cx D l s0 a0 X p s m meth c N M) {x : Int32} {o : Int} {t : Nat} (hp : ¬ 0 ≤ x) (dg : decode N.2.1 pc = .ok (.ifCond .ge o, 3)) (ht : (pc : Int) + o = (t : Int)) (g : mv_Go D s0 p l e R s m args below meth c M r (pc + 3) ls st h) : mv_Go D s0 p l e R s m args below meth c M r pc ls (.int x :: st) h := mv_pure g fun _ a k => lv_if_ge C.2.1 C.2.2.2.1 dg ht (fun z => absurd z hp) (fun _ => k)
theorem si_icmp_ge_t (C : mv_Cx D l s0 a0 X p s m meth c N M) {x y : Int32} {o : Int} {t : Nat} (hp : y ≤ x) (dg : decode N.2.1 pc = .ok (.if_icmp .ge o, 3)) (ht : (pc : Int) + o = (t : Int)) (g : mv_Go D s0 p l e R s m args below meth c M r t ls st h) : mv_Go D s0 p l e R s m args below meth c M r pc ls (.int y :: .int x :: st) h := mv_pure g fun _ a k => lv_icmp_ge C.2.1 C.2.2.2.1 dg ht (fun _ => k) (fun z => absurd hp z)
theorem si_icmp_ge_f (C : mv_Cx D l s0 a0 X p s m meth c N M) {x y : Int32} {o : Int} {t : Nat} (hp : ¬ y ≤ x) (dg : decode N.2.1 pc = .ok (.if_icmp .ge o, 3)) (ht : (pc : Int) + o = (t : Int)) (g : mv_Go D s0 p l e R s m args below meth c M r (pc + 3) ls st h) : mv_Go D s0 p l e R s m args below meth c M r pc ls (.int y :: .int x :: st) h := mv_pure g fun _ a k => lv_icmp_ge C.2.1 C.2.2.2.1 dg ht (fun z => absurd z hp) (fun _ => k)
theorem si_if_gt_t (C : mv_Cx D l s0 a0 X p s m meth c N M) {x : Int32} {o : Int} {t : Nat} (hp : 0 < x) (dg : decode N.2.1 pc = .ok (.ifCond .gt o, 3)) (ht : (pc : Int) + o = (t : Int)) (g : mv_Go D s0 p l e R s m args below meth c M r t ls st h) : mv_Go D s0 p l e R s m args below meth c M r pc ls (.int x :: st) h := mv_pure g fun _ a k => lv_if_gt C.2.1 C.2.2.2.1 dg ht (fun _ => k) (fun z => absurd hp z)
theorem si_if_gt_f (C : mv_Cx D l s0 a0 X p s m meth c N M) {x : Int32} {o : Int} {t : Nat} (hp : ¬ 0 < x) (dg : decode N.2.1 pc = .ok (.ifCond .gt o, 3)) (ht : (pc : Int) + o = (t : Int)) (g : mv_Go D s0 p l e R s m args below meth c M r (pc + 3) ls st h) : mv_Go D s0 p l e R s m args below meth c M r pc ls (.int x :: st) h := mv_pure g fun _ a k => lv_if_gt C.2.1 C.2.2.2.1 dg ht (fun z => absurd z hp) (fun _ => k)
theorem si_icmp_gt_t (C : mv_Cx D l s0 a0 X p s m meth c N M) {x y : Int32} {o : Int} {t : Nat} (hp : y < x) (dg : decode N.2.1 pc = .ok (.if_icmp .gt o, 3)) (ht : (pc : Int) + o = (t : Int)) (g : mv_Go D s0 p l e R s m args below meth c M r t ls st h) : mv_Go D s0 p l e R s m args below meth c M r pc ls (.int y :: .int x :: st) h := mv_pure g fun _ a k => lv_icmp_gt C.2.1 C.2.2.2.1 dg ht (fun _ => k) (fun z => absurd hp z)
theorem si_icmp_gt_f (C : mv_Cx D l s0 a0 X p s m meth c N M) {x y : Int32} {o : Int} {t : Nat} (hp : ¬ y < x) (dg : decode N.2.1 pc = .ok (.if_icmp .gt o, 3)) (ht : (pc : Int) + o = (t : Int)) (g : mv_Go D s0 p l e R s m args below meth c M r (pc + 3) ls st h) : mv_Go D s0 p l e R s m args below meth c M r pc ls (.int y :: .int x :: st) h := mv_pure g fun _ a k => lv_icmp_gt C.2.1 C.2.2.2.1 dg ht (fun z => absurd z hp) (fun _ => k)
theorem si_if_le_t (C : mv_Cx D l s0 a0 X p s m meth c N M) {x : Int32} {o : Int} {t : Nat} (hp : x ≤ 0) (dg : decode N.2.1 pc = .ok (.ifCond .le o, 3)) (ht : (pc : Int) + o = (t : Int)) (g : mv_Go D s0 p l e R s m args below meth c M r t ls st h) : mv_Go D s0 p l e R s m args below meth c M r pc ls (.int x :: st) h := mv_pure g fun _ a k => lv_if_le C.2.1 C.2.2.2.1 dg ht (fun _ => k) (fun z => absurd hp z)
theorem si_if_le_f (C : mv_Cx D l s0 a0 X p s m meth c N M) {x : Int32} {o : Int} {t : Nat} (hp : ¬ x ≤ 0) (dg : decode N.2.1 pc = .ok (.ifCond .le o, 3)) (ht : (pc : Int) + o = (t : Int)) (g : mv_Go D s0 p l e R s m args below meth c M r (pc + 3) ls st h) : mv_Go D s0 p l e R s m args below meth c M r pc ls (.int x :: st) h := mv_pure g fun _ a k => lv_if_le C.2.1 C.2.2.2.1 dg ht (fun z => absurd z hp) (fun _ => k)
theorem si_icmp_le_t (C : mv_Cx D l s0 a0 X p s m meth c N M) {x y : Int32} {o : Int} {t : Nat} (hp : x ≤ y) (dg : decode N.2.1 pc = .ok (.if_icmp .le o, 3)) (ht : (pc : Int) + o = (t : Int)) (g : mv_Go D s0 p l e R s m args below meth c M r t ls st h) : mv_Go D s0 p l e R s m args below meth c M r pc ls (.int y :: .int x :: st) h := mv_pure g fun _ a k => lv_icmp_le C.2.1 C.2.2.2.1 dg ht (fun _ => k) (fun z => absurd hp z)
theorem si_icmp_le_f (C : mv_Cx D l s0 a0 X p s m meth c N M) {x y : Int32} {o : Int} {t : Nat} (hp : ¬ x ≤ y) (dg : decode N.2.1 pc = .ok (.if_icmp .le o, 3)) (ht : (pc : Int) + o = (t : Int)) (g : mv_Go D s0 p l e R s m args below meth c M r (pc + 3) ls st h) : mv_Go D s0 p l e R s m args below meth c M r pc ls (.int y :: .int x :: st) h := mv_pure g fun _ a k => lv_icmp_le C.2.1 C.2.2.2.1 dg ht (fun z => absurd z hp) (fun _ => k)
end SIM
end
section
section SIMB
variable {D : va_G} {l : Launch} {s0 : State} {a0 : Array Value} {X : mv_X} {p : Program} {e : Env} {R : Room} {s : State} {m : MethodId} {args : Array Value} {below : List Frame} {meth : Method} {c : Code} {N : mv_N} {M : mv_M} {r : mv_R} {pc pc2 : Nat} {ls st st2 : List Value} {h : mv_H}
theorem mv_w (C : mv_Cx D l s0 a0 X p s m meth c N M) {w : Cond} (hw : mv_gg w = true ∧ w ∈ lw_tbl) : w.before args s = true := mv_word C.1 C.2.2.1 hw.2 hw.1
theorem mv_alike (C : mv_Cx D l s0 a0 X p s m meth c N M) : s0.vm.Alike s.vm := C.2.2.1.alike
theorem mv_kk (C : mv_Cx D l s0 a0 X p s m meth c N M) : va_K D vwCl [] s := va_K.moved (mv_alike C) C.1.2.2.1
theorem mv_arr (C : mv_Cx D l s0 a0 X p s m meth c N M) {cA : ClassId} {ty : FieldType} (h : ArrOfT s0 cA ty) : ArrOfT s cA ty := arrOfT_moved (mv_alike C) h
theorem mv_uw (C : mv_Cx D l s0 a0 X p s m meth c N M) {ci : Nat} {q : vw_C} (hq : vwCl[ci]? = some q) : ∀ w ∈ u_ws q.1 q.2.1 q.2.2, w.before args s = true := fun w hw => by
  obtain ⟨ps, hp⟩ := mv_cl_ok hq
  exact mv_w C ((mv_clk_ok hp).1 w hw)
/-- where a field stands -/
theorem mv_fld (C : mv_Cx D l s0 a0 X p s m meth c N M) {ci n : Nat} {q : vw_C} (hq : vwCl[ci]? = some q) (hn : n < q.2.2) : ∃ (cf : ClassId) (kf : Class) (fi : Nat) (f : Field), s.fieldFound? (q.2.1 n).1 (q.2.1 n).2.1 (q.2.1 n).2.2.1 = some (cf, kf, fi, f) ∧ f.slot = D.2 ci n ∧ f.isStatic = false := by
  obtain ⟨hS, hfc, kC, hkC, hkind⟩ := (mv_kk C).1 ci _ hq
  obtain ⟨cf, kf, fi, f, hi, hsl⟩ := hS n hn
  exact ⟨cf, kf, fi, f, hi, hsl, (u_facts (args := #[]) hfc hkC (u_lays (mv_uw C hq) (fun _ z => z) hn) hi).1⟩
theorem si_getfield (C : mv_Cx D l s0 a0 X p s m meth c N M) {j a : Nat} {q : mv_L} {fs : List Value} {v : Value} (dg : decode N.2.1 pc = .ok (.getfield j, 3)) (hl : mv_look M.2.2.2.2.1 16 j = some q) (hq : q.1 = 1) (hc : mv_cell X h a = some (.inl (q.2.1, fs))) (hv : fs[q.2.2.1]? = some v) (g : mv_Go D s0 p l e R s m args below meth c M r (pc + 3) ls (v :: st) h) : mv_Go D s0 p l e R s m args below meth c M r pc ls (.ref a :: st) h := by
  refine mv_pure g fun hr a1 k => ?_
  obtain ⟨kd, hs, hw⟩ := C.2.2.2.2.2.2.2.2.2.2.1.2 j q hl
  obtain ⟨r0, h1, h2, cell, q1, q2, q3, q4⟩ := mv_cell_is C.1 hr hc
  obtain ⟨t, ci, n, kk, z⟩ := q
  have hq : t = 1 := hq
  subst hq
  have h1 : vwCl[ci]? = some r0 := h1
  have h2 : fs.length = r0.2.2 := h2
  have hv : fs[n]? = some v := hv
  have hn : n < r0.2.2 := by rw [← h2]; exact (List.getElem?_eq_some_iff.mp hv).1
  obtain ⟨cf, kf, fi, f, hi, hsl, hst⟩ := mv_fld C h1 hn
  have hvs : cell.slots[f.slot]? = some v := by
    rw [hsl, q4 n hn]
    simp [vp_V, hv]
  have hw : ∀ w ∈ (match vwCl[ci]? with
    | some r => (match kd with
      | 0 => [Cond.fieldLink N.1.cls j (r.2.1 n).1 (r.2.1 n).2.1 (r.2.1 n).2.2.1]
      | _ => [Cond.fieldLinkNest N.1.cls j (r.2.1 n).1 (r.2.1 n).2.1 (r.2.1 n).2.2.1 "BalloonHarbour"])
    | none => []), mv_gg w = true ∧ w ∈ lw_tbl := hw
  rw [h1] at hw
  cases kd with
  | zero => exact W.getf C.2.1 C.2.2.2.1 C.2.2.2.2.2.2.1 (mv_w C (hw _ List.mem_cons_self)) hi hst q1 (by rw [q3]; exact fun h => by cases h) hvs rfl rfl dg k
  | succ kd => exact va_Wgetf C.2.1 C.2.2.2.1 C.2.2.2.2.2.2.1 (mv_w C (hw _ List.mem_cons_self)) hi hst q1 (by rw [q3]; exact fun h => by cases h) hvs rfl rfl dg k
/-- a value that a field of kind k takes -/
theorem mv_fkI {k : Nat} {ty : FieldType} {x : Int32} (h : mv_fk k ty = true) (hx : mv_ok k x = true) : narrow ty (.int x) = .int x ∧ fits ty (.int x) = true := by
  unfold mv_fk at h
  split at h <;> first | cases h | skip
  · exact ⟨rfl, rfl⟩
  · cases hx
  · cases hx
  · have hx : (x == 0 || x == 1) = true := hx
    rw [Bool.or_eq_true] at hx
    rcases hx with hx | hx <;> (have := eq_of_beq hx; subst this; exact ⟨rfl, rfl⟩)
  · have hx : (decide (0 ≤ x) && decide (x ≤ 65535)) = true := hx
    refine ⟨?_, hx⟩
    rw [Bool.and_eq_true, decide_eq_true_eq, decide_eq_true_eq, Int32.le_iff_toInt_le, Int32.le_iff_toInt_le] at hx
    show Value.int x.toUInt32.toUInt16.toUInt32.toInt32 = .int x
    congr 1
    apply Int32.toBitVec_inj.mp
    obtain ⟨h1, h2⟩ := hx
    have h1 : 0 ≤ x.toInt := h1
    have h2 : x.toInt ≤ 65535 := h2
    apply BitVec.eq_of_toNat_eq
    have e : x.toInt = (x.toBitVec.toNat : Int) := by
      have := BitVec.toInt_eq_toNat_cond x.toBitVec
      have h3 : x.toInt = x.toBitVec.toInt := rfl
      rw [← h3] at this
      split at this <;> omega
    simp only [UInt32.toBitVec_toInt32, UInt16.toBitVec_toUInt32, UInt32.toBitVec_toUInt16, Int32.toBitVec_toUInt32, BitVec.toNat_setWidth]
    omega
  · have hx : (decide (-128 ≤ x) && decide (x ≤ 127)) = true := hx
    refine ⟨?_, hx⟩
    rw [Bool.and_eq_true, decide_eq_true_eq, decide_eq_true_eq, Int32.le_iff_toInt_le, Int32.le_iff_toInt_le] at hx
    show Value.int x.toInt8.toInt32 = .int x
    congr 1
    apply Int32.toInt_inj.mp
    obtain ⟨h1, h2⟩ := hx
    have h1 : -128 ≤ x.toInt := h1
    have h2 : x.toInt ≤ 127 := h2
    rw [Int8.toInt_toInt32, Int32.toInt_toInt8]
    simp only [Int.bmod_def]
    omega
theorem mv_fkR {k : Nat} {ty : FieldType} {x : Nat} (h : mv_fk k ty = true) (hk : k = 2) : narrow ty (.ref x) = .ref x ∧ fits ty (.ref x) = true := by
  subst hk
  cases ty <;> first | exact ⟨rfl, rfl⟩ | cases h
theorem si_putfield (C : mv_Cx D l s0 a0 X p s m meth c N M) {j a : Nat} {q : mv_L} {fs : List Value} {v : Value} {t : Nat} {sw : List (Int × Nat)} (dg : decode N.2.1 pc = .ok (.putfield j, 3)) (hx : mv_ex N M pc (.putfield j) t sw = true) (hl : mv_look M.2.2.2.2.1 16 j = some q) (hq : q.1 = 1) (hc : h.1 a = some (.inl (q.2.1, fs))) (hn0 : q.2.2.1 < fs.length)
    (hv : ∀ ty, mv_fk q.2.2.2.1 ty = true → narrow ty v = v ∧ fits ty v = true) (g : mv_Go D s0 p l e R s m args below meth c M r (pc + 3) ls st (mv_up h.1 a (some (.inl (q.2.1, fs.set q.2.2.1 v))), h.2)) : mv_Go D s0 p l e R s m args below meth c M r pc ls (v :: .ref a :: st) h := by
  refine ⟨g.1, fun H locs cells slots mc ms rls hr a2 a3 a4 a5 a6 a7 a8 => ?_⟩
  obtain ⟨kd, hs, hw⟩ := C.2.2.2.2.2.2.2.2.2.2.1.2 j q hl
  obtain ⟨hab, r0, h1, h2, cell, q1, q2, q3, q4⟩ := hr.2.2.2 a _ hc
  have hx : (match mv_look M.2.2.2.2.1 16 j with
    | some z => (match vwCl[z.2.1]? with
      | some r => !(r.2.1 z.2.2.1).2.2.2 || (N.1.name == "<init>" && (r.2.1 z.2.2.1).1 == N.1.cls)
      | none => false)
    | none => false) = true := hx
  rw [hl] at hx
  obtain ⟨t, ci, n, kk, z⟩ := q
  have hq : t = 1 := hq
  subst hq
  have h1 : vwCl[ci]? = some r0 := h1
  have h2 : fs.length = r0.2.2 := h2
  have hn0 : n < fs.length := hn0
  have hn : n < r0.2.2 := by omega
  have hx : (match vwCl[ci]? with
      | some r => !(r.2.1 n).2.2.2 || (N.1.name == "<init>" && (r.2.1 n).1 == N.1.cls)
      | none => false) = true := hx
  rw [h1] at hx
  have hx : (!(r0.2.1 n).2.2.2 || (N.1.name == "<init>" && (r0.2.1 n).1 == N.1.cls)) = true := hx
  have hs : (match vwCl[ci]? with
    | some r => Nat.blt n r.2.2 && (match parseFieldDescriptor (r.2.1 n).2.2.1 with
      | some ty => mv_fk kk ty
      | none => false) && (Nat.beq kd 0 || (r.2.1 n).1 != N.1.cls)
    | none => false) = true := hs
  rw [h1] at hs
  have hs : (Nat.blt n r0.2.2 && (match parseFieldDescriptor (r0.2.1 n).2.2.1 with
      | some ty => mv_fk kk ty
      | none => false) && (Nat.beq kd 0 || (r0.2.1 n).1 != N.1.cls)) = true := hs
  rw [Bool.and_eq_true, Bool.and_eq_true] at hs
  obtain ⟨ps, hps⟩ := mv_cl_ok h1
  obtain ⟨-, -, -, ⟨ty, hty⟩, hnm⟩ := mv_clk_ok hps
  have hfk : mv_fk kk (ty n) = true := by
    have := hs.1.2
    rw [(hty n hn).1] at this
    exact this
  obtain ⟨hnr, hft⟩ := hv (ty n) hfk
  obtain ⟨hS, hfc, kC, hkC, hkind⟩ := (mv_kk C).1 ci _ h1
  obtain ⟨cf, kf, fi, f, hi, hsl⟩ := hS n hn
  have hst := (u_facts (args := #[]) hfc hkC (u_lays (mv_uw C h1) (fun _ z => z) hn) hi).1
  have hap := va_apart (own := N.1.cls) (mv_uw C (args := args) h1) (fun _ z => z) ty (fun k hk => (hty k hk).1) hnm (mv_kk C) h1
  have hlay := mv_uw C (args := args) h1 _ (u_in_lay hn)
  have hlt : f.slot < cell.slots.size := by rw [hsl]; exact k2_hasslot (q4 n hn)
  have hw : ∀ w ∈ (match vwCl[ci]? with
    | some r => (match kd with
      | 0 => [Cond.fieldLink N.1.cls j (r.2.1 n).1 (r.2.1 n).2.1 (r.2.1 n).2.2.1]
      | _ => [Cond.fieldLinkNest N.1.cls j (r.2.1 n).1 (r.2.1 n).2.1 (r.2.1 n).2.2.1 "BalloonHarbour"])
    | none => []), mv_gg w = true ∧ w ∈ lw_tbl := hw
  rw [h1] at hw
  have fin : ∀ H' : Heap, H'[a]? = some (cell.setSlot f.slot v) → H'.size = H.size → (∀ q, q ≠ a → H'[q]? = H[q]?) → W p l e R s m args below meth c H' (locs ++ [⟨a, f.slot⟩]) cells slots (vx_MQ below (mv_Qc D s0 r) (mv_XC D s0 r) args s mc ms (fun q => s0.heap.size ≤ q)) (F0 m (pc + 3) rls st) := fun H' e1 e2 e3 => by
    rw [hsl] at e1
    refine g.2 H' _ cells slots mc ms rls (mv_HR_up hr hab e2 e3 ⟨r0, h1, by show (fs.set n v).length = _; rw [List.length_set]; exact h2, t_OB.to (V := updV (vp_V fs) n v) ⟨_, e1, q2, q3, t_set q4 hap hn v⟩ (fun j _ => vp_updV_set hn0 v j)⟩) a2 (fun z hz => ?_) a4 a5 a6 a7 a8
    rcases List.mem_append.mp hz with hz | hz
    · exact a3 z hz
    · rw [List.mem_singleton.mp hz]; exact hab
  cases hf : (r0.2.1 n).2.2.2 with
  | false =>
    unfold u_lay at hlay
    rw [if_neg (by rw [hf]; decide)] at hlay
    have h6 := u_store hfc hkC hkind hlay hi (hty n hn).1 hnr hft
    cases kd with
    | zero => exact W.putK C.2.1 C.2.2.2.1 (f := f) ⟨C.2.2.2.2.2.2.1, mv_w C (hw _ List.mem_cons_self), ⟨_, _, _, hi⟩, hst⟩ (by rw [q2]; exact h6) q1 q3 hlt rfl rfl dg fin
    | succ kd => exact va_WputK C.2.1 C.2.2.2.1 (f := f) C.2.2.2.2.2.2.1 (mv_w C (hw _ List.mem_cons_self)) hi hst (by rw [q2]; exact h6) q1 q3 hlt rfl rfl dg fin
  | true =>
    rw [hf] at hx
    have hx : (N.1.name == "<init>" && (r0.2.1 n).1 == N.1.cls) = true := by simpa using hx
    rw [Bool.and_eq_true] at hx
    have hx1 := eq_of_beq hx.1
    have hx2 := eq_of_beq hx.2
    have hkd : kd = 0 := by
      have := hs.2
      rw [hx2, Bool.or_eq_true] at this
      rcases this with h | h
      · exact Nat.eq_of_beq_eq_true h
      · simp at h
    subst hkd
    unfold u_lay at hlay
    rw [if_pos hf] at hlay
    have hcf : m.cls = cf := by
      obtain ⟨_, _, c', _, _, _, -, -, hf', -, -, -, hown2, -⟩ := Cond.laysFinal_spec hlay
      have e1 : c' = cf := by have := hi.symm.trans hf'; simp at this; exact this.1.symm
      rw [hx2] at hown2
      rw [← e1]; exact Option.some.inj (C.2.2.2.2.2.2.1.symm.trans hown2)
    have h6 := u_fits hfc hkC hkind (Or.inr hlay) hi (hty n hn).1 hnr hft
    exact W.putFinK C.2.1 C.2.2.2.1 C.2.2.2.2.2.2.1 (mv_w C (hw _ List.mem_cons_self)) hi hst hcf (C.2.2.2.2.2.2.2.2.1.trans hx1) (by rw [q2]; exact h6) q1 q3 hlt rfl rfl dg fin
theorem mv_updV {f : Nat → Value} {k : Nat} {v : Value} : updV f k v = mv_up f k v := rfl
theorem mv_nin {i : Int32} {n : Nat} (h1 : 0 ≤ i.toInt) (h2 : i.toInt < n) {cA : ClassId} {g : Nat → Value} : ¬ (i < 0 ∨ (arrV cA n g).slots.size ≤ i.toNatClampNeg) := by
  rw [arrV_size]
  rintro (z | z)
  · exact mv_ge0.mpr h1 z
  · have : i.toNatClampNeg = i.toInt.toNat := rfl
    omega
theorem mv_rd {i : Int32} {n : Nat} (h1 : 0 ≤ i.toInt) (h2 : i.toInt < n) {cA : ClassId} {g : Nat → Value} : (arrV cA n g).slots[i.toNatClampNeg]? = some (g i.toInt.toNat) := by
  have : i.toNatClampNeg = i.toInt.toNat := rfl
  rw [this, arrV_read _ _ (by omega)]
theorem si_iaload (C : mv_Cx D l s0 a0 X p s m meth c N M) {a n : Nat} {t : FieldType} {i : Int32} {g : Nat → Value} (dg : decode N.2.1 pc = .ok (.iaload, 1)) (hc : mv_cell X h a = some (.inr (t, n, g))) (ht : mv_ak 1 t = true) (h1 : 0 ≤ i.toInt) (h2 : i.toInt < n) (gg : mv_Go D s0 p l e R s m args below meth c M r (pc + 1) ls (g i.toInt.toNat :: st) h) : mv_Go D s0 p l e R s m args below meth c M r pc ls (.int i :: .ref a :: st) h := by
  refine mv_pure gg fun hr a1 k => ?_
  obtain ⟨cA, q1, q2, q3, q4⟩ := mv_cell_is C.1 hr hc
  have e : t = .int := by cases t <;> first | rfl | cases ht
  subst e
  exact W.iald C.2.1 C.2.2.2.1 q1 (mv_arr C q2 n g) (fun q => by cases q) (mv_nin h1 h2) (mv_rd h1 h2) rfl rfl dg k
theorem si_caload (C : mv_Cx D l s0 a0 X p s m meth c N M) {a n : Nat} {t : FieldType} {i : Int32} {g : Nat → Value} (dg : decode N.2.1 pc = .ok (.caload, 1)) (hc : mv_cell X h a = some (.inr (t, n, g))) (ht : mv_ak 7 t = true) (h1 : 0 ≤ i.toInt) (h2 : i.toInt < n) (gg : mv_Go D s0 p l e R s m args below meth c M r (pc + 1) ls (g i.toInt.toNat :: st) h) : mv_Go D s0 p l e R s m args below meth c M r pc ls (.int i :: .ref a :: st) h := by
  refine mv_pure gg fun hr a1 k => ?_
  obtain ⟨cA, q1, q2, q3, q4⟩ := mv_cell_is C.1 hr hc
  have e : t = .char := by cases t <;> first | rfl | cases ht
  subst e
  exact W.cald C.2.1 C.2.2.2.1 q1 (mv_arr C q2 n g) (fun q => by cases q) (mv_nin h1 h2) (mv_rd h1 h2) rfl rfl dg k
theorem si_baload (C : mv_Cx D l s0 a0 X p s m meth c N M) {a n : Nat} {t : FieldType} {i : Int32} {g : Nat → Value} (dg : decode N.2.1 pc = .ok (.baload, 1)) (hc : mv_cell X h a = some (.inr (t, n, g))) (ht : mv_ak 8 t = true) (h1 : 0 ≤ i.toInt) (h2 : i.toInt < n) (gg : mv_Go D s0 p l e R s m args below meth c M r (pc + 1) ls (g i.toInt.toNat :: st) h) : mv_Go D s0 p l e R s m args below meth c M r pc ls (.int i :: .ref a :: st) h := by
  refine mv_pure gg fun hr a1 k => ?_
  obtain ⟨cA, q1, q2, q3, q4⟩ := mv_cell_is C.1 hr hc
  have e : t = .byte := by cases t <;> first | rfl | cases ht
  subst e
  exact W.bald C.2.1 C.2.2.2.1 q1 (mv_arr C q2 n g) (fun q => by cases q) (mv_nin h1 h2) (mv_rd h1 h2) rfl rfl dg k
theorem si_laload (C : mv_Cx D l s0 a0 X p s m meth c N M) {a n : Nat} {t : FieldType} {i : Int32} {g : Nat → Value} (dg : decode N.2.1 pc = .ok (.laload, 1)) (hc : mv_cell X h a = some (.inr (t, n, g))) (ht : mv_ak 3 t = true) (h1 : 0 ≤ i.toInt) (h2 : i.toInt < n) (gg : mv_Go D s0 p l e R s m args below meth c M r (pc + 1) ls (g i.toInt.toNat :: st) h) : mv_Go D s0 p l e R s m args below meth c M r pc ls (.int i :: .ref a :: st) h := by
  refine mv_pure gg fun hr a1 k => ?_
  obtain ⟨cA, q1, q2, q3, q4⟩ := mv_cell_is C.1 hr hc
  have e : t = .long := by cases t <;> first | rfl | cases ht
  subst e
  exact W.lald C.2.1 C.2.2.2.1 q1 (mv_arr C q2 n g) (fun q => by cases q) (mv_nin h1 h2) (mv_rd h1 h2) rfl rfl dg k
theorem si_daload (C : mv_Cx D l s0 a0 X p s m meth c N M) {a n : Nat} {t : FieldType} {i : Int32} {g : Nat → Value} (dg : decode N.2.1 pc = .ok (.daload, 1)) (hc : mv_cell X h a = some (.inr (t, n, g))) (ht : mv_ak 5 t = true) (h1 : 0 ≤ i.toInt) (h2 : i.toInt < n) (gg : mv_Go D s0 p l e R s m args below meth c M r (pc + 1) ls (g i.toInt.toNat :: st) h) : mv_Go D s0 p l e R s m args below meth c M r pc ls (.int i :: .ref a :: st) h := by
  refine mv_pure gg fun hr a1 k => ?_
  obtain ⟨cA, q1, q2, q3, q4⟩ := mv_cell_is C.1 hr hc
  have e : t = .double := by cases t <;> first | rfl | cases ht
  subst e
  exact W.dald C.2.1 C.2.2.2.1 q1 (mv_arr C q2 n g) (fun q => by cases q) (mv_nin h1 h2) (mv_rd h1 h2) rfl rfl dg k
theorem si_aaload (C : mv_Cx D l s0 a0 X p s m meth c N M) {a n : Nat} {t : FieldType} {i : Int32} {g : Nat → Value} (dg : decode N.2.1 pc = .ok (.aaload, 1)) (hc : mv_cell X h a = some (.inr (t, n, g))) (ht : mv_ak 2 t = true) (h1 : 0 ≤ i.toInt) (h2 : i.toInt < n) (gg : mv_Go D s0 p l e R s m args below meth c M r (pc + 1) ls (g i.toInt.toNat :: st) h) : mv_Go D s0 p l e R s m args below meth c M r pc ls (.int i :: .ref a :: st) h := by
  refine mv_pure gg fun hr a1 k => ?_
  obtain ⟨cA, q1, q2, q3, q4⟩ := mv_cell_is C.1 hr hc
  obtain ⟨C0, e⟩ : ∃ C0, t = .object C0 := by cases t <;> first | exact ⟨_, rfl⟩ | cases ht
  subst e
  exact W.aald C.2.1 C.2.2.2.1 q1 (mv_arr C q2 n g) rfl (fun q => by cases q) (mv_nin h1 h2) (mv_rd h1 h2) rfl rfl dg k
theorem si_alen (C : mv_Cx D l s0 a0 X p s m meth c N M) {a n : Nat} {t : FieldType} {g : Nat → Value} (dg : decode N.2.1 pc = .ok (.arraylength, 1)) (hc : mv_cell X h a = some (.inr (t, n, g))) (gg : mv_Go D s0 p l e R s m args below meth c M r (pc + 1) ls (.int (nZ n) :: st) h) : mv_Go D s0 p l e R s m args below meth c M r pc ls (.ref a :: st) h := by
  refine mv_pure gg fun hr a1 k => ?_
  obtain ⟨cA, q1, q2, q3, q4⟩ := mv_cell_is C.1 hr hc
  refine W.alen C.2.1 C.2.2.2.1 q1 (mv_arr C q2 n g) ?_ rfl rfl dg k
  show (arrV cA n g).slots.size.toInt32 = nZ n
  rw [arrV_size]
  rfl
/-- one element written -/
theorem mv_asG (C : mv_Cx D l s0 a0 X p s m meth c N M) {a n : Nat} {t : FieldType} {i : Int32} {v : Value} {g : Nat → Value} {stx : List Value} (hc : h.1 a = some (.inr (t, n, g))) (h1 : 0 ≤ i.toInt) (h2 : i.toInt < n) (hf : mv_prim t = true → fits t v = true) (gg : mv_Go D s0 p l e R s m args below meth c M r (pc + 1) ls st (mv_up h.1 a (some (.inr (t, n, mv_up g i.toInt.toNat v))), h.2))
    (row : ∀ {H : Heap} {locs : List Loc} {cells slots : Nat} {Q : State → Prop} {rls : Array Slot} {cA : ClassId}, H[a]? = some (arrV cA n g) → ArrOfT s cA t → va_RA s cA t → mv_HR D s0 h H → (∀ H' : Heap, H'[a]? = some ((arrV cA n g).setSlot i.toNatClampNeg v) → H'.size = H.size → (∀ q, q ≠ a → H'[q]? = H[q]?) → W p l e R s m args below meth c H' (locs ++ [⟨a, i.toNatClampNeg⟩]) cells slots Q (F0 m (pc + 1) rls st)) → W p l e R s m args below meth c H locs cells slots Q (F0 m pc rls stx)) : mv_Go D s0 p l e R s m args below meth c M r pc ls stx h := by
  refine ⟨gg.1, fun H locs cells slots mc ms rls hr a2 a3 a4 a5 a6 a7 a8 => ?_⟩
  obtain ⟨hab, cA, q1, q2, q3, q4⟩ := hr.2.2.2 a _ hc
  refine row q1 (mv_arr C q2) (q3.moved (mv_alike C)) hr fun H' e1 e2 e3 => ?_
  rw [arrV_store, mv_updV] at e1
  refine gg.2 H' _ cells slots mc ms rls (mv_HR_up hr hab e2 e3 ⟨cA, e1, q2, q3, fun hp j hj => ?_⟩) a2 (fun z hz => ?_) a4 a5 a6 a7 a8
  · show fits t (if j = i.toInt.toNat then v else g j) = true
    split
    · exact hf hp
    · exact q4 hp j hj
  · rcases List.mem_append.mp hz with hz | hz
    · exact a3 z hz
    · rw [List.mem_singleton.mp hz]; exact hab
theorem si_iastore (C : mv_Cx D l s0 a0 X p s m meth c N M) {a n : Nat} {t : FieldType} {i : Int32} {x : Int32} {g : Nat → Value} (dg : decode N.2.1 pc = .ok (.iastore, 1)) (hc : h.1 a = some (.inr (t, n, g))) (ht : mv_ak 1 t = true) (h1 : 0 ≤ i.toInt) (h2 : i.toInt < n) (gg : mv_Go D s0 p l e R s m args below meth c M r (pc + 1) ls st (mv_up h.1 a (some (.inr (t, n, mv_up g i.toInt.toNat (.int x)))), h.2)) : mv_Go D s0 p l e R s m args below meth c M r pc ls (.int x :: .int i :: .ref a :: st) h := by
  have e : t = .int := by cases t <;> first | rfl | cases ht
  subst e
  exact mv_asG C hc h1 h2 (fun _ => rfl) gg fun q1 q2 _ _ kk => W.iast C.2.1 C.2.2.2.1 q1 (q2 n g) (fun q => by cases q) (mv_nin h1 h2) rfl rfl dg kk
theorem si_castore (C : mv_Cx D l s0 a0 X p s m meth c N M) {a n : Nat} {t : FieldType} {i : Int32} {x : Int32} {g : Nat → Value} (dg : decode N.2.1 pc = .ok (.castore, 1)) (hc : h.1 a = some (.inr (t, n, g))) (ht : mv_ak 7 t = true) (h1 : 0 ≤ i.toInt) (h2 : i.toInt < n) (gg : mv_Go D s0 p l e R s m args below meth c M r (pc + 1) ls st (mv_up h.1 a (some (.inr (t, n, mv_up g i.toInt.toNat (.int (vp_nar .char x))))), h.2)) : mv_Go D s0 p l e R s m args below meth c M r pc ls (.int x :: .int i :: .ref a :: st) h := by
  have e : t = .char := by cases t <;> first | rfl | cases ht
  subst e
  exact mv_asG C hc h1 h2 (fun z => by cases z) gg fun q1 q2 _ _ kk => W.cast C.2.1 C.2.2.2.1 q1 (q2 n g) (fun q => by cases q) (mv_nin h1 h2) rfl rfl dg kk
theorem si_bastore (C : mv_Cx D l s0 a0 X p s m meth c N M) {a n : Nat} {t : FieldType} {i : Int32} {x : Int32} {g : Nat → Value} (dg : decode N.2.1 pc = .ok (.bastore, 1)) (hc : h.1 a = some (.inr (t, n, g))) (ht : mv_ak 8 t = true) (h1 : 0 ≤ i.toInt) (h2 : i.toInt < n) (gg : mv_Go D s0 p l e R s m args below meth c M r (pc + 1) ls st (mv_up h.1 a (some (.inr (t, n, mv_up g i.toInt.toNat (.int x.toInt8.toInt32)))), h.2)) : mv_Go D s0 p l e R s m args below meth c M r pc ls (.int x :: .int i :: .ref a :: st) h := by
  have e : t = .byte := by cases t <;> first | rfl | cases ht
  subst e
  exact mv_asG C hc h1 h2 (fun _ => pk_fb x) gg fun q1 q2 _ _ kk => W.bast C.2.1 C.2.2.2.1 q1 (q2 n g) (fun q => by cases q) (mv_nin h1 h2) rfl rfl dg kk
theorem si_lastore (C : mv_Cx D l s0 a0 X p s m meth c N M) {a n : Nat} {t : FieldType} {i : Int32} {x : Int64} {g : Nat → Value} (dg : decode N.2.1 pc = .ok (.lastore, 1)) (hc : h.1 a = some (.inr (t, n, g))) (ht : mv_ak 3 t = true) (h1 : 0 ≤ i.toInt) (h2 : i.toInt < n) (gg : mv_Go D s0 p l e R s m args below meth c M r (pc + 1) ls st (mv_up h.1 a (some (.inr (t, n, mv_up g i.toInt.toNat (.long x)))), h.2)) : mv_Go D s0 p l e R s m args below meth c M r pc ls (.long x :: .int i :: .ref a :: st) h := by
  have e : t = .long := by cases t <;> first | rfl | cases ht
  subst e
  exact mv_asG C hc h1 h2 (fun z => by cases z) gg fun q1 q2 _ _ kk => W.last C.2.1 C.2.2.2.1 q1 (q2 n g) (fun q => by cases q) (mv_nin h1 h2) rfl rfl dg kk
theorem si_dastore (C : mv_Cx D l s0 a0 X p s m meth c N M) {a n : Nat} {t : FieldType} {i : Int32} {x : UInt64} {g : Nat → Value} (dg : decode N.2.1 pc = .ok (.dastore, 1)) (hc : h.1 a = some (.inr (t, n, g))) (ht : mv_ak 5 t = true) (h1 : 0 ≤ i.toInt) (h2 : i.toInt < n) (gg : mv_Go D s0 p l e R s m args below meth c M r (pc + 1) ls st (mv_up h.1 a (some (.inr (t, n, mv_up g i.toInt.toNat (.double x)))), h.2)) : mv_Go D s0 p l e R s m args below meth c M r pc ls (.double x :: .int i :: .ref a :: st) h := by
  have e : t = .double := by cases t <;> first | rfl | cases ht
  subst e
  exact mv_asG C hc h1 h2 (fun z => by cases z) gg fun q1 q2 _ _ kk => W.dast C.2.1 C.2.2.2.1 q1 (q2 n g) (fun q => by cases q) (mv_nin h1 h2) rfl rfl dg kk
theorem si_aastore (C : mv_Cx D l s0 a0 X p s m meth c N M) {a b cb n : Nat} {C0 : String} {i : Int32} {fs : List Value} {g : Nat → Value} (dg : decode N.2.1 pc = .ok (.aastore, 1)) (hb : h.1 b = some (.inl (cb, fs))) (hc : h.1 a = some (.inr (.object C0, n, g))) (hC : mv_cn cb = C0) (h1 : 0 ≤ i.toInt) (h2 : i.toInt < n) (gg : mv_Go D s0 p l e R s m args below meth c M r (pc + 1) ls st (mv_up h.1 a (some (.inr (.object C0, n, mv_up g i.toInt.toNat (.ref b)))), h.2)) : mv_Go D s0 p l e R s m args below meth c M r pc ls (.ref b :: .int i :: .ref a :: st) h := by
  refine mv_asG C hc h1 h2 (fun z => by cases z) gg fun q1 q2 q3 hr kk => ?_
  obtain ⟨-, r0, g0, g5, cellV, g1, g2, g3, -⟩ := hr.2.2.2 b _ hb
  have g0 : vwCl[cb]? = some r0 := g0
  obtain ⟨ps, hps⟩ := mv_cl_ok g0
  have hn := (mv_clk_ok hps).2.1
  have hcls := ((mv_kk C).1 cb r0 g0).2
  obtain ⟨kA, comp, k1, k2, k3, -⟩ := q3
  have hcomp : comp = D.1 cb := Option.some.inj (k3.symm.trans (by rw [← hC, hn]; exact hcls.1))
  subst hcomp
  obtain ⟨kC, hkC, -⟩ := hcls.2
  have hnn := mv_nin h1 h2 (i := i) (n := n) (cA := 0) (g := g)
  rw [arrV_size] at hnn
  exact W.aast C.2.1 C.2.2.2.1 q1 (fun q h => by cases h) (fun h => by cases h) k1 k2 rfl hkC ⟨fun z => hnn (Or.inl z), by show _ < (arrV _ _ _).slots.size; rw [arrV_size]; exact Nat.not_le.mp fun z => hnn (Or.inr z)⟩ g1 (fun q h => by rw [g3] at h; cases h) (by rw [g2]; exact hkC) (by rw [g2]; exact va_assign hcls) rfl rfl dg kk
end SIMB
end
section
section SIMC
variable {D : va_G} {l : Launch} {s0 : State} {a0 : Array Value} {X : mv_X} {p : Program} {e : Env} {R : Room} {s : State} {m : MethodId} {args : Array Value} {below : List Frame} {meth : Method} {c : Code} {N : mv_N} {M : mv_M} {r : mv_R} {pc pc2 : Nat} {ls st st2 : List Value} {h : mv_H}
theorem mv_link (C : mv_Cx D l s0 a0 X p s m meth c N M) {j : Nat} {q : mv_L} (hl : mv_look M.2.2.2.2.1 16 j = some q) : ∃ kd, mv_sd N.1.cls j q kd = true ∧ ∀ w ∈ mv_lws N.1.cls j q kd, w.before args s = true := by
  obtain ⟨kd, hs, hw⟩ := C.2.2.2.2.2.2.2.2.2.2.1.2 j q hl
  exact ⟨kd, hs, fun w z => mv_w C (hw w z)⟩
theorem mv_sum {vs : List Value} (h : ∀ v ∈ vs, v.category = 1) : (vs.map fun v => v.category).sum = vs.length := by
  induction vs with
  | nil => rfl
  | cons v vs ih =>
    rw [List.map_cons, List.sum_cons, List.length_cons, h v List.mem_cons_self, ih fun w hw => h w (List.mem_cons_of_mem _ hw)]
    omega
theorem mv_str (C : mv_Cx D l s0 a0 X p s m meth c N M) {j : Nat} {q : mv_L} (hl : mv_look M.2.2.2.2.1 16 j = some q) (hq : q.1 = 14) : ∃ tx, vk_R N.1.cls j tx (X.2.1 q.2.1) s := by
  obtain ⟨kd, hsd, hw⟩ := mv_link C (args := #[]) hl
  obtain ⟨t, n, z⟩ := q
  have hq : t = 14 := hq
  subst hq
  have hsd : (match mv_sn n with
    | some z => decide (z.1 = N.1.cls) && Nat.beq z.2.1 j
    | none => false) = true := hsd
  cases ht : mv_sn n with
  | none => rw [ht] at hsd; cases hsd
  | some y =>
    rw [ht] at hsd
    have hsd : (decide (y.1 = N.1.cls) && Nat.beq y.2.1 j) = true := hsd
    rw [Bool.and_eq_true] at hsd
    have e1 := of_decide_eq_true hsd.1
    have e2 := Nat.eq_of_beq_eq_true hsd.2
    have := C.1.2.2.2.2.1 n y ht
    rw [e1, e2] at this
    exact ⟨_, vk_R.warm C.2.2.1 this⟩
/-- what is made costs its room -/
theorem mv_newG (C : mv_Cx D l s0 a0 X p s m meth c N M) {cl : mv_C} {sl pcn : Nat} {stx : List Value} (gg : mv_Go D s0 p l e R s m args below meth c M r pcn ls (.ref h.2.1 :: st) (mv_up h.1 h.2.1 (some cl), h.2.1 + 1, h.2.2 + sl))
    (row : ∀ {H : Heap} {locs : List Loc} {cells slots : Nat} {Q : State → Prop} {rls : Array Slot}, mv_HR D s0 h H → cells + 1 ≤ R.cells → slots + sl ≤ R.slots → (∀ H' : Heap, H'.size = H.size + 1 → (∀ q, q < H.size → H'[q]? = H[q]?) → mv_is D s0 H.size cl H' → W p l e R s m args below meth c H' locs (cells + 1) (slots + sl) Q (F0 m pcn rls (.ref H.size :: st))) → W p l e R s m args below meth c H locs cells slots Q (F0 m pc rls stx)) : mv_Go D s0 p l e R s m args below meth c M r pc ls stx h := by
  have hle : h.2.1 + 1 ≤ r.2.2.1 ∧ h.2.2 + sl ≤ r.2.2.2 := gg.1
  refine ⟨⟨by omega, by omega⟩, fun H locs cells slots mc ms rls hr a2 a3 a4 a5 a6 a7 a8 => ?_⟩
  have hz := hr.1
  refine row hr (by omega) (by omega) fun H' z1 o1 hi => ?_
  rw [hz] at hi ⊢
  exact gg.2 H' locs (cells + 1) (slots + sl) mc ms rls (mv_HR_new hr z1 o1 hi) a2 a3 (by show s.heap.size ≤ h.2.1 + 1; omega) (by show cells + 1 + (r.2.2.1 - (h.2.1 + 1)) ≤ mc; omega) (by show slots + sl + (r.2.2.2 - (h.2.2 + sl)) ≤ ms; omega) a7 a8
theorem si_new (C : mv_Cx D l s0 a0 X p s m meth c N M) {j ci : Nat} {q : mv_L} (dg : decode N.2.1 pc = .ok (.new j, 3)) (hl : mv_look M.2.2.2.2.1 16 j = some q) (hq : q.1 = 10) (hci : q.2.1 = ci) (gg : mv_Go D s0 p l e R s m args below meth c M r (pc + 3) ls (.ref h.2.1 :: st) (mv_up h.1 h.2.1 (some (.inl (ci, mv_df ci))), h.2.1 + 1, h.2.2 + (mv_df ci).length)) : mv_Go D s0 p l e R s m args below meth c M r pc ls st h := by
  refine mv_newG C gg fun hr hc hs kk => ?_
  obtain ⟨kd, hsd, hw⟩ := mv_link C (args := args) hl
  obtain ⟨t, ci', z⟩ := q
  have hq : t = 10 := hq
  have hci : ci' = ci := hci
  subst hq; subst hci
  have hsd : (match vwCl[ci']? with
    | some r => decide (r.1 = mv_cn ci') && Nat.beq r.2.2 (mv_df ci').length
    | none => false) = true := hsd
  cases h1 : vwCl[ci']? with
  | none => rw [h1] at hsd; cases hsd
  | some r0 =>
    obtain ⟨ps, hps⟩ := mv_cl_ok h1
    obtain ⟨-, hn, hlen, ⟨ty, hty⟩, -⟩ := mv_clk_ok hps
    have hKn := (mv_kk C).1 ci' r0 h1
    have hw : ∀ w ∈ [Cond.classLink N.1.cls j (mv_cn ci'), .instantiable (mv_cn ci') (mv_df ci').length, .initialized (mv_cn ci')], w.before args s = true := hw
    refine W.newcK C.2.1 C.2.2.2.1 C.2.2.2.2.2.2.1 (hw _ List.mem_cons_self) (hw _ (List.mem_cons_of_mem _ List.mem_cons_self)) (hw _ (List.mem_cons_of_mem _ (List.mem_cons_of_mem _ List.mem_cons_self))) rfl dg hc hs (by rw [hn]; exact hKn.2.1) rfl fun H1 kC hkC e1 z1 o1 => ?_
    refine kk H1 z1 o1 ⟨r0, h1, hlen, ?_⟩
    exact (u_born ty (mv_uw C (args := args) h1) (fun _ z => z) hKn hkC e1 (fun k hk => (hty k hk).1)).to fun k hk => (hty k hk).2
theorem si_newarray (C : mv_Cx D l s0 a0 X p s m meth c N M) {ty : ArrayType} {n : Int32} (dg : decode N.2.1 pc = .ok (.newarray ty, 2)) (ht : mv_nt ty = true) (h1 : 0 ≤ n.toInt) (h2 : n.toInt ≤ 65536) (gg : mv_Go D s0 p l e R s m args below meth c M r (pc + 2) ls (.ref h.2.1 :: st) (mv_up h.1 h.2.1 (some (.inr (newarray.typeOf ty, n.toInt.toNat, fun _ => defaultValue (newarray.typeOf ty)))), h.2.1 + 1, h.2.2 + n.toInt.toNat)) : mv_Go D s0 p l e R s m args below meth c M r pc ls (.int n :: st) h := by
  refine mv_newG C gg fun hr hc hs kk => ?_
  have e : n.toNatClampNeg = n.toInt.toNat := rfl
  have hb : componentBytes (newarray.typeOf ty) ≤ 8 := by cases ty <;> decide
  refine va_newaK C.2.1 C.2.2.2.1 (atype := ty) (word_at C.2.2.1 (Or.inr ⟨_, rfl⟩) (C.1.2.1 _ (mv_at_ok ht))) rfl dg rfl (mv_ge0.mpr h1) e (by
    have : n.toInt.toNat * componentBytes (newarray.typeOf ty) ≤ 65536 * 8 := Nat.mul_le_mul (by omega) hb
    omega) hc hs rfl fun H1 cA e1 z1 o1 hA hf => ?_
  refine kk H1 z1 o1 ⟨cA, e1, arrOfT_moved (mv_alike C).symm hA, ?_, fun _ j hj => ?_⟩
  · have hf' : s0.vm.findClass ("[" ++ (newarray.typeOf ty).toString) = some cA := by rw [← (mv_alike C).findClass]; exact hf
    cases ty <;> exact hf'
  · show fits (newarray.typeOf ty) (defaultValue (newarray.typeOf ty)) = true
    cases ty <;> rfl
theorem si_anewarray (C : mv_Cx D l s0 a0 X p s m meth c N M) {j : Nat} {n : Int32} {q : mv_L} (dg : decode N.2.1 pc = .ok (.anewarray j, 3)) (hl : mv_look M.2.2.2.2.1 16 j = some q) (hq : q.1 = 10) (hao : mv_ao q.2.1 = true) (h1 : 0 ≤ n.toInt) (h2 : n.toInt ≤ 65536) (gg : mv_Go D s0 p l e R s m args below meth c M r (pc + 3) ls (.ref h.2.1 :: st) (mv_up h.1 h.2.1 (some (.inr (.object (mv_cn q.2.1), n.toInt.toNat, fun _ => .null))), h.2.1 + 1, h.2.2 + n.toInt.toNat)) : mv_Go D s0 p l e R s m args below meth c M r pc ls (.int n :: st) h := by
  refine mv_newG C gg fun {H locs cells slots Q rls} hr hc hs kk => ?_
  obtain ⟨kd, hsd, hw⟩ := mv_link C (args := args) hl
  obtain ⟨t, ci, z⟩ := q
  have hq : t = 10 := hq
  subst hq
  have hao : mv_ao ci = true := hao
  have e : n.toNatClampNeg = n.toInt.toNat := rfl
  have hw : ∀ w ∈ [Cond.classLink N.1.cls j (mv_cn ci), .instantiable (mv_cn ci) (mv_df ci).length, .initialized (mv_cn ci)], w.before args s = true := hw
  have h14 : ci < 14 := by
    unfold mv_ao at hao
    split at hao <;> first | omega | cases hao
  have hover : va_AO (mv_cn ci) s := by
    rcases C.1.2.2.2.2.2.2.2.2.2 ci h14 with z | z
    · exact va_AO.moved (mv_alike C) z
    · rw [z] at hao; cases hao
  refine W.anew C.2.1 C.2.2.2.1 C.2.2.2.2.2.2.1 (hw _ List.mem_cons_self) (va_AO.use hover) rfl dg rfl (mv_ge0.mpr h1) (by omega) hc (by rw [e]; exact hs) fun cA kA comp f1 f2 f3 f4 => ?_
  generalize hH1 : H.push ({ cls := cA, slots := Array.replicate n.toNatClampNeg .null, vm := .none } : Cell) = H1
  have z1 : H1.size = H.size + 1 := by rw [← hH1, Array.size_push]
  have e1 : H1[H.size]? = some (arrV cA n.toNatClampNeg (fun _ => .null)) := by rw [← hH1, Array.getElem?_push_size, ← arrV_new]
  have o1 : ∀ q : Nat, q < H.size → H1[q]? = H[q]? := fun q hq => by rw [← hH1, Array.getElem?_push, if_neg (Nat.ne_of_lt hq)]
  have hAr : ArrOfT s cA (.object (mv_cn ci)) := fun N z => ⟨(fun k h => by cases h), kA, f2, comp, f3⟩
  have hRA : va_RA s cA (.object (mv_cn ci)) := ⟨kA, comp, f2, f3, f4, f1⟩
  exact kk H1 z1 o1 ⟨cA, e1, arrOfT_moved (mv_alike C).symm hAr, hRA.moved (mv_alike C).symm, fun z => by cases z⟩
theorem si_objinit (C : mv_Cx D l s0 a0 X p s m meth c N M) {j a : Nat} {q : mv_L} {rest : List Value} (hR : 1 ≤ R.frames ∧ 20 ≤ R.locals) (dg : decode N.2.1 pc = .ok (.invokespecial j, 3)) (hl : mv_look M.2.2.2.2.1 16 j = some q) (hq : q.1 = 23) (h8 : rest.length ≤ 8) (hc : ∀ v ∈ rest, v.category = 1) (gg : mv_Go D s0 p l e R s m args below meth c M r (pc + 3) ls rest h) : mv_Go D s0 p l e R s m args below meth c M r pc ls (.ref a :: rest) h := by
  refine mv_pure gg fun hr a1 k => ?_
  obtain ⟨kd, hsd, hw⟩ := mv_link C (args := args) hl
  obtain ⟨t, z⟩ := q
  have hq : t = 23 := hq
  subst hq
  have hw : ∀ w ∈ [Cond.methodLink N.1.cls j Lib.objectInit, .instanceMethod Lib.objectInit, .code Lib.objectInit ⟨#[0xb1]⟩ 1 none], w.before args s = true := hw
  have hsum := mv_sum hc
  exact W.objInit C.2.1 C.2.2.2.1 C.2.2.2.2.2.2.1 (hw _ List.mem_cons_self) (hw _ (List.mem_cons_of_mem _ List.mem_cons_self)) (hw _ (List.mem_cons_of_mem _ (List.mem_cons_of_mem _ List.mem_cons_self))) rfl (a1.2.1.1.trans C.2.2.2.2.1.symm) rfl dg hR.1 (by show 2 * 0 + (rest.map fun v => v.category).sum + 12 ≤ R.locals; omega) k
theorem si_ldcS (C : mv_Cx D l s0 a0 X p s m meth c N M) {j : Nat} {q : mv_L} (dg : decode N.2.1 pc = .ok (.ldc j, 2)) (hl : mv_look M.2.2.2.2.1 16 j = some q) (hq : q.1 = 14) (gg : mv_Go D s0 p l e R s m args below meth c M r (pc + 2) ls (.ref (X.2.1 q.2.1) :: st) h) : mv_Go D s0 p l e R s m args below meth c M r pc ls st h := by
  refine mv_pure gg fun hr a1 k => ?_
  obtain ⟨tx, hv⟩ := mv_str C hl hq
  exact va_ldcS C.2.1 C.2.2.2.1 C.2.2.2.2.2.2.1 hv dg k
theorem si_ldcSw (C : mv_Cx D l s0 a0 X p s m meth c N M) {j : Nat} {q : mv_L} (dg : decode N.2.1 pc = .ok (.ldc_w j, 3)) (hl : mv_look M.2.2.2.2.1 16 j = some q) (hq : q.1 = 14) (gg : mv_Go D s0 p l e R s m args below meth c M r (pc + 3) ls (.ref (X.2.1 q.2.1) :: st) h) : mv_Go D s0 p l e R s m args below meth c M r pc ls st h := by
  refine mv_pure gg fun hr a1 k => ?_
  obtain ⟨tx, hv⟩ := mv_str C hl hq
  intro T hT Y
  obtain ⟨t, a, b⟩ := k T hT Y
  exact ⟨t, Y.ldcStringW C.2.1 (own := N.1.cls) (text := tx) (index := j) (a := X.2.1 q.2.1) C.2.2.2.2.2.2.1 hv.1 hv.2 (g := F0 m pc _ st) rfl (by rw [C.2.2.2.1]; exact dg) _ a, b⟩
theorem si_ldcI (C : mv_Cx D l s0 a0 X p s m meth c N M) {j : Nat} {q : mv_L} (dg : decode N.2.1 pc = .ok (.ldc j, 2)) (hl : mv_look M.2.2.2.2.1 16 j = some q) (hq : q.1 = 15) (gg : mv_Go D s0 p l e R s m args below meth c M r (pc + 2) ls (.int (nZ (q.2.1 : Int)) :: st) h) : mv_Go D s0 p l e R s m args below meth c M r pc ls st h := by
  refine mv_pure gg fun hr a1 k => ?_
  obtain ⟨kd, hsd, hw⟩ := mv_link C (args := args) hl
  obtain ⟨t, z⟩ := q
  have hq : t = 15 := hq
  subst hq
  exact lv_ldc C.2.1 C.2.2.2.1 C.2.2.2.2.2.2.1 (hw _ List.mem_cons_self) dg k
theorem si_ldcIw (C : mv_Cx D l s0 a0 X p s m meth c N M) {j : Nat} {q : mv_L} (dg : decode N.2.1 pc = .ok (.ldc_w j, 3)) (hl : mv_look M.2.2.2.2.1 16 j = some q) (hq : q.1 = 15) (gg : mv_Go D s0 p l e R s m args below meth c M r (pc + 3) ls (.int (nZ (q.2.1 : Int)) :: st) h) : mv_Go D s0 p l e R s m args below meth c M r pc ls st h := by
  refine mv_pure gg fun hr a1 k => ?_
  obtain ⟨kd, hsd, hw⟩ := mv_link C (args := args) hl
  obtain ⟨t, z⟩ := q
  have hq : t = 15 := hq
  subst hq
  exact lv_ldcw C.2.1 C.2.2.2.1 C.2.2.2.2.2.2.1 (hw _ List.mem_cons_self) dg k
theorem mv_vaS (C : mv_Cx D l s0 a0 X p s m meth c N M) {H : Heap} {locs : List Loc} (hr : mv_HR D s0 h H) (a3 : ∀ q ∈ locs, s0.heap.size ≤ q.base) (a4 : s.heap.size ≤ h.2.1) : va_S (fun a => s0.heap.size ≤ a) s.heap H locs := by
  refine ⟨by rw [hr.1]; exact a4, fun q hq hn => ?_, a3⟩
  have hq : q < s0.heap.size := Nat.not_le.mp hn
  rw [hr.2.2.1 q hq, C.2.2.2.2.2.2.2.2.2.2.2.2 q hq]
theorem si_getstatic (C : mv_Cx D l s0 a0 X p s m meth c N M) {j : Nat} {q : mv_L} {v : Value} (dg : decode N.2.1 pc = .ok (.getstatic j, 3)) (hl : mv_look M.2.2.2.2.1 16 j = some q) (hq : q.1 = 13) (hv : X.2.2 q.2.1 = v) (gg : mv_Go D s0 p l e R s m args below meth c M r (pc + 3) ls (v :: st) h) : mv_Go D s0 p l e R s m args below meth c M r pc ls st h := by
  refine ⟨gg.1, fun H locs cells slots mc ms rls hr a2 a3 a4 a5 a6 a7 a8 => ?_⟩
  have k := gg.2 H locs cells slots mc ms rls hr a2 a3 a4 a5 a6 a7 a8
  obtain ⟨kd, hsd, hw⟩ := mv_link C (args := args) hl
  obtain ⟨t, n, z⟩ := q
  have hq : t = 13 := hq
  subst hq
  have hv : X.2.2 n = v := hv
  have hsd : (mv_tn n).isSome = true := hsd
  cases ht : mv_tn n with
  | none => rw [ht] at hsd; cases hsd
  | some y =>
    have hw : ∀ w ∈ (match mv_tn n with
      | some z => [Cond.fieldLink N.1.cls j z.1 z.2.1 z.2.2]
      | none => []), w.before args s = true := hw
    rw [ht] at hw
    have hZ := C.1.2.2.2.2.2.1 n y ht
    rw [hv] at hZ
    have hZ' := (va_Z.moved (mv_alike C) hZ).kept (H1 := s.heap) fun a _ hn => C.2.2.2.2.2.2.2.2.2.2.2.2 a (Nat.not_le.mp hn)
    exact va_gets C.2.1 C.2.2.2.1 hZ' (mv_vaS C hr a3 a4) C.2.2.2.2.2.2.1 (hw _ List.mem_cons_self) (fun _ z => z) dg k
end SIMC
end
section
/-! THROWS of an exception whose constructor calls the one above by a link of its own (ix; its code rx). The proof follows the library's ctorThrowS (JvmDerived/BundleOwnThrow.lean), which has the link 7 written in; what is said of the object made is less. -/
def mv_chX (X : String) (ix : Nat) (rx : ByteArray) : List String → List Cond
  | [] => Bundle.passSAtoms X Bundle.tN ix rx
  | Y :: r => Bundle.passSAtoms X Y ix rx ++ Bundle.chainSAtoms Y r
def mv_own (own : String) (ic : Nat) (X : String) (ix : Nat) (rx : ByteArray) (names : List String) : List Cond :=
  Bundle.throwableAtoms ++ Bundle.throwableSAtoms ++ mv_chX X ix rx names ++
  [.methodLink own ic (Bundle.initS X), .instantiable X 6, .castable X X, .selects X Bundle.tFill0 Bundle.tFill0, .selects X Bundle.tFill Bundle.tFill,
   .lays X Bundle.tN "cause" "Ljava/lang/Throwable;", .lays X Bundle.tN "stackTrace" Bundle.steD, .lays X Bundle.tN "suppressedExceptions" Bundle.listD, .lays X Bundle.tN "detailMessage" "Ljava/lang/String;",
   .isRef (.static Bundle.tN "UNASSIGNED_STACK" Bundle.steD), .isRef (.static Bundle.tN "SUPPRESSED_SENTINEL" Bundle.listD),
   .fieldLink Bundle.tN 198 Bundle.tN "backtrace" "Ljava/lang/Object;", .lays Bundle.tN Bundle.tN "backtrace" "Ljava/lang/Object;", .lays X Bundle.tN "backtrace" "Ljava/lang/Object;"]
def mv_rx (rx : ByteArray) (ix : Nat) : Prop := decode rx 0 = .ok (.aload_n 0, 1) ∧ decode rx 1 = .ok (.aload_n 1, 1) ∧ decode rx 2 = .ok (.invokespecial ix, 3) ∧ decode rx 5 = .ok (.return_, 1)
theorem mv_chainX {args : Array Value} {s : State} {pl : Platform} (hpl : pl.magicAccessors = ({} : Platform).magicAccessors) {top : MethodId} (htop : s.methodNamed? (Bundle.initS Bundle.tN) = some top) {ix : Nat} {rx : ByteArray} (hrx : mv_rx rx ix)
    (names : List String) (X : String) (hX : Bundle.fit X = true) (hn : ∀ n ∈ names, Bundle.fit n = true) (h : ∀ c ∈ mv_chX X ix rx names, c.before args s = true) :
      ∃ (P1 : PassC) (Ps : List PassC), Ps.length = names.length ∧ P1.LinksS pl s ∧ (∀ P, P ∈ Ps → P.LinksS pl s) ∧ s.methodNamed? (Bundle.initS X) = some P1.m ∧
        P1.sup = firstOf top (Ps.map (·.toPassT)) ∧ PassesOn top (Ps.map (·.toPassT)) := by
  cases names with
  | nil =>
    obtain ⟨P, L, hm, hs⟩ := PassC.ofS_atoms (args := args) (s := s) hpl (X := X) (Y := Bundle.tN) (Bundle.fit_spec hX).1 (by decide) hrx.1 hrx.2.1 hrx.2.2.1 hrx.2.2.2 h
    exact ⟨P, [], rfl, L, (fun _ hP => by cases hP), hm, Option.some.inj (hs.symm.trans htop), trivial⟩
  | cons Y r =>
    obtain ⟨P, L, hm, hs⟩ := PassC.ofS_atoms (args := args) (s := s) hpl (X := X) (Y := Y) (Bundle.fit_spec hX).1 (Bundle.fit_spec (hn Y List.mem_cons_self)).2 hrx.1 hrx.2.1 hrx.2.2.1 hrx.2.2.2
      (fun c hc => h c (by simp only [mv_chX, List.mem_append]; exact Or.inl hc))
    obtain ⟨P', Ps, hlen, L', hL, hm', hsup, hpass⟩ := Bundle.chainS (args := args) hpl htop r Y (hn Y List.mem_cons_self) (fun n hn' => hn n (List.mem_cons_of_mem _ hn')) (fun c hc => h c (by simp only [mv_chX, List.mem_append]; exact Or.inr hc))
    refine ⟨P, P' :: Ps, by simp [hlen], L, ?_, hm, Option.some.inj (hs.symm.trans hm'), hsup, hpass⟩
    intro Q hQ
    rcases List.mem_cons.mp hQ with rfl | hQ
    · exact L'
    · exact hL Q hQ
section MVT
variable {p : Program} {l : Launch} {e : Env} {R : Room} {s : State} {m₀ : MethodId} {args : Array Value} {below : List Frame} {meth : Method} {c : Code} {W : State} {locs : List Loc} {cells slots : Nat}
set_option maxHeartbeats 1000000 in
theorem mv_ctorThrow (X : Stand p l e R s m₀ args below meth c W locs cells slots) (hexec : p.tables.exec = Jvm.exec) (htr : e.platform.stackTraces = false) {own cls : String} {names : List String} {ic ix : Nat} {rx : ByteArray} (hrx : mv_rx rx ix)
    (hown : s.vm.findClass own = some m₀.cls) (hcls : Bundle.fit cls = true) (hnames : ∀ n ∈ names, Bundle.fit n = true)
    (h : ∀ a ∈ mv_own own ic cls ix rx names, a.before args s = true)
    (hlocs : ∀ x ∈ locs, ∀ cell, s.heap[x.base]? = some cell → cell.vm.isStatics = false)
    {a : Addr} {cX : ClassId} {kX : Class} (hfoundX : s.vm.findClass cls = some cX) (hkX : s.vm.classes[cX]? = some kX) (hcell : W.heap[a]? = some (freshCell cX kX)) (hnew : s.heap.size ≤ a)
    {msg : Value} (hmsg : msg.isRef = true)
    {g : JFrame} (hg : g.method = m₀) (hsize : g.locals.size = c.maxLocals) (hlocked : g.locked = none) (hentered : g.entered = []) {rest : List Value} (hstack : g.stack = msg :: .ref a :: .ref a :: rest)
    (hd6 : decode c.code g.pc = .ok (.invokespecial ic, 3)) (hd9 : decode c.code (g.pc + 3) = .ok (.athrow, 1)) (hout : ∀ x ∈ c.exceptionTable.toList, covers x (g.pc + 3) = false)
    (hRframes : names.length + 3 < R.frames) (hRlocals : 2 * g.monitorRoom + ((Value.ref a :: rest).map fun v => v.category).sum + (13 * (names.length + 1) + 42) ≤ R.locals) (hlocks : meth.locks = false := by assumption) :
    ∃ U : State, Steps p.tables e below (W.setTop g) U ∧ U.status = .running ∧ Ended U below (.threw a) ∧ s.WarmedH U.vm ∧ s.sameButNew ({ U with vm := s.vm } : State) locs cells slots ∧
      ∃ ce, U.heap[a]? = some ce ∧ ce.vm = .none ∧ s.vm.findClass cls = some ce.cls := by
  have howns : e.platform.frameOwnsMonitors = true := by rw [X.admits.platform]
  have hfin : e.platform.finalization = false := by rw [X.admits.platform]
  have hpl : e.platform.magicAccessors = ({} : Platform).magicAccessors := by rw [X.admits.platform]
  have a' : ∀ x, x ∈ mv_own own ic cls ix rx names → x.holds args s none s [] = true := fun x hx => h x hx
  obtain ⟨T, Z0, L, -, Y⟩ := ThrowableC.of_atoms (args := args) howns hfin hpl (fun x hx => h x (by simp [mv_own, hx]))
  obtain ⟨Z, M, LZ, LM, hnZ⟩ := Init0T.ofS_atoms (args := args) hpl L Y (fun x hx => h x (by simp [mv_own, hx]))
  obtain ⟨P1, Ps, hlen, L1, hL, hP1m, hlink1, hlink⟩ := mv_chainX (args := args) hpl hnZ hrx names cls hcls hnames (fun x hx => h x (by simp [mv_own, hx]))
              
  have hfound : s.vm.findClass cls = some P1.m.cls := findClass_of_methodNamed hP1m
  cases Option.some.inj (hfoundX.symm.trans hfound)
  obtain ⟨c1, kX', hc1, hk, hord, -, -, hn6⟩ := Cond.instantiable_spec (a' (.instantiable cls 6) (by simp [mv_own]))
  cases Option.some.inj (hc1.symm.trans hfound)
  cases Option.some.inj (hkX.symm.trans hk)
  have hsel0 : selectMethod e.platform s.vm P1.m.cls T.fill0 = .method T.fill0 := by
    obtain ⟨c2, r2, m2, q1, q2, q3, q4, -⟩ := Cond.selects_spec (a' (.selects cls Bundle.tFill0 Bundle.tFill0) (by simp [mv_own]))
    cases Option.some.inj (q1.symm.trans hfound)
    cases Option.some.inj (q2.symm.trans (State.methodFound?_of_named Y.fill0 (by decide)))
    cases Option.some.inj (q3.symm.trans Y.fill0)
    rw [Launch.admits_selectMethod X.admits]; exact q4
  have hselF : selectMethod e.platform s.vm P1.m.cls T.fill = .method T.fill := by
    obtain ⟨c2, r2, m2, q1, q2, q3, q4, -⟩ := Cond.selects_spec (a' (.selects cls Bundle.tFill Bundle.tFill) (by simp [mv_own]))
    cases Option.some.inj (q1.symm.trans hfound)
    cases Option.some.inj (q2.symm.trans (State.methodFound?_of_named Y.fill (by decide)))
    cases Option.some.inj (q3.symm.trans Y.fill)
    rw [Launch.admits_selectMethod X.admits]; exact q4
  obtain ⟨cellS0, hcS0, hiss⟩ := Y.statics
  obtain ⟨u0, hu0⟩ := Cond.staticRefV Y.unassigned L.unassignedStatic L.statics hcS0 hiss (a' (.isRef (.static Bundle.tN "UNASSIGNED_STACK" Bundle.steD)) (by simp [mv_own]))
  obtain ⟨sen, hsen⟩ := Cond.staticRefV Y.sentinel L.sentinelStatic L.statics hcS0 hiss (a' (.isRef (.static Bundle.tN "SUPPRESSED_SENTINEL" Bundle.listD)) (by simp [mv_own]))
  obtain ⟨ci198, i198, fB, hk198, hg198, ha198, hsB, -, hnB, htB, hffB⟩ := Cond.ownField (t := .object "java/lang/Object") Y.found L.cls (by decide +kernel) (a' (.fieldLink Bundle.tN 198 Bundle.tN "backtrace" "Ljava/lang/Object;") (by simp [mv_own])) (a' (.lays Bundle.tN Bundle.tN "backtrace" "Ljava/lang/Object;") (by simp [mv_own])) e.platform hpl
  obtain ⟨cellS, hcS', heS, -, hkeep⟩ := X.same.2.2.2.2.2 T.aS cellS0 hcS0
  have hcellS : W.heap[T.aS]? = some cellS := hcS'
  have hout' : ∀ i, (⟨T.aS, i⟩ : Loc) ∉ locs := fun i hmem => by
    have := hlocs _ hmem cellS0 hcS0
    rw [hiss] at this; cases this
  have hknownS : cellS.vm ≠ .unknown := by
    rw [heS]; intro hu
    rw [show cellS0.vm = .unknown from hu] at hiss
    cases hiss
  have hneS : T.aS ≠ a := Nat.ne_of_lt (Nat.lt_of_lt_of_le (Array.getElem?_eq_some_iff.mp hcS0).1 hnew)
  obtain ⟨iM, hffM⟩ := Y.msg
  obtain ⟨tyC, dC, hdC, hdnC⟩ := Cond.laysAt hfound hk Y.cause (a' (.lays cls Bundle.tN "cause" "Ljava/lang/Throwable;") (by simp [mv_own]))
  obtain ⟨tyS, dS, hdS, hdnS⟩ := Cond.laysAt hfound hk Y.stack (a' (.lays cls Bundle.tN "stackTrace" Bundle.steD) (by simp [mv_own]))
  obtain ⟨tyP, dP, hdP, hdnP⟩ := Cond.laysAt hfound hk Y.supp (a' (.lays cls Bundle.tN "suppressedExceptions" Bundle.listD) (by simp [mv_own]))
  obtain ⟨tyM, dM, hdM, hdnM⟩ := Cond.laysAt hfound hk hffM (a' (.lays cls Bundle.tN "detailMessage" "Ljava/lang/String;") (by simp [mv_own]))
  obtain ⟨tyB, dB, hdB, hdnB⟩ := Cond.laysAt hfound hk hffB (a' (.lays cls Bundle.tN "backtrace" "Ljava/lang/Object;") (by simp [mv_own]))
  have bC := Cond.laysApart hdB hdC hdnB hdnC (by rw [hnB, Y.causeName]; decide)
  have bS := Cond.laysApart hdB hdS hdnB hdnS (by rw [hnB, Y.stackName]; decide)
  have bP := Cond.laysApart hdB hdP hdnB hdnP (by rw [hnB, Y.suppName]; decide)
  have hskip : SkipFacts T e.platform s (fun u => u) u0 ((preparedCellV T.toThrowableT (freshCell P1.m.cls kX) a u0 sen).withEntry W.cur) :=
    ⟨{ ci198 := ci198, i198 := i198, fBack := fB }, ⟨hk198, hg198, ha198, hsB⟩, by
      have := fresh_default (c := P1.m.cls) tyB
      rw [htB] at this
      simpa [preparedCellV, Cell.setSlot, Cell.withEntry, Array.getElem?_setIfInBounds, bC, bS, bP, bC.symm, bS.symm, bP.symm, defaultValue] using this, fun _ _ => rfl⟩
                                     
  obtain ⟨tm, methC, cdC, kC, vm₁, hnC, -, -, -, -, -, -, -, hW₁, st1⟩ := Steps.initColdS (tb := p.tables) (e := e) (below := below) (s := s) (U := W) X.here hexec X.warmed hpl hown (t := Bundle.initS cls) rfl rfl (Bundle.fit_spec hcls).2
    (a' (.methodLink own ic (Bundle.initS cls)) (by simp [mv_own])) (h (.instanceMethod (Bundle.initS cls)) (by cases names <;> simp [mv_own, mv_chX, Bundle.passSAtoms])) (bytes := rx) (maxL := 2) (h (.code (Bundle.initS cls) rx 2 none) (by cases names <;> simp [mv_own, mv_chX, Bundle.passSAtoms]))
    (f := g) hg (a := a) (msg := msg) (rest := .ref a :: rest) hstack hd6
  cases Option.some.inj (hnC.symm.trans hP1m)
  have X₁ := X.noted hW₁
                                 
  obtain ⟨vm₂, X₂, st2⟩ := X₁.ctorMessageOffV hexec (g := { g with stack := .ref a :: rest }) hg hsize T L Z LZ M LM (P1 :: Ps)
    (fun P hP => by rcases List.mem_cons.mp hP with rfl | hP; exact L1; exact hL P hP) ⟨hlink1, hlink⟩ (u0 := u0) (sen := sen) (self := a) hmsg (cell := freshCell P1.m.cls kX) (cellS := cellS)
    hcell (fun _ => by simp) (by simp) rfl rfl hsel0 hselF hcellS hneS hknownS (by rw [hkeep _ (hout' _)]; exact hu0) (by rw [hkeep _ (hout' _)]; exact hsen)
    (Takes.of_laid hk hord tyC (by rw [Y.causeType]; rfl)) (Takes.of_laid hk hord tyS (by rw [Y.stackType]; exact fits_refV_array _ u0)) (Takes.of_laid hk hord tyP (by rw [Y.suppType]; exact fits_refV_object _ sen))
    (Takes.of_laid hk hord tyM (by rw [Y.msgType]; exact fits_refV_object _ ⟨msg, hmsg⟩)) Y.objLocals hskip htr [] hd6
    (by simp only [List.length_cons, hlen]; omega) (by simp only [List.length_cons, hlen]; exact hRlocals)
                                    
  obtain ⟨hwalk, hrun, hended, hWU, hsame⟩ := X₂.athrowLeaves hexec (g := { g with stack := .ref a :: rest, pc := g.pc + 3 }) hg hlocked hentered hout (a := a) (rest := rest) rfl hd9
  obtain ⟨c3, c4, hc3, hc4, hasg⟩ := Cond.castable_spec (a' (.castable cls cls) (by simp [mv_own]))
  cases Option.some.inj (hc3.symm.trans hfound)
  cases Option.some.inj (hc4.symm.trans hfound)
  have hlt : a < ((W.setVm vm₁).setVm vm₂).heap.size := (Array.getElem?_eq_some_iff.mp hcell).1
  have hU := heapAt_setCell_self (s := (W.setVm vm₁).setVm vm₂) (plainBareV T.toThrowableT (freshCell P1.m.cls kX) a u0 sen msg) hlt
  refine ⟨_, st1 _ (fun acts => ?_), hrun, hended, hWU, hsame.weaken (fun y hy hlt' => ?_) (Nat.le_refl _) (Nat.le_refl _), _, hU, rfl, hfound⟩
  · rw [doInvoke_state]
    exact st2 _ hwalk
  · rcases List.mem_append.mp hy with h1 | h1
    · exact h1
    · exfalso
      have hb : y.base = a := by
        simp only [List.mem_cons, List.not_mem_nil, or_false] at h1
        rcases h1 with rfl | rfl | rfl | rfl | rfl <;> rfl
      rw [hb] at hlt'
      exact Nat.not_lt.mpr hnew hlt'
end MVT
def mv_at (own : String) (ic : Nat) (X : String) (ix : Nat) (rx : ByteArray) (names : List String) : List Cond := (mv_own own ic X ix rx names).filter vx_no
def mv_xi (e : Nat) : Nat := match e with
  | 1 => 13
  | _ => 7
def mv_xr (e : Nat) : ByteArray := match e with
  | 1 => ⟨#[0x2a, 0x2b, 0xb7, 0x00, 0x0d, 0xb1]⟩
  | _ => ⟨#[0x2a, 0x2b, 0xb7, 0x00, 0x07, 0xb1]⟩
theorem mv_xr_ok {e : Nat} (h : e < 6) : mv_rx (mv_xr e) (mv_xi e) := by
  have h : e = 0 ∨ e = 1 ∨ e = 2 ∨ e = 3 ∨ e = 4 ∨ e = 5 := by omega
  rcases h with rfl | rfl | rfl | rfl | rfl | rfl <;> exact ⟨by decide +kernel, by decide +kernel, by decide +kernel, by decide +kernel⟩
theorem mv_xat_t : ((List.range 6).all fun e => (mv_at "BalloonHarbour" (mv_xc e) (mv_en e) (mv_xi e) (mv_xr e) mv_xn).all fun w => vx_ot w && (goodWord w || (w.onTables && w.keepsCast)) && lw_tbl.any fun z => decide (z = w)) = true := by decide +kernel
theorem mv_xat {e : Nat} (h : e < 6) : ∀ w ∈ mv_at "BalloonHarbour" (mv_xc e) (mv_en e) (mv_xi e) (mv_xr e) mv_xn, vx_ot w = true ∧ (goodWord w || (w.onTables && w.keepsCast)) = true ∧ w ∈ lw_tbl := by
  intro w hw
  have := List.all_eq_true.mp (List.all_eq_true.mp mv_xat_t e (List.mem_range.mpr h)) w hw
  rw [Bool.and_eq_true, Bool.and_eq_true, List.any_eq_true] at this
  obtain ⟨⟨h1, h2⟩, z, hz, e⟩ := this
  have e := of_decide_eq_true e
  subst e
  exact ⟨h1, h2, hz⟩
theorem mv_xn_ok : ∀ n ∈ mv_xn, Bundle.fit n = true := by decide +kernel
theorem mv_xf_ok {e : Nat} (h : e < 6) : Bundle.fit (mv_en e) = true := by
  have h : e = 0 ∨ e = 1 ∨ e = 2 ∨ e = 3 ∨ e = 4 ∨ e = 5 := by omega
  rcases h with rfl | rfl | rfl | rfl | rfl | rfl <;> decide +kernel
section SIMT
variable {p : Program} {l : Launch} {e : Env} {R : Room} {s : State} {m : MethodId} {args : Array Value} {below : List Frame} {meth : Method} {c : Code} {H : Heap} {locs : List Loc} {cells slots : Nat} {Q : State → Prop}
variable {mc ms : Nat} {free : Addr → Prop} {A0 A1 : Nat → Prop} {H0 : Heap} {a : Array Value} {ls : Array Slot} {st0 rest : List Value}
variable {Qc : Array Value → State → Outcome → State → Prop} {XC : String → State → State → Prop}
theorem mv_throwS {cc : ByteArray} {pc : Nat} (hexec : p.tables.exec = Jvm.exec) (hb : c.code = cc) (hl : l.stackTraces = false) {own cls text : String} {names : List String} {ik is ic ix mc ms sa : Nat} {rx : ByteArray} {A : Nat → Prop}
    (hown : s.vm.findClass own = some m.cls) (hrx : mv_rx rx ix) (hcls : Bundle.fit cls = true) (hnames : ∀ n ∈ names, Bundle.fit n = true)
    (hk : (Cond.classLink own ik cls).before args s = true) (hini : (Cond.initialized cls).before args s = true) (hstr : vk_R own is text sa s) (hat : ∀ w ∈ mv_at own ic cls ix rx names, w.before args s = true)
    (hgood : ∀ w ∈ Cond.classLink own ik cls :: Cond.initialized cls :: mv_at own ic cls ix rx names, vx_ot w = true)
    (hU : vx_Zq Bundle.tN "UNASSIGNED_STACK" Bundle.steD A s s.heap) (hN : vx_Zq Bundle.tN "SUPPRESSED_SENTINEL" Bundle.listD A s s.heap) (hS : va_S A s.heap H locs) (hsize : ls.size = c.maxLocals)
    (d0 : decode cc pc = .ok (.new ik, 3)) (d3 : decode cc (pc + 3) = .ok (.dup, 1)) (d4 : decode cc (pc + 4) = .ok (.ldc is, 2)) (d6 : decode cc (pc + 6) = .ok (.invokespecial ic, 3)) (d9 : decode cc (pc + 9) = .ok (.athrow, 1))
    (hout : ∀ x ∈ c.exceptionTable.toList, covers x (pc + 9) = false)
    (hRframes : names.length + 3 < R.frames) (hRlocals : (rest.map fun v => v.category).sum + (13 * (names.length + 1) + 43) ≤ R.locals) (hRcells : cells + 1 ≤ R.cells) (hRslots : slots + 6 ≤ R.slots) (hlocks : meth.locks = false)
    (hx : ∀ t : State, s.vm.Alike t.vm → t.heap.size = H.size + 1 → (∀ q : Nat, q < H.size → t.heap[q]? = H[q]?) → XC cls s t)
    (hf : ∀ z ∈ locs, free z.base) (hc : cells + 1 ≤ mc) (hs : slots + 6 ≤ ms) :
    W p l e R s m args below meth c H locs cells slots (vx_MQ below Qc XC args s mc ms free) (F0 m pc ls rest) := by
  intro T hT X
  have htr : e.platform.stackTraces = false := (show e.platform.stackTraces = l.stackTraces by rw [X.admits.platform]).trans hl
  have Y := vx_rebase X (R' := { frames := R.frames, locals := R.locals, cells := 1, slots := 6 }) (Nat.le_refl _) (Nat.le_refl _) hRcells hRslots
  obtain ⟨s', hA⟩ : ∃ z, z = (T.setVm s.vm).setFrames (.invoking m args :: below) := ⟨_, rfl⟩
  rw [← hA] at Y
  have hvm : s'.vm = s.vm := by rw [hA]; rfl
  have hhp : s'.heap = H := by rw [hA]; exact hT
  have hW0 : s.WarmedH s'.vm := by rw [hvm]; exact State.WarmedH.refl s
  have hat' : ∀ w ∈ mv_at own ic cls ix rx names, w.before args s' = true := fun w hw => vx_ot_at hW0 hvm.symm (hgood w (List.mem_cons_of_mem _ (List.mem_cons_of_mem _ hw))) (hat w hw)
  have hk' : (Cond.classLink own ik cls).before args s' = true := vx_ot_at hW0 hvm.symm (hgood _ List.mem_cons_self) hk
  have hini' : (Cond.initialized cls).before args s' = true := vx_ot_at hW0 hvm.symm (hgood _ (List.mem_cons_of_mem _ List.mem_cons_self)) hini
  have hU' : vx_Zq Bundle.tN "UNASSIGNED_STACK" Bundle.steD A s' s'.heap := by rw [hhp]; exact vx_Zq.moved hW0.alike (hU.kept hS.2.1)
  have hN' : vx_Zq Bundle.tN "SUPPRESSED_SENTINEL" Bundle.listD A s' s'.heap := by rw [hhp]; exact vx_Zq.moved hW0.alike (hN.kept hS.2.1)
  have h : ∀ w ∈ mv_own own ic cls ix rx names, w.before args s' = true := vx_own hat' (vx_isRefq hU'.1) (vx_isRefq hN'.1) hU'.2.word hN'.2.word
  have hown' : s'.vm.findClass own = some m.cls := by rw [hvm]; exact hown
  have hins : (Cond.instantiable cls 6).before args s' = true := h _ (by simp [mv_own])
  obtain ⟨vm₁, cX, kX, hfX, hkX, -, -, X₁, st1⟩ := Y.newCold hexec (own := own) (C := cls) (index := ik) (n := 6) hown' hk' hins hini'
    (g := F0 m pc ls rest) rfl (by rw [hb]; exact d0) (Nat.le_refl _) (Nat.le_refl _)
  generalize hT1 : (T.setVm vm₁).pushCell { cls := cX, slots := kX.instanceTypes.map defaultValue, vm := .none } = T1 at X₁ st1
  have hcat : (Value.ref T.heap.size).category = 1 := rfl
  have hcellA : T1.heap[T.heap.size]? = some (freshCell cX kX) := by rw [← hT1]; exact State.heap_pushCell_size _ _
  have d3' : decode c.code (pc + 3) = .ok (.dup, 1) := by rw [hb]; exact d3
  have d4' : decode c.code (pc + 4) = .ok (.ldc is, 2) := by rw [hb]; exact d4
  have hstr' : vk_R own is text sa s' := vk_R.warm hW0 hstr
  obtain ⟨U, hsteps, hrun, hend, hW, hsame, ce, hce, hOv, hOc⟩ := mv_ctorThrow X₁ hexec htr hrx (own := own) (cls := cls) (names := names) (ic := ic) hown' hcls hnames h (fun x hx => nomatch hx) hfX hkX hcellA (by rw [hhp, hT]; exact Nat.le_refl _) (msg := .ref sa) rfl
    (g := { method := m, pc := pc + 6, locals := ls, stack := .ref sa :: .ref T.heap.size :: .ref T.heap.size :: rest, locked := none }) rfl hsize rfl rfl (rest := rest) rfl
    (by rw [hb]; exact d6) (by rw [hb]; exact d9) hout hRframes (by simp only [List.map_cons, List.sum_cons, hcat]; omega) hlocks
  obtain ⟨f1, f2⟩ := vx_frame hsame
  rw [hhp] at f1 f2
  have hWs : s.WarmedH U.vm := State.WarmedH.trans hW0 hW
  have fz : U.heap.size = H.size + 1 := by
    have q3 := hsame.2.2.1
    have q3 : U.heap.size ≤ s'.heap.size + (0 + 1) := q3
    rw [hhp] at q3
    have q4 : T.heap.size < U.heap.size := (Array.getElem?_eq_some_iff.mp hce).1
    rw [hT] at q4
    omega
  have hcl : s.vm.findClass cls = some ce.cls := by
    have h9 := hOc
    rw [hvm] at h9
    exact h9
  have hall : s.sameButNew ({ U with vm := s.vm } : State) locs mc ms := by
    subst hA
    obtain ⟨e1, e2⟩ := hsame
    rw [State.setFrames_setFrames] at e1
    have h2 : (T.setVm s.vm).sameButNew ({ U with vm := s.vm } : State) [] (0 + 1) (0 + 6) := ⟨e1, e2⟩
    have h3 := X.same.trans h2
    rw [List.append_nil] at h3
    exact h3.mono hc hs
  refine ⟨U, ?_, .threw T.heap.size, hrun, hend, Or.inr ⟨T.heap.size, rfl, cls, ce, locs, hx U hWs.alike fz (fun q hq => f2 q hq (fun z hz => nomatch hz)), hce, hOv, hcl, hWs, hall, hf⟩⟩
  refine st1 _ ?_
  show Steps p.tables e below (T1.setTop { method := m, pc := pc + 3, locals := ls, stack := .ref T.heap.size :: rest, locked := none }) _
  jvm_step X₁.here [X₁.here.top, hexec, d3', Value.category]
  exact X₁.ldcString hexec (own := own) (text := text) (index := is) (a := sa) hown' hstr'.1 hstr'.2
    (g := { method := m, pc := pc + 4, locals := ls, stack := .ref T.heap.size :: .ref T.heap.size :: rest, locked := none }) rfl d4' _ hsteps
theorem mv_throwSW {cc : ByteArray} {pc : Nat} (hexec : p.tables.exec = Jvm.exec) (hb : c.code = cc) (hl : l.stackTraces = false) {own cls text : String} {names : List String} {ik is ic ix mc ms sa : Nat} {rx : ByteArray} {A : Nat → Prop}
    (hown : s.vm.findClass own = some m.cls) (hrx : mv_rx rx ix) (hcls : Bundle.fit cls = true) (hnames : ∀ n ∈ names, Bundle.fit n = true)
    (hk : (Cond.classLink own ik cls).before args s = true) (hini : (Cond.initialized cls).before args s = true) (hstr : vk_R own is text sa s) (hat : ∀ w ∈ mv_at own ic cls ix rx names, w.before args s = true)
    (hgood : ∀ w ∈ Cond.classLink own ik cls :: Cond.initialized cls :: mv_at own ic cls ix rx names, vx_ot w = true)
    (hU : vx_Zq Bundle.tN "UNASSIGNED_STACK" Bundle.steD A s s.heap) (hN : vx_Zq Bundle.tN "SUPPRESSED_SENTINEL" Bundle.listD A s s.heap) (hS : va_S A s.heap H locs) (hsize : ls.size = c.maxLocals)
    (d0 : decode cc pc = .ok (.new ik, 3)) (d3 : decode cc (pc + 3) = .ok (.dup, 1)) (d4 : decode cc (pc + 4) = .ok (.ldc_w is, 3)) (d7 : decode cc (pc + 7) = .ok (.invokespecial ic, 3)) (d10 : decode cc (pc + 10) = .ok (.athrow, 1))
    (hout : ∀ x ∈ c.exceptionTable.toList, covers x (pc + 10) = false)
    (hRframes : names.length + 3 < R.frames) (hRlocals : (rest.map fun v => v.category).sum + (13 * (names.length + 1) + 43) ≤ R.locals) (hRcells : cells + 1 ≤ R.cells) (hRslots : slots + 6 ≤ R.slots) (hlocks : meth.locks = false)
    (hx : ∀ t : State, s.vm.Alike t.vm → t.heap.size = H.size + 1 → (∀ q : Nat, q < H.size → t.heap[q]? = H[q]?) → XC cls s t)
    (hf : ∀ z ∈ locs, free z.base) (hc : cells + 1 ≤ mc) (hs : slots + 6 ≤ ms) :
    W p l e R s m args below meth c H locs cells slots (vx_MQ below Qc XC args s mc ms free) (F0 m pc ls rest) := by
  intro T hT X
  have htr : e.platform.stackTraces = false := (show e.platform.stackTraces = l.stackTraces by rw [X.admits.platform]).trans hl
  have Y := vx_rebase X (R' := { frames := R.frames, locals := R.locals, cells := 1, slots := 6 }) (Nat.le_refl _) (Nat.le_refl _) hRcells hRslots
  obtain ⟨s', hA⟩ : ∃ z, z = (T.setVm s.vm).setFrames (.invoking m args :: below) := ⟨_, rfl⟩
  rw [← hA] at Y
  have hvm : s'.vm = s.vm := by rw [hA]; rfl
  have hhp : s'.heap = H := by rw [hA]; exact hT
  have hW0 : s.WarmedH s'.vm := by rw [hvm]; exact State.WarmedH.refl s
  have hat' : ∀ w ∈ mv_at own ic cls ix rx names, w.before args s' = true := fun w hw => vx_ot_at hW0 hvm.symm (hgood w (List.mem_cons_of_mem _ (List.mem_cons_of_mem _ hw))) (hat w hw)
  have hk' : (Cond.classLink own ik cls).before args s' = true := vx_ot_at hW0 hvm.symm (hgood _ List.mem_cons_self) hk
  have hini' : (Cond.initialized cls).before args s' = true := vx_ot_at hW0 hvm.symm (hgood _ (List.mem_cons_of_mem _ List.mem_cons_self)) hini
  have hU' : vx_Zq Bundle.tN "UNASSIGNED_STACK" Bundle.steD A s' s'.heap := by rw [hhp]; exact vx_Zq.moved hW0.alike (hU.kept hS.2.1)
  have hN' : vx_Zq Bundle.tN "SUPPRESSED_SENTINEL" Bundle.listD A s' s'.heap := by rw [hhp]; exact vx_Zq.moved hW0.alike (hN.kept hS.2.1)
  have h : ∀ w ∈ mv_own own ic cls ix rx names, w.before args s' = true := vx_own hat' (vx_isRefq hU'.1) (vx_isRefq hN'.1) hU'.2.word hN'.2.word
  have hown' : s'.vm.findClass own = some m.cls := by rw [hvm]; exact hown
  have hins : (Cond.instantiable cls 6).before args s' = true := h _ (by simp [mv_own])
  obtain ⟨vm₁, cX, kX, hfX, hkX, -, -, X₁, st1⟩ := Y.newCold hexec (own := own) (C := cls) (index := ik) (n := 6) hown' hk' hins hini'
    (g := F0 m pc ls rest) rfl (by rw [hb]; exact d0) (Nat.le_refl _) (Nat.le_refl _)
  generalize hT1 : (T.setVm vm₁).pushCell { cls := cX, slots := kX.instanceTypes.map defaultValue, vm := .none } = T1 at X₁ st1
  have hcat : (Value.ref T.heap.size).category = 1 := rfl
  have hcellA : T1.heap[T.heap.size]? = some (freshCell cX kX) := by rw [← hT1]; exact State.heap_pushCell_size _ _
  have d3' : decode c.code (pc + 3) = .ok (.dup, 1) := by rw [hb]; exact d3
  have d4' : decode c.code (pc + 4) = .ok (.ldc_w is, 3) := by rw [hb]; exact d4
  have hstr' : vk_R own is text sa s' := vk_R.warm hW0 hstr
  obtain ⟨U, hsteps, hrun, hend, hW, hsame, ce, hce, hOv, hOc⟩ := mv_ctorThrow X₁ hexec htr hrx (own := own) (cls := cls) (names := names) (ic := ic) hown' hcls hnames h (fun x hx => nomatch hx) hfX hkX hcellA (by rw [hhp, hT]; exact Nat.le_refl _) (msg := .ref sa) rfl
    (g := { method := m, pc := pc + 7, locals := ls, stack := .ref sa :: .ref T.heap.size :: .ref T.heap.size :: rest, locked := none }) rfl hsize rfl rfl (rest := rest) rfl
    (by rw [hb]; exact d7) (by rw [hb]; exact d10) hout hRframes (by simp only [List.map_cons, List.sum_cons, hcat]; omega) hlocks
  obtain ⟨f1, f2⟩ := vx_frame hsame
  rw [hhp] at f1 f2
  have hWs : s.WarmedH U.vm := State.WarmedH.trans hW0 hW
  have fz : U.heap.size = H.size + 1 := by
    have q3 := hsame.2.2.1
    have q3 : U.heap.size ≤ s'.heap.size + (0 + 1) := q3
    rw [hhp] at q3
    have q4 : T.heap.size < U.heap.size := (Array.getElem?_eq_some_iff.mp hce).1
    rw [hT] at q4
    omega
  have hcl : s.vm.findClass cls = some ce.cls := by
    have h9 := hOc
    rw [hvm] at h9
    exact h9
  have hall : s.sameButNew ({ U with vm := s.vm } : State) locs mc ms := by
    subst hA
    obtain ⟨e1, e2⟩ := hsame
    rw [State.setFrames_setFrames] at e1
    have h2 : (T.setVm s.vm).sameButNew ({ U with vm := s.vm } : State) [] (0 + 1) (0 + 6) := ⟨e1, e2⟩
    have h3 := X.same.trans h2
    rw [List.append_nil] at h3
    exact h3.mono hc hs
  refine ⟨U, ?_, .threw T.heap.size, hrun, hend, Or.inr ⟨T.heap.size, rfl, cls, ce, locs, hx U hWs.alike fz (fun q hq => f2 q hq (fun z hz => nomatch hz)), hce, hOv, hcl, hWs, hall, hf⟩⟩
  refine st1 _ ?_
  show Steps p.tables e below (T1.setTop { method := m, pc := pc + 3, locals := ls, stack := .ref T.heap.size :: rest, locked := none }) _
  jvm_step X₁.here [X₁.here.top, hexec, d3', Value.category]
  exact X₁.ldcStringW hexec (own := own) (text := text) (index := is) (a := sa) hown' hstr'.1 hstr'.2
    (g := { method := m, pc := pc + 4, locals := ls, stack := .ref T.heap.size :: .ref T.heap.size :: rest, locked := none }) rfl d4' _ hsteps
end SIMT
end
section
section SIMD
variable {D : va_G} {l : Launch} {s0 : State} {a0 : Array Value} {X : mv_X} {p : Program} {e : Env} {R : Room} {s : State} {m : MethodId} {args : Array Value} {below : List Frame} {meth : Method} {c : Code} {N : mv_N} {M : mv_M} {r : mv_R} {pc pc2 : Nat} {ls st st2 : List Value} {h : mv_H}
theorem si_cpy (C : mv_Cx D l s0 a0 X p s m meth c N M) {j b0 b1 n0 n1 : Nat} {q : mv_L} {sp dp n : Int32} {t : FieldType} {g0 g1 : Nat → Value} {rest : List Value} (hR : 1 ≤ R.frames ∧ 60 ≤ R.locals) (dg : decode N.2.1 pc = .ok (.invokestatic j, 3)) (hl : mv_look M.2.2.2.2.1 16 j = some q) (hq : q.1 = 24)
    (hc0 : h.1 b0 = some (.inr (t, n0, g0))) (hc1 : h.1 b1 = some (.inr (t, n1, g1))) (hp : mv_prim t = true) (h1 : 0 ≤ sp.toInt) (h2 : 0 ≤ dp.toInt) (h3 : 0 ≤ n.toInt) (h4 : sp.toInt + n.toInt ≤ n0) (h5 : dp.toInt + n.toInt ≤ n1) (h8 : rest.length ≤ 8) (hc : ∀ v ∈ rest, v.category = 1)
    (gg : mv_Go D s0 p l e R s m args below meth c M r (pc + 3) ls rest (mv_up h.1 b1 (some (.inr (t, n1, mv_cpf g0 g1 sp.toInt.toNat dp.toInt.toNat n.toInt.toNat))), h.2)) : mv_Go D s0 p l e R s m args below meth c M r pc ls (.int n :: .int dp :: .ref b1 :: .int sp :: .ref b0 :: rest) h := by
  refine ⟨gg.1, fun H locs cells slots mc ms rls hr a2 a3 a4 a5 a6 a7 a8 => ?_⟩
  obtain ⟨kd, hsd, hw⟩ := mv_link C (args := args) hl
  obtain ⟨tg, z⟩ := q
  have hq : tg = 24 := hq
  subst hq
  have hw : ∀ w ∈ [Cond.methodLink N.1.cls j arraycopyName, .native arraycopyName, .static arraycopyName, .initialized "java/lang/System"], w.before args s = true := hw
  obtain ⟨hab0, c0, p1, p2, p3, p4⟩ := hr.2.2.2 b0 _ hc0
  obtain ⟨hab1, c1, q1, q2, q3, q4⟩ := hr.2.2.2 b1 _ hc1
  obtain ⟨-, k0, hk0, cm0, hkk0⟩ := (mv_arr C p2) n0 g0
  obtain ⟨-, k1, hk1, cm1, hkk1⟩ := (mv_arr C q2) n1 g1
  have hsum := mv_sum hc
  have nn : ∀ z : Int32, 0 ≤ z.toInt → z.toInt = ((z.toNatClampNeg : Nat) : Int) := fun z hz => by
    show z.toInt = ((z.toInt.toNat : Nat) : Int)
    omega
  have e1 : sp.toNatClampNeg = sp.toInt.toNat := rfl
  have e2 : dp.toNatClampNeg = dp.toInt.toNat := rfl
  have e3 : n.toNatClampNeg = n.toInt.toNat := rfl
  have hnw : nativeFrameWords "java/lang/System" "arraycopy" 5 ≤ 10 := by decide
  have hprim : refKind t = false := by cases t <;> first | rfl | cases hp
  intro T hT Y
  obtain ⟨vm', X', step⟩ := Y.arraycopy C.2.1 C.2.2.2.2.2.2.1 (hw _ List.mem_cons_self) (hw _ (List.mem_cons_of_mem _ List.mem_cons_self)) (hw _ (List.mem_cons_of_mem _ (List.mem_cons_of_mem _ List.mem_cons_self))) (hw _ (List.mem_cons_of_mem _ (List.mem_cons_of_mem _ (List.mem_cons_of_mem _ List.mem_cons_self))))
    (src := b0) (dst := b1) (cs := arrV c0 n0 g0) (cd := arrV c1 n1 g1) (srcPos := sp) (destPos := dp) (n := n) (by rw [hT]; exact p1) (by rw [hT]; exact q1)
    (fun _ h => by cases h) (fun _ h => by cases h) (fun h => by cases h) (fun h => by cases h) hk0 hk1 hkk0 hkk1 (by simp [hprim]) (mv_ge0.mpr h1) (mv_ge0.mpr h2) (mv_ge0.mpr h3)
    (by show ¬ _ > ((arrV c0 n0 g0).slots.size : Int); rw [arrV_size]; omega)
    (by show ¬ _ > ((arrV c1 n1 g1).slots.size : Int); rw [arrV_size]; omega)
    (fun vm₁ _ i hi => by
      have e : (arrV c0 n0 g0).slots.getD (sp.toNatClampNeg + i) .null = g0 (sp.toNatClampNeg + i) := by
        rw [Array.getD_eq_getD_getElem?, arrV_read _ _ (by omega)]
        rfl
      have hf := p4 hp (sp.toNatClampNeg + i) (by show sp.toNatClampNeg + i < n0; omega)
      rw [e]
      refine ⟨hf, ?_⟩
      have hf : fits t (g0 (sp.toNatClampNeg + i)) = true := hf
      cases t with
      | int => cases hv : g0 (sp.toNatClampNeg + i) <;> first | exact trivial | (rw [hv] at hf; cases hf)
      | byte => cases hv : g0 (sp.toNatClampNeg + i) <;> first | exact trivial | (rw [hv] at hf; cases hf)
      | _ => cases hp)
    (g := F0 m pc rls (.int n :: .int dp :: .ref b1 :: .int sp :: .ref b0 :: rest)) rfl (a2.2.1.1.trans C.2.2.2.2.1.symm) (rest := rest) rfl (by rw [C.2.2.2.1]; exact dg) hR.1 (by show 2 * 0 + (rest.map fun v => v.category).sum + _ ≤ _; omega)
  have ec : copied (arrV c0 n0 g0) (arrV c1 n1 g1) sp dp n = arrV c1 n1 (mv_cpf g0 g1 sp.toInt.toNat dp.toInt.toNat n.toInt.toNat) := va_copied (fun z => z) c0 c1 g0 g1 (by omega)
  rw [ec] at X' step
  have hlt : b1 < H.size := (Array.getElem?_eq_some_iff.mp q1).1
  have hheap : ((T.setVm vm').setCell b1 (arrV c1 n1 (mv_cpf g0 g1 sp.toInt.toNat dp.toInt.toNat n.toInt.toNat))).heap = H.setIfInBounds b1 (arrV c1 n1 (mv_cpf g0 g1 sp.toInt.toNat dp.toInt.toNat n.toInt.toNat)) := by rw [← hT]; rfl
  have oq : ∀ q : Nat, q ≠ b1 → (H.setIfInBounds b1 (arrV c1 n1 (mv_cpf g0 g1 sp.toInt.toNat dp.toInt.toNat n.toInt.toNat)))[q]? = H[q]? := fun q hq => by simp [Array.getElem?_setIfInBounds, Ne.symm hq]
  obtain ⟨t2, x1, x2⟩ := gg.2 _ _ cells slots mc ms rls (mv_HR_up hr hab1 (by simp) oq ⟨c1, show (H.setIfInBounds b1 _)[b1]? = some _ by simp [Array.getElem?_setIfInBounds, hlt], q2, q3, fun hp' j hj => by
      show fits t (if _ then _ else _) = true
      split
      · next hh => exact p4 hp _ (by show sp.toInt.toNat + (j - dp.toInt.toNat) < n0; omega)
      · exact q4 hp j hj⟩) a2 (fun z hz => by
      rcases List.mem_append.mp hz with h | h
      · exact a3 z h
      · obtain ⟨z', -, hz'⟩ := List.mem_map.mp h
        rw [← hz']
        exact hab1) a4 a5 a6 a7 a8 _ hheap X'
  exact ⟨t2, step t2 x1, x2⟩
theorem vx_ot_at_w (C : mv_Cx D l s0 a0 X p s m meth c N M) {w : Cond} (hg : (goodWord w || (w.onTables && w.keepsCast)) = true) (hm : w ∈ lw_tbl) : w.before args s = true := by
  rw [Bool.or_eq_true, Bool.and_eq_true] at hg
  rcases hg with hg | ⟨h1, h2⟩
  · exact mv_w C ⟨by unfold mv_gg; rw [hg]; rfl, hm⟩
  · have h3 := Cond.before_shiftedCast (State.Shifted.of_warmed C.2.2.1) w h2 (C.1.2.1 w hm)
    have h4 : w.before args (s.setVm s.vm) = true := by
      rw [Cond.onTables_vm (A' := a0) (U' := s0) s.vm w h1]
      exact h3
    rwa [State.setVm_self] at h4
theorem mv_rk (C : mv_Cx D l s0 a0 X p s m meth c N M) : mv_rkok M.2.2.1 N.2.2.1 = true := by
  have h1 := C.2.2.2.2.2.2.2.2.2.2.1.1
  simp only [mv_mck, Bool.and_eq_true] at h1
  exact h1.1.1.1.2
theorem mv_hxx {x : Nat} {q : Nat} {h' : mv_H} (hx : x < 6) : ∀ t : State, mv_HR D s0 h' t.heap → mv_XC D s0 (.inr (x, q), h') (mv_en x) s t := fun t ht => ⟨x, q, rfl, hx, rfl, ht⟩
theorem si_exc (C : mv_Cx D l s0 a0 X p s m meth c N M) {j t : Nat} {sw : List (Int × Nat)} {q : mv_L} (hR : 6 ≤ R.frames ∧ 100 ≤ R.locals) (dg : decode N.2.1 pc = .ok (.new j, 3)) (hx : mv_ex N M pc (.new j) t sw = true) (ht : 0 < t) (hl : mv_look M.2.2.2.2.1 16 j = some q) (hq : q.1 = 11) (h8 : st.length ≤ 8) (hc : ∀ v ∈ st, v.category = 1) (he : M.2.2.2.2.2 = [])
    (hr' : r = (.inr (q.2.1, h.2.1), (h.1, h.2.1 + 1, h.2.2 + 6))) : mv_Go D s0 p l e R s m args below meth c M r pc ls st h := by
  subst hr'
  refine ⟨⟨Nat.le_succ _, Nat.le_add_right _ _⟩, fun H locs cells slots mc ms rls hr a2 a3 a4 a5 a6 a7 a8 => ?_⟩
  obtain ⟨kd, hsd, hw⟩ := mv_link C (args := args) hl
  have hlt := C.2.2.2.2.2.2.2.2.2.1
  have hN : N.2.2.2 = [] := by
    have h1 := C.2.2.2.2.2.2.2.2.2.2.1.1
    simp only [mv_mck, Bool.and_eq_true] at h1
    have := Nat.eq_of_beq_eq_true h1.1.1.2
    rw [he] at this
    exact List.eq_nil_of_length_eq_zero this
  have hout : ∀ pc' : Nat, ∀ x ∈ c.exceptionTable.toList, covers x pc' = false := fun pc' x hx => by
    rw [hlt, hN] at hx
    cases hx
  have hsum := mv_sum hc
  have hS := mv_vaS C hr a3 a4
  have hA := (mv_alike C)
  have kp : ∀ a : Nat, a < s0.heap.size → ¬ (fun a => s0.heap.size ≤ a) a → s.heap[a]? = s0.heap[a]? := fun a ha _ => C.2.2.2.2.2.2.2.2.2.2.2.2 a ha
  have hU := (vx_Zq.moved hA C.1.2.2.2.2.2.2.1).kept (H1 := s.heap) kp
  have hNn := (vx_Zq.moved hA C.1.2.2.2.2.2.2.2.1).kept (H1 := s.heap) kp
  obtain ⟨tg, x, z⟩ := q
  have hq : tg = 11 := hq
  subst hq
  have hx6 : x < 6 := by
    have hsd : Nat.blt x 6 = true := hsd
    simpa [Nat.blt_eq] using hsd
  have hw : ∀ w ∈ [Cond.classLink N.1.cls j (mv_en x), .initialized (mv_en x)], w.before args s = true := hw
  have hwt : ∀ w ∈ mv_lws N.1.cls j (11, x, z) 0, mv_gg w = true ∧ w ∈ lw_tbl := by
    obtain ⟨kd', hs', hw'⟩ := C.2.2.2.2.2.2.2.2.2.2.1.2 j _ hl
    exact hw'
  have hwt : ∀ w ∈ [Cond.classLink N.1.cls j (mv_en x), .initialized (mv_en x)], mv_gg w = true ∧ w ∈ lw_tbl := hwt
  have hcls : N.1.cls = "BalloonHarbour" → ∀ w ∈ mv_at N.1.cls (mv_xc x) (mv_en x) (mv_xi x) (mv_xr x) mv_xn, w.before args s = true := fun hcl w hw => by
    rw [hcl] at hw
    exact vx_ot_at_w C (mv_xat hx6 w hw).2.1 (mv_xat hx6 w hw).2.2
  have hgood : N.1.cls = "BalloonHarbour" → ∀ w ∈ Cond.classLink N.1.cls j (mv_en x) :: Cond.initialized (mv_en x) :: mv_at N.1.cls (mv_xc x) (mv_en x) (mv_xi x) (mv_xr x) mv_xn, vx_ot w = true := fun hcl w hw => by
    rcases List.mem_cons.mp hw with rfl | hw
    · exact rfl
    · rcases List.mem_cons.mp hw with rfl | hw
      · exact rfl
      · rw [hcl] at hw
        exact (mv_xat hx6 w hw).1
  have hfin : ∀ t : State, s.vm.Alike t.vm → t.heap.size = H.size + 1 → (∀ q : Nat, q < H.size → t.heap[q]? = H[q]?) → mv_XC D s0 ((.inr (x, h.2.1), (h.1, h.2.1 + 1, h.2.2 + 6)) : mv_R) (mv_en x) s t := fun t _ hz hk => mv_hxx hx6 t (mv_HR_one hr hz hk)
  have ez : ((h.1, h.2.1 + 1, h.2.2 + 6) : mv_H).2.1 - h.2.1 = 1 := by show h.2.1 + 1 - h.2.1 = 1; omega
  have ez2 : ((h.1, h.2.1 + 1, h.2.2 + 6) : mv_H).2.2 - h.2.2 = 6 := by show h.2.2 + 6 - h.2.2 = 6; omega
  rw [ez] at a5
  rw [ez2] at a6
  have hsz : rls.size = c.maxLocals := a2.2.1.1.trans C.2.2.2.2.1.symm
  match t, ht, hx with
  | 1, _, hx =>
    have hx : (match mv_look M.2.2.2.2.1 16 j, decode N.2.1 (pc + 4) with
      | some z, .ok (.ldc s, 2) => (match mv_look M.2.2.2.2.1 16 s with
        | some y => Nat.beq y.1 14 && N.1.cls == "BalloonHarbour" && Nat.beq z.1 11 && Nat.blt z.2.1 6 && decide (decode N.2.1 (pc + 3) = .ok (.dup, 1)) && decide (decode N.2.1 (pc + 6) = .ok (.invokespecial (mv_xc z.2.1), 3)) && decide (decode N.2.1 (pc + 9) = .ok (.athrow, 1))
        | none => false)
      | _, _ => false) = true := hx
    rw [hl] at hx
    split at hx
    · next z1 i1 hz hd4 =>
      cases hz
      split at hx
      · next y hy =>
        simp only [Bool.and_eq_true, decide_eq_true_eq, beq_iff_eq] at hx
        obtain ⟨⟨⟨⟨⟨⟨e1, e2⟩, -⟩, -⟩, d3⟩, d6⟩, d9⟩ := hx
        obtain ⟨tx, hv⟩ := mv_str C hy (Nat.eq_of_beq_eq_true e1)
        exact mv_throwS C.2.1 C.2.2.2.1 C.1.1 (own := N.1.cls) (cls := mv_en x) (names := mv_xn) (A := fun a => s0.heap.size ≤ a) C.2.2.2.2.2.2.1 (mv_xr_ok hx6) (mv_xf_ok hx6) mv_xn_ok (hw _ List.mem_cons_self) (hw _ (List.mem_cons_of_mem _ List.mem_cons_self)) hv (hcls e2) (hgood e2) hU hNn hS hsz dg d3 hd4 d6 d9 (hout _) (by show 2 + 3 < R.frames; omega) (by show (st.map fun v => v.category).sum + (13 * (2 + 1) + 43) ≤ R.locals; omega) (by omega) (by omega) C.2.2.2.2.2.2.2.1 hfin a3 a5 a6
      · cases hx
    · cases hx
  | n + 2, _, hx =>
    have hx : (match mv_look M.2.2.2.2.1 16 j, decode N.2.1 (pc + 4) with
      | some z, .ok (.ldc_w s, 3) => (match mv_look M.2.2.2.2.1 16 s with
        | some y => Nat.beq y.1 14 && N.1.cls == "BalloonHarbour" && Nat.beq z.1 11 && Nat.blt z.2.1 6 && decide (decode N.2.1 (pc + 3) = .ok (.dup, 1)) && decide (decode N.2.1 (pc + 7) = .ok (.invokespecial (mv_xc z.2.1), 3)) && decide (decode N.2.1 (pc + 10) = .ok (.athrow, 1))
        | none => false)
      | _, _ => false) = true := hx
    rw [hl] at hx
    split at hx
    · next z1 i1 hz hd4 =>
      cases hz
      split at hx
      · next y hy =>
        simp only [Bool.and_eq_true, decide_eq_true_eq, beq_iff_eq] at hx
        obtain ⟨⟨⟨⟨⟨⟨e1, e2⟩, -⟩, -⟩, d3⟩, d6⟩, d9⟩ := hx
        obtain ⟨tx, hv⟩ := mv_str C hy (Nat.eq_of_beq_eq_true e1)
        exact mv_throwSW C.2.1 C.2.2.2.1 C.1.1 (own := N.1.cls) (cls := mv_en x) (names := mv_xn) (A := fun a => s0.heap.size ≤ a) C.2.2.2.2.2.2.1 (mv_xr_ok hx6) (mv_xf_ok hx6) mv_xn_ok (hw _ List.mem_cons_self) (hw _ (List.mem_cons_of_mem _ List.mem_cons_self)) hv (hcls e2) (hgood e2) hU hNn hS hsz dg d3 hd4 d6 d9 (hout _) (by show 2 + 3 < R.frames; omega) (by show (st.map fun v => v.category).sum + (13 * (2 + 1) + 43) ≤ R.locals; omega) (by omega) (by omega) C.2.2.2.2.2.2.2.1 hfin a3 a5 a6
      · cases hx
    · cases hx
-- the ends
theorem si_iret (C : mv_Cx D l s0 a0 X p s m meth c N M) {x : Int32} (dg : decode N.2.1 pc = .ok (.ireturn, 1)) (hok : mv_ok M.2.2.1 x = true) (hr' : r = (.inl (some (.int x)), h)) : mv_Go D s0 p l e R s m args below meth c M r pc ls [.int x] h := by
  subst hr'
  refine ⟨⟨Nat.le_refl _, Nat.le_refl _⟩, fun H locs cells slots mc ms rls hr a2 a3 a4 a5 a6 a7 a8 => ?_⟩
  refine W.widen (k := mc) (n := ms) (by omega) (by omega) (vx_ret ?_)
  have hk := mv_rk C
  obtain ⟨ty, hty, hn⟩ : ∃ ty, N.2.2.1 = some ty ∧ narrow ty (.int x) = .int x := by
    generalize hg : N.2.2.1 = t at hk
    generalize hg2 : M.2.2.1 = k at hk hok
    unfold mv_rkok at hk
    split at hk
    · exact absurd hok (by simp [mv_ok])
    · exact ⟨.int, rfl, rfl⟩
    · exact absurd hok (by simp [mv_ok])
    · exact absurd hok (by simp [mv_ok])
    · exact absurd hok (by simp [mv_ok])
    · exact absurd hok (by simp [mv_ok])
    · exact ⟨.boolean, rfl, (mv_fkI (k := 6) (ty := .boolean) rfl hok).1⟩
    · exact ⟨.char, rfl, (mv_fkI (k := 7) (ty := .char) rfl hok).1⟩
    · exact ⟨.byte, rfl, (mv_fkI (k := 8) (ty := .byte) rfl hok).1⟩
    · cases hk
  exact W.zret C.2.1 C.2.2.2.1 (C.2.2.2.2.2.1.trans hty) hn (fun t ht _ => ⟨_, rfl, rfl, by rw [ht]; exact hr⟩) a3 dg C.2.2.2.2.2.2.2.1
theorem si_ret (C : mv_Cx D l s0 a0 X p s m meth c N M) (dg : decode N.2.1 pc = .ok (.return_, 1)) (hk0 : M.2.2.1 = 0) (hr' : r = (.inl none, h)) : mv_Go D s0 p l e R s m args below meth c M r pc ls [] h := by
  subst hr'
  refine ⟨⟨Nat.le_refl _, Nat.le_refl _⟩, fun H locs cells slots mc ms rls hr a2 a3 a4 a5 a6 a7 a8 => ?_⟩
  refine W.widen (k := mc) (n := ms) (by omega) (by omega) (vx_ret ?_)
  have hk := mv_rk C
  rw [hk0] at hk
  have hty : N.2.2.1 = none := by
    cases hg : N.2.2.1 with
    | none => rfl
    | some t => rw [hg] at hk; cases hk
  exact W.vret C.2.1 C.2.2.2.1 (C.2.2.2.2.2.1.trans hty) (fun t ht _ => ⟨_, rfl, rfl, by rw [ht]; exact hr⟩) a3 dg C.2.2.2.2.2.2.2.1
theorem si_areturn (C : mv_Cx D l s0 a0 X p s m meth c N M) {x : Nat} (dg : decode N.2.1 pc = .ok (.areturn, 1)) (hk0 : M.2.2.1 = 2) (hr' : r = (.inl (some (.ref x)), h)) : mv_Go D s0 p l e R s m args below meth c M r pc ls [.ref x] h := by
  subst hr'
  refine ⟨⟨Nat.le_refl _, Nat.le_refl _⟩, fun H locs cells slots mc ms rls hr a2 a3 a4 a5 a6 a7 a8 => ?_⟩
  refine W.widen (k := mc) (n := ms) (by omega) (by omega) (vx_ret ?_)
  have hk := mv_rk C
  rw [hk0] at hk
  obtain ⟨ty, hty, hrt⟩ : ∃ ty, N.2.2.1 = some ty ∧ ((∃ n, ty = .object n) ∨ ∃ t, ty = .array t) := by
    cases hg : N.2.2.1 with
    | none => rw [hg] at hk; cases hk
    | some t =>
      rw [hg] at hk
      cases t <;> first | exact ⟨_, rfl, Or.inl ⟨_, rfl⟩⟩ | exact ⟨_, rfl, Or.inr ⟨_, rfl⟩⟩ | cases hk
  exact W.aret C.2.1 C.2.2.2.1 (C.2.2.2.2.2.1.trans hty) hrt (Or.inr ⟨x, rfl⟩) (fun t ht _ => ⟨_, rfl, rfl, by rw [ht]; exact hr⟩) a3 dg C.2.2.2.2.2.2.2.1
theorem si_freturn (C : mv_Cx D l s0 a0 X p s m meth c N M) {x : UInt32} (dg : decode N.2.1 pc = .ok (.freturn, 1)) (hk0 : M.2.2.1 = 4) (hr' : r = (.inl (some (.float x)), h)) : mv_Go D s0 p l e R s m args below meth c M r pc ls [.float x] h := by
  subst hr'
  refine ⟨⟨Nat.le_refl _, Nat.le_refl _⟩, fun H locs cells slots mc ms rls hr a2 a3 a4 a5 a6 a7 a8 => ?_⟩
  refine W.widen (k := mc) (n := ms) (by omega) (by omega) (vx_ret ?_)
  have hk := mv_rk C
  rw [hk0] at hk
  have hty : N.2.2.1 = some .float := by
    cases hg : N.2.2.1 with
    | none => rw [hg] at hk; cases hk
    | some t => rw [hg] at hk; cases t <;> first | rfl | cases hk
  exact W.fret C.2.1 C.2.2.2.1 (C.2.2.2.2.2.1.trans hty) (fun t ht _ => ⟨_, rfl, rfl, by rw [ht]; exact hr⟩) a3 dg C.2.2.2.2.2.2.2.1
theorem si_dreturn (C : mv_Cx D l s0 a0 X p s m meth c N M) {x : UInt64} (dg : decode N.2.1 pc = .ok (.dreturn, 1)) (hk0 : M.2.2.1 = 5) (hr' : r = (.inl (some (.double x)), h)) : mv_Go D s0 p l e R s m args below meth c M r pc ls [.double x] h := by
  subst hr'
  refine ⟨⟨Nat.le_refl _, Nat.le_refl _⟩, fun H locs cells slots mc ms rls hr a2 a3 a4 a5 a6 a7 a8 => ?_⟩
  refine W.widen (k := mc) (n := ms) (by omega) (by omega) (vx_ret ?_)
  have hk := mv_rk C
  rw [hk0] at hk
  have hty : N.2.2.1 = some .double := by
    cases hg : N.2.2.1 with
    | none => rw [hg] at hk; cases hk
    | some t => rw [hg] at hk; cases t <;> first | rfl | cases hk
  exact W.dret C.2.1 C.2.2.2.1 (C.2.2.2.2.2.1.trans hty) (fun t ht _ => ⟨_, rfl, rfl, by rw [ht]; exact hr⟩) a3 dg C.2.2.2.2.2.2.2.1
end SIMD
end
section
section SIME
variable {D : va_G} {l : Launch} {s0 : State} {a0 : Array Value} {X : mv_X} {p : Program} {e : Env} {R : Room} {s : State} {m : MethodId} {args : Array Value} {below : List Frame} {meth : Method} {c : Code} {N : mv_N} {M : mv_M} {r : mv_R} {pc pc2 : Nat} {ls st st2 : List Value} {h : mv_H}
theorem mv_hlen (C : mv_Cx D l s0 a0 X p s m meth c N M) : N.2.2.2.length = M.2.2.2.2.2.length := by
  have h1 := C.2.2.2.2.2.2.2.2.2.2.1.1
  simp only [mv_mck, Bool.and_eq_true] at h1
  exact Nat.eq_of_beq_eq_true h1.1.1.2
theorem mv_hz (C : mv_Cx D l s0 a0 X p s m meth c N M) {i : Nat} {w : Nat × Nat × Nat × Nat} {z : Nat × Nat × Nat × Nat × Nat} (hw : N.2.2.2[i]? = some w) (hz : M.2.2.2.2.2[i]? = some z) : mv_hck N M w z = true := by
  have h1 := C.2.2.2.2.2.2.2.2.2.2.1.1
  simp only [mv_mck, Bool.and_eq_true, List.all_eq_true] at h1
  exact h1.1.2 (w, z) (List.mem_of_getElem? (i := i) (by rw [List.getElem?_zip_eq_some]; exact ⟨hw, hz⟩))
theorem mv_hcl (C : mv_Cx D l s0 a0 X p s m meth c N M) {w : Nat × Nat × Nat × Nat} {z : Nat × Nat × Nat × Nat × Nat} (h : mv_hck N M w z = true) : w.1 = z.1 ∧ w.2.1 = z.2.1 ∧ w.2.2.2 ≠ 0 ∧ z.2.2.2.2 < M.1 ∧ M.2.1 = false ∧ z.2.2.2.1 < 6 ∧ (Cond.classLink N.1.cls w.2.2.2 (mv_en z.2.2.2.1)).before args s = true ∧
    ((∃ k : Fin 4, decode N.2.1 w.2.2.1 = .ok (.astore_n k, 1) ∧ (k : Nat) = z.2.2.2.2 ∧ z.2.2.1 = w.2.2.1 + 1) ∨ (∃ k : Nat, decode N.2.1 w.2.2.1 = .ok (.astore k, 2) ∧ k = z.2.2.2.2 ∧ z.2.2.1 = w.2.2.1 + 2)) := by
  simp only [mv_hck, Bool.and_eq_true] at h
  obtain ⟨⟨⟨⟨⟨⟨⟨h1, h2⟩, h3⟩, h4⟩, h5⟩, h6⟩, h7⟩, h8⟩ := h
  have g1 := Nat.eq_of_beq_eq_true h1
  have g2 := Nat.eq_of_beq_eq_true h2
  have g3 : w.2.2.2 ≠ 0 := fun hh => by rw [hh] at h3; cases h3
  have g4 : z.2.2.2.2 < M.1 := by simpa [Nat.blt_eq] using h4
  have g5 : M.2.1 = false := by simpa using h5
  have g6 : z.2.2.2.1 < 6 := by simpa [Nat.blt_eq] using h6
  refine ⟨g1, g2, g3, g4, g5, g6, ?_, ?_⟩
  · cases hk : mv_look M.2.2.2.2.1 16 w.2.2.2 with
    | none => rw [hk] at h7; cases h7
    | some y =>
      rw [hk] at h7
      have h7 : (Nat.beq y.1 11 && Nat.beq y.2.1 z.2.2.2.1) = true := h7
      rw [Bool.and_eq_true] at h7
      obtain ⟨kd, hs, hw⟩ := mv_link C (args := args) hk
      obtain ⟨t, x, y'⟩ := y
      have e1 : t = 11 := Nat.eq_of_beq_eq_true h7.1
      have e2 : x = z.2.2.2.1 := Nat.eq_of_beq_eq_true h7.2
      subst e1
      rw [← e2]
      exact hw _ List.mem_cons_self
  · split at h8
    · next k hk =>
      rw [Bool.and_eq_true] at h8
      exact Or.inl ⟨k, hk, Nat.eq_of_beq_eq_true h8.1, Nat.eq_of_beq_eq_true h8.2⟩
    · next k hk =>
      rw [Bool.and_eq_true] at h8
      exact Or.inr ⟨k, hk, Nat.eq_of_beq_eq_true h8.1, Nat.eq_of_beq_eq_true h8.2⟩
    · cases h8
theorem mv_tb (C : mv_Cx D l s0 a0 X p s m meth c N M) : c.exceptionTable.toList = N.2.2.2.map fun q => ⟨q.1, q.2.1, q.2.2.1, q.2.2.2⟩ := C.2.2.2.2.2.2.2.2.2.1
theorem mv_pass (C : mv_Cx D l s0 a0 X p s m meth c N M) {i x : Nat} {w : Nat × Nat × Nat × Nat} {z : Nat × Nat × Nat × Nat × Nat} (hx : x < 6) (hw : N.2.2.2[i]? = some w) (hz : M.2.2.2.2.2[i]? = some z) (hn : ¬ (z.1 ≤ pc ∧ pc < z.2.1) ∨ z.2.2.2.1 ≠ x) :
    covers ⟨w.1, w.2.1, w.2.2.1, w.2.2.2⟩ pc = false ∨ (w.2.2.2 ≠ 0 ∧ ∃ nm : String, (Cond.classLink N.1.cls w.2.2.2 nm).before args s = true ∧ va_Nc (mv_en x) nm s) := by
  obtain ⟨g1, g2, g3, g4, g5, g6, g7, -⟩ := mv_hcl C (args := args) (mv_hz C hw hz)
  rcases hn with hn | hn
  · left
    show (decide (w.1 ≤ pc) && decide (pc < w.2.1)) = false
    rw [g1, g2, Bool.and_eq_false_iff, decide_eq_false_iff_not, decide_eq_false_iff_not]
    omega
  · right
    exact ⟨g3, _, g7, va_Nc.moved (mv_alike C) (C.1.2.2.2.2.2.2.2.2.1 x z.2.2.2.1 hx g6 (fun h => hn h.symm))⟩
/-- a call, whatever its kind: 'hrun' is what the kit says of it -/
theorem mv_callG (C : mv_Cx D l s0 a0 X p s m meth c N M) {call : mv_G} {d y rk : Nat} (hcall : mv_CallOK D l s0 d call) {k : mv_K} (ih : ∀ pc ls st h, k pc ls st h = some r → mv_Go D s0 p l e R s m args below meth c M r pc ls st h) {as rest stx : List Value}
    (ec : mv_cal rk call y as h (mv_thr M.2.2.2.2.2 pc ls k) (fun vs h' => k (pc + 3) ls (vs ++ rest) h') = some r)
    (hrun : ∀ (r1 : mv_R) (H : Heap) (locs : List Loc) (cells slots : Nat) (rls : Array Slot), call y as h = some r1 → mv_HR D s0 h H → mv_lr M.2.1 M.1 ls rls → cells + (r1.2.2.1 - h.2.1) ≤ R.cells → slots + (r1.2.2.2 - h.2.2) ≤ R.slots →
      vx_Run p l e R s m args below meth c H locs cells slots (r1.2.2.1 - h.2.1) (r1.2.2.2 - h.2.2) (F0 m pc rls stx) rest (mv_Qc D s0 r1 as.toArray) (mv_XC D s0 r1) (fun q => s0.heap.size ≤ q)) : mv_Go D s0 p l e R s m args below meth c M r pc ls stx h := by
  rcases mi_cal ec with ⟨v, h1, hc, e1⟩ | ⟨x, q, h1, hc, e1⟩
  · have hle : mv_Le h h1 := (hcall _ _ _ _ hc).1
    have G := ih _ _ _ _ e1
    have hle2 : mv_Le h1 r.2 := G.1
    obtain ⟨u1, u2⟩ := hle
    obtain ⟨v1, v2⟩ := hle2
    refine ⟨⟨by omega, by omega⟩, fun H locs cells slots mc ms rls hr a2 a3 a4 a5 a6 a7 a8 => ?_⟩
    have hR := hrun _ H locs cells slots rls hc hr a2 (by show cells + (h1.2.1 - h.2.1) ≤ R.cells; omega) (by show slots + (h1.2.2 - h.2.2) ≤ R.slots; omega)
    intro T hT Y
    rcases hR T hT Y with ⟨v', st₀, t, T', L, h0, Y', hL, z1, z2, ⟨w, hw1, hw2, hw3⟩, go⟩ | ⟨q, st₀, t, T', L, E, ce, h0, Y', hL, z1, z2, ⟨x, q', hx1, -⟩, -⟩
    · cases hw1
      cases hw2
      have hr1 : mv_HR D s0 h1 T'.heap := by rw [z1]; exact hw3
      obtain ⟨t2, b1, b2⟩ := G.2 T'.heap (locs ++ L) (cells + (h1.2.1 - h.2.1)) (slots + (h1.2.2 - h.2.2)) mc ms rls hr1 a2 (fun z hz => by
        rcases List.mem_append.mp hz with hz | hz
        · exact a3 z hz
        · exact hL z hz) (by omega) (by omega) (by omega) a7 a8 T' rfl Y'
      exact ⟨t2, go t2 b1, b2⟩
    · cases hx1
  · have hle : mv_Le h h1 := (hcall _ _ _ _ hc).1
    obtain ⟨u1, u2⟩ := hle
    have key : mv_Le h1 r.2 ∧ (x < 6 → ∀ (H1 : Heap) (locs1 : List Loc) (cells1 slots1 mc ms : Nat) (rls : Array Slot) (q9 : Addr) (ce : Cell), mv_HR D s0 h1 H1 → mv_lr M.2.1 M.1 ls rls → (∀ q ∈ locs1, s0.heap.size ≤ q.base) → s.heap.size ≤ h1.2.1 → cells1 + (r.2.2.1 - h1.2.1) ≤ mc → slots1 + (r.2.2.2 - h1.2.2) ≤ ms → mc ≤ R.cells → ms ≤ R.slots → H1[q9]? = some ce → ce.vm = .none → s.vm.findClass (mv_en x) = some ce.cls →
        vx_W p l e R s m args below meth c H1 locs1 cells1 slots1 (vx_MQ below (mv_Qc D s0 r) (mv_XC D s0 r) args s mc ms (fun q => s0.heap.size ≤ q)) (F0 m pc rls rest) q9) := by
      rcases mi_thr e1 with ⟨rfl, hn⟩ | ⟨t, ht, e2⟩
      · refine ⟨⟨Nat.le_refl _, Nat.le_refl _⟩, fun hx H1 locs1 cells1 slots1 mc ms rls q9 ce hr a2 a3 a4 a5 a6 a7 a8 g1 g2 g3 => ?_⟩
        refine vx_outP C.2.2.2.2.2.2.1 C.2.2.2.2.2.2.2.1 (fun z hz => ?_) g1 g2 g3 (fun t ht _ => ⟨x, q, rfl, hx, rfl, by rw [ht]; exact hr⟩) a3 (by omega) (by omega)
        rw [mv_tb C] at hz
        obtain ⟨w, hw, rfl⟩ := List.mem_map.mp hz
        obtain ⟨i, hi⟩ := List.mem_iff_getElem?.mp hw
        have hlt : i < M.2.2.2.2.2.length := by rw [← mv_hlen C]; exact (List.getElem?_eq_some_iff.mp hi).1
        have hz2 := List.getElem?_eq_getElem hlt
        exact mv_pass C hx hi hz2 (mi_hn hn _ (List.mem_of_getElem? hz2))
      · have G := ih _ _ _ _ e2
        refine ⟨G.1, fun hx H1 locs1 cells1 slots1 mc ms rls q9 ce hr a2 a3 a4 a5 a6 a7 a8 g1 g2 g3 => ?_⟩
        obtain ⟨pre, z, suf, hs, hpre, y1, y2, y3, y4⟩ := mi_hs ht
        have hz : M.2.2.2.2.2[pre.length]? = some z := by rw [hs]; simp
        have hlt : pre.length < N.2.2.2.length := by rw [mv_hlen C]; exact (List.getElem?_eq_some_iff.mp hz).1
        have hw := List.getElem?_eq_getElem hlt
        obtain ⟨g1', g2', g3', g4', g5', g6', g7', g8'⟩ := mv_hcl C (args := args) (mv_hz C hw hz)
        subst y4
        have hsplit : c.exceptionTable.toList = (N.2.2.2.take pre.length).map (fun q => (⟨q.1, q.2.1, q.2.2.1, q.2.2.2⟩ : ExceptionTableEntry)) ++ (⟨N.2.2.2[pre.length].1, N.2.2.2[pre.length].2.1, N.2.2.2[pre.length].2.2.1, N.2.2.2[pre.length].2.2.2⟩ : ExceptionTableEntry) :: (N.2.2.2.drop (pre.length + 1)).map (fun q => (⟨q.1, q.2.1, q.2.2.1, q.2.2.2⟩ : ExceptionTableEntry)) := by
          rw [mv_tb C]
          conv => lhs; rw [← List.take_append_drop pre.length N.2.2.2, List.drop_eq_getElem_cons hlt]
          rw [List.map_append, List.map_cons]
        refine vx_catch (own := N.1.cls) (name := mv_en z.2.2.2.1) (E := mv_en x) C.2.2.2.2.2.2.1 _ _ _ hsplit (fun z' hz' => ?_) ?_ g3' g7' ?_ g1 g2 g3 ?_
        · obtain ⟨w, hw, rfl⟩ := List.mem_map.mp hz'
          obtain ⟨i, hi⟩ := List.mem_iff_getElem?.mp hw
          have hi2 : i < pre.length := by
            have := (List.getElem?_eq_some_iff.mp hi).1
            rw [List.length_take] at this
            omega
          rw [List.getElem?_take_of_lt hi2] at hi
          have hz2 : M.2.2.2.2.2[i]? = some pre[i] := by rw [hs, List.getElem?_append_left hi2]; exact List.getElem?_eq_getElem hi2
          exact mv_pass C hx hi hz2 (hpre _ (List.getElem_mem hi2))
        · show (decide (N.2.2.2[pre.length].1 ≤ pc) && decide (pc < N.2.2.2[pre.length].2.1)) = true
          rw [g1', g2', Bool.and_eq_true, decide_eq_true_eq, decide_eq_true_eq]
          exact ⟨y1, y2⟩
        · rw [y3]
          exact vx_ot_at_w C (by rfl) (mv_cast_ok hx)
        · have hlsl : z.2.2.2.2 < M.1 := g4'
          have hset : ∀ rls', lv_has rls' M.1 ((z.2.2.2.2, Value.ref q9) :: (mv_prs ls).filter (fun q => !(q.1 == z.2.2.2.2) && !(q.1 + 1 == z.2.2.2.2 && q.2.category == 2))) → mv_lr M.2.1 M.1 (ls.set z.2.2.2.2 (.retAddr 0)) rls' := fun rls' hh => mv_lr_set a2 (v := .ref q9) rfl (Or.inr rfl) (fun hw => by rw [g5'] at hw; cases hw) hh
          rcases g8' with ⟨k', hd, hk, hp⟩ | ⟨k', hd, hk, hp⟩
          · have := G.2 H1 locs1 cells1 slots1 mc ms
            rw [hp] at this
            exact lv_astore_n C.2.1 C.2.2.2.1 hd hk a2.2.1 hlsl rfl fun rls' hh => this rls' hr (hset rls' hh) a3 a4 a5 a6 a7 a8
          · have := G.2 H1 locs1 cells1 slots1 mc ms
            rw [hp] at this
            subst hk
            exact lv_astore C.2.1 C.2.2.2.1 hd a2.2.1 hlsl rfl fun rls' hh => this rls' hr (hset rls' hh) a3 a4 a5 a6 a7 a8
    obtain ⟨⟨v1, v2⟩, key⟩ := key
    refine ⟨⟨by omega, by omega⟩, fun H locs cells slots mc ms rls hr a2 a3 a4 a5 a6 a7 a8 => ?_⟩
    have hR := hrun _ H locs cells slots rls hc hr a2 (by show cells + (h1.2.1 - h.2.1) ≤ R.cells; omega) (by show slots + (h1.2.2 - h.2.2) ≤ R.slots; omega)
    intro T hT Y
    rcases hR T hT Y with ⟨v', st₀, t, T', L, h0, Y', hL, z1, z2, ⟨w, hw1, -⟩, go⟩ | ⟨q9, st₀, t, T', L, E, ce, h0, Y', hL, z1, z2, ⟨x', q', hx1, hx2, hx3, hx4⟩, hce, hcv, hcl, go⟩
    · cases hw1
    · cases hx1
      subst hx3
      have hr1 : mv_HR D s0 h1 T'.heap := by rw [z1]; exact hx4
      obtain ⟨t2, b1, b2⟩ := key hx2 T'.heap (locs ++ L) (cells + (h1.2.1 - h.2.1)) (slots + (h1.2.2 - h.2.2)) mc ms rls q9 ce hr1 a2 (fun z hz => by
        rcases List.mem_append.mp hz with hz | hz
        · exact a3 z hz
        · exact hL z hz) (by omega) (by omega) (by omega) a7 a8 (by rw [z1]; exact hce) hcv hcl T' rfl Y'
      exact ⟨t2, go.trans b1, b2⟩
end SIME
end
section
section SIMF
variable {D : va_G} {l : Launch} {s0 : State} {a0 : Array Value} {X : mv_X} {p : Program} {e : Env} {R : Room} {s : State} {m : MethodId} {args : Array Value} {below : List Frame} {meth : Method} {c : Code} {N : mv_N} {M : mv_M} {r : mv_R} {pc pc2 : Nat} {ls st st2 : List Value} {h : mv_H}
def mv_All : Prop := ∀ y N M, mv_look mv_mt 16 y = some N → mv_look mv_tab 16 y = some M → mv_good N M
theorem mv_cwok {N' : mv_N} {M' : mv_M} (hh : N'.2.2.2.isEmpty = true) : mv_cw N' M' = .code N'.1 N'.2.1 M'.1 N'.2.2.1 := by
  obtain ⟨a, b, c, d⟩ := N'
  cases d with
  | nil => rfl
  | cons x y => cases hh
theorem mv_13 {N' : mv_N} {M' : mv_M} (h : mv_good N' M') : M'.1 ≤ 13 := by
  have h1 := h.1
  simp only [mv_mck, Bool.and_eq_true] at h1
  exact Nat.ble_eq.mp h1.1.1.1.1
theorem mv_plY {Y : MethodName} (h : mv_plainY Y = true) : Y.cls ≠ "java/lang/invoke/MethodHandle" ∧ Y.cls ≠ "java/lang/invoke/VarHandle" := by
  unfold mv_plainY at h
  rw [Bool.and_eq_true] at h
  exact ⟨bne_iff_ne.mp h.1, bne_iff_ne.mp h.2⟩
theorem mv_nsig {Y : MethodName} {n : Nat} (h : (parseMethodDescriptor Y.desc).map (fun d => d.parameters.length) = some n) : ∀ sig, parseMethodDescriptor Y.desc = some sig → n = sig.parameters.length := fun sig hs => by
  rw [hs] at h
  exact (Option.some.inj h).symm
theorem mv_hws (C : mv_Cx D l s0 a0 X p s m meth c N M) {N' : mv_N} {M' : mv_M} (hw : mv_gg (mv_cw N' M') = true ∧ mv_cw N' M' ∈ lw_tbl) : ∀ w ∈ [mv_cw N' M'], ∀ (a' : Array Value) (U : State), s.WarmedH U.vm → w.before a' U = true := fun w hw' a' U hU => by
  rw [List.mem_singleton.mp hw']
  exact mv_gg_at hU hw.1 (mv_w C (args := #[]) hw)
theorem mv_pcU (C : mv_Cx D l s0 a0 X p s m meth c N M) {as : List Value} {H : Heap} (hr : mv_HR D s0 h H) : ∀ U : State, U.heap = H → s.WarmedH U.vm → mv_Pc D s0 as h as.toArray U := fun U hU hW => ⟨rfl, State.WarmedH.trans C.2.2.1 hW, by rw [hU]; exact hr⟩
theorem mv_blind {as : List Value} : FrameBlind (mv_Pc D s0 as h) := fun a U g mk q => q
theorem mv_w8 {rest : List Value} (h8 : rest.length ≤ 8) (hc : ∀ v ∈ rest, v.category = 1) : 2 * 0 + (rest.map fun v => v.category).sum ≤ 8 := by
  have := mv_sum hc
  omega
theorem si_iv (C : mv_Cx D l s0 a0 X p s m meth c N M) (hall : mv_All) {call : mv_G} {d : Nat} (hcall : mv_CallOK D l s0 d call) (hR : d + 9 ≤ R.frames ∧ 32 * (d + 1) + 300 ≤ R.locals) {k : mv_K} (ih : ∀ pc ls st h, k pc ls st h = some r → mv_Go D s0 p l e R s m args below meth c M r pc ls st h)
    {j : Nat} {y n cr rk : Nat} (hl : mv_look M.2.2.2.2.1 16 j = some (20, y, n, cr, rk)) (ev : mv_inv X call M k pc ls st h 20 y n cr rk = some r) (dg : decode N.2.1 pc = .ok (.invokevirtual j, 3)) : mv_Go D s0 p l e R s m args below meth c M r pc ls st h := by
  obtain ⟨kd, hsd, hw⟩ := C.2.2.2.2.2.2.2.2.2.2.1.2 j _ hl
  rw [mv_inv] at ev
  obtain ⟨as, rest, rfl, hlen, h8, hca, hcr, ev⟩ := mi_args ev
  obtain ⟨b, As, fs, rfl, hcell, ev⟩ := mi_rcv ev
  have hn : As.length = n := by simpa using hlen
  have hst : (Value.ref b :: As).reverse ++ rest = As.reverse ++ .ref b :: rest := by simp
  rw [hst]
  refine mv_callG C hcall ih ev fun r1 H locs cells slots rls hc hr a2 q1 q2 => ?_
  obtain ⟨hle, ⟨M', hM'⟩, hmet⟩ := hcall _ _ _ _ hc
  have hsd : (match mv_look mv_mt 16 y with
    | some N => N.2.2.2.isEmpty && mv_plainY N.1 && decide ((parseMethodDescriptor N.1.desc).map (fun d => d.parameters.length) = some n) && Nat.blt cr 14 && Nat.beq kd 0
    | none => false) = true := hsd
  cases hN' : mv_look mv_mt 16 y with
  | none => rw [hN'] at hsd; cases hsd
  | some N' =>
    rw [hN'] at hsd
    have hsd : (N'.2.2.2.isEmpty && mv_plainY N'.1 && decide ((parseMethodDescriptor N'.1.desc).map (fun d => d.parameters.length) = some n) && Nat.blt cr 14 && Nat.beq kd 0) = true := hsd
    simp only [Bool.and_eq_true, decide_eq_true_eq] at hsd
    obtain ⟨⟨⟨⟨s1, s2⟩, s3⟩, s4⟩, s5⟩ := hsd
    have hk := Nat.eq_of_beq_eq_true s5
    subst hk
    have hM := hmet N' M' hN' hM' hca
    have h13 := mv_13 (hall y N' M' hN' hM')
    have hw : ∀ w ∈ (match mv_look mv_mt 16 y with
      | some N2 => (match mv_look mv_tab 16 y with
        | some M2 => mv_cw N2 M2 :: .initialized N2.1.cls :: (match (0 : Nat) with
          | 0 => [.methodLink N.1.cls j N2.1, .instanceMethod N2.1, .selects (mv_cn cr) N2.1 N2.1]
          | 2 => [.methodLink N.1.cls j N2.1, .sameMethod N2.1.cls N2.1.cls N2.1.name N2.1.desc, .superclass N.1.cls N2.1.cls, .instanceMethod N2.1]
          | 3 => [.methodLink N.1.cls j N2.1, .static N2.1]
          | 4 => [.methodLinkNest N.1.cls j N2.1 "BalloonHarbour", .static N2.1]
          | 6 => [.methodLink N.1.cls j N2.1, .instanceMethod N2.1]
          | _ => [.methodLinkNest N.1.cls j N2.1 "BalloonHarbour", .instanceMethod N2.1])
        | none => [])
      | none => []), mv_gg w = true ∧ w ∈ lw_tbl := hw
    rw [hN', hM'] at hw
    have hcwm := hw _ List.mem_cons_self
    have hini := mv_w C (args := args) (hw _ (List.mem_cons_of_mem _ List.mem_cons_self))
    have hcw := mv_cwok (M' := M') s1
    have hcodeb : (Cond.code N'.1 N'.2.1 M'.1 N'.2.2.1).before args s = true := by rw [← hcw]; exact mv_w C hcwm
    have hcodem : Cond.code N'.1 N'.2.1 M'.1 N'.2.2.1 ∈ [mv_cw N' M'] := by rw [hcw]; exact List.mem_singleton.mpr rfl
    have hcl := mv_cell_is C.1 hr hcell
    obtain ⟨r0, g0, g5, cellV, g1, g2, g3, -⟩ := hcl
    have g0 : vwCl[cr]? = some r0 := g0
    obtain ⟨ps, hps⟩ := mv_cl_ok g0
    have hcn := (mv_clk_ok hps).2.1
    have hCA := ((mv_kk C).1 cr r0 g0).2
    have hpre : PreV s H (mv_cn cr) b (mv_Pc D s0 (.ref b :: As) h) As := ⟨mv_blind, ⟨cellV, g1, by rw [g3]; rfl, by rw [hcn, g2]; exact hCA.1⟩, mv_pcU C hr⟩
    exact vx_runV (Ts := []) (nL := M.1) ⟨C.2.1, C.2.2.2.1, C.2.2.2.2.1, C.2.2.2.2.2.2.1, fun w hw => nomatch hw⟩ hM ⟨⟨rfl, rfl, by show d + 8 + 1 ≤ R.frames; omega, by show 8 + (M'.1 + 11) + (32 * d + 300) ≤ R.locals; omega, mv_hws C hcwm, hcodem, hcodeb, hini, mv_plY s2, mv_nsig s3, mv_w C (hw _ (List.mem_cons_of_mem _ (List.mem_cons_of_mem _ List.mem_cons_self)))⟩, mv_w C (hw _ (List.mem_cons_of_mem _ (List.mem_cons_of_mem _ (List.mem_cons_of_mem _ List.mem_cons_self)))), mv_w C (hw _ (List.mem_cons_of_mem _ (List.mem_cons_of_mem _ (List.mem_cons_of_mem _ (List.mem_cons_of_mem _ List.mem_cons_self)))))⟩ hpre rfl hn a2.2.1.1 rfl (mv_w8 h8 hcr) dg ⟨q1, q2⟩
theorem si_iu (C : mv_Cx D l s0 a0 X p s m meth c N M) (hall : mv_All) {call : mv_G} {d : Nat} (hcall : mv_CallOK D l s0 d call) (hR : d + 9 ≤ R.frames ∧ 32 * (d + 1) + 300 ≤ R.locals) {k : mv_K} (ih : ∀ pc ls st h, k pc ls st h = some r → mv_Go D s0 p l e R s m args below meth c M r pc ls st h)
    {j : Nat} {y n cr rk : Nat} (hl : mv_look M.2.2.2.2.1 16 j = some (25, y, n, cr, rk)) (ev : mv_inv X call M k pc ls st h 25 y n cr rk = some r) (dg : decode N.2.1 pc = .ok (.invokespecial j, 3)) : mv_Go D s0 p l e R s m args below meth c M r pc ls st h := by
  obtain ⟨kd, hsd, hw⟩ := C.2.2.2.2.2.2.2.2.2.2.1.2 j _ hl
  rw [mv_inv] at ev
  obtain ⟨as, rest, rfl, hlen, h8, hca, hcr, ev⟩ := mi_args ev
  obtain ⟨b, As, fs, rfl, hcell, ev⟩ := mi_rcv ev
  have hn : As.length = n := by simpa using hlen
  have hst : (Value.ref b :: As).reverse ++ rest = As.reverse ++ .ref b :: rest := by simp
  rw [hst]
  refine mv_callG C hcall ih ev fun r1 H locs cells slots rls hc hr a2 q1 q2 => ?_
  obtain ⟨hle, ⟨M', hM'⟩, hmet⟩ := hcall _ _ _ _ hc
  have hsd : (match mv_look mv_mt 16 y with
    | some N => N.2.2.2.isEmpty && mv_plainY N.1 && decide ((parseMethodDescriptor N.1.desc).map (fun d => d.parameters.length) = some n) && Nat.blt cr 14 && Nat.beq kd 2 && N.1.name != "<init>"
    | none => false) = true := hsd
  cases hN' : mv_look mv_mt 16 y with
  | none => rw [hN'] at hsd; cases hsd
  | some N' =>
    rw [hN'] at hsd
    have hsd : (N'.2.2.2.isEmpty && mv_plainY N'.1 && decide ((parseMethodDescriptor N'.1.desc).map (fun d => d.parameters.length) = some n) && Nat.blt cr 14 && Nat.beq kd 2 && N'.1.name != "<init>") = true := hsd
    simp only [Bool.and_eq_true, decide_eq_true_eq] at hsd
    obtain ⟨⟨⟨⟨⟨s1, s2⟩, s3⟩, s4⟩, s5⟩, s6⟩ := hsd
    have hk := Nat.eq_of_beq_eq_true s5
    subst hk
    have hM := hmet N' M' hN' hM' hca
    have h13 := mv_13 (hall y N' M' hN' hM')
    have hw : ∀ w ∈ (match mv_look mv_mt 16 y with
      | some N2 => (match mv_look mv_tab 16 y with
        | some M2 => mv_cw N2 M2 :: .initialized N2.1.cls :: (match (2 : Nat) with
          | 0 => [.methodLink N.1.cls j N2.1, .instanceMethod N2.1, .selects (mv_cn cr) N2.1 N2.1]
          | 2 => [.methodLink N.1.cls j N2.1, .sameMethod N2.1.cls N2.1.cls N2.1.name N2.1.desc, .superclass N.1.cls N2.1.cls, .instanceMethod N2.1]
          | 3 => [.methodLink N.1.cls j N2.1, .static N2.1]
          | 4 => [.methodLinkNest N.1.cls j N2.1 "BalloonHarbour", .static N2.1]
          | 6 => [.methodLink N.1.cls j N2.1, .instanceMethod N2.1]
          | _ => [.methodLinkNest N.1.cls j N2.1 "BalloonHarbour", .instanceMethod N2.1])
        | none => [])
      | none => []), mv_gg w = true ∧ w ∈ lw_tbl := hw
    rw [hN', hM'] at hw
    have hcwm := hw _ List.mem_cons_self
    have hini := mv_w C (args := args) (hw _ (List.mem_cons_of_mem _ List.mem_cons_self))
    have hcw := mv_cwok (M' := M') s1
    have hcodeb : (Cond.code N'.1 N'.2.1 M'.1 N'.2.2.1).before args s = true := by rw [← hcw]; exact mv_w C hcwm
    have hcodem : Cond.code N'.1 N'.2.1 M'.1 N'.2.2.1 ∈ [mv_cw N' M'] := by rw [hcw]; exact List.mem_singleton.mpr rfl
    have hcl := mv_cell_is C.1 hr hcell
    obtain ⟨r0, g0, g5, cellV, g1, g2, g3, -⟩ := hcl
    have g0 : vwCl[cr]? = some r0 := g0
    obtain ⟨ps, hps⟩ := mv_cl_ok g0
    have hcn := (mv_clk_ok hps).2.1
    have hCA := ((mv_kk C).1 cr r0 g0).2
    have hpre : PreV s H (mv_cn cr) b (mv_Pc D s0 (.ref b :: As) h) As := ⟨mv_blind, ⟨cellV, g1, by rw [g3]; rfl, by rw [hcn, g2]; exact hCA.1⟩, mv_pcU C hr⟩
    exact vx_runSU (Ts := []) (nL := M.1) (C := mv_cn cr) (by rw [hcn]; exact hCA) ⟨C.2.1, C.2.2.2.1, C.2.2.2.2.1, C.2.2.2.2.2.2.1, fun w hw => nomatch hw⟩ hM ⟨⟨rfl, rfl, by show d + 8 + 1 ≤ R.frames; omega, by show 8 + (M'.1 + 11) + (32 * d + 300) ≤ R.locals; omega, mv_hws C hcwm, hcodem⟩, mv_w C (hw _ (List.mem_cons_of_mem _ (List.mem_cons_of_mem _ List.mem_cons_self))), mv_w C (hw _ (List.mem_cons_of_mem _ (List.mem_cons_of_mem _ (List.mem_cons_of_mem _ List.mem_cons_self)))), mv_w C (hw _ (List.mem_cons_of_mem _ (List.mem_cons_of_mem _ (List.mem_cons_of_mem _ (List.mem_cons_of_mem _ List.mem_cons_self))))), mv_w C (hw _ (List.mem_cons_of_mem _ (List.mem_cons_of_mem _ (List.mem_cons_of_mem _ (List.mem_cons_of_mem _ (List.mem_cons_of_mem _ List.mem_cons_self)))))), hini, hcodeb, bne_iff_ne.mp s6, mv_nsig s3⟩ hpre rfl hn a2.2.1.1 rfl (mv_w8 h8 hcr) dg ⟨q1, q2⟩
theorem si_ist (C : mv_Cx D l s0 a0 X p s m meth c N M) (hall : mv_All) {call : mv_G} {d : Nat} (hcall : mv_CallOK D l s0 d call) (hR : d + 9 ≤ R.frames ∧ 32 * (d + 1) + 300 ≤ R.locals) {k : mv_K} (ih : ∀ pc ls st h, k pc ls st h = some r → mv_Go D s0 p l e R s m args below meth c M r pc ls st h)
    {j : Nat} {y n cr rk : Nat} (hl : mv_look M.2.2.2.2.1 16 j = some (21, y, n, cr, rk)) (ev : mv_inv X call M k pc ls st h 21 y n cr rk = some r) (dg : decode N.2.1 pc = .ok (.invokestatic j, 3)) : mv_Go D s0 p l e R s m args below meth c M r pc ls st h := by
  obtain ⟨kd, hsd, hw⟩ := C.2.2.2.2.2.2.2.2.2.2.1.2 j _ hl
  rw [mv_inv] at ev
  obtain ⟨as, rest, rfl, hlen, h8, hca, hcr, ev⟩ := mi_args ev
  refine mv_callG C hcall ih ev fun r1 H locs cells slots rls hc hr a2 q1 q2 => ?_
  obtain ⟨hle, ⟨M', hM'⟩, hmet⟩ := hcall _ _ _ _ hc
  have hsd : (match mv_look mv_mt 16 y with
    | some N => mv_plainY N.1 && decide ((parseMethodDescriptor N.1.desc).map (fun d => d.parameters.length) = some n) && (Nat.beq kd 3 || (Nat.beq kd 4 && N.2.2.2.isEmpty))
    | none => false) = true := hsd
  cases hN' : mv_look mv_mt 16 y with
  | none => rw [hN'] at hsd; cases hsd
  | some N' =>
    rw [hN'] at hsd
    have hsd : (mv_plainY N'.1 && decide ((parseMethodDescriptor N'.1.desc).map (fun d => d.parameters.length) = some n) && (Nat.beq kd 3 || (Nat.beq kd 4 && N'.2.2.2.isEmpty))) = true := hsd
    simp only [Bool.and_eq_true, Bool.or_eq_true, decide_eq_true_eq] at hsd
    obtain ⟨⟨s2, s3⟩, s5⟩ := hsd
    have hM := hmet N' M' hN' hM' hca
    have h13 := mv_13 (hall y N' M' hN' hM')
    have hpre : PreS s H (mv_Pc D s0 as h) as := ⟨mv_blind, mv_pcU C hr⟩
    rcases s5 with s5 | ⟨s5, s1⟩
    · have hk := Nat.eq_of_beq_eq_true s5
      subst hk
      have hw : ∀ w ∈ (match mv_look mv_mt 16 y with
        | some N2 => (match mv_look mv_tab 16 y with
          | some M2 => mv_cw N2 M2 :: .initialized N2.1.cls :: (match (3 : Nat) with
            | 0 => [.methodLink N.1.cls j N2.1, .instanceMethod N2.1, .selects (mv_cn cr) N2.1 N2.1]
            | 2 => [.methodLink N.1.cls j N2.1, .sameMethod N2.1.cls N2.1.cls N2.1.name N2.1.desc, .superclass N.1.cls N2.1.cls, .instanceMethod N2.1]
            | 3 => [.methodLink N.1.cls j N2.1, .static N2.1]
            | 4 => [.methodLinkNest N.1.cls j N2.1 "BalloonHarbour", .static N2.1]
            | 6 => [.methodLink N.1.cls j N2.1, .instanceMethod N2.1]
            | _ => [.methodLinkNest N.1.cls j N2.1 "BalloonHarbour", .instanceMethod N2.1])
          | none => [])
        | none => []), mv_gg w = true ∧ w ∈ lw_tbl := hw
      rw [hN', hM'] at hw
      have hcwm := hw _ List.mem_cons_self
      have hini := mv_w C (args := args) (hw _ (List.mem_cons_of_mem _ List.mem_cons_self))
      obtain ⟨Y', cc', ret', hh'⟩ := N'
      cases hh' with
      | nil =>
        have hcodeb : (Cond.code Y' cc' M'.1 ret').before args s = true := mv_w C hcwm
        have hcodem : Cond.code Y' cc' M'.1 ret' ∈ [mv_cw (Y', cc', ret', []) M'] := List.mem_singleton.mpr rfl
        exact vx_runS (Ts := []) (nL := M.1) ⟨C.2.1, C.2.2.2.1, C.2.2.2.2.1, C.2.2.2.2.2.2.1, fun w hw => nomatch hw⟩ hM ⟨⟨rfl, rfl, by show d + 8 + 1 ≤ R.frames; omega, by show 8 + (M'.1 + 11) + (32 * d + 300) ≤ R.locals; omega, mv_hws C hcwm, hcodem, hcodeb, hini, mv_plY s2, mv_nsig s3, mv_w C (hw _ (List.mem_cons_of_mem _ (List.mem_cons_of_mem _ List.mem_cons_self)))⟩, mv_w C (hw _ (List.mem_cons_of_mem _ (List.mem_cons_of_mem _ (List.mem_cons_of_mem _ List.mem_cons_self))))⟩ hpre rfl hlen a2.2.1.1 rfl (mv_w8 h8 hcr) dg ⟨q1, q2⟩
      | cons x z =>
        have hcodeb : (Cond.codeWith Y' cc' M'.1 ret' (x :: z)).before args s = true := mv_w C hcwm
        have hcodem : Cond.codeWith Y' cc' M'.1 ret' (x :: z) ∈ [mv_cw (Y', cc', ret', x :: z) M'] := List.mem_singleton.mpr rfl
        exact vx_runSX (Ts := []) (nL := M.1) ⟨C.2.1, C.2.2.2.1, C.2.2.2.2.1, C.2.2.2.2.2.2.1, fun w hw => nomatch hw⟩ hM ⟨⟨rfl, rfl, by show d + 8 + 1 ≤ R.frames; omega, by show 8 + (M'.1 + 11) + (32 * d + 300) ≤ R.locals; omega, mv_hws C hcwm, hcodem⟩, hcodeb, hini, mv_plY s2, mv_nsig s3, mv_w C (hw _ (List.mem_cons_of_mem _ (List.mem_cons_of_mem _ List.mem_cons_self))), mv_w C (hw _ (List.mem_cons_of_mem _ (List.mem_cons_of_mem _ (List.mem_cons_of_mem _ List.mem_cons_self))))⟩ hpre rfl hlen a2.2.1.1 rfl (mv_w8 h8 hcr) dg ⟨q1, q2⟩
    · have hk := Nat.eq_of_beq_eq_true s5
      subst hk
      have hw : ∀ w ∈ (match mv_look mv_mt 16 y with
        | some N2 => (match mv_look mv_tab 16 y with
          | some M2 => mv_cw N2 M2 :: .initialized N2.1.cls :: (match (4 : Nat) with
            | 0 => [.methodLink N.1.cls j N2.1, .instanceMethod N2.1, .selects (mv_cn cr) N2.1 N2.1]
            | 2 => [.methodLink N.1.cls j N2.1, .sameMethod N2.1.cls N2.1.cls N2.1.name N2.1.desc, .superclass N.1.cls N2.1.cls, .instanceMethod N2.1]
            | 3 => [.methodLink N.1.cls j N2.1, .static N2.1]
            | 4 => [.methodLinkNest N.1.cls j N2.1 "BalloonHarbour", .static N2.1]
            | 6 => [.methodLink N.1.cls j N2.1, .instanceMethod N2.1]
            | _ => [.methodLinkNest N.1.cls j N2.1 "BalloonHarbour", .instanceMethod N2.1])
          | none => [])
        | none => []), mv_gg w = true ∧ w ∈ lw_tbl := hw
      rw [hN', hM'] at hw
      have hcwm := hw _ List.mem_cons_self
      have hini := mv_w C (args := args) (hw _ (List.mem_cons_of_mem _ List.mem_cons_self))
      have hcw := mv_cwok (M' := M') s1
      have hcodeb : (Cond.code N'.1 N'.2.1 M'.1 N'.2.2.1).before args s = true := by rw [← hcw]; exact mv_w C hcwm
      have hcodem : Cond.code N'.1 N'.2.1 M'.1 N'.2.2.1 ∈ [mv_cw N' M'] := by rw [hcw]; exact List.mem_singleton.mpr rfl
      exact vx_runSN (Ts := []) (nL := M.1) ⟨C.2.1, C.2.2.2.1, C.2.2.2.2.1, C.2.2.2.2.2.2.1, fun w hw => nomatch hw⟩ hM ⟨⟨⟨rfl, rfl, by show d + 8 + 1 ≤ R.frames; omega, by show 8 + (M'.1 + 11) + (32 * d + 300) ≤ R.locals; omega, mv_hws C hcwm, hcodem⟩, hcodeb, hini, mv_plY s2, mv_nsig s3, mv_w C (hw _ (List.mem_cons_of_mem _ (List.mem_cons_of_mem _ List.mem_cons_self)))⟩, mv_w C (hw _ (List.mem_cons_of_mem _ (List.mem_cons_of_mem _ (List.mem_cons_of_mem _ List.mem_cons_self)))), trivial⟩ hpre rfl hlen a2.2.1.1 rfl (mv_w8 h8 hcr) dg ⟨q1, q2⟩
theorem si_ii (C : mv_Cx D l s0 a0 X p s m meth c N M) (hall : mv_All) {call : mv_G} {d : Nat} (hcall : mv_CallOK D l s0 d call) (hR : d + 9 ≤ R.frames ∧ 32 * (d + 1) + 300 ≤ R.locals) {k : mv_K} (ih : ∀ pc ls st h, k pc ls st h = some r → mv_Go D s0 p l e R s m args below meth c M r pc ls st h)
    {j : Nat} {y n cr rk : Nat} (hl : mv_look M.2.2.2.2.1 16 j = some (22, y, n, cr, rk)) (ev : mv_inv X call M k pc ls st h 22 y n cr rk = some r) (dg : decode N.2.1 pc = .ok (.invokespecial j, 3)) : mv_Go D s0 p l e R s m args below meth c M r pc ls st h := by
  obtain ⟨kd, hsd, hw⟩ := C.2.2.2.2.2.2.2.2.2.2.1.2 j _ hl
  rw [mv_inv] at ev
  obtain ⟨as, rest, rfl, hlen, h8, hca, hcr, ev⟩ := mi_args ev
  obtain ⟨b, As, rfl, ev⟩ := mi_isr ev
  have hn : As.length = n := by simpa using hlen
  have hst : (Value.ref b :: As).reverse ++ rest = As.reverse ++ .ref b :: rest := by simp
  rw [hst]
  refine mv_callG C hcall ih ev fun r1 H locs cells slots rls hc hr a2 q1 q2 => ?_
  obtain ⟨hle, ⟨M', hM'⟩, hmet⟩ := hcall _ _ _ _ hc
  have hsd : (match mv_look mv_mt 16 y with
    | some N => N.2.2.2.isEmpty && mv_plainY N.1 && decide ((parseMethodDescriptor N.1.desc).map (fun d => d.parameters.length) = some n) && (Nat.beq kd 6 || Nat.beq kd 7) && N.1.name == "<init>" && N.2.2.1.isNone
    | none => false) = true := hsd
  cases hN' : mv_look mv_mt 16 y with
  | none => rw [hN'] at hsd; cases hsd
  | some N' =>
    rw [hN'] at hsd
    have hsd : (N'.2.2.2.isEmpty && mv_plainY N'.1 && decide ((parseMethodDescriptor N'.1.desc).map (fun d => d.parameters.length) = some n) && (Nat.beq kd 6 || Nat.beq kd 7) && N'.1.name == "<init>" && N'.2.2.1.isNone) = true := hsd
    simp only [Bool.and_eq_true, Bool.or_eq_true, decide_eq_true_eq, beq_iff_eq] at hsd
    obtain ⟨⟨⟨⟨⟨s1, s2⟩, s3⟩, s5⟩, s6⟩, s7⟩ := hsd
    have s7 : N'.2.2.1 = none := Option.isNone_iff_eq_none.mp s7
    have hM := hmet N' M' hN' hM' hca
    have h13 := mv_13 (hall y N' M' hN' hM')
    have hpre : PreS s H (mv_Pc D s0 (.ref b :: As) h) (.ref b :: As) := ⟨mv_blind, mv_pcU C hr⟩
    rcases s5 with s5 | s5
    · have hk := Nat.eq_of_beq_eq_true s5
      subst hk
      have hw : ∀ w ∈ (match mv_look mv_mt 16 y with
        | some N2 => (match mv_look mv_tab 16 y with
          | some M2 => mv_cw N2 M2 :: .initialized N2.1.cls :: (match (6 : Nat) with
            | 0 => [.methodLink N.1.cls j N2.1, .instanceMethod N2.1, .selects (mv_cn cr) N2.1 N2.1]
            | 2 => [.methodLink N.1.cls j N2.1, .sameMethod N2.1.cls N2.1.cls N2.1.name N2.1.desc, .superclass N.1.cls N2.1.cls, .instanceMethod N2.1]
            | 3 => [.methodLink N.1.cls j N2.1, .static N2.1]
            | 4 => [.methodLinkNest N.1.cls j N2.1 "BalloonHarbour", .static N2.1]
            | 6 => [.methodLink N.1.cls j N2.1, .instanceMethod N2.1]
            | _ => [.methodLinkNest N.1.cls j N2.1 "BalloonHarbour", .instanceMethod N2.1])
          | none => [])
        | none => []), mv_gg w = true ∧ w ∈ lw_tbl := hw
      rw [hN', hM'] at hw
      have hcwm := hw _ List.mem_cons_self
      have hini := mv_w C (args := args) (hw _ (List.mem_cons_of_mem _ List.mem_cons_self))
      have hcw := mv_cwok (M' := M') s1
      have hcodeb : (Cond.code N'.1 N'.2.1 M'.1 N'.2.2.1).before args s = true := by rw [← hcw]; exact mv_w C hcwm
      have hcodem : Cond.code N'.1 N'.2.1 M'.1 N'.2.2.1 ∈ [mv_cw N' M'] := by rw [hcw]; exact List.mem_singleton.mpr rfl
      rw [s7] at hcodeb hcodem
      exact vx_runI (Ts := []) (nL := M.1) ⟨C.2.1, C.2.2.2.1, C.2.2.2.2.1, C.2.2.2.2.2.2.1, fun w hw => nomatch hw⟩ hM ⟨⟨rfl, rfl, by show d + 8 + 1 ≤ R.frames; omega, by show 8 + (M'.1 + 11) + (32 * d + 300) ≤ R.locals; omega, mv_hws C hcwm, hcodem, hcodeb, hini, mv_plY s2, mv_nsig s3, mv_w C (hw _ (List.mem_cons_of_mem _ (List.mem_cons_of_mem _ List.mem_cons_self)))⟩, s6, mv_w C (hw _ (List.mem_cons_of_mem _ (List.mem_cons_of_mem _ (List.mem_cons_of_mem _ List.mem_cons_self))))⟩ hpre rfl hn a2.2.1.1 rfl (mv_w8 h8 hcr) dg ⟨q1, q2⟩
    · have hk := Nat.eq_of_beq_eq_true s5
      subst hk
      have hw : ∀ w ∈ (match mv_look mv_mt 16 y with
        | some N2 => (match mv_look mv_tab 16 y with
          | some M2 => mv_cw N2 M2 :: .initialized N2.1.cls :: (match (7 : Nat) with
            | 0 => [.methodLink N.1.cls j N2.1, .instanceMethod N2.1, .selects (mv_cn cr) N2.1 N2.1]
            | 2 => [.methodLink N.1.cls j N2.1, .sameMethod N2.1.cls N2.1.cls N2.1.name N2.1.desc, .superclass N.1.cls N2.1.cls, .instanceMethod N2.1]
            | 3 => [.methodLink N.1.cls j N2.1, .static N2.1]
            | 4 => [.methodLinkNest N.1.cls j N2.1 "BalloonHarbour", .static N2.1]
            | 6 => [.methodLink N.1.cls j N2.1, .instanceMethod N2.1]
            | _ => [.methodLinkNest N.1.cls j N2.1 "BalloonHarbour", .instanceMethod N2.1])
          | none => [])
        | none => []), mv_gg w = true ∧ w ∈ lw_tbl := hw
      rw [hN', hM'] at hw
      have hcwm := hw _ List.mem_cons_self
      have hini := mv_w C (args := args) (hw _ (List.mem_cons_of_mem _ List.mem_cons_self))
      have hcw := mv_cwok (M' := M') s1
      have hcodeb : (Cond.code N'.1 N'.2.1 M'.1 N'.2.2.1).before args s = true := by rw [← hcw]; exact mv_w C hcwm
      have hcodem : Cond.code N'.1 N'.2.1 M'.1 N'.2.2.1 ∈ [mv_cw N' M'] := by rw [hcw]; exact List.mem_singleton.mpr rfl
      rw [s7] at hcodeb hcodem
      exact vx_runIN (Ts := []) (nL := M.1) ⟨C.2.1, C.2.2.2.1, C.2.2.2.2.1, C.2.2.2.2.2.2.1, fun w hw => nomatch hw⟩ hM ⟨⟨⟨rfl, rfl, by show d + 8 + 1 ≤ R.frames; omega, by show 8 + (M'.1 + 11) + (32 * d + 300) ≤ R.locals; omega, mv_hws C hcwm, hcodem⟩, hcodeb, hini, mv_plY s2, mv_nsig s3, mv_w C (hw _ (List.mem_cons_of_mem _ (List.mem_cons_of_mem _ List.mem_cons_self)))⟩, s6, mv_w C (hw _ (List.mem_cons_of_mem _ (List.mem_cons_of_mem _ (List.mem_cons_of_mem _ List.mem_cons_self))))⟩ hpre rfl hn a2.2.1.1 rfl (mv_w8 h8 hcr) dg ⟨q1, q2⟩
end SIMF
end
section
section SIMG
variable {D : va_G} {l : Launch} {s0 : State} {a0 : Array Value} {X : mv_X} {p : Program} {e : Env} {R : Room} {s : State} {m : MethodId} {args : Array Value} {below : List Frame} {meth : Method} {c : Code} {N : mv_N} {M : mv_M} {r : mv_R} {pc pc2 : Nat} {ls st st2 : List Value} {h : mv_H}
/-- where a switch goes -/
def mv_swt (x : Int32) (t : Nat) : List (Int × Nat) → Nat
  | [] => t
  | q :: r => if x = nZ q.1 then q.2 else mv_swt x t r
theorem mi_sw {x : Int32} {t : Nat} {f : Nat → Option mv_R} {r : mv_R} : ∀ {sw : List (Int × Nat)}, mv_sw x t f sw = some r → ∃ tg, mv_swt x t sw = tg ∧ f tg = some r
  | [], e => ⟨t, rfl, e⟩
  | q :: sw, e => by
    have e : (if x = nZ q.1 then f q.2 else mv_sw x t f sw) = some r := e
    by_cases hx : x = nZ q.1
    · rw [if_pos hx] at e
      exact ⟨q.2, if_pos hx, e⟩
    · rw [if_neg hx] at e
      obtain ⟨tg, h1, h2⟩ := mi_sw e
      exact ⟨tg, (if_neg hx).trans h1, h2⟩
theorem nZ_toInt {z : Int} (h1 : -2147483648 ≤ z) (h2 : z < 2147483648) : (nZ z).toInt = z := by
  unfold nZ
  rw [Int32.toInt_ofInt]
  simp only [Int.bmod_def, Int32.size]
  omega
theorem nZ_eta (x : Int32) : nZ x.toInt = x := Int32.ofInt_toInt x
theorem nZ_eq {x : Int32} {z : Int} (h1 : -2147483648 ≤ z) (h2 : z < 2147483648) : x = nZ z ↔ x.toInt = z := by
  constructor
  · rintro rfl; exact nZ_toInt h1 h2
  · intro h; rw [← h, nZ_eta]
theorem mv_swt_in {x : Int32} {t : Nat} : ∀ {sw : List (Int × Nat)} {lo : Int} {k : Nat}, (∀ j, j < sw.length → ∃ tg, sw[j]? = some (lo + (k + j : Nat), tg) ∧ -2147483648 ≤ lo + (k + j : Nat) ∧ lo + (k + j : Nat) < 2147483648) → ∀ j, j < sw.length → x.toInt = lo + (k + j : Nat) → ∃ tg, sw[j]? = some (lo + (k + j : Nat), tg) ∧ mv_swt x t sw = tg
  | [], lo, k, h, j, hj, _ => absurd hj (Nat.not_lt_zero j)
  | q :: sw, lo, k, h, 0, hj, hx => by
    obtain ⟨tg, h1, h2, h3⟩ := h 0 hj
    refine ⟨tg, h1, ?_⟩
    simp only [List.getElem?_cons_zero, Option.some.injEq] at h1
    subst h1
    exact if_pos ((nZ_eq h2 h3).mpr hx)
  | q :: sw, lo, k, h, j + 1, hj, hx => by
    have h' : ∀ i, i < sw.length → ∃ tg, sw[i]? = some (lo + (k + 1 + i : Nat), tg) ∧ -2147483648 ≤ lo + (k + 1 + i : Nat) ∧ lo + (k + 1 + i : Nat) < 2147483648 := fun i hi => by
      obtain ⟨tg, h1, h2⟩ := h (i + 1) (by simpa using hi)
      refine ⟨tg, ?_, ?_⟩
      · rw [List.getElem?_cons_succ] at h1
        rw [h1]
        congr 3
        omega
      · rw [show k + 1 + i = k + (i + 1) by omega]; exact h2
    obtain ⟨tg, h1, h2⟩ := mv_swt_in (x := x) (t := t) h' j (by simpa using hj) (by rw [hx]; congr 2; omega)
    refine ⟨tg, ?_, ?_⟩
    · rw [List.getElem?_cons_succ, h1]
      congr 3
      omega
    · obtain ⟨t0, g1, g2, g3⟩ := h 0 (Nat.zero_lt_succ _)
      simp only [List.getElem?_cons_zero, Option.some.injEq] at g1
      subst g1
      refine (if_neg fun he => ?_).trans h2
      have := (nZ_eq g2 g3).mp he
      omega
theorem mv_swt_out {x : Int32} {t : Nat} : ∀ {sw : List (Int × Nat)}, (∀ q ∈ sw, x ≠ nZ q.1) → mv_swt x t sw = t
  | [], _ => rfl
  | q :: sw, h => (if_neg (h q List.mem_cons_self)).trans (mv_swt_out fun z hz => h z (List.mem_cons_of_mem _ hz))
theorem si_tsw (C : mv_Cx D l s0 a0 X p s m meth c N M) {d lo hi : Int} {offs : Array Int} {t n tg : Nat} {sw : List (Int × Nat)} {x : Int32} (dg : decode N.2.1 pc = .ok (.tableswitch d lo hi offs, n)) (hx : mv_ex N M pc (.tableswitch d lo hi offs) t sw = true) (ht : mv_swt x t sw = tg) (g : mv_Go D s0 p l e R s m args below meth c M r tg ls st h) : mv_Go D s0 p l e R s m args below meth c M r pc ls (.int x :: st) h := by
  have hx : (decide ((pc : Int) + d = (t : Int)) && decide (-2147483648 ≤ lo) && decide (hi < 2147483648) && decide (hi + 1 = lo + sw.length) &&
      (List.range sw.length).all fun j => decide (sw[j]? = (offs[j]?).map fun o => (lo + j, ((pc : Int) + o).toNat)) && (match offs[j]? with
        | some o => decide (0 ≤ (pc : Int) + o)
        | none => false)) = true := hx
  simp only [Bool.and_eq_true, decide_eq_true_eq, List.all_eq_true, List.mem_range] at hx
  obtain ⟨⟨⟨⟨h1, h2⟩, h3⟩, h4⟩, h5⟩ := hx
  have h6 : ∀ j, j < sw.length → ∃ o, offs[j]? = some o ∧ sw[j]? = some (lo + (j : Nat), ((pc : Int) + o).toNat) ∧ 0 ≤ (pc : Int) + o := fun j hj => by
    obtain ⟨g1, g2⟩ := h5 j hj
    cases ho : offs[j]? with
    | none => rw [ho] at g2; cases g2
    | some o =>
      rw [ho] at g1 g2
      exact ⟨o, rfl, g1, of_decide_eq_true g2⟩
  by_cases hin : lo ≤ x.toInt ∧ x.toInt ≤ hi
  · have hj : (x.toInt - lo).toNat < sw.length := by omega
    have he : x.toInt = lo + ((x.toInt - lo).toNat : Nat) := by omega
    obtain ⟨tg2, q1, q2⟩ := mv_swt_in (x := x) (t := t) (sw := sw) (lo := lo) (k := 0) (fun j hj => by
      obtain ⟨o, -, g2, g3⟩ := h6 j hj
      refine ⟨_, by rw [Nat.zero_add]; exact g2, by omega, by omega⟩) _ hj (by rw [Nat.zero_add]; exact he)
    obtain ⟨o, g1, g2, g3⟩ := h6 _ hj
    rw [Nat.zero_add] at q1
    have e1 : tg2 = ((pc : Int) + o).toNat := by
      have := q1.symm.trans g2
      simp only [Option.some.injEq, Prod.mk.injEq] at this
      exact this.2
    have e2 : tg = tg2 := ht.symm.trans q2
    exact mv_pure g fun _ a k => lv_tableIn C.2.1 C.2.2.2.1 dg (by omega) (by omega) g1 (by rw [e2, e1]; omega) k
  · have e1 : tg = t := ht.symm.trans (mv_swt_out fun q hq => by
      obtain ⟨j, hj⟩ := List.mem_iff_getElem?.mp hq
      have hlt := (List.getElem?_eq_some_iff.mp hj).1
      obtain ⟨o, g1, g2, g3⟩ := h6 j hlt
      have := hj.symm.trans g2
      cases this
      intro he
      have := (nZ_eq (by omega) (by omega)).mp he
      omega)
    exact mv_pure g fun _ a k => lv_tableOut C.2.1 C.2.2.2.1 dg (by omega) (by rw [e1]; exact h1) k
theorem mv_lsw {x : Int32} {pc t : Nat} {d : Int} (hd : (pc : Int) + d = (t : Int)) : ∀ (ps : List (Int × Int)), (∀ a ∈ ps, 0 ≤ (pc : Int) + a.2 ∧ -2147483648 ≤ a.1 ∧ a.1 < 2147483648) → (pc : Int) + Op.lookupswitch.offset ps d x.toInt = (mv_swt x t (ps.map fun a => (a.1, ((pc : Int) + a.2).toNat)) : Int)
  | [], _ => hd
  | a :: ps, h => by
    have ih := mv_lsw (x := x) hd ps fun z hz => h z (List.mem_cons_of_mem _ hz)
    obtain ⟨h1, h2, h3⟩ := h a List.mem_cons_self
    show (pc : Int) + Op.lookupswitch.offset (a :: ps) d x.toInt = ((if x = nZ a.1 then ((pc : Int) + a.2).toNat else mv_swt x t (ps.map fun a => (a.1, ((pc : Int) + a.2).toNat)) : Nat) : Int)
    obtain ⟨a1, a2⟩ := a
    show (pc : Int) + (if a1 = x.toInt then a2 else Op.lookupswitch.offset ps d x.toInt) = _
    by_cases hx : x = nZ a1
    · rw [if_pos ((nZ_eq h2 h3).mp hx).symm, if_pos hx]
      have h1 : 0 ≤ (pc : Int) + a2 := h1
      show _ = (((pc : Int) + a2).toNat : Int)
      omega
    · rw [if_neg fun e => hx ((nZ_eq h2 h3).mpr e.symm), if_neg hx]
      exact ih
theorem si_lsw (C : mv_Cx D l s0 a0 X p s m meth c N M) {d : Int} {ps : Array (Int × Int)} {t n tg : Nat} {sw : List (Int × Nat)} {x : Int32} (dg : decode N.2.1 pc = .ok (.lookupswitch d ps, n)) (hx : mv_ex N M pc (.lookupswitch d ps) t sw = true) (ht : mv_swt x t sw = tg) (g : mv_Go D s0 p l e R s m args below meth c M r tg ls st h) : mv_Go D s0 p l e R s m args below meth c M r pc ls (.int x :: st) h := by
  have hx : (decide ((pc : Int) + d = (t : Int)) && (ps.toList.zip (ps.toList.drop 1)).all (fun (a, next) => a.1 < next.1) && decide (sw = ps.toList.map fun a => (a.1, ((pc : Int) + a.2).toNat)) &&
      ps.toList.all fun a => decide (0 ≤ (pc : Int) + a.2) && decide (-2147483648 ≤ a.1) && decide (a.1 < 2147483648)) = true := hx
  rw [Bool.and_eq_true, Bool.and_eq_true, Bool.and_eq_true] at hx
  obtain ⟨⟨⟨h1, h2⟩, h3⟩, h4⟩ := hx
  have h1 := of_decide_eq_true h1
  have h3 := of_decide_eq_true h3
  subst h3
  have := mv_lsw (x := x) h1 ps.toList fun a ha => by
    have := List.all_eq_true.mp h4 a ha
    simp only [Bool.and_eq_true, decide_eq_true_eq] at this
    exact ⟨this.1.1, this.1.2, this.2⟩
  rw [ht] at this
  exact mv_pure g fun _ a k => lv_lookup C.2.1 C.2.2.2.1 dg h2 rfl this k
set_option maxHeartbeats 4000000 in
theorem mv_simE (C : mv_Cx D l s0 a0 X p s m meth c N M) (hall : mv_All) {call : mv_G} {d : Nat} (hcall : mv_CallOK D l s0 d call) (hR : d + 9 ≤ R.frames ∧ 32 * (d + 1) + 300 ≤ R.locals) {k : mv_K} (ih : ∀ pc ls st h, k pc ls st h = some r → mv_Go D s0 p l e R s m args below meth c M r pc ls st h)
    {i : Instr} {t : Nat} {sw : List (Int × Nat)} (hl : mv_look M.2.2.2.1 32 pc = some (i, t, sw)) (ev : mv_E X call M k i t sw pc ls st h = some r) : mv_Go D s0 p l e R s m args below meth c M r pc ls st h := by
  obtain ⟨⟨n, hd, hn⟩, hx⟩ := mv_good_d C.2.2.2.2.2.2.2.2.2.2.1 hl
  cases i with
  | iload_n j =>
    have dg := mv_dg hd hn
    obtain ⟨v, h1, ev1⟩ := mi_ld ev
    obtain ⟨x, rfl, ev2⟩ := mi_int ev1
    exact si_iload_n C h1 dg (ih _ _ _ _ ev2)
  | aload_n j =>
    have dg := mv_dg hd hn
    obtain ⟨v, h1, ev3⟩ := mi_ld ev
    obtain ⟨x, rfl, ev4⟩ := mi_ref ev3
    exact si_aload_n C h1 dg (ih _ _ _ _ ev4)
  | iload j =>
    have dg := mv_dg hd hn
    obtain ⟨v, h1, ev5⟩ := mi_ld ev
    obtain ⟨x, rfl, ev6⟩ := mi_int ev5
    exact si_iload C h1 dg (ih _ _ _ _ ev6)
  | aload j =>
    have dg := mv_dg hd hn
    obtain ⟨v, h1, ev7⟩ := mi_ld ev
    obtain ⟨x, rfl, ev8⟩ := mi_ref ev7
    exact si_aload C h1 dg (ih _ _ _ _ ev8)
  | fload j =>
    have dg := mv_dg hd hn
    obtain ⟨v, h1, ev9⟩ := mi_ld ev
    obtain ⟨x, rfl, ev10⟩ := mi_flt ev9
    exact si_fload C h1 dg (ih _ _ _ _ ev10)
  | dload j =>
    have dg := mv_dg hd hn
    obtain ⟨v, h1, ev11⟩ := mi_ld ev
    obtain ⟨x, rfl, ev12⟩ := mi_dbl ev11
    exact si_dload C h1 dg (ih _ _ _ _ ev12)
  | istore_n j =>
    have dg := mv_dg hd hn
    obtain ⟨x, st, rfl, ev13⟩ := mi_popI ev
    obtain ⟨h1, h2, ev14⟩ := mi_st ev13
    exact si_istore_n C h1 h2 dg (ih _ _ _ _ ev14)
  | istore j =>
    have dg := mv_dg hd hn
    obtain ⟨x, st, rfl, ev15⟩ := mi_popI ev
    obtain ⟨h1, h2, ev16⟩ := mi_st ev15
    exact si_istore C h1 h2 dg (ih _ _ _ _ ev16)
  | astore_n j =>
    have dg := mv_dg hd hn
    obtain ⟨x, st, rfl, ev17⟩ := mi_popR ev
    obtain ⟨h1, h2, ev18⟩ := mi_st ev17
    exact si_astore_n C h1 h2 dg (ih _ _ _ _ ev18)
  | astore j =>
    have dg := mv_dg hd hn
    obtain ⟨x, st, rfl, ev19⟩ := mi_popR ev
    obtain ⟨h1, h2, ev20⟩ := mi_st ev19
    exact si_astore C h1 h2 dg (ih _ _ _ _ ev20)
  | fstore j =>
    have dg := mv_dg hd hn
    obtain ⟨x, st, rfl, ev21⟩ := mi_popF ev
    obtain ⟨h1, h2, ev22⟩ := mi_st ev21
    exact si_fstore C h1 h2 dg (ih _ _ _ _ ev22)
  | dstore j =>
    have dg := mv_dg hd hn
    obtain ⟨x, st, rfl, ev23⟩ := mi_popD ev
    obtain ⟨h1, h2, h3, ev24⟩ := mi_st2 ev23
    exact si_dstore C dg h1 h2 h3 (ih _ _ _ _ ev24)
  | iinc j n =>
    have dg := mv_dg hd hn
    obtain ⟨v, h1, ev25⟩ := mi_ld ev
    obtain ⟨x, rfl, ev26⟩ := mi_int ev25
    obtain ⟨h2, h3, ev27⟩ := mi_st ev26
    exact si_iinc C dg h1 h2 h3 (ih _ _ _ _ ev27)
  | iconst n =>
    have dg := mv_dg hd hn
    exact si_iconst C dg (ih _ _ _ _ ev)
  | bipush n =>
    have dg := mv_dg hd hn
    have hx : (decide (-128 ≤ n) && decide (n ≤ 127)) = true := hx
    rw [Bool.and_eq_true, decide_eq_true_eq, decide_eq_true_eq] at hx
    exact si_bipush C hx.1 hx.2 dg (ih _ _ _ _ ev)
  | sipush n =>
    have dg := mv_dg hd hn
    have hx : (decide (-32768 ≤ n) && decide (n ≤ 32767)) = true := hx
    rw [Bool.and_eq_true, decide_eq_true_eq, decide_eq_true_eq] at hx
    exact si_sipush C hx.1 hx.2 dg (ih _ _ _ _ ev)
  | lconst n =>
    have dg := mv_dg hd hn
    exact si_lconst C dg (ih _ _ _ _ ev)
  | fconst n =>
    have dg := mv_dg hd hn
    have hx : decide (n = 0) = true := hx
    rw [decide_eq_true_eq] at hx
    subst hx
    exact si_fconst C dg (ih _ _ _ _ ev)
  | dconst n =>
    have dg := mv_dg hd hn
    have hx : decide (n = 0) = true := hx
    rw [decide_eq_true_eq] at hx
    subst hx
    exact si_dconst C dg (ih _ _ _ _ ev)
  | ldc j =>
    have dg := mv_dg hd hn
    cases sw with
    | cons q sw =>
      have hx : (match mv_look M.2.2.2.2.1 16 j with
        | some z => Nat.beq z.1 15 && decide (q.1 = (z.2.1 : Int))
        | none => false) = true := hx
      cases hk : mv_look M.2.2.2.2.1 16 j with
      | none => rw [hk] at hx; cases hx
      | some z =>
        rw [hk] at hx
        have hx : (Nat.beq z.1 15 && decide (q.1 = (z.2.1 : Int))) = true := hx
        rw [Bool.and_eq_true, decide_eq_true_eq] at hx
        have G := ih _ _ _ _ ev
        rw [hx.2] at G
        exact si_ldcI C dg hk (Nat.eq_of_beq_eq_true hx.1) G
    | nil =>
      obtain ⟨q, hk, ev28⟩ := mi_lk ev
      obtain ⟨h1, ev29⟩ := mi_chk ev28
      exact si_ldcS C dg hk (Nat.eq_of_beq_eq_true h1) (ih _ _ _ _ ev29)
  | ldc_w j =>
    have dg := mv_dg hd hn
    cases sw with
    | cons q sw =>
      have hx : (match mv_look M.2.2.2.2.1 16 j with
        | some z => Nat.beq z.1 15 && decide (q.1 = (z.2.1 : Int))
        | none => false) = true := hx
      cases hk : mv_look M.2.2.2.2.1 16 j with
      | none => rw [hk] at hx; cases hx
      | some z =>
        rw [hk] at hx
        have hx : (Nat.beq z.1 15 && decide (q.1 = (z.2.1 : Int))) = true := hx
        rw [Bool.and_eq_true, decide_eq_true_eq] at hx
        have G := ih _ _ _ _ ev
        rw [hx.2] at G
        exact si_ldcIw C dg hk (Nat.eq_of_beq_eq_true hx.1) G
    | nil =>
      obtain ⟨q, hk, ev30⟩ := mi_lk ev
      obtain ⟨h1, ev31⟩ := mi_chk ev30
      exact si_ldcSw C dg hk (Nat.eq_of_beq_eq_true h1) (ih _ _ _ _ ev31)
  | iadd =>
    have dg := mv_dg hd hn
    obtain ⟨y, st, rfl, ev32⟩ := mi_popI ev
    obtain ⟨x, st, rfl, ev33⟩ := mi_popI ev32
    exact si_iadd C dg (ih _ _ _ _ ev33)
  | isub =>
    have dg := mv_dg hd hn
    obtain ⟨y, st, rfl, ev34⟩ := mi_popI ev
    obtain ⟨x, st, rfl, ev35⟩ := mi_popI ev34
    exact si_isub C dg (ih _ _ _ _ ev35)
  | imul =>
    have dg := mv_dg hd hn
    obtain ⟨y, st, rfl, ev36⟩ := mi_popI ev
    obtain ⟨x, st, rfl, ev37⟩ := mi_popI ev36
    exact si_imul C dg (ih _ _ _ _ ev37)
  | iand =>
    have dg := mv_dg hd hn
    obtain ⟨y, st, rfl, ev38⟩ := mi_popI ev
    obtain ⟨x, st, rfl, ev39⟩ := mi_popI ev38
    exact si_iand C dg (ih _ _ _ _ ev39)
  | ior =>
    have dg := mv_dg hd hn
    obtain ⟨y, st, rfl, ev40⟩ := mi_popI ev
    obtain ⟨x, st, rfl, ev41⟩ := mi_popI ev40
    exact si_ior C dg (ih _ _ _ _ ev41)
  | ixor =>
    have dg := mv_dg hd hn
    obtain ⟨y, st, rfl, ev42⟩ := mi_popI ev
    obtain ⟨x, st, rfl, ev43⟩ := mi_popI ev42
    exact si_ixor C dg (ih _ _ _ _ ev43)
  | ishl =>
    have dg := mv_dg hd hn
    obtain ⟨y, st, rfl, ev44⟩ := mi_popI ev
    obtain ⟨x, st, rfl, ev45⟩ := mi_popI ev44
    exact si_ishl C dg (ih _ _ _ _ ev45)
  | ishr =>
    have dg := mv_dg hd hn
    obtain ⟨y, st, rfl, ev46⟩ := mi_popI ev
    obtain ⟨x, st, rfl, ev47⟩ := mi_popI ev46
    exact si_ishr C dg (ih _ _ _ _ ev47)
  | iushr =>
    have dg := mv_dg hd hn
    obtain ⟨y, st, rfl, ev48⟩ := mi_popI ev
    obtain ⟨x, st, rfl, ev49⟩ := mi_popI ev48
    exact si_iushr C dg (ih _ _ _ _ ev49)
  | idiv =>
    have dg := mv_dg hd hn
    obtain ⟨y, st, rfl, ev50⟩ := mi_popI ev
    obtain ⟨x, st, rfl, ev51⟩ := mi_popI ev50
    by_cases hy : y = 0
    · rw [if_pos hy] at ev51; cases ev51
    · rw [if_neg hy] at ev51; exact si_idiv C hy dg (ih _ _ _ _ ev51)
  | irem =>
    have dg := mv_dg hd hn
    obtain ⟨y, st, rfl, ev52⟩ := mi_popI ev
    obtain ⟨x, st, rfl, ev53⟩ := mi_popI ev52
    by_cases hy : y = 0
    · rw [if_pos hy] at ev53; cases ev53
    · rw [if_neg hy] at ev53; exact si_irem C hy dg (ih _ _ _ _ ev53)
  | ineg =>
    have dg := mv_dg hd hn
    obtain ⟨x, st, rfl, ev54⟩ := mi_popI ev
    exact si_ineg C dg (ih _ _ _ _ ev54)
  | i2l =>
    have dg := mv_dg hd hn
    obtain ⟨x, st, rfl, ev55⟩ := mi_popI ev
    exact si_i2l C dg (ih _ _ _ _ ev55)
  | i2b =>
    have dg := mv_dg hd hn
    obtain ⟨x, st, rfl, ev56⟩ := mi_popI ev
    exact si_i2b C dg (ih _ _ _ _ ev56)
  | i2c =>
    have dg := mv_dg hd hn
    obtain ⟨x, st, rfl, ev57⟩ := mi_popI ev
    exact si_i2c C dg (ih _ _ _ _ ev57)
  | i2d =>
    have dg := mv_dg hd hn
    obtain ⟨x, st, rfl, ev58⟩ := mi_popI ev
    exact si_i2d C dg (ih _ _ _ _ ev58)
  | i2f =>
    have dg := mv_dg hd hn
    obtain ⟨x, st, rfl, ev59⟩ := mi_popI ev
    exact si_i2f C dg (ih _ _ _ _ ev59)
  | f2d =>
    have dg := mv_dg hd hn
    obtain ⟨x, st, rfl, ev60⟩ := mi_popF ev
    obtain ⟨h1, ev61⟩ := mi_chk ev60
    exact si_f2d C (id (of_decide_eq_true h1 : FP.f2d x &&& 0x7fffffffffffffff ≤ 0x7ff0000000000000)) dg (ih _ _ _ _ ev61)
  | ddiv =>
    have dg := mv_dg hd hn
    obtain ⟨y, st, rfl, ev62⟩ := mi_popD ev
    obtain ⟨x, st, rfl, ev63⟩ := mi_popD ev62
    obtain ⟨h1, ev64⟩ := mi_chk ev63
    exact si_ddiv C (id (of_decide_eq_true h1 : FP.ddiv x y &&& 0x7fffffffffffffff ≤ 0x7ff0000000000000)) dg (ih _ _ _ _ ev64)
  | fdiv =>
    have dg := mv_dg hd hn
    obtain ⟨y, st, rfl, ev65⟩ := mi_popF ev
    obtain ⟨x, st, rfl, ev66⟩ := mi_popF ev65
    obtain ⟨h1, ev67⟩ := mi_chk ev66
    exact si_fdiv C (id (of_decide_eq_true h1 : FP.fdiv x y &&& 0x7fffffff ≤ 0x7f800000)) dg (ih _ _ _ _ ev67)
  | lcmp =>
    have dg := mv_dg hd hn
    obtain ⟨y, st, rfl, ev68⟩ := mi_popL ev
    obtain ⟨x, st, rfl, ev69⟩ := mi_popL ev68
    exact si_lcmp C dg (ih _ _ _ _ ev69)
  | dcmp o =>
    have dg := mv_dg hd hn
    obtain ⟨y, st, rfl, ev70⟩ := mi_popD ev
    obtain ⟨x, st, rfl, ev71⟩ := mi_popD ev70
    exact si_dcmp C dg (ih _ _ _ _ ev71)
  | fcmp o =>
    have dg := mv_dg hd hn
    obtain ⟨y, st, rfl, ev72⟩ := mi_popF ev
    obtain ⟨x, st, rfl, ev73⟩ := mi_popF ev72
    exact si_fcmp C dg (ih _ _ _ _ ev73)
  | dup =>
    have dg := mv_dg hd hn
    obtain ⟨v, st, rfl, h1, ev74⟩ := mi_pop1 ev
    exact si_dup C h1 dg (ih _ _ _ _ ev74)
  | pop =>
    have dg := mv_dg hd hn
    obtain ⟨v, st, rfl, h1, ev75⟩ := mi_pop1 ev
    exact si_pop C h1 dg (ih _ _ _ _ ev75)
  | dup_x1 =>
    have dg := mv_dg hd hn
    obtain ⟨v, st, rfl, h1, ev76⟩ := mi_pop1 ev
    obtain ⟨w, st, rfl, h2, ev77⟩ := mi_pop1 ev76
    exact si_dup_x1 C h1 h2 dg (ih _ _ _ _ ev77)
  | dup2 =>
    have dg := mv_dg hd hn
    obtain ⟨v, st, rfl, h1, ev78⟩ := mi_pop1 ev
    obtain ⟨w, st, rfl, h2, ev79⟩ := mi_pop1 ev78
    exact si_dup2 C h1 h2 dg (ih _ _ _ _ ev79)
  | goto o =>
    have dg := mv_dg hd hn
    exact si_goto C dg (of_decide_eq_true hx) (ih _ _ _ _ ev)
  | ifCond cd o =>
    have dg := mv_dg hd hn
    obtain ⟨x, st, rfl, ev80⟩ := mi_popI ev
    have hx1 : (pc : Int) + o = (t : Int) := of_decide_eq_true hx
    cases cd with
    | eq =>
      by_cases hc : x = 0
      · have ev81 : (if x = 0 then _ else _) = some r := ev80
        rw [if_pos hc] at ev81; exact si_if_eq_t C hc dg hx1 (ih _ _ _ _ ev81)
      · have ev82 : (if x = 0 then _ else _) = some r := ev80
        rw [if_neg hc] at ev82; exact si_if_eq_f C hc dg hx1 (ih _ _ _ _ ev82)
    | ne =>
      by_cases hc : x = 0
      · have ev83 : (if x = 0 then _ else _) = some r := ev80
        rw [if_pos hc] at ev83; exact si_if_ne_f C hc dg hx1 (ih _ _ _ _ ev83)
      · have ev84 : (if x = 0 then _ else _) = some r := ev80
        rw [if_neg hc] at ev84; exact si_if_ne_t C hc dg hx1 (ih _ _ _ _ ev84)
    | lt =>
      by_cases hc : x < 0
      · have ev85 : (if x < 0 then _ else _) = some r := ev80
        rw [if_pos hc] at ev85; exact si_if_lt_t C hc dg hx1 (ih _ _ _ _ ev85)
      · have ev86 : (if x < 0 then _ else _) = some r := ev80
        rw [if_neg hc] at ev86; exact si_if_lt_f C hc dg hx1 (ih _ _ _ _ ev86)
    | ge =>
      by_cases hc : 0 ≤ x
      · have ev87 : (if 0 ≤ x then _ else _) = some r := ev80
        rw [if_pos hc] at ev87; exact si_if_ge_t C hc dg hx1 (ih _ _ _ _ ev87)
      · have ev88 : (if 0 ≤ x then _ else _) = some r := ev80
        rw [if_neg hc] at ev88; exact si_if_ge_f C hc dg hx1 (ih _ _ _ _ ev88)
    | gt =>
      by_cases hc : 0 < x
      · have ev89 : (if 0 < x then _ else _) = some r := ev80
        rw [if_pos hc] at ev89; exact si_if_gt_t C hc dg hx1 (ih _ _ _ _ ev89)
      · have ev90 : (if 0 < x then _ else _) = some r := ev80
        rw [if_neg hc] at ev90; exact si_if_gt_f C hc dg hx1 (ih _ _ _ _ ev90)
    | le =>
      by_cases hc : x ≤ 0
      · have ev91 : (if x ≤ 0 then _ else _) = some r := ev80
        rw [if_pos hc] at ev91; exact si_if_le_t C hc dg hx1 (ih _ _ _ _ ev91)
      · have ev92 : (if x ≤ 0 then _ else _) = some r := ev80
        rw [if_neg hc] at ev92; exact si_if_le_f C hc dg hx1 (ih _ _ _ _ ev92)
  | if_icmp cd o =>
    have dg := mv_dg hd hn
    obtain ⟨y, st, rfl, ev93⟩ := mi_popI ev
    obtain ⟨x, st, rfl, ev94⟩ := mi_popI ev93
    have hx1 : (pc : Int) + o = (t : Int) := of_decide_eq_true hx
    cases cd with
    | eq =>
      by_cases hc : x = y
      · have ev95 : (if x = y then _ else _) = some r := ev94
        rw [if_pos hc] at ev95; exact si_icmp_eq_t C hc dg hx1 (ih _ _ _ _ ev95)
      · have ev96 : (if x = y then _ else _) = some r := ev94
        rw [if_neg hc] at ev96; exact si_icmp_eq_f C hc dg hx1 (ih _ _ _ _ ev96)
    | ne =>
      by_cases hc : x = y
      · have ev97 : (if x = y then _ else _) = some r := ev94
        rw [if_pos hc] at ev97; exact si_icmp_ne_f C hc dg hx1 (ih _ _ _ _ ev97)
      · have ev98 : (if x = y then _ else _) = some r := ev94
        rw [if_neg hc] at ev98; exact si_icmp_ne_t C hc dg hx1 (ih _ _ _ _ ev98)
    | lt =>
      by_cases hc : x < y
      · have ev99 : (if x < y then _ else _) = some r := ev94
        rw [if_pos hc] at ev99; exact si_icmp_lt_t C hc dg hx1 (ih _ _ _ _ ev99)
      · have ev100 : (if x < y then _ else _) = some r := ev94
        rw [if_neg hc] at ev100; exact si_icmp_lt_f C hc dg hx1 (ih _ _ _ _ ev100)
    | ge =>
      by_cases hc : y ≤ x
      · have ev101 : (if y ≤ x then _ else _) = some r := ev94
        rw [if_pos hc] at ev101; exact si_icmp_ge_t C hc dg hx1 (ih _ _ _ _ ev101)
      · have ev102 : (if y ≤ x then _ else _) = some r := ev94
        rw [if_neg hc] at ev102; exact si_icmp_ge_f C hc dg hx1 (ih _ _ _ _ ev102)
    | gt =>
      by_cases hc : y < x
      · have ev103 : (if y < x then _ else _) = some r := ev94
        rw [if_pos hc] at ev103; exact si_icmp_gt_t C hc dg hx1 (ih _ _ _ _ ev103)
      · have ev104 : (if y < x then _ else _) = some r := ev94
        rw [if_neg hc] at ev104; exact si_icmp_gt_f C hc dg hx1 (ih _ _ _ _ ev104)
    | le =>
      by_cases hc : x ≤ y
      · have ev105 : (if x ≤ y then _ else _) = some r := ev94
        rw [if_pos hc] at ev105; exact si_icmp_le_t C hc dg hx1 (ih _ _ _ _ ev105)
      · have ev106 : (if x ≤ y then _ else _) = some r := ev94
        rw [if_neg hc] at ev106; exact si_icmp_le_f C hc dg hx1 (ih _ _ _ _ ev106)
  | tableswitch d lo hi offs =>
    obtain ⟨x, st, rfl, ev107⟩ := mi_popI ev
    obtain ⟨tg, ht, ev108⟩ := mi_sw ev107
    exact si_tsw C hd hx ht (ih _ _ _ _ ev108)
  | lookupswitch d ps =>
    obtain ⟨x, st, rfl, ev109⟩ := mi_popI ev
    obtain ⟨tg, ht, ev110⟩ := mi_sw ev109
    exact si_lsw C hd hx ht (ih _ _ _ _ ev110)
  | getfield j =>
    have dg := mv_dg hd hn
    obtain ⟨a, st, rfl, ev111⟩ := mi_popR ev
    obtain ⟨q, hk, ev112⟩ := mi_lk ev111
    obtain ⟨h1, ev113⟩ := mi_chk ev112
    have h1 := Nat.eq_of_beq_eq_true h1
    have ev114 : (match q.2.2.2.1 with
      | 2 => mv_gR X h a q.2.1 q.2.2.1 fun x => k (pc + 3) ls (.ref x :: st) h
      | _ => mv_gI X h a q.2.1 q.2.2.1 fun x => k (pc + 3) ls (.int x :: st) h) = some r := ev113
    split at ev114
    · obtain ⟨fs, v, h2, h3, ev115⟩ := mi_gf ev114
      obtain ⟨x, rfl, ev116⟩ := mi_ref ev115
      exact si_getfield C dg hk h1 h2 h3 (ih _ _ _ _ ev116)
    · obtain ⟨fs, v, h2, h3, ev117⟩ := mi_gf ev114
      obtain ⟨x, rfl, ev118⟩ := mi_int ev117
      exact si_getfield C dg hk h1 h2 h3 (ih _ _ _ _ ev118)
  | putfield j =>
    have dg := mv_dg hd hn
    obtain ⟨q, hk, ev119⟩ := mi_lk ev
    obtain ⟨h1, ev120⟩ := mi_chk ev119
    have h1 := Nat.eq_of_beq_eq_true h1
    have ev121 : (match q.2.2.2.1 with
      | 2 => mv_popR st fun x st => mv_popR st fun a st => mv_pf h a q.2.1 q.2.2.1 (.ref x) fun h => k (pc + 3) ls st h
      | t => mv_popI st fun x st => mv_popR st fun a st => mv_chk (mv_ok t x) (mv_pf h a q.2.1 q.2.2.1 (.int x) fun h => k (pc + 3) ls st h)) = some r := ev120
    split at ev121
    · next he =>
      obtain ⟨x, st, rfl, ev122⟩ := mi_popR ev121
      obtain ⟨a, st, rfl, ev123⟩ := mi_popR ev122
      obtain ⟨fs, h2, h3, ev124⟩ := mi_pf ev123
      exact si_putfield C dg hx hk h1 h2 h3 (fun ty hty => mv_fkR hty he) (ih _ _ _ _ ev124)
    · obtain ⟨x, st, rfl, ev125⟩ := mi_popI ev121
      obtain ⟨a, st, rfl, ev126⟩ := mi_popR ev125
      obtain ⟨h4, ev127⟩ := mi_chk ev126
      obtain ⟨fs, h2, h3, ev128⟩ := mi_pf ev127
      exact si_putfield C dg hx hk h1 h2 h3 (fun ty hty => mv_fkI hty h4) (ih _ _ _ _ ev128)
  | getstatic j =>
    have dg := mv_dg hd hn
    obtain ⟨q, hk, ev129⟩ := mi_lk ev
    obtain ⟨h1, ev130⟩ := mi_chk ev129
    have h1 := Nat.eq_of_beq_eq_true h1
    have ev131 : (match q.2.2.1 with
      | 2 => mv_ref (X.2.2 q.2.1) fun x => k (pc + 3) ls (.ref x :: st) h
      | 9 => mv_chk (mv_nr (X.2.2 q.2.1)) (k (pc + 3) ls (X.2.2 q.2.1 :: st) h)
      | _ => mv_int (X.2.2 q.2.1) fun x => k (pc + 3) ls (.int x :: st) h) = some r := ev130
    split at ev131
    · obtain ⟨x, hv, ev132⟩ := mi_ref ev131
      exact si_getstatic C dg hk h1 hv (ih _ _ _ _ ev132)
    · obtain ⟨-, ev132b⟩ := mi_chk ev131
      exact si_getstatic C dg hk h1 rfl (ih _ _ _ _ ev132b)
    · obtain ⟨x, hv, ev133⟩ := mi_int ev131
      exact si_getstatic C dg hk h1 hv (ih _ _ _ _ ev133)
  | iaload =>
    have dg := mv_dg hd hn
    obtain ⟨i, st, rfl, ev134⟩ := mi_popI ev
    obtain ⟨a, st, rfl, ev135⟩ := mi_popR ev134
    obtain ⟨t1, n1, g1, h1, h2, h3, h4, ev136⟩ := mi_ar ev135
    obtain ⟨x, hv, ev137⟩ := mi_int ev136
    exact si_iaload C dg h1 h2 h3 h4 (hv ▸ ih _ _ _ _ ev137)
  | caload =>
    have dg := mv_dg hd hn
    obtain ⟨i, st, rfl, ev138⟩ := mi_popI ev
    obtain ⟨a, st, rfl, ev139⟩ := mi_popR ev138
    obtain ⟨t1, n1, g1, h1, h2, h3, h4, ev140⟩ := mi_ar ev139
    obtain ⟨x, hv, ev141⟩ := mi_int ev140
    exact si_caload C dg h1 h2 h3 h4 (hv ▸ ih _ _ _ _ ev141)
  | baload =>
    have dg := mv_dg hd hn
    obtain ⟨i, st, rfl, ev142⟩ := mi_popI ev
    obtain ⟨a, st, rfl, ev143⟩ := mi_popR ev142
    obtain ⟨t1, n1, g1, h1, h2, h3, h4, ev144⟩ := mi_ar ev143
    obtain ⟨x, hv, ev145⟩ := mi_int ev144
    exact si_baload C dg h1 h2 h3 h4 (hv ▸ ih _ _ _ _ ev145)
  | aaload =>
    have dg := mv_dg hd hn
    obtain ⟨i, st, rfl, ev146⟩ := mi_popI ev
    obtain ⟨a, st, rfl, ev147⟩ := mi_popR ev146
    obtain ⟨t1, n1, g1, h1, h2, h3, h4, ev148⟩ := mi_ar ev147
    obtain ⟨x, hv, ev149⟩ := mi_ref ev148
    exact si_aaload C dg h1 h2 h3 h4 (hv ▸ ih _ _ _ _ ev149)
  | laload =>
    have dg := mv_dg hd hn
    obtain ⟨i, st, rfl, ev150⟩ := mi_popI ev
    obtain ⟨a, st, rfl, ev151⟩ := mi_popR ev150
    obtain ⟨t1, n1, g1, h1, h2, h3, h4, ev152⟩ := mi_ar ev151
    obtain ⟨x, hv, ev153⟩ := mi_lng ev152
    exact si_laload C dg h1 h2 h3 h4 (hv ▸ ih _ _ _ _ ev153)
  | daload =>
    have dg := mv_dg hd hn
    obtain ⟨i, st, rfl, ev154⟩ := mi_popI ev
    obtain ⟨a, st, rfl, ev155⟩ := mi_popR ev154
    obtain ⟨t1, n1, g1, h1, h2, h3, h4, ev156⟩ := mi_ar ev155
    obtain ⟨x, hv, ev157⟩ := mi_dbl ev156
    exact si_daload C dg h1 h2 h3 h4 (hv ▸ ih _ _ _ _ ev157)
  | iastore =>
    have dg := mv_dg hd hn
    obtain ⟨x, st, rfl, ev158⟩ := mi_popI ev
    obtain ⟨i, st, rfl, ev159⟩ := mi_popI ev158
    obtain ⟨a, st, rfl, ev160⟩ := mi_popR ev159
    obtain ⟨t1, n1, g1, h1, h2, h3, h4, ev161⟩ := mi_as ev160
    exact si_iastore C dg h1 h2 h3 h4 (ih _ _ _ _ ev161)
  | castore =>
    have dg := mv_dg hd hn
    obtain ⟨x, st, rfl, ev162⟩ := mi_popI ev
    obtain ⟨i, st, rfl, ev163⟩ := mi_popI ev162
    obtain ⟨a, st, rfl, ev164⟩ := mi_popR ev163
    obtain ⟨t1, n1, g1, h1, h2, h3, h4, ev165⟩ := mi_as ev164
    exact si_castore C dg h1 h2 h3 h4 (ih _ _ _ _ ev165)
  | bastore =>
    have dg := mv_dg hd hn
    obtain ⟨x, st, rfl, ev166⟩ := mi_popI ev
    obtain ⟨i, st, rfl, ev167⟩ := mi_popI ev166
    obtain ⟨a, st, rfl, ev168⟩ := mi_popR ev167
    obtain ⟨t1, n1, g1, h1, h2, h3, h4, ev169⟩ := mi_as ev168
    exact si_bastore C dg h1 h2 h3 h4 (ih _ _ _ _ ev169)
  | lastore =>
    have dg := mv_dg hd hn
    obtain ⟨x, st, rfl, ev170⟩ := mi_popL ev
    obtain ⟨i, st, rfl, ev171⟩ := mi_popI ev170
    obtain ⟨a, st, rfl, ev172⟩ := mi_popR ev171
    obtain ⟨t1, n1, g1, h1, h2, h3, h4, ev173⟩ := mi_as ev172
    exact si_lastore C dg h1 h2 h3 h4 (ih _ _ _ _ ev173)
  | dastore =>
    have dg := mv_dg hd hn
    obtain ⟨x, st, rfl, ev174⟩ := mi_popD ev
    obtain ⟨i, st, rfl, ev175⟩ := mi_popI ev174
    obtain ⟨a, st, rfl, ev176⟩ := mi_popR ev175
    obtain ⟨t1, n1, g1, h1, h2, h3, h4, ev177⟩ := mi_as ev176
    exact si_dastore C dg h1 h2 h3 h4 (ih _ _ _ _ ev177)
  | aastore =>
    have dg := mv_dg hd hn
    obtain ⟨b, st, rfl, ev178⟩ := mi_popR ev
    obtain ⟨i, st, rfl, ev179⟩ := mi_popI ev178
    obtain ⟨a, st, rfl, ev180⟩ := mi_popR ev179
    obtain ⟨c1, fs, C1, n1, g1, h1, h2, h3, h4, h5, ev181⟩ := mi_aa ev180
    exact si_aastore C dg h1 h2 h3 h4 h5 (ih _ _ _ _ ev181)
  | arraylength =>
    have dg := mv_dg hd hn
    obtain ⟨a, st, rfl, ev182⟩ := mi_popR ev
    obtain ⟨t1, n1, g1, h1, ev183⟩ := mi_len ev182
    exact si_alen C dg h1 (ih _ _ _ _ ev183)
  | new j =>
    have dg := mv_dg hd hn
    obtain ⟨q, hk, ev184⟩ := mi_lk ev
    have ev185 : (match q.1 with
      | 10 => mv_new h (.inl (q.2.1, mv_df q.2.1)) (mv_df q.2.1).length fun a h => k (pc + 3) ls (.ref a :: st) h
      | 11 => mv_chk (Nat.blt 0 t && Nat.ble st.length 8 && (st.all fun v => Nat.beq v.category 1) && M.2.2.2.2.2.isEmpty) (mv_raise q.2.1 h.2.1 (h.1, h.2.1 + 1, h.2.2 + 6))
      | _ => none) = some r := ev184
    split at ev185
    · next he => exact si_new C dg hk he rfl (ih _ _ _ _ ev185)
    · next he =>
      obtain ⟨h1, ev186⟩ := mi_chk ev185
      simp only [Bool.and_eq_true, Nat.ble_eq, Nat.blt_eq, List.all_eq_true] at h1
      exact si_exc C ⟨by omega, by omega⟩ dg hx h1.1.1.1 hk he h1.1.1.2 (fun v hv => Nat.eq_of_beq_eq_true (h1.1.2 v hv)) (List.isEmpty_iff.mp h1.2) (Option.some.inj ev186).symm
    · cases ev185
  | newarray ty =>
    have dg := mv_dg hd hn
    obtain ⟨n1, st, rfl, ev187⟩ := mi_popI ev
    obtain ⟨h1, h2, ev188⟩ := mi_newa ev187
    exact si_newarray C dg hx h1 h2 (ih _ _ _ _ ev188)
  | anewarray j =>
    have dg := mv_dg hd hn
    obtain ⟨n1, st, rfl, ev189⟩ := mi_popI ev
    obtain ⟨q, hk, ev190⟩ := mi_lk ev189
    obtain ⟨h0, ev191⟩ := mi_chk ev190
    obtain ⟨h1, h2, ev192⟩ := mi_newa ev191
    have hx : (match mv_look M.2.2.2.2.1 16 j with
      | some z => mv_ao z.2.1
      | none => false) = true := hx
    rw [hk] at hx
    exact si_anewarray C dg hk (Nat.eq_of_beq_eq_true h0) hx h1 h2 (ih _ _ _ _ ev192)
  | invokevirtual j =>
    have dg := mv_dg hd hn
    obtain ⟨q, hk, ev193⟩ := mi_lk ev
    have hx : (match mv_look M.2.2.2.2.1 16 j with
      | some z => Nat.beq z.1 20
      | none => true) = true := hx
    rw [hk] at hx
    obtain ⟨tg, y, n1, cr, rk⟩ := q
    have e1 : tg = 20 := Nat.eq_of_beq_eq_true hx
    subst e1
    exact si_iv C hall hcall hR ih hk ev193 dg
  | invokestatic j =>
    have dg := mv_dg hd hn
    obtain ⟨q, hk, ev194⟩ := mi_lk ev
    have hx : (match mv_look M.2.2.2.2.1 16 j with
      | some z => Nat.beq z.1 21 || Nat.beq z.1 24
      | none => true) = true := hx
    rw [hk] at hx
    obtain ⟨tg, y, n1, cr, rk⟩ := q
    have hx : (Nat.beq tg 21 || Nat.beq tg 24) = true := hx
    rw [Bool.or_eq_true] at hx
    rcases hx with hx | hx
    · have e1 : tg = 21 := Nat.eq_of_beq_eq_true hx
      subst e1
      exact si_ist C hall hcall hR ih hk ev194 dg
    · have e1 : tg = 24 := Nat.eq_of_beq_eq_true hx
      subst e1
      have ev195 : mv_inv X call M k pc ls st h 24 y n1 cr rk = some r := ev194
      rw [mv_inv] at ev195
      obtain ⟨as, rest, rfl, hlen, h8, hca, hcr, ev196⟩ := mi_args ev195
      split at ev196
      · obtain ⟨t1, m0, g0, m1, g1, c1, c2, c3, c4, c5, c6, c7, c8, ev197⟩ := mi_cpy ev196
        exact si_cpy C ⟨by omega, by omega⟩ dg hk rfl c1 c2 c3 c4 c5 c6 c7 c8 h8 hcr (ih _ _ _ _ ev197)
      · cases ev196
  | invokespecial j =>
    have dg := mv_dg hd hn
    obtain ⟨q, hk, ev198⟩ := mi_lk ev
    have hx : (match mv_look M.2.2.2.2.1 16 j with
      | some z => Nat.beq z.1 22 || Nat.beq z.1 23 || Nat.beq z.1 25
      | none => true) = true := hx
    rw [hk] at hx
    obtain ⟨tg, y, n1, cr, rk⟩ := q
    have hx : (Nat.beq tg 22 || Nat.beq tg 23 || Nat.beq tg 25) = true := hx
    rw [Bool.or_eq_true, Bool.or_eq_true] at hx
    rcases hx with (hx | hx) | hx
    · have e1 : tg = 22 := Nat.eq_of_beq_eq_true hx
      subst e1
      exact si_ii C hall hcall hR ih hk ev198 dg
    · have e1 : tg = 23 := Nat.eq_of_beq_eq_true hx
      subst e1
      have ev199 : mv_inv X call M k pc ls st h 23 y n1 cr rk = some r := ev198
      rw [mv_inv] at ev199
      obtain ⟨as, rest, rfl, hlen, h8, hca, hcr, ev200⟩ := mi_args ev199
      split at ev200
      · exact si_objinit C ⟨by omega, by omega⟩ dg hk rfl h8 hcr (ih _ _ _ _ ev200)
      · cases ev200
    · have e1 : tg = 25 := Nat.eq_of_beq_eq_true hx
      subst e1
      exact si_iu C hall hcall hR ih hk ev198 dg
  | ireturn =>
    have dg := mv_dg hd hn
    obtain ⟨x, st, rfl, ev201⟩ := mi_popI ev
    obtain ⟨h1, ev202⟩ := mi_chk ev201
    rw [Bool.and_eq_true] at h1
    have he := List.isEmpty_iff.mp h1.1
    subst he
    exact si_iret C dg h1.2 (Option.some.inj ev202).symm
  | areturn =>
    have dg := mv_dg hd hn
    obtain ⟨x, st, rfl, ev203⟩ := mi_popR ev
    obtain ⟨h1, ev204⟩ := mi_chk ev203
    rw [Bool.and_eq_true] at h1
    have he := List.isEmpty_iff.mp h1.1
    subst he
    exact si_areturn C dg (Nat.eq_of_beq_eq_true h1.2) (Option.some.inj ev204).symm
  | freturn =>
    have dg := mv_dg hd hn
    obtain ⟨x, st, rfl, ev205⟩ := mi_popF ev
    obtain ⟨h1, ev206⟩ := mi_chk ev205
    rw [Bool.and_eq_true] at h1
    have he := List.isEmpty_iff.mp h1.1
    subst he
    exact si_freturn C dg (Nat.eq_of_beq_eq_true h1.2) (Option.some.inj ev206).symm
  | dreturn =>
    have dg := mv_dg hd hn
    obtain ⟨x, st, rfl, ev207⟩ := mi_popD ev
    obtain ⟨h1, ev208⟩ := mi_chk ev207
    rw [Bool.and_eq_true] at h1
    have he := List.isEmpty_iff.mp h1.1
    subst he
    exact si_dreturn C dg (Nat.eq_of_beq_eq_true h1.2) (Option.some.inj ev208).symm
  | return_ =>
    have dg := mv_dg hd hn
    obtain ⟨h1, ev209⟩ := mi_chk ev
    rw [Bool.and_eq_true] at h1
    have he := List.isEmpty_iff.mp h1.1
    subst he
    exact si_ret C dg (Nat.eq_of_beq_eq_true h1.2) (Option.some.inj ev209).symm
  | _ => exact absurd ev (by intro z; have z : (none : Option mv_R) = some r := z; cases z)
theorem mv_simF (C : mv_Cx D l s0 a0 X p s m meth c N M) (hall : mv_All) {call : mv_G} {d : Nat} (hcall : mv_CallOK D l s0 d call) (hR : d + 9 ≤ R.frames ∧ 32 * (d + 1) + 300 ≤ R.locals) : ∀ (n pc : Nat) (ls st : List Value) (h : mv_H), mv_fu X call M n pc ls st h = some r → mv_Go D s0 p l e R s m args below meth c M r pc ls st h := by
  intro n
  induction n with
  | zero => intro pc ls st h e; cases e
  | succ n ih =>
    intro pc ls st h ev
    have ev : mv_F X call M (mv_fu X call M n) pc ls st h = some r := ev
    unfold mv_F at ev
    split at ev
    · cases ev
    · next q hq =>
      obtain ⟨i, t, sw⟩ := q
      exact mv_simE C hall hcall hR ih hq ev
end SIMG
end
section
/-! THE SMALL MACHINE'S HEAP GROWS -/
theorem mv_le1 {h d h' : mv_H} (g : mv_Le d h') (h1 : h.2.1 ≤ d.2.1 := by first | exact Nat.le_refl _ | exact Nat.le_succ _) (h2 : h.2.2 ≤ d.2.2 := by first | exact Nat.le_refl _ | exact Nat.le_add_right _ _) : mv_Le h h' := ⟨Nat.le_trans h1 g.1, Nat.le_trans h2 g.2⟩
def mv_Up (call : mv_G) : Prop := ∀ y as h r, call y as h = some r → mv_Le h r.2
theorem mv_leC {call : mv_G} (hcall : mv_Up call) {k : mv_K} {r : mv_R} (ih : ∀ pc ls st h, k pc ls st h = some r → mv_Le h r.2) {rk y pc : Nat} {as ls rest : List Value} {h : mv_H} {hs : List (Nat × Nat × Nat × Nat × Nat)} (ec : mv_cal rk call y as h (mv_thr hs pc ls k) (fun vs h' => k (pc + 3) ls (vs ++ rest) h') = some r) : mv_Le h r.2 := by
  rcases mi_cal ec with ⟨v, h1, hc, e1⟩ | ⟨x, q, h1, hc, e1⟩
  · have a := hcall _ _ _ _ hc
    have b := ih _ _ _ _ e1
    exact ⟨Nat.le_trans a.1 b.1, Nat.le_trans a.2 b.2⟩
  · have a := hcall _ _ _ _ hc
    rcases mi_thr e1 with ⟨rfl, hn⟩ | ⟨t, ht, e2⟩
    · exact a
    · have b := ih _ _ _ _ e2
      exact ⟨Nat.le_trans a.1 b.1, Nat.le_trans a.2 b.2⟩
theorem mv_leI {X : mv_X} {call : mv_G} {M : mv_M} (hcall : mv_Up call) {k : mv_K} {r : mv_R} (ih : ∀ pc ls st h, k pc ls st h = some r → mv_Le h r.2) {pc tg y n c rk : Nat} {ls st : List Value} {h : mv_H} (ev : mv_inv X call M k pc ls st h tg y n c rk = some r) : mv_Le h r.2 := by
  unfold mv_inv at ev
  split at ev
  · obtain ⟨as, rest, -, -, -, -, -, e1⟩ := mi_args ev
    obtain ⟨b, As, fs, -, -, e2⟩ := mi_rcv e1
    exact mv_leC hcall ih e2
  · obtain ⟨as, rest, -, -, -, -, -, e1⟩ := mi_args ev
    obtain ⟨b, As, fs, -, -, e2⟩ := mi_rcv e1
    exact mv_leC hcall ih e2
  · obtain ⟨as, rest, -, -, -, -, -, e1⟩ := mi_args ev
    exact mv_leC hcall ih e1
  · obtain ⟨as, rest, -, -, -, -, -, e1⟩ := mi_args ev
    obtain ⟨b, As, -, e2⟩ := mi_isr e1
    exact mv_leC hcall ih e2
  · obtain ⟨as, rest, -, -, -, -, -, e1⟩ := mi_args ev
    split at e1
    · exact ih _ _ _ _ e1
    · cases e1
  · obtain ⟨as, rest, -, -, -, -, -, e1⟩ := mi_args ev
    split at e1
    · obtain ⟨t1, m0, g0, m1, g1, c1, c2, c3, c4, c5, c6, c7, c8, e2⟩ := mi_cpy e1
      exact mv_le1 (ih _ _ _ _ e2)
    · cases e1
  · cases ev
set_option maxHeartbeats 4000000 in
theorem mv_leE {X : mv_X} {call : mv_G} {M : mv_M} (hcall : mv_Up call) {k : mv_K} {r : mv_R} (ih : ∀ pc ls st h, k pc ls st h = some r → mv_Le h r.2) {pc : Nat} {ls st : List Value} {h : mv_H} {i : Instr} {t : Nat} {sw : List (Int × Nat)} (ev : mv_E X call M k i t sw pc ls st h = some r) : mv_Le h r.2 := by
  cases i with
  | iload_n j =>
    obtain ⟨v, h1, ev1⟩ := mi_ld ev
    obtain ⟨x, rfl, ev2⟩ := mi_int ev1
    exact mv_le1 (ih _ _ _ _ ev2)
  | aload_n j =>
    obtain ⟨v, h1, ev3⟩ := mi_ld ev
    obtain ⟨x, rfl, ev4⟩ := mi_ref ev3
    exact mv_le1 (ih _ _ _ _ ev4)
  | iload j =>
    obtain ⟨v, h1, ev5⟩ := mi_ld ev
    obtain ⟨x, rfl, ev6⟩ := mi_int ev5
    exact mv_le1 (ih _ _ _ _ ev6)
  | aload j =>
    obtain ⟨v, h1, ev7⟩ := mi_ld ev
    obtain ⟨x, rfl, ev8⟩ := mi_ref ev7
    exact mv_le1 (ih _ _ _ _ ev8)
  | fload j =>
    obtain ⟨v, h1, ev9⟩ := mi_ld ev
    obtain ⟨x, rfl, ev10⟩ := mi_flt ev9
    exact mv_le1 (ih _ _ _ _ ev10)
  | dload j =>
    obtain ⟨v, h1, ev11⟩ := mi_ld ev
    obtain ⟨x, rfl, ev12⟩ := mi_dbl ev11
    exact mv_le1 (ih _ _ _ _ ev12)
  | istore_n j =>
    obtain ⟨x, st, rfl, ev13⟩ := mi_popI ev
    obtain ⟨h1, h2, ev14⟩ := mi_st ev13
    exact mv_le1 (ih _ _ _ _ ev14)
  | istore j =>
    obtain ⟨x, st, rfl, ev15⟩ := mi_popI ev
    obtain ⟨h1, h2, ev16⟩ := mi_st ev15
    exact mv_le1 (ih _ _ _ _ ev16)
  | astore_n j =>
    obtain ⟨x, st, rfl, ev17⟩ := mi_popR ev
    obtain ⟨h1, h2, ev18⟩ := mi_st ev17
    exact mv_le1 (ih _ _ _ _ ev18)
  | astore j =>
    obtain ⟨x, st, rfl, ev19⟩ := mi_popR ev
    obtain ⟨h1, h2, ev20⟩ := mi_st ev19
    exact mv_le1 (ih _ _ _ _ ev20)
  | fstore j =>
    obtain ⟨x, st, rfl, ev21⟩ := mi_popF ev
    obtain ⟨h1, h2, ev22⟩ := mi_st ev21
    exact mv_le1 (ih _ _ _ _ ev22)
  | dstore j =>
    obtain ⟨x, st, rfl, ev23⟩ := mi_popD ev
    obtain ⟨h1, h2, h3, ev24⟩ := mi_st2 ev23
    exact mv_le1 (ih _ _ _ _ ev24)
  | iinc j n =>
    obtain ⟨v, h1, ev25⟩ := mi_ld ev
    obtain ⟨x, rfl, ev26⟩ := mi_int ev25
    obtain ⟨h2, h3, ev27⟩ := mi_st ev26
    exact mv_le1 (ih _ _ _ _ ev27)
  | iconst n =>
    exact mv_le1 (ih _ _ _ _ ev)
  | bipush n =>
    exact mv_le1 (ih _ _ _ _ ev)
  | sipush n =>
    exact mv_le1 (ih _ _ _ _ ev)
  | lconst n =>
    exact mv_le1 (ih _ _ _ _ ev)
  | fconst n =>
    exact mv_le1 (ih _ _ _ _ ev)
  | dconst n =>
    exact mv_le1 (ih _ _ _ _ ev)
  | ldc j =>
    cases sw with
    | cons q sw =>
      exact mv_le1 (ih _ _ _ _ ev)
    | nil =>
      obtain ⟨q, hk, ev28⟩ := mi_lk ev
      obtain ⟨h1, ev29⟩ := mi_chk ev28
      exact mv_le1 (ih _ _ _ _ ev29)
  | ldc_w j =>
    cases sw with
    | cons q sw =>
      exact mv_le1 (ih _ _ _ _ ev)
    | nil =>
      obtain ⟨q, hk, ev30⟩ := mi_lk ev
      obtain ⟨h1, ev31⟩ := mi_chk ev30
      exact mv_le1 (ih _ _ _ _ ev31)
  | iadd =>
    obtain ⟨y, st, rfl, ev32⟩ := mi_popI ev
    obtain ⟨x, st, rfl, ev33⟩ := mi_popI ev32
    exact mv_le1 (ih _ _ _ _ ev33)
  | isub =>
    obtain ⟨y, st, rfl, ev34⟩ := mi_popI ev
    obtain ⟨x, st, rfl, ev35⟩ := mi_popI ev34
    exact mv_le1 (ih _ _ _ _ ev35)
  | imul =>
    obtain ⟨y, st, rfl, ev36⟩ := mi_popI ev
    obtain ⟨x, st, rfl, ev37⟩ := mi_popI ev36
    exact mv_le1 (ih _ _ _ _ ev37)
  | iand =>
    obtain ⟨y, st, rfl, ev38⟩ := mi_popI ev
    obtain ⟨x, st, rfl, ev39⟩ := mi_popI ev38
    exact mv_le1 (ih _ _ _ _ ev39)
  | ior =>
    obtain ⟨y, st, rfl, ev40⟩ := mi_popI ev
    obtain ⟨x, st, rfl, ev41⟩ := mi_popI ev40
    exact mv_le1 (ih _ _ _ _ ev41)
  | ixor =>
    obtain ⟨y, st, rfl, ev42⟩ := mi_popI ev
    obtain ⟨x, st, rfl, ev43⟩ := mi_popI ev42
    exact mv_le1 (ih _ _ _ _ ev43)
  | ishl =>
    obtain ⟨y, st, rfl, ev44⟩ := mi_popI ev
    obtain ⟨x, st, rfl, ev45⟩ := mi_popI ev44
    exact mv_le1 (ih _ _ _ _ ev45)
  | ishr =>
    obtain ⟨y, st, rfl, ev46⟩ := mi_popI ev
    obtain ⟨x, st, rfl, ev47⟩ := mi_popI ev46
    exact mv_le1 (ih _ _ _ _ ev47)
  | iushr =>
    obtain ⟨y, st, rfl, ev48⟩ := mi_popI ev
    obtain ⟨x, st, rfl, ev49⟩ := mi_popI ev48
    exact mv_le1 (ih _ _ _ _ ev49)
  | idiv =>
    obtain ⟨y, st, rfl, ev50⟩ := mi_popI ev
    obtain ⟨x, st, rfl, ev51⟩ := mi_popI ev50
    by_cases hy : y = 0
    · rw [if_pos hy] at ev51; cases ev51
    · rw [if_neg hy] at ev51; exact mv_le1 (ih _ _ _ _ ev51)
  | irem =>
    obtain ⟨y, st, rfl, ev52⟩ := mi_popI ev
    obtain ⟨x, st, rfl, ev53⟩ := mi_popI ev52
    by_cases hy : y = 0
    · rw [if_pos hy] at ev53; cases ev53
    · rw [if_neg hy] at ev53; exact mv_le1 (ih _ _ _ _ ev53)
  | ineg =>
    obtain ⟨x, st, rfl, ev54⟩ := mi_popI ev
    exact mv_le1 (ih _ _ _ _ ev54)
  | i2l =>
    obtain ⟨x, st, rfl, ev55⟩ := mi_popI ev
    exact mv_le1 (ih _ _ _ _ ev55)
  | i2b =>
    obtain ⟨x, st, rfl, ev56⟩ := mi_popI ev
    exact mv_le1 (ih _ _ _ _ ev56)
  | i2c =>
    obtain ⟨x, st, rfl, ev57⟩ := mi_popI ev
    exact mv_le1 (ih _ _ _ _ ev57)
  | i2d =>
    obtain ⟨x, st, rfl, ev58⟩ := mi_popI ev
    exact mv_le1 (ih _ _ _ _ ev58)
  | i2f =>
    obtain ⟨x, st, rfl, ev59⟩ := mi_popI ev
    exact mv_le1 (ih _ _ _ _ ev59)
  | f2d =>
    obtain ⟨x, st, rfl, ev60⟩ := mi_popF ev
    obtain ⟨h1, ev61⟩ := mi_chk ev60
    exact mv_le1 (ih _ _ _ _ ev61)
  | ddiv =>
    obtain ⟨y, st, rfl, ev62⟩ := mi_popD ev
    obtain ⟨x, st, rfl, ev63⟩ := mi_popD ev62
    obtain ⟨h1, ev64⟩ := mi_chk ev63
    exact mv_le1 (ih _ _ _ _ ev64)
  | fdiv =>
    obtain ⟨y, st, rfl, ev65⟩ := mi_popF ev
    obtain ⟨x, st, rfl, ev66⟩ := mi_popF ev65
    obtain ⟨h1, ev67⟩ := mi_chk ev66
    exact mv_le1 (ih _ _ _ _ ev67)
  | lcmp =>
    obtain ⟨y, st, rfl, ev68⟩ := mi_popL ev
    obtain ⟨x, st, rfl, ev69⟩ := mi_popL ev68
    exact mv_le1 (ih _ _ _ _ ev69)
  | dcmp o =>
    obtain ⟨y, st, rfl, ev70⟩ := mi_popD ev
    obtain ⟨x, st, rfl, ev71⟩ := mi_popD ev70
    exact mv_le1 (ih _ _ _ _ ev71)
  | fcmp o =>
    obtain ⟨y, st, rfl, ev72⟩ := mi_popF ev
    obtain ⟨x, st, rfl, ev73⟩ := mi_popF ev72
    exact mv_le1 (ih _ _ _ _ ev73)
  | dup =>
    obtain ⟨v, st, rfl, h1, ev74⟩ := mi_pop1 ev
    exact mv_le1 (ih _ _ _ _ ev74)
  | pop =>
    obtain ⟨v, st, rfl, h1, ev75⟩ := mi_pop1 ev
    exact mv_le1 (ih _ _ _ _ ev75)
  | dup_x1 =>
    obtain ⟨v, st, rfl, h1, ev76⟩ := mi_pop1 ev
    obtain ⟨w, st, rfl, h2, ev77⟩ := mi_pop1 ev76
    exact mv_le1 (ih _ _ _ _ ev77)
  | dup2 =>
    obtain ⟨v, st, rfl, h1, ev78⟩ := mi_pop1 ev
    obtain ⟨w, st, rfl, h2, ev79⟩ := mi_pop1 ev78
    exact mv_le1 (ih _ _ _ _ ev79)
  | goto o =>
    exact mv_le1 (ih _ _ _ _ ev)
  | ifCond cd o =>
    obtain ⟨x, st, rfl, ev80⟩ := mi_popI ev
    cases cd with
    | eq =>
      by_cases hc : x = 0
      · have ev81 : (if x = 0 then _ else _) = some r := ev80
        rw [if_pos hc] at ev81; exact mv_le1 (ih _ _ _ _ ev81)
      · have ev82 : (if x = 0 then _ else _) = some r := ev80
        rw [if_neg hc] at ev82; exact mv_le1 (ih _ _ _ _ ev82)
    | ne =>
      by_cases hc : x = 0
      · have ev83 : (if x = 0 then _ else _) = some r := ev80
        rw [if_pos hc] at ev83; exact mv_le1 (ih _ _ _ _ ev83)
      · have ev84 : (if x = 0 then _ else _) = some r := ev80
        rw [if_neg hc] at ev84; exact mv_le1 (ih _ _ _ _ ev84)
    | lt =>
      by_cases hc : x < 0
      · have ev85 : (if x < 0 then _ else _) = some r := ev80
        rw [if_pos hc] at ev85; exact mv_le1 (ih _ _ _ _ ev85)
      · have ev86 : (if x < 0 then _ else _) = some r := ev80
        rw [if_neg hc] at ev86; exact mv_le1 (ih _ _ _ _ ev86)
    | ge =>
      by_cases hc : 0 ≤ x
      · have ev87 : (if 0 ≤ x then _ else _) = some r := ev80
        rw [if_pos hc] at ev87; exact mv_le1 (ih _ _ _ _ ev87)
      · have ev88 : (if 0 ≤ x then _ else _) = some r := ev80
        rw [if_neg hc] at ev88; exact mv_le1 (ih _ _ _ _ ev88)
    | gt =>
      by_cases hc : 0 < x
      · have ev89 : (if 0 < x then _ else _) = some r := ev80
        rw [if_pos hc] at ev89; exact mv_le1 (ih _ _ _ _ ev89)
      · have ev90 : (if 0 < x then _ else _) = some r := ev80
        rw [if_neg hc] at ev90; exact mv_le1 (ih _ _ _ _ ev90)
    | le =>
      by_cases hc : x ≤ 0
      · have ev91 : (if x ≤ 0 then _ else _) = some r := ev80
        rw [if_pos hc] at ev91; exact mv_le1 (ih _ _ _ _ ev91)
      · have ev92 : (if x ≤ 0 then _ else _) = some r := ev80
        rw [if_neg hc] at ev92; exact mv_le1 (ih _ _ _ _ ev92)
  | if_icmp cd o =>
    obtain ⟨y, st, rfl, ev93⟩ := mi_popI ev
    obtain ⟨x, st, rfl, ev94⟩ := mi_popI ev93
    cases cd with
    | eq =>
      by_cases hc : x = y
      · have ev95 : (if x = y then _ else _) = some r := ev94
        rw [if_pos hc] at ev95; exact mv_le1 (ih _ _ _ _ ev95)
      · have ev96 : (if x = y then _ else _) = some r := ev94
        rw [if_neg hc] at ev96; exact mv_le1 (ih _ _ _ _ ev96)
    | ne =>
      by_cases hc : x = y
      · have ev97 : (if x = y then _ else _) = some r := ev94
        rw [if_pos hc] at ev97; exact mv_le1 (ih _ _ _ _ ev97)
      · have ev98 : (if x = y then _ else _) = some r := ev94
        rw [if_neg hc] at ev98; exact mv_le1 (ih _ _ _ _ ev98)
    | lt =>
      by_cases hc : x < y
      · have ev99 : (if x < y then _ else _) = some r := ev94
        rw [if_pos hc] at ev99; exact mv_le1 (ih _ _ _ _ ev99)
      · have ev100 : (if x < y then _ else _) = some r := ev94
        rw [if_neg hc] at ev100; exact mv_le1 (ih _ _ _ _ ev100)
    | ge =>
      by_cases hc : y ≤ x
      · have ev101 : (if y ≤ x then _ else _) = some r := ev94
        rw [if_pos hc] at ev101; exact mv_le1 (ih _ _ _ _ ev101)
      · have ev102 : (if y ≤ x then _ else _) = some r := ev94
        rw [if_neg hc] at ev102; exact mv_le1 (ih _ _ _ _ ev102)
    | gt =>
      by_cases hc : y < x
      · have ev103 : (if y < x then _ else _) = some r := ev94
        rw [if_pos hc] at ev103; exact mv_le1 (ih _ _ _ _ ev103)
      · have ev104 : (if y < x then _ else _) = some r := ev94
        rw [if_neg hc] at ev104; exact mv_le1 (ih _ _ _ _ ev104)
    | le =>
      by_cases hc : x ≤ y
      · have ev105 : (if x ≤ y then _ else _) = some r := ev94
        rw [if_pos hc] at ev105; exact mv_le1 (ih _ _ _ _ ev105)
      · have ev106 : (if x ≤ y then _ else _) = some r := ev94
        rw [if_neg hc] at ev106; exact mv_le1 (ih _ _ _ _ ev106)
  | tableswitch d lo hi offs =>
    obtain ⟨x, st, rfl, ev107⟩ := mi_popI ev
    obtain ⟨tg, ht, ev108⟩ := mi_sw ev107
    exact mv_le1 (ih _ _ _ _ ev108)
  | lookupswitch d ps =>
    obtain ⟨x, st, rfl, ev109⟩ := mi_popI ev
    obtain ⟨tg, ht, ev110⟩ := mi_sw ev109
    exact mv_le1 (ih _ _ _ _ ev110)
  | getfield j =>
    obtain ⟨a, st, rfl, ev111⟩ := mi_popR ev
    obtain ⟨q, hk, ev112⟩ := mi_lk ev111
    obtain ⟨h1, ev113⟩ := mi_chk ev112
    have h1 := Nat.eq_of_beq_eq_true h1
    have ev114 : (match q.2.2.2.1 with
      | 2 => mv_gR X h a q.2.1 q.2.2.1 fun x => k (pc + 3) ls (.ref x :: st) h
      | _ => mv_gI X h a q.2.1 q.2.2.1 fun x => k (pc + 3) ls (.int x :: st) h) = some r := ev113
    split at ev114
    · obtain ⟨fs, v, h2, h3, ev115⟩ := mi_gf ev114
      obtain ⟨x, rfl, ev116⟩ := mi_ref ev115
      exact mv_le1 (ih _ _ _ _ ev116)
    · obtain ⟨fs, v, h2, h3, ev117⟩ := mi_gf ev114
      obtain ⟨x, rfl, ev118⟩ := mi_int ev117
      exact mv_le1 (ih _ _ _ _ ev118)
  | putfield j =>
    obtain ⟨q, hk, ev119⟩ := mi_lk ev
    obtain ⟨h1, ev120⟩ := mi_chk ev119
    have h1 := Nat.eq_of_beq_eq_true h1
    have ev121 : (match q.2.2.2.1 with
      | 2 => mv_popR st fun x st => mv_popR st fun a st => mv_pf h a q.2.1 q.2.2.1 (.ref x) fun h => k (pc + 3) ls st h
      | t => mv_popI st fun x st => mv_popR st fun a st => mv_chk (mv_ok t x) (mv_pf h a q.2.1 q.2.2.1 (.int x) fun h => k (pc + 3) ls st h)) = some r := ev120
    split at ev121
    · next he =>
      obtain ⟨x, st, rfl, ev122⟩ := mi_popR ev121
      obtain ⟨a, st, rfl, ev123⟩ := mi_popR ev122
      obtain ⟨fs, h2, h3, ev124⟩ := mi_pf ev123
      exact mv_le1 (ih _ _ _ _ ev124)
    · obtain ⟨x, st, rfl, ev125⟩ := mi_popI ev121
      obtain ⟨a, st, rfl, ev126⟩ := mi_popR ev125
      obtain ⟨h4, ev127⟩ := mi_chk ev126
      obtain ⟨fs, h2, h3, ev128⟩ := mi_pf ev127
      exact mv_le1 (ih _ _ _ _ ev128)
  | getstatic j =>
    obtain ⟨q, hk, ev129⟩ := mi_lk ev
    obtain ⟨h1, ev130⟩ := mi_chk ev129
    have h1 := Nat.eq_of_beq_eq_true h1
    have ev131 : (match q.2.2.1 with
      | 2 => mv_ref (X.2.2 q.2.1) fun x => k (pc + 3) ls (.ref x :: st) h
      | 9 => mv_chk (mv_nr (X.2.2 q.2.1)) (k (pc + 3) ls (X.2.2 q.2.1 :: st) h)
      | _ => mv_int (X.2.2 q.2.1) fun x => k (pc + 3) ls (.int x :: st) h) = some r := ev130
    split at ev131
    · obtain ⟨x, hv, ev132⟩ := mi_ref ev131
      exact mv_le1 (ih _ _ _ _ ev132)
    · obtain ⟨-, ev132b⟩ := mi_chk ev131
      exact mv_le1 (ih _ _ _ _ ev132b)
    · obtain ⟨x, hv, ev133⟩ := mi_int ev131
      exact mv_le1 (ih _ _ _ _ ev133)
  | iaload =>
    obtain ⟨i, st, rfl, ev134⟩ := mi_popI ev
    obtain ⟨a, st, rfl, ev135⟩ := mi_popR ev134
    obtain ⟨t1, n1, g1, h1, h2, h3, h4, ev136⟩ := mi_ar ev135
    obtain ⟨x, hv, ev137⟩ := mi_int ev136
    exact mv_le1 (ih _ _ _ _ ev137)
  | caload =>
    obtain ⟨i, st, rfl, ev138⟩ := mi_popI ev
    obtain ⟨a, st, rfl, ev139⟩ := mi_popR ev138
    obtain ⟨t1, n1, g1, h1, h2, h3, h4, ev140⟩ := mi_ar ev139
    obtain ⟨x, hv, ev141⟩ := mi_int ev140
    exact mv_le1 (ih _ _ _ _ ev141)
  | baload =>
    obtain ⟨i, st, rfl, ev142⟩ := mi_popI ev
    obtain ⟨a, st, rfl, ev143⟩ := mi_popR ev142
    obtain ⟨t1, n1, g1, h1, h2, h3, h4, ev144⟩ := mi_ar ev143
    obtain ⟨x, hv, ev145⟩ := mi_int ev144
    exact mv_le1 (ih _ _ _ _ ev145)
  | aaload =>
    obtain ⟨i, st, rfl, ev146⟩ := mi_popI ev
    obtain ⟨a, st, rfl, ev147⟩ := mi_popR ev146
    obtain ⟨t1, n1, g1, h1, h2, h3, h4, ev148⟩ := mi_ar ev147
    obtain ⟨x, hv, ev149⟩ := mi_ref ev148
    exact mv_le1 (ih _ _ _ _ ev149)
  | laload =>
    obtain ⟨i, st, rfl, ev150⟩ := mi_popI ev
    obtain ⟨a, st, rfl, ev151⟩ := mi_popR ev150
    obtain ⟨t1, n1, g1, h1, h2, h3, h4, ev152⟩ := mi_ar ev151
    obtain ⟨x, hv, ev153⟩ := mi_lng ev152
    exact mv_le1 (ih _ _ _ _ ev153)
  | daload =>
    obtain ⟨i, st, rfl, ev154⟩ := mi_popI ev
    obtain ⟨a, st, rfl, ev155⟩ := mi_popR ev154
    obtain ⟨t1, n1, g1, h1, h2, h3, h4, ev156⟩ := mi_ar ev155
    obtain ⟨x, hv, ev157⟩ := mi_dbl ev156
    exact mv_le1 (ih _ _ _ _ ev157)
  | iastore =>
    obtain ⟨x, st, rfl, ev158⟩ := mi_popI ev
    obtain ⟨i, st, rfl, ev159⟩ := mi_popI ev158
    obtain ⟨a, st, rfl, ev160⟩ := mi_popR ev159
    obtain ⟨t1, n1, g1, h1, h2, h3, h4, ev161⟩ := mi_as ev160
    exact mv_le1 (ih _ _ _ _ ev161)
  | castore =>
    obtain ⟨x, st, rfl, ev162⟩ := mi_popI ev
    obtain ⟨i, st, rfl, ev163⟩ := mi_popI ev162
    obtain ⟨a, st, rfl, ev164⟩ := mi_popR ev163
    obtain ⟨t1, n1, g1, h1, h2, h3, h4, ev165⟩ := mi_as ev164
    exact mv_le1 (ih _ _ _ _ ev165)
  | bastore =>
    obtain ⟨x, st, rfl, ev166⟩ := mi_popI ev
    obtain ⟨i, st, rfl, ev167⟩ := mi_popI ev166
    obtain ⟨a, st, rfl, ev168⟩ := mi_popR ev167
    obtain ⟨t1, n1, g1, h1, h2, h3, h4, ev169⟩ := mi_as ev168
    exact mv_le1 (ih _ _ _ _ ev169)
  | lastore =>
    obtain ⟨x, st, rfl, ev170⟩ := mi_popL ev
    obtain ⟨i, st, rfl, ev171⟩ := mi_popI ev170
    obtain ⟨a, st, rfl, ev172⟩ := mi_popR ev171
    obtain ⟨t1, n1, g1, h1, h2, h3, h4, ev173⟩ := mi_as ev172
    exact mv_le1 (ih _ _ _ _ ev173)
  | dastore =>
    obtain ⟨x, st, rfl, ev174⟩ := mi_popD ev
    obtain ⟨i, st, rfl, ev175⟩ := mi_popI ev174
    obtain ⟨a, st, rfl, ev176⟩ := mi_popR ev175
    obtain ⟨t1, n1, g1, h1, h2, h3, h4, ev177⟩ := mi_as ev176
    exact mv_le1 (ih _ _ _ _ ev177)
  | aastore =>
    obtain ⟨b, st, rfl, ev178⟩ := mi_popR ev
    obtain ⟨i, st, rfl, ev179⟩ := mi_popI ev178
    obtain ⟨a, st, rfl, ev180⟩ := mi_popR ev179
    obtain ⟨c1, fs, C1, n1, g1, h1, h2, h3, h4, h5, ev181⟩ := mi_aa ev180
    exact mv_le1 (ih _ _ _ _ ev181)
  | arraylength =>
    obtain ⟨a, st, rfl, ev182⟩ := mi_popR ev
    obtain ⟨t1, n1, g1, h1, ev183⟩ := mi_len ev182
    exact mv_le1 (ih _ _ _ _ ev183)
  | new j =>
    obtain ⟨q, hk, ev184⟩ := mi_lk ev
    have ev185 : (match q.1 with
      | 10 => mv_new h (.inl (q.2.1, mv_df q.2.1)) (mv_df q.2.1).length fun a h => k (pc + 3) ls (.ref a :: st) h
      | 11 => mv_chk (Nat.blt 0 t && Nat.ble st.length 8 && (st.all fun v => Nat.beq v.category 1) && M.2.2.2.2.2.isEmpty) (mv_raise q.2.1 h.2.1 (h.1, h.2.1 + 1, h.2.2 + 6))
      | _ => none) = some r := ev184
    split at ev185
    · next he => exact mv_le1 (ih _ _ _ _ ev185)
    · next he =>
      obtain ⟨h1, ev186⟩ := mi_chk ev185
      simp only [Bool.and_eq_true, Nat.ble_eq, Nat.blt_eq, List.all_eq_true] at h1
      cases ev186; exact ⟨Nat.le_succ _, Nat.le_add_right _ _⟩
    · cases ev185
  | newarray ty =>
    obtain ⟨n1, st, rfl, ev187⟩ := mi_popI ev
    obtain ⟨h1, h2, ev188⟩ := mi_newa ev187
    exact mv_le1 (ih _ _ _ _ ev188)
  | anewarray j =>
    obtain ⟨n1, st, rfl, ev189⟩ := mi_popI ev
    obtain ⟨q, hk, ev190⟩ := mi_lk ev189
    obtain ⟨h0, ev191⟩ := mi_chk ev190
    obtain ⟨h1, h2, ev192⟩ := mi_newa ev191
    exact mv_le1 (ih _ _ _ _ ev192)
  | invokevirtual j =>
    obtain ⟨q, hk, e1⟩ := mi_lk ev
    exact mv_leI hcall ih e1
  | invokestatic j =>
    obtain ⟨q, hk, e1⟩ := mi_lk ev
    exact mv_leI hcall ih e1
  | invokespecial j =>
    obtain ⟨q, hk, e1⟩ := mi_lk ev
    exact mv_leI hcall ih e1
  | ireturn =>
    obtain ⟨x, st, rfl, ev201⟩ := mi_popI ev
    obtain ⟨h1, ev202⟩ := mi_chk ev201
    rw [Bool.and_eq_true] at h1
    have he := List.isEmpty_iff.mp h1.1
    subst he
    cases ev202; exact ⟨Nat.le_refl _, Nat.le_refl _⟩
  | areturn =>
    obtain ⟨x, st, rfl, ev203⟩ := mi_popR ev
    obtain ⟨h1, ev204⟩ := mi_chk ev203
    rw [Bool.and_eq_true] at h1
    have he := List.isEmpty_iff.mp h1.1
    subst he
    cases ev204; exact ⟨Nat.le_refl _, Nat.le_refl _⟩
  | freturn =>
    obtain ⟨x, st, rfl, ev205⟩ := mi_popF ev
    obtain ⟨h1, ev206⟩ := mi_chk ev205
    rw [Bool.and_eq_true] at h1
    have he := List.isEmpty_iff.mp h1.1
    subst he
    cases ev206; exact ⟨Nat.le_refl _, Nat.le_refl _⟩
  | dreturn =>
    obtain ⟨x, st, rfl, ev207⟩ := mi_popD ev
    obtain ⟨h1, ev208⟩ := mi_chk ev207
    rw [Bool.and_eq_true] at h1
    have he := List.isEmpty_iff.mp h1.1
    subst he
    cases ev208; exact ⟨Nat.le_refl _, Nat.le_refl _⟩
  | return_ =>
    obtain ⟨h1, ev209⟩ := mi_chk ev
    rw [Bool.and_eq_true] at h1
    have he := List.isEmpty_iff.mp h1.1
    subst he
    cases ev209; exact ⟨Nat.le_refl _, Nat.le_refl _⟩
  | _ => exact absurd ev (by intro z; have z : (none : Option mv_R) = some r := z; cases z)

theorem mv_leF {X : mv_X} {call : mv_G} {M : mv_M} (hcall : mv_Up call) {r : mv_R} : ∀ (n pc : Nat) (ls st : List Value) (h : mv_H), mv_fu X call M n pc ls st h = some r → mv_Le h r.2 := by
  intro n
  induction n with
  | zero => intro pc ls st h e; cases e
  | succ n ih =>
    intro pc ls st h ev
    have ev : mv_F X call M (mv_fu X call M n) pc ls st h = some r := ev
    unfold mv_F at ev
    split at ev
    · cases ev
    · next q hq => exact mv_leE hcall ih ev
theorem mv_leM (X : mv_X) : ∀ d, mv_Up (mv_call X d) := by
  intro d
  induction d with
  | zero => intro y as h r e; cases e
  | succ d ih =>
    intro y as h r e
    have e : (match mv_look mv_tab 16 y with
      | some M => mv_chk (Nat.ble as.length M.1) (mv_run X (mv_call X d) M 0 (as ++ List.replicate (M.1 - as.length) (.retAddr 0)) [] h)
      | none => none) = some r := e
    split at e
    · obtain ⟨-, e⟩ := mi_chk e
      obtain ⟨n, e⟩ := mv_run_iff.mp e
      exact mv_leF ih n _ _ _ _ e
    · cases e
/-! ALL METHODS, AT EVERY DEPTH -/
theorem mv_lr0 {as : List Value} {n : Nat} {w : Bool} (hn : as.length ≤ n) (hc : ∀ v ∈ as, v.category = 1) : mv_lr w n (as ++ List.replicate (n - as.length) (.retAddr 0)) ((lg_sl as ++ List.replicate (n - (lg_sl as).length) Slot.unset).toArray) := by
  have hl : ∀ vs : List Value, (∀ v ∈ vs, v.category = 1) → lg_sl vs = vs.map Slot.val := fun vs => by
    induction vs with
    | nil => intro _; rfl
    | cons v vs ih =>
      intro h
      have h1 := h v List.mem_cons_self
      have h2 := ih fun w hw => h w (List.mem_cons_of_mem _ hw)
      show (if v.category = 2 then [Slot.val v, Slot.second] else [Slot.val v]) ++ lg_sl vs = _
      rw [if_neg (by omega), h2]
      rfl
  have hlen : (lg_sl as).length = as.length := by rw [hl as hc, List.length_map]
  have ha : ∀ (vs : List Value) (i k : Nat) (v : Value), (∀ v ∈ vs, v.category = 1) → vs[k]? = some v → (i + k, v) ∈ lv_args i vs := fun vs => by
    induction vs with
    | nil => intro i k v _ h; simp at h
    | cons w vs ih =>
      intro i k v h hk
      have h1 := h w List.mem_cons_self
      have e : lv_args i (w :: vs) = (i, w) :: lv_args (i + 1) vs := by
        show (i, w) :: lv_args (if w.category = 2 then i + 2 else i + 1) vs = _
        rw [if_neg (by omega)]
      rw [e]
      cases k with
      | zero =>
        simp only [List.getElem?_cons_zero, Option.some.injEq] at hk
        subst hk
        exact List.mem_cons_self
      | succ k =>
        simp only [List.getElem?_cons_succ] at hk
        have := ih (i + 1) k v (fun z hz => h z (List.mem_cons_of_mem _ hz)) hk
        rw [show i + (k + 1) = i + 1 + k by omega]
        exact List.mem_cons_of_mem _ this
  have h0 := lv_entry as (n := n) (by omega)
  refine ⟨by rw [List.length_append, List.length_replicate]; omega, ⟨h0.1, h0.2.1, fun q hq => ?_⟩, fun _ v hv => ?_⟩
  · obtain ⟨i, v⟩ := q
    obtain ⟨h1, h2⟩ := mv_mem_prs.mp hq
    by_cases hi : i < as.length
    · rw [List.getElem?_append_left hi] at h1
      have := ha as 0 i v hc h1
      rw [Nat.zero_add] at this
      exact h0.2.2 _ this
    · rw [List.getElem?_append_right (by omega)] at h1
      have := List.mem_of_getElem? h1
      rw [List.mem_replicate] at this
      rw [this.2] at h2
      cases h2
  · rcases List.mem_append.mp hv with hv | hv
    · exact hc v hv
    · rw [List.mem_replicate] at hv
      rw [hv.2]
      rfl
def mv_Len : Prop := ∀ y N M, mv_look mv_mt 16 y = some N → mv_look mv_tab 16 y = some M → plainName N.1.cls = true
theorem mv_simM {D : va_G} {l : Launch} {s0 : State} {a0 : Array Value} {X : mv_X} (G : mv_GL D l s0 a0 X) (hall : mv_All) (hpl : mv_Len) : ∀ d, mv_CallOK D l s0 d (mv_call X d) := by
  intro d
  induction d with
  | zero => intro y as h r e; cases e
  | succ d ih =>
    intro y as h r e
    refine ⟨mv_leM X (d + 1) y as h r e, ?_⟩
    have e : (match mv_look mv_tab 16 y with
      | some M => mv_chk (Nat.ble as.length M.1) (mv_run X (mv_call X d) M 0 (as ++ List.replicate (M.1 - as.length) (.retAddr 0)) [] h)
      | none => none) = some r := e
    cases hM : mv_look mv_tab 16 y with
    | none => rw [hM] at e; cases e
    | some M =>
      rw [hM] at e
      refine ⟨⟨M, rfl⟩, fun N M' hN hM' hca => ?_⟩
      cases hM'
      obtain ⟨hb, e⟩ := mi_chk e
      have hb := Nat.ble_eq.mp hb
      obtain ⟨n, e⟩ := mv_run_iff.mp e
      have hg := hall y N M hN hM
      have hple := hpl y N M hN hM
      have key : ∀ p e s m args below meth c s₁, BodyLoose p l N.1 (headSpec [mv_cw N M] (mv_rm (d + 1) (r.2.2.1 - h.2.1) (r.2.2.2 - h.2.2))) N.2.1 M.1 N.2.2.1 e s m args below meth c s₁ → c.maxLocals = M.1 → c.exceptionTable.toList = tableOf N.2.2.2 → mv_Pc D s0 as h args s →
          W p l e (headSpec [mv_cw N M] (mv_rm (d + 1) (r.2.2.1 - h.2.1) (r.2.2.2 - h.2.2))).room s m args below meth c s.heap [] 0 0 (vx_MQ below (mv_Qc D s0 r) (mv_XC D s0 r) args s (r.2.2.1 - h.2.1) (r.2.2.2 - h.2.2) (fun q => s0.heap.size ≤ q)) (entryFrame m args M.1) := by
        intro p e9 s m args below meth c s₁ B hml ht hP
        have C : mv_Cx D l s0 a0 X p s m meth c N M := ⟨G, B.exec, hP.2.1, B.bytes, hml, B.returns, findClass_of_methodNamed B.named, B.notSynchronized, (name_of_methodNamed B.named B.method).1, ht, hg, by have := hP.2.2.1; have := hP.2.2.2.1; omega, hP.2.2.2.2.1⟩
        rw [hP.1, lg_entry_eq]
        exact (mv_simF C hall ih ⟨Nat.le_refl _, Nat.le_refl _⟩ n 0 _ [] h e).2 s.heap [] 0 0 _ _ _ hP.2.2 (mv_lr0 hb hca) (fun q hq => nomatch hq) (Nat.le_of_eq hP.2.2.1) (by omega) (by omega) (Nat.le_refl _) (Nat.le_refl _)
      cases hh : N.2.2.2 with
      | nil =>
        have hw : [mv_cw N M] = Cond.code N.1 N.2.1 M.1 N.2.2.1 :: [] := by unfold mv_cw; rw [hh]
        refine vx_ofW hple hw fun p e9 s m args below meth c s₁ B hml ht hP => key p e9 s m args below meth c s₁ B hml ?_ hP
        rw [hh]
        cases hc : c.exceptionTable.toList with
        | nil => rfl
        | cons x z => exact (ht x (by rw [hc]; exact List.mem_cons_self)).elim
      | cons z zs =>
        have hw : [mv_cw N M] = Cond.codeWith N.1 N.2.1 M.1 N.2.2.1 (z :: zs) :: [] := by unfold mv_cw; rw [hh]
        refine vx_ofWH hple hw fun p e9 s m args below meth c s₁ B hml hP => key p e9 s m args below meth c s₁ B hml ?_ hP
        rw [hh]
        exact vx_table (x := N.1) B (atoms_spec (ws := [mv_cw N M]) B.pre _ (by rw [hw]; exact List.mem_cons_self))
end
section
theorem mv_test : 1 + 1 = 2 := rfl
end
