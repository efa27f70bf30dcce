section
/-! PART A of the skeleton -/
/-- a private method of a class that the tables say can be made, by its rows of tables_1 -/
def lw_okq (q : MethodName × Nat) : Prop := (q.1.cls ≠ "java/lang/invoke/MethodHandle" ∧ q.1.cls ≠ "java/lang/invoke/VarHandle") ∧ Cond.instantiable q.1.cls q.2 ∈ tables_1 ∧ Cond.privateMethod q.1 ∈ tables_1 ∧ Cond.instanceMethod q.1 ∈ tables_1
theorem lw_p0 : lw_okq (⟨"java/lang/Throwable", "fillInStackTrace", "(I)Ljava/lang/Throwable;"⟩, 6) := ⟨⟨by decide +kernel, by decide +kernel⟩, List.mem_of_getElem? (i := 289) (by decide +kernel), List.mem_of_getElem? (i := 287) (by decide +kernel), List.mem_of_getElem? (i := 288) (by decide +kernel)⟩
theorem lw_p1 : lw_okq (⟨"PascalDesk$Reader", "body", "(I)V"⟩, 6) := ⟨⟨by decide +kernel, by decide +kernel⟩, List.mem_of_getElem? (i := 27) (by decide +kernel), List.mem_of_getElem? (i := 362) (by decide +kernel), List.mem_of_getElem? (i := 363) (by decide +kernel)⟩
theorem lw_p2 : lw_okq (⟨"PascalDesk$Reader", "statement", "(I)V"⟩, 6) := ⟨⟨by decide +kernel, by decide +kernel⟩, List.mem_of_getElem? (i := 27) (by decide +kernel), List.mem_of_getElem? (i := 366) (by decide +kernel), List.mem_of_getElem? (i := 367) (by decide +kernel)⟩
theorem lw_p3 : lw_okq (⟨"PascalDesk$Reader", "peek", "()C"⟩, 6) := ⟨⟨by decide +kernel, by decide +kernel⟩, List.mem_of_getElem? (i := 27) (by decide +kernel), List.mem_of_getElem? (i := 370) (by decide +kernel), List.mem_of_getElem? (i := 371) (by decide +kernel)⟩
theorem lw_p4 : lw_okq (⟨"PascalDesk$Reader", "setting", "(II)V"⟩, 6) := ⟨⟨by decide +kernel, by decide +kernel⟩, List.mem_of_getElem? (i := 27) (by decide +kernel), List.mem_of_getElem? (i := 377) (by decide +kernel), List.mem_of_getElem? (i := 378) (by decide +kernel)⟩
theorem lw_p5 : lw_okq (⟨"PascalDesk$Reader", "needs", "(C)Z"⟩, 6) := ⟨⟨by decide +kernel, by decide +kernel⟩, List.mem_of_getElem? (i := 27) (by decide +kernel), List.mem_of_getElem? (i := 381) (by decide +kernel), List.mem_of_getElem? (i := 382) (by decide +kernel)⟩
theorem lw_p6 : lw_okq (⟨"PascalDesk$Reader", "takes", "(C)Z"⟩, 6) := ⟨⟨by decide +kernel, by decide +kernel⟩, List.mem_of_getElem? (i := 27) (by decide +kernel), List.mem_of_getElem? (i := 385) (by decide +kernel), List.mem_of_getElem? (i := 386) (by decide +kernel)⟩
theorem lw_p7 : lw_okq (⟨"PascalDesk$Reader", "expression", "(I)Z"⟩, 6) := ⟨⟨by decide +kernel, by decide +kernel⟩, List.mem_of_getElem? (i := 27) (by decide +kernel), List.mem_of_getElem? (i := 389) (by decide +kernel), List.mem_of_getElem? (i := 390) (by decide +kernel)⟩
theorem lw_p8 : lw_okq (⟨"PascalDesk$Reader", "sum", "(I)Z"⟩, 6) := ⟨⟨by decide +kernel, by decide +kernel⟩, List.mem_of_getElem? (i := 27) (by decide +kernel), List.mem_of_getElem? (i := 393) (by decide +kernel), List.mem_of_getElem? (i := 394) (by decide +kernel)⟩
theorem lw_p9 : lw_okq (⟨"PascalDesk$Reader", "term", "(I)Z"⟩, 6) := ⟨⟨by decide +kernel, by decide +kernel⟩, List.mem_of_getElem? (i := 27) (by decide +kernel), List.mem_of_getElem? (i := 397) (by decide +kernel), List.mem_of_getElem? (i := 398) (by decide +kernel)⟩
theorem lw_p10 : lw_okq (⟨"PascalDesk$Reader", "unit", "(I)Z"⟩, 6) := ⟨⟨by decide +kernel, by decide +kernel⟩, List.mem_of_getElem? (i := 27) (by decide +kernel), List.mem_of_getElem? (i := 401) (by decide +kernel), List.mem_of_getElem? (i := 402) (by decide +kernel)⟩
theorem lw_p11 : lw_okq (⟨"PascalDesk$Reader", "number", "()V"⟩, 6) := ⟨⟨by decide +kernel, by decide +kernel⟩, List.mem_of_getElem? (i := 27) (by decide +kernel), List.mem_of_getElem? (i := 415) (by decide +kernel), List.mem_of_getElem? (i := 416) (by decide +kernel)⟩
theorem lw_p12 : lw_okq (⟨"PascalDesk$Reader", "digit", "(C)I"⟩, 6) := ⟨⟨by decide +kernel, by decide +kernel⟩, List.mem_of_getElem? (i := 27) (by decide +kernel), List.mem_of_getElem? (i := 419) (by decide +kernel), List.mem_of_getElem? (i := 420) (by decide +kernel)⟩
theorem lw_p13 : lw_okq (⟨"PascalDesk$Reader", "rowPlace", "(I)V"⟩, 6) := ⟨⟨by decide +kernel, by decide +kernel⟩, List.mem_of_getElem? (i := 27) (by decide +kernel), List.mem_of_getElem? (i := 423) (by decide +kernel), List.mem_of_getElem? (i := 424) (by decide +kernel)⟩
theorem lw_p14 : lw_okq (⟨"PascalDesk$Reader", "opens", "(CI)Z"⟩, 6) := ⟨⟨by decide +kernel, by decide +kernel⟩, List.mem_of_getElem? (i := 27) (by decide +kernel), List.mem_of_getElem? (i := 427) (by decide +kernel), List.mem_of_getElem? (i := 428) (by decide +kernel)⟩
theorem lw_p15 : lw_okq (⟨"PascalDesk$Reader", "needInteger", "(Z)V"⟩, 6) := ⟨⟨by decide +kernel, by decide +kernel⟩, List.mem_of_getElem? (i := 27) (by decide +kernel), List.mem_of_getElem? (i := 431) (by decide +kernel), List.mem_of_getElem? (i := 432) (by decide +kernel)⟩
def lw_privs_1 : List (MethodName × Nat) := [(⟨"java/lang/Throwable", "fillInStackTrace", "(I)Ljava/lang/Throwable;"⟩, 6), (⟨"PascalDesk$Reader", "body", "(I)V"⟩, 6), (⟨"PascalDesk$Reader", "statement", "(I)V"⟩, 6), (⟨"PascalDesk$Reader", "peek", "()C"⟩, 6), (⟨"PascalDesk$Reader", "setting", "(II)V"⟩, 6), (⟨"PascalDesk$Reader", "needs", "(C)Z"⟩, 6), (⟨"PascalDesk$Reader", "takes", "(C)Z"⟩, 6), (⟨"PascalDesk$Reader", "expression", "(I)Z"⟩, 6), (⟨"PascalDesk$Reader", "sum", "(I)Z"⟩, 6), (⟨"PascalDesk$Reader", "term", "(I)Z"⟩, 6), (⟨"PascalDesk$Reader", "unit", "(I)Z"⟩, 6), (⟨"PascalDesk$Reader", "number", "()V"⟩, 6), (⟨"PascalDesk$Reader", "digit", "(C)I"⟩, 6), (⟨"PascalDesk$Reader", "rowPlace", "(I)V"⟩, 6), (⟨"PascalDesk$Reader", "opens", "(CI)Z"⟩, 6), (⟨"PascalDesk$Reader", "needInteger", "(Z)V"⟩, 6)]
theorem lw_r1 : ∀ q ∈ lw_privs_1, lw_okq q := List.forall_mem_cons.mpr ⟨lw_p0, List.forall_mem_cons.mpr ⟨lw_p1, List.forall_mem_cons.mpr ⟨lw_p2, List.forall_mem_cons.mpr ⟨lw_p3, List.forall_mem_cons.mpr ⟨lw_p4, List.forall_mem_cons.mpr ⟨lw_p5, List.forall_mem_cons.mpr ⟨lw_p6, List.forall_mem_cons.mpr ⟨lw_p7, List.forall_mem_cons.mpr ⟨lw_p8, List.forall_mem_cons.mpr ⟨lw_p9, List.forall_mem_cons.mpr ⟨lw_p10, List.forall_mem_cons.mpr ⟨lw_p11, List.forall_mem_cons.mpr ⟨lw_p12, List.forall_mem_cons.mpr ⟨lw_p13, List.forall_mem_cons.mpr ⟨lw_p14, List.forall_mem_cons.mpr ⟨lw_p15, fun _ h => absurd h List.not_mem_nil⟩⟩⟩⟩⟩⟩⟩⟩⟩⟩⟩⟩⟩⟩⟩⟩
theorem lw_p16 : lw_okq (⟨"PascalDesk$Reader", "inParentheses", "(I)Z"⟩, 6) := ⟨⟨by decide +kernel, by decide +kernel⟩, List.mem_of_getElem? (i := 27) (by decide +kernel), List.mem_of_getElem? (i := 435) (by decide +kernel), List.mem_of_getElem? (i := 436) (by decide +kernel)⟩
theorem lw_p17 : lw_okq (⟨"PascalDesk$Reader", "whole", "(I)V"⟩, 6) := ⟨⟨by decide +kernel, by decide +kernel⟩, List.mem_of_getElem? (i := 27) (by decide +kernel), List.mem_of_getElem? (i := 439) (by decide +kernel), List.mem_of_getElem? (i := 440) (by decide +kernel)⟩
theorem lw_p18 : lw_okq (⟨"PascalDesk$Reader", "rowSetting", "(I)V"⟩, 6) := ⟨⟨by decide +kernel, by decide +kernel⟩, List.mem_of_getElem? (i := 27) (by decide +kernel), List.mem_of_getElem? (i := 443) (by decide +kernel), List.mem_of_getElem? (i := 444) (by decide +kernel)⟩
theorem lw_p19 : lw_okq (⟨"PascalDesk$Reader", "ifBody", "(I)V"⟩, 6) := ⟨⟨by decide +kernel, by decide +kernel⟩, List.mem_of_getElem? (i := 27) (by decide +kernel), List.mem_of_getElem? (i := 447) (by decide +kernel), List.mem_of_getElem? (i := 448) (by decide +kernel)⟩
theorem lw_p20 : lw_okq (⟨"PascalDesk$Reader", "block", "(I)V"⟩, 6) := ⟨⟨by decide +kernel, by decide +kernel⟩, List.mem_of_getElem? (i := 27) (by decide +kernel), List.mem_of_getElem? (i := 451) (by decide +kernel), List.mem_of_getElem? (i := 452) (by decide +kernel)⟩
theorem lw_p21 : lw_okq (⟨"PascalDesk$Reader", "loop", "(I)V"⟩, 6) := ⟨⟨by decide +kernel, by decide +kernel⟩, List.mem_of_getElem? (i := 27) (by decide +kernel), List.mem_of_getElem? (i := 459) (by decide +kernel), List.mem_of_getElem? (i := 460) (by decide +kernel)⟩
theorem lw_p22 : lw_okq (⟨"PascalDesk$Reader", "both", "(I)V"⟩, 6) := ⟨⟨by decide +kernel, by decide +kernel⟩, List.mem_of_getElem? (i := 27) (by decide +kernel), List.mem_of_getElem? (i := 467) (by decide +kernel), List.mem_of_getElem? (i := 468) (by decide +kernel)⟩
theorem lw_p23 : lw_okq (⟨"PascalDesk$Runner", "prepare", "(III)V"⟩, 12) := ⟨⟨by decide +kernel, by decide +kernel⟩, List.mem_of_getElem? (i := 83) (by decide +kernel), List.mem_of_getElem? (i := 522) (by decide +kernel), List.mem_of_getElem? (i := 523) (by decide +kernel)⟩
theorem lw_p24 : lw_okq (⟨"PascalDesk$Strand", "start", "(IIII)V"⟩, 11) := ⟨⟨by decide +kernel, by decide +kernel⟩, List.mem_of_getElem? (i := 127) (by decide +kernel), List.mem_of_getElem? (i := 534) (by decide +kernel), List.mem_of_getElem? (i := 535) (by decide +kernel)⟩
theorem lw_p25 : lw_okq (⟨"PascalDesk$Runner", "whoseTurn", "()I"⟩, 12) := ⟨⟨by decide +kernel, by decide +kernel⟩, List.mem_of_getElem? (i := 83) (by decide +kernel), List.mem_of_getElem? (i := 538) (by decide +kernel), List.mem_of_getElem? (i := 539) (by decide +kernel)⟩
theorem lw_p26 : lw_okq (⟨"PascalDesk$Runner", "step", "(I)V"⟩, 12) := ⟨⟨by decide +kernel, by decide +kernel⟩, List.mem_of_getElem? (i := 83) (by decide +kernel), List.mem_of_getElem? (i := 549) (by decide +kernel), List.mem_of_getElem? (i := 550) (by decide +kernel)⟩
theorem lw_p27 : lw_okq (⟨"PascalDesk$Runner", "finish", "(III)V"⟩, 12) := ⟨⟨by decide +kernel, by decide +kernel⟩, List.mem_of_getElem? (i := 83) (by decide +kernel), List.mem_of_getElem? (i := 565) (by decide +kernel), List.mem_of_getElem? (i := 566) (by decide +kernel)⟩
theorem lw_p28 : lw_okq (⟨"PascalDesk$Runner", "write", "(D)V"⟩, 12) := ⟨⟨by decide +kernel, by decide +kernel⟩, List.mem_of_getElem? (i := 83) (by decide +kernel), List.mem_of_getElem? (i := 586) (by decide +kernel), List.mem_of_getElem? (i := 587) (by decide +kernel)⟩
theorem lw_p29 : lw_okq (⟨"PascalDesk$Runner", "await", "(LPascalDesk$Strand;I)V"⟩, 12) := ⟨⟨by decide +kernel, by decide +kernel⟩, List.mem_of_getElem? (i := 83) (by decide +kernel), List.mem_of_getElem? (i := 591) (by decide +kernel), List.mem_of_getElem? (i := 592) (by decide +kernel)⟩
theorem lw_p30 : lw_okq (⟨"PascalDesk$Runner", "signal", "(I)V"⟩, 12) := ⟨⟨by decide +kernel, by decide +kernel⟩, List.mem_of_getElem? (i := 83) (by decide +kernel), List.mem_of_getElem? (i := 595) (by decide +kernel), List.mem_of_getElem? (i := 596) (by decide +kernel)⟩
theorem lw_p31 : lw_okq (⟨"PascalDesk$Runner", "firstWaiting", "(I)I"⟩, 12) := ⟨⟨by decide +kernel, by decide +kernel⟩, List.mem_of_getElem? (i := 83) (by decide +kernel), List.mem_of_getElem? (i := 599) (by decide +kernel), List.mem_of_getElem? (i := 600) (by decide +kernel)⟩
def lw_privs_2 : List (MethodName × Nat) := [(⟨"PascalDesk$Reader", "inParentheses", "(I)Z"⟩, 6), (⟨"PascalDesk$Reader", "whole", "(I)V"⟩, 6), (⟨"PascalDesk$Reader", "rowSetting", "(I)V"⟩, 6), (⟨"PascalDesk$Reader", "ifBody", "(I)V"⟩, 6), (⟨"PascalDesk$Reader", "block", "(I)V"⟩, 6), (⟨"PascalDesk$Reader", "loop", "(I)V"⟩, 6), (⟨"PascalDesk$Reader", "both", "(I)V"⟩, 6), (⟨"PascalDesk$Runner", "prepare", "(III)V"⟩, 12), (⟨"PascalDesk$Strand", "start", "(IIII)V"⟩, 11), (⟨"PascalDesk$Runner", "whoseTurn", "()I"⟩, 12), (⟨"PascalDesk$Runner", "step", "(I)V"⟩, 12), (⟨"PascalDesk$Runner", "finish", "(III)V"⟩, 12), (⟨"PascalDesk$Runner", "write", "(D)V"⟩, 12), (⟨"PascalDesk$Runner", "await", "(LPascalDesk$Strand;I)V"⟩, 12), (⟨"PascalDesk$Runner", "signal", "(I)V"⟩, 12), (⟨"PascalDesk$Runner", "firstWaiting", "(I)I"⟩, 12)]
theorem lw_r2 : ∀ q ∈ lw_privs_2, lw_okq q := List.forall_mem_cons.mpr ⟨lw_p16, List.forall_mem_cons.mpr ⟨lw_p17, List.forall_mem_cons.mpr ⟨lw_p18, List.forall_mem_cons.mpr ⟨lw_p19, List.forall_mem_cons.mpr ⟨lw_p20, List.forall_mem_cons.mpr ⟨lw_p21, List.forall_mem_cons.mpr ⟨lw_p22, List.forall_mem_cons.mpr ⟨lw_p23, List.forall_mem_cons.mpr ⟨lw_p24, List.forall_mem_cons.mpr ⟨lw_p25, List.forall_mem_cons.mpr ⟨lw_p26, List.forall_mem_cons.mpr ⟨lw_p27, List.forall_mem_cons.mpr ⟨lw_p28, List.forall_mem_cons.mpr ⟨lw_p29, List.forall_mem_cons.mpr ⟨lw_p30, List.forall_mem_cons.mpr ⟨lw_p31, fun _ h => absurd h List.not_mem_nil⟩⟩⟩⟩⟩⟩⟩⟩⟩⟩⟩⟩⟩⟩⟩⟩
theorem lw_p32 : lw_okq (⟨"PascalDesk$Runner", "call", "(LPascalDesk$Strand;I)V"⟩, 12) := ⟨⟨by decide +kernel, by decide +kernel⟩, List.mem_of_getElem? (i := 83) (by decide +kernel), List.mem_of_getElem? (i := 603) (by decide +kernel), List.mem_of_getElem? (i := 604) (by decide +kernel)⟩
theorem lw_p33 : lw_okq (⟨"PascalDesk$Runner", "part", "(II)V"⟩, 12) := ⟨⟨by decide +kernel, by decide +kernel⟩, List.mem_of_getElem? (i := 83) (by decide +kernel), List.mem_of_getElem? (i := 615) (by decide +kernel), List.mem_of_getElem? (i := 616) (by decide +kernel)⟩
theorem lw_p34 : lw_okq (⟨"PascalDesk$Runner", "leastFree", "()I"⟩, 12) := ⟨⟨by decide +kernel, by decide +kernel⟩, List.mem_of_getElem? (i := 83) (by decide +kernel), List.mem_of_getElem? (i := 620) (by decide +kernel), List.mem_of_getElem? (i := 621) (by decide +kernel)⟩
theorem lw_p35 : lw_okq (⟨"PascalDesk$Calculator", "push", "(D)V"⟩, 3) := ⟨⟨by decide +kernel, by decide +kernel⟩, List.mem_of_getElem? (i := 92) (by decide +kernel), List.mem_of_getElem? (i := 635) (by decide +kernel), List.mem_of_getElem? (i := 636) (by decide +kernel)⟩
theorem lw_p36 : lw_okq (⟨"PascalDesk$Calculator", "load", "(I)V"⟩, 3) := ⟨⟨by decide +kernel, by decide +kernel⟩, List.mem_of_getElem? (i := 92) (by decide +kernel), List.mem_of_getElem? (i := 639) (by decide +kernel), List.mem_of_getElem? (i := 640) (by decide +kernel)⟩
theorem lw_p37 : lw_okq (⟨"PascalDesk$Runner", "leaveWhatIsOver", "()V"⟩, 12) := ⟨⟨by decide +kernel, by decide +kernel⟩, List.mem_of_getElem? (i := 83) (by decide +kernel), List.mem_of_getElem? (i := 694) (by decide +kernel), List.mem_of_getElem? (i := 695) (by decide +kernel)⟩
theorem lw_p38 : lw_okq (⟨"PascalDesk$Runner", "goOn", "(I)V"⟩, 12) := ⟨⟨by decide +kernel, by decide +kernel⟩, List.mem_of_getElem? (i := 83) (by decide +kernel), List.mem_of_getElem? (i := 698) (by decide +kernel), List.mem_of_getElem? (i := 699) (by decide +kernel)⟩
theorem lw_p39 : lw_okq (⟨"PascalDesk$Runner", "findsNext", "(LPascalDesk$Strand;)Z"⟩, 12) := ⟨⟨by decide +kernel, by decide +kernel⟩, List.mem_of_getElem? (i := 83) (by decide +kernel), List.mem_of_getElem? (i := 702) (by decide +kernel), List.mem_of_getElem? (i := 703) (by decide +kernel)⟩
theorem lw_p40 : lw_okq (⟨"PascalDesk$Runner", "leave", "(LPascalDesk$Strand;)I"⟩, 12) := ⟨⟨by decide +kernel, by decide +kernel⟩, List.mem_of_getElem? (i := 83) (by decide +kernel), List.mem_of_getElem? (i := 710) (by decide +kernel), List.mem_of_getElem? (i := 711) (by decide +kernel)⟩
theorem lw_p41 : lw_okq (⟨"PascalDeskModel", "read", "()I"⟩, 40) := ⟨⟨by decide +kernel, by decide +kernel⟩, List.mem_of_getElem? (i := 743) (by decide +kernel), List.mem_of_getElem? (i := 883) (by decide +kernel), List.mem_of_getElem? (i := 884) (by decide +kernel)⟩
theorem lw_p42 : lw_okq (⟨"PascalDeskModel", "emit", "(II)V"⟩, 40) := ⟨⟨by decide +kernel, by decide +kernel⟩, List.mem_of_getElem? (i := 743) (by decide +kernel), List.mem_of_getElem? (i := 887) (by decide +kernel), List.mem_of_getElem? (i := 888) (by decide +kernel)⟩
theorem lw_p43 : lw_okq (⟨"PascalDeskModel", "operand", "(Z)V"⟩, 40) := ⟨⟨by decide +kernel, by decide +kernel⟩, List.mem_of_getElem? (i := 743) (by decide +kernel), List.mem_of_getElem? (i := 891) (by decide +kernel), List.mem_of_getElem? (i := 892) (by decide +kernel)⟩
theorem lw_p44 : lw_okq (⟨"PascalDeskModel", "over", "()I"⟩, 40) := ⟨⟨by decide +kernel, by decide +kernel⟩, List.mem_of_getElem? (i := 743) (by decide +kernel), List.mem_of_getElem? (i := 895) (by decide +kernel), List.mem_of_getElem? (i := 896) (by decide +kernel)⟩
theorem lw_p45 : lw_okq (⟨"PascalDeskModel", "above", "()I"⟩, 40) := ⟨⟨by decide +kernel, by decide +kernel⟩, List.mem_of_getElem? (i := 743) (by decide +kernel), List.mem_of_getElem? (i := 899) (by decide +kernel), List.mem_of_getElem? (i := 900) (by decide +kernel)⟩
theorem lw_p46 : lw_okq (⟨"PascalDeskModel", "statement", "(I)I"⟩, 40) := ⟨⟨by decide +kernel, by decide +kernel⟩, List.mem_of_getElem? (i := 743) (by decide +kernel), List.mem_of_getElem? (i := 903) (by decide +kernel), List.mem_of_getElem? (i := 904) (by decide +kernel)⟩
theorem lw_p47 : lw_okq (⟨"PascalDeskModel", "isWhole", "(I)Z"⟩, 40) := ⟨⟨by decide +kernel, by decide +kernel⟩, List.mem_of_getElem? (i := 743) (by decide +kernel), List.mem_of_getElem? (i := 907) (by decide +kernel), List.mem_of_getElem? (i := 908) (by decide +kernel)⟩
def lw_privs_3 : List (MethodName × Nat) := [(⟨"PascalDesk$Runner", "call", "(LPascalDesk$Strand;I)V"⟩, 12), (⟨"PascalDesk$Runner", "part", "(II)V"⟩, 12), (⟨"PascalDesk$Runner", "leastFree", "()I"⟩, 12), (⟨"PascalDesk$Calculator", "push", "(D)V"⟩, 3), (⟨"PascalDesk$Calculator", "load", "(I)V"⟩, 3), (⟨"PascalDesk$Runner", "leaveWhatIsOver", "()V"⟩, 12), (⟨"PascalDesk$Runner", "goOn", "(I)V"⟩, 12), (⟨"PascalDesk$Runner", "findsNext", "(LPascalDesk$Strand;)Z"⟩, 12), (⟨"PascalDesk$Runner", "leave", "(LPascalDesk$Strand;)I"⟩, 12), (⟨"PascalDeskModel", "read", "()I"⟩, 40), (⟨"PascalDeskModel", "emit", "(II)V"⟩, 40), (⟨"PascalDeskModel", "operand", "(Z)V"⟩, 40), (⟨"PascalDeskModel", "over", "()I"⟩, 40), (⟨"PascalDeskModel", "above", "()I"⟩, 40), (⟨"PascalDeskModel", "statement", "(I)I"⟩, 40), (⟨"PascalDeskModel", "isWhole", "(I)Z"⟩, 40)]
theorem lw_r3 : ∀ q ∈ lw_privs_3, lw_okq q := List.forall_mem_cons.mpr ⟨lw_p32, List.forall_mem_cons.mpr ⟨lw_p33, List.forall_mem_cons.mpr ⟨lw_p34, List.forall_mem_cons.mpr ⟨lw_p35, List.forall_mem_cons.mpr ⟨lw_p36, List.forall_mem_cons.mpr ⟨lw_p37, List.forall_mem_cons.mpr ⟨lw_p38, List.forall_mem_cons.mpr ⟨lw_p39, List.forall_mem_cons.mpr ⟨lw_p40, List.forall_mem_cons.mpr ⟨lw_p41, List.forall_mem_cons.mpr ⟨lw_p42, List.forall_mem_cons.mpr ⟨lw_p43, List.forall_mem_cons.mpr ⟨lw_p44, List.forall_mem_cons.mpr ⟨lw_p45, List.forall_mem_cons.mpr ⟨lw_p46, List.forall_mem_cons.mpr ⟨lw_p47, fun _ h => absurd h List.not_mem_nil⟩⟩⟩⟩⟩⟩⟩⟩⟩⟩⟩⟩⟩⟩⟩⟩
theorem lw_p48 : lw_okq (⟨"PascalDeskModel", "isReal", "(I)Z"⟩, 40) := ⟨⟨by decide +kernel, by decide +kernel⟩, List.mem_of_getElem? (i := 743) (by decide +kernel), List.mem_of_getElem? (i := 911) (by decide +kernel), List.mem_of_getElem? (i := 912) (by decide +kernel)⟩
theorem lw_p49 : lw_okq (⟨"PascalDeskModel", "push", "(I)V"⟩, 40) := ⟨⟨by decide +kernel, by decide +kernel⟩, List.mem_of_getElem? (i := 743) (by decide +kernel), List.mem_of_getElem? (i := 915) (by decide +kernel), List.mem_of_getElem? (i := 916) (by decide +kernel)⟩
theorem lw_p50 : lw_okq (⟨"PascalDeskModel", "unit", "(I)I"⟩, 40) := ⟨⟨by decide +kernel, by decide +kernel⟩, List.mem_of_getElem? (i := 743) (by decide +kernel), List.mem_of_getElem? (i := 919) (by decide +kernel), List.mem_of_getElem? (i := 920) (by decide +kernel)⟩
theorem lw_p51 : lw_okq (⟨"PascalDeskModel", "opened", "(I)I"⟩, 40) := ⟨⟨by decide +kernel, by decide +kernel⟩, List.mem_of_getElem? (i := 743) (by decide +kernel), List.mem_of_getElem? (i := 923) (by decide +kernel), List.mem_of_getElem? (i := 924) (by decide +kernel)⟩
theorem lw_p52 : lw_okq (⟨"PascalDeskModel", "rank", "(I)I"⟩, 40) := ⟨⟨by decide +kernel, by decide +kernel⟩, List.mem_of_getElem? (i := 743) (by decide +kernel), List.mem_of_getElem? (i := 927) (by decide +kernel), List.mem_of_getElem? (i := 928) (by decide +kernel)⟩
theorem lw_p53 : lw_okq (⟨"PascalDeskModel", "binary", "(I)I"⟩, 40) := ⟨⟨by decide +kernel, by decide +kernel⟩, List.mem_of_getElem? (i := 743) (by decide +kernel), List.mem_of_getElem? (i := 931) (by decide +kernel), List.mem_of_getElem? (i := 932) (by decide +kernel)⟩
theorem lw_p54 : lw_okq (⟨"PascalDeskModel", "reduce", "(I)V"⟩, 40) := ⟨⟨by decide +kernel, by decide +kernel⟩, List.mem_of_getElem? (i := 743) (by decide +kernel), List.mem_of_getElem? (i := 935) (by decide +kernel), List.mem_of_getElem? (i := 936) (by decide +kernel)⟩
theorem lw_p55 : lw_okq (⟨"PascalDeskModel", "closed", "(I)I"⟩, 40) := ⟨⟨by decide +kernel, by decide +kernel⟩, List.mem_of_getElem? (i := 743) (by decide +kernel), List.mem_of_getElem? (i := 939) (by decide +kernel), List.mem_of_getElem? (i := 940) (by decide +kernel)⟩
theorem lw_p56 : lw_okq (⟨"PascalDeskModel", "whole", "()V"⟩, 40) := ⟨⟨by decide +kernel, by decide +kernel⟩, List.mem_of_getElem? (i := 743) (by decide +kernel), List.mem_of_getElem? (i := 943) (by decide +kernel), List.mem_of_getElem? (i := 944) (by decide +kernel)⟩
theorem lw_p57 : lw_okq (⟨"PascalDeskModel", "ended", "(I)I"⟩, 40) := ⟨⟨by decide +kernel, by decide +kernel⟩, List.mem_of_getElem? (i := 743) (by decide +kernel), List.mem_of_getElem? (i := 947) (by decide +kernel), List.mem_of_getElem? (i := 948) (by decide +kernel)⟩
theorem lw_p58 : lw_okq (⟨"PascalDeskModel", "single", "(II)I"⟩, 40) := ⟨⟨by decide +kernel, by decide +kernel⟩, List.mem_of_getElem? (i := 743) (by decide +kernel), List.mem_of_getElem? (i := 951) (by decide +kernel), List.mem_of_getElem? (i := 952) (by decide +kernel)⟩
theorem lw_p59 : lw_okq (⟨"PascalDeskModel", "begin", "(II)V"⟩, 40) := ⟨⟨by decide +kernel, by decide +kernel⟩, List.mem_of_getElem? (i := 743) (by decide +kernel), List.mem_of_getElem? (i := 963) (by decide +kernel), List.mem_of_getElem? (i := 964) (by decide +kernel)⟩
theorem lw_p60 : lw_okq (⟨"PascalDeskModel", "processes", "()I"⟩, 40) := ⟨⟨by decide +kernel, by decide +kernel⟩, List.mem_of_getElem? (i := 743) (by decide +kernel), List.mem_of_getElem? (i := 967) (by decide +kernel), List.mem_of_getElem? (i := 968) (by decide +kernel)⟩
theorem lw_p61 : lw_okq (⟨"PascalDeskModel", "chosen", "(I)I"⟩, 40) := ⟨⟨by decide +kernel, by decide +kernel⟩, List.mem_of_getElem? (i := 743) (by decide +kernel), List.mem_of_getElem? (i := 971) (by decide +kernel), List.mem_of_getElem? (i := 972) (by decide +kernel)⟩
theorem lw_p62 : lw_okq (⟨"PascalDeskModel", "step", "(I)V"⟩, 40) := ⟨⟨by decide +kernel, by decide +kernel⟩, List.mem_of_getElem? (i := 743) (by decide +kernel), List.mem_of_getElem? (i := 975) (by decide +kernel), List.mem_of_getElem? (i := 976) (by decide +kernel)⟩
theorem lw_p63 : lw_okq (⟨"PascalDeskModel", "work", "(I)I"⟩, 40) := ⟨⟨by decide +kernel, by decide +kernel⟩, List.mem_of_getElem? (i := 743) (by decide +kernel), List.mem_of_getElem? (i := 979) (by decide +kernel), List.mem_of_getElem? (i := 980) (by decide +kernel)⟩
def lw_privs_4 : List (MethodName × Nat) := [(⟨"PascalDeskModel", "isReal", "(I)Z"⟩, 40), (⟨"PascalDeskModel", "push", "(I)V"⟩, 40), (⟨"PascalDeskModel", "unit", "(I)I"⟩, 40), (⟨"PascalDeskModel", "opened", "(I)I"⟩, 40), (⟨"PascalDeskModel", "rank", "(I)I"⟩, 40), (⟨"PascalDeskModel", "binary", "(I)I"⟩, 40), (⟨"PascalDeskModel", "reduce", "(I)V"⟩, 40), (⟨"PascalDeskModel", "closed", "(I)I"⟩, 40), (⟨"PascalDeskModel", "whole", "()V"⟩, 40), (⟨"PascalDeskModel", "ended", "(I)I"⟩, 40), (⟨"PascalDeskModel", "single", "(II)I"⟩, 40), (⟨"PascalDeskModel", "begin", "(II)V"⟩, 40), (⟨"PascalDeskModel", "processes", "()I"⟩, 40), (⟨"PascalDeskModel", "chosen", "(I)I"⟩, 40), (⟨"PascalDeskModel", "step", "(I)V"⟩, 40), (⟨"PascalDeskModel", "work", "(I)I"⟩, 40)]
theorem lw_r4 : ∀ q ∈ lw_privs_4, lw_okq q := List.forall_mem_cons.mpr ⟨lw_p48, List.forall_mem_cons.mpr ⟨lw_p49, List.forall_mem_cons.mpr ⟨lw_p50, List.forall_mem_cons.mpr ⟨lw_p51, List.forall_mem_cons.mpr ⟨lw_p52, List.forall_mem_cons.mpr ⟨lw_p53, List.forall_mem_cons.mpr ⟨lw_p54, List.forall_mem_cons.mpr ⟨lw_p55, List.forall_mem_cons.mpr ⟨lw_p56, List.forall_mem_cons.mpr ⟨lw_p57, List.forall_mem_cons.mpr ⟨lw_p58, List.forall_mem_cons.mpr ⟨lw_p59, List.forall_mem_cons.mpr ⟨lw_p60, List.forall_mem_cons.mpr ⟨lw_p61, List.forall_mem_cons.mpr ⟨lw_p62, List.forall_mem_cons.mpr ⟨lw_p63, fun _ h => absurd h List.not_mem_nil⟩⟩⟩⟩⟩⟩⟩⟩⟩⟩⟩⟩⟩⟩⟩⟩
theorem lw_p64 : lw_okq (⟨"PascalDeskModel", "number", "(IZDD)D"⟩, 40) := ⟨⟨by decide +kernel, by decide +kernel⟩, List.mem_of_getElem? (i := 743) (by decide +kernel), List.mem_of_getElem? (i := 984) (by decide +kernel), List.mem_of_getElem? (i := 985) (by decide +kernel)⟩
theorem lw_p65 : lw_okq (⟨"PascalDeskModel", "call", "(III)V"⟩, 40) := ⟨⟨by decide +kernel, by decide +kernel⟩, List.mem_of_getElem? (i := 743) (by decide +kernel), List.mem_of_getElem? (i := 990) (by decide +kernel), List.mem_of_getElem? (i := 991) (by decide +kernel)⟩
theorem lw_p66 : lw_okq (⟨"PascalDeskModel", "signal", "(I)V"⟩, 40) := ⟨⟨by decide +kernel, by decide +kernel⟩, List.mem_of_getElem? (i := 743) (by decide +kernel), List.mem_of_getElem? (i := 994) (by decide +kernel), List.mem_of_getElem? (i := 995) (by decide +kernel)⟩
theorem lw_p67 : lw_okq (⟨"PascalDeskModel", "settle", "(I)V"⟩, 40) := ⟨⟨by decide +kernel, by decide +kernel⟩, List.mem_of_getElem? (i := 743) (by decide +kernel), List.mem_of_getElem? (i := 998) (by decide +kernel), List.mem_of_getElem? (i := 999) (by decide +kernel)⟩
def lw_privs_5 : List (MethodName × Nat) := [(⟨"PascalDeskModel", "number", "(IZDD)D"⟩, 40), (⟨"PascalDeskModel", "call", "(III)V"⟩, 40), (⟨"PascalDeskModel", "signal", "(I)V"⟩, 40), (⟨"PascalDeskModel", "settle", "(I)V"⟩, 40)]
theorem lw_r5 : ∀ q ∈ lw_privs_5, lw_okq q := List.forall_mem_cons.mpr ⟨lw_p64, List.forall_mem_cons.mpr ⟨lw_p65, List.forall_mem_cons.mpr ⟨lw_p66, List.forall_mem_cons.mpr ⟨lw_p67, fun _ h => absurd h List.not_mem_nil⟩⟩⟩⟩
def lw_privs : List (MethodName × Nat) := lw_privs_1 ++ (lw_privs_2 ++ (lw_privs_3 ++ (lw_privs_4 ++ (lw_privs_5))))
def lw_tbl : List Cond := k2_sels lw_privs ++ tables_1
theorem lw_privs_ok : ∀ q ∈ lw_privs, lw_okq q := by
  show ∀ q ∈ lw_privs_1 ++ (lw_privs_2 ++ (lw_privs_3 ++ (lw_privs_4 ++ (lw_privs_5)))), lw_okq q
  exact List.forall_mem_append.mpr ⟨lw_r1, List.forall_mem_append.mpr ⟨lw_r2, List.forall_mem_append.mpr ⟨lw_r3, List.forall_mem_append.mpr ⟨lw_r4, lw_r5⟩⟩⟩⟩
end
section
/-! THE SMALL MACHINE. Values are the model's own, but that a reference is a small address (the machine's own count of cells), and the script is '.retAddr 0'. Cells lie in typed stores: address, slot. -/
/-- ints (and all that is an int), doubles, references, longs -/
abbrev mm_M : Type := (Nat → Nat → Int32) × (Nat → Nat → UInt64) × (Nat → Nat → Option Nat) × (Nat → Nat → Int64)
/-- what each cell is: an object of the class with that number, or an array of that type and length -/
abbrev mm_Sh : Type := List (Nat ⊕ (Nat × Nat))
/-- shapes, stores, how many throws there have been -/
abbrev mm_St : Type := mm_Sh × mm_M × Nat
/-- what a call comes to: a value or nothing, or a thrown class's number -/
abbrev mm_O : Type := (Option Value ⊕ Nat) × mm_St
abbrev mm_L : Type := List (Option Value)
def mm_u {α : Type} (f : Nat → Nat → α) (a k : Nat) (x : α) : Nat → Nat → α := fun b j => if b = a then (if j = k then x else f b j) else f b j
theorem mm_u_s {α : Type} (f : Nat → Nat → α) (a k : Nat) (x : α) : mm_u f a k x a k = x := by simp [mm_u]
theorem mm_u_a {α : Type} {f : Nat → Nat → α} {a k b j : Nat} {x : α} (h : b ≠ a) : mm_u f a k x b j = f b j := by simp [mm_u, h]
theorem mm_u_k {α : Type} {f : Nat → Nat → α} {a k b j : Nat} {x : α} (h : j ≠ k) : mm_u f a k x b j = f b j := by simp [mm_u, h]
def mm_c2 : Value → Bool
  | .long _ => true
  | .double _ => true
  | _ => false
def mm_o2 : Option Value → Bool
  | some v => mm_c2 v
  | none => false
/-- a local is set: what it covers is no more -/
def mm_sto : mm_L → Nat → Nat → Value → mm_L
  | [], _, _, _ => []
  | o :: L, j, i, v => cond (Nat.beq j i) (some v) (cond ((Nat.beq j (i + 1) && mm_c2 v) || (Nat.beq (j + 1) i && mm_o2 o)) none o) :: mm_sto L (j + 1) i v
/-- a local is forgotten (a caught exception goes there) -/
def mm_clr : mm_L → Nat → Nat → mm_L
  | [], _, _ => []
  | o :: L, j, i => cond (Nat.beq j i || (Nat.beq (j + 1) i && mm_o2 o)) none o :: mm_clr L (j + 1) i
def mm_ld (L : mm_L) (i : Nat) : Option Value := match L[i]? with
  | some o => o
  | none => none
/-- the locals at a method's begin -/
def mm_in : List Value → mm_L
  | [] => []
  | v :: vs => some v :: cond (mm_c2 v) (none :: mm_in vs) (mm_in vs)
def mm_pad : mm_L → Nat → mm_L
  | L, 0 => L
  | [], n + 1 => none :: mm_pad [] n
  | o :: L, n + 1 => o :: mm_pad L n
/-- kinds: 0 int, 1 double, 2 reference, 3 long, 4 boolean -/
def mm_rd (M : mm_M) (kd a k : Nat) : Value := match kd with
  | 1 => .double (M.2.1 a k)
  | 2 => va_rf (M.2.2.1 a k)
  | 3 => .long (M.2.2.2 a k)
  | _ => .int (M.1 a k)
/-- links of a class by pool index: (what, a, b, c)
 0 field: class a, field b, kind c · 1 instance method a with b arguments beside the receiver, of class c · 2 static method a with b arguments · 3 Object.<init> · 4 a class of ours (new): a · 5 a thrown class: a · 6 int constant · 7 long constant · 8 double constant · 10 constructor a with b arguments of class c · 14 static method a with b arguments that has handlers -/
abbrev mm_K : Type := Nat × Nat × Nat × Nat
/-- a method: decoded code by pc, links, handlers (from, to, target, pool index), how many locals, which ints it returns -/
abbrev mm_Me : Type := List (Option (Instr × Nat)) × (Nat → Option mm_K) × List (Nat × Nat × Nat × Nat) × Nat × Nat
abbrev mm_Me.dec (me : mm_Me) : List (Option (Instr × Nat)) := me.1
abbrev mm_Me.lk (me : mm_Me) : Nat → Option mm_K := me.2.1
abbrev mm_Me.hs (me : mm_Me) : List (Nat × Nat × Nat × Nat) := me.2.2.1
abbrev mm_Me.nL (me : mm_Me) : Nat := me.2.2.2.1
/-- what an int that is returned must be: 0 any, 1 a char, 4 a boolean -/
abbrev mm_Me.rk (me : mm_Me) : Nat := me.2.2.2.2
def mm_tg (pc : Nat) (off : Int) : Nat := ((pc : Int) + off).toNat
def mm_n64 (r : UInt64) : Bool := decide (r &&& 0x7fffffffffffffff ≤ 0x7ff0000000000000)
/-- where a method's frame stands: pc, locals, operand stack, all cells -/
abbrev mm_Z : Type := Nat × mm_L × List Value × mm_St
/-- what an instruction comes to: a next place, or the method's end -/
abbrev mm_N : Type := Option (mm_Z ⊕ mm_O)
abbrev mm_go (pc : Nat) (L : mm_L) (st : List Value) (S : mm_St) : mm_N := some (.inl (pc, L, st, S))
abbrev mm_end (o : Option Value ⊕ Nat) (S : mm_St) : mm_N := some (.inr (o, S))
def mm_tsw (x : Int32) (k : Int → mm_N) (d : Int) : Int → List Int → mm_N
  | _, [] => k d
  | lo, o :: os => if x = Int32.ofInt lo then k o else mm_tsw x k d (lo + 1) os
def mm_lsw (x : Int32) (k : Int → mm_N) (d : Int) : List (Int × Int) → mm_N
  | [] => k d
  | (a, o) :: os => if x = Int32.ofInt a then k o else mm_lsw x k d os
def mm_wt : List Value → Nat
  | [] => 0
  | v :: vs => cond (mm_c2 v) 2 1 + mm_wt vs
/-- takes n values off the stack, the last one first -/
def mm_pop : Nat → List Value → List Value → Option (List Value × List Value)
  | 0, acc, st => some (acc, st)
  | n + 1, acc, v :: st => mm_pop n (v :: acc) st
  | _ + 1, _, [] => none
def mm_z {α : Type} (f : Nat → Nat → α) (a : Nat) (d : α) : Nat → Nat → α := fun b j => if b = a then d else f b j
/-- a new cell -/
def mm_new (S : mm_St) (sh : Nat ⊕ (Nat × Nat)) : mm_St := (S.1 ++ [sh], (mm_z S.2.1.1 S.1.length 0, mm_z S.2.1.2.1 S.1.length 0, mm_z S.2.1.2.2.1 S.1.length none, mm_z S.2.1.2.2.2 S.1.length 0), S.2.2)
def mm_sI (S : mm_St) (a k : Nat) (x : Int32) : mm_St := (S.1, (mm_u S.2.1.1 a k x, S.2.1.2), S.2.2)
def mm_sD (S : mm_St) (a k : Nat) (x : UInt64) : mm_St := (S.1, (S.2.1.1, mm_u S.2.1.2.1 a k x, S.2.1.2.2), S.2.2)
def mm_sR (S : mm_St) (a k : Nat) (x : Option Nat) : mm_St := (S.1, (S.2.1.1, S.2.1.2.1, mm_u S.2.1.2.2.1 a k x, S.2.1.2.2.2), S.2.2)
def mm_sJ (S : mm_St) (a k : Nat) (x : Int64) : mm_St := (S.1, (S.2.1.1, S.2.1.2.1, S.2.1.2.2.1, mm_u S.2.1.2.2.2 a k x), S.2.2)
section MM
variable (call : Nat → List Value → mm_St → Option mm_O)
/-- a handler's row: its first instruction puts the exception away -/
def mm_hs (me : mm_Me) (pc : Nat) (L : mm_L) (E : Nat) (S : mm_St) : List (Nat × Nat × Nat × Nat) → mm_N
  | [] => none
  | (a, b, t, ix) :: hs => cond (Nat.ble a pc && Nat.ble (pc + 1) b) (match me.lk ix with
      | some (5, E', _, _) => cond (Nat.beq E E') (match me.dec[t]? with
          | some (some (.astore_n i, _)) => mm_go (t + 1) (mm_clr L 0 i) [] S
          | some (some (.astore i, _)) => mm_go (t + 2) (mm_clr L 0 i) [] S
          | _ => none) (mm_hs me pc L E S hs)
      | _ => none) (mm_hs me pc L E S hs)
def mm_back (me : mm_Me) (pc : Nat) (L : mm_L) (rest : List Value) (o : Option mm_O) : mm_N := match o with
  | none => none
  | some (.inl v, S) => mm_go (pc + 3) L (v.toList ++ rest) S
  | some (.inr E, S) => match me.hs with
    | [] => mm_end (.inr E) S
    | h :: hs => cond (Nat.ble (E + 1) 5) (mm_hs me pc L E S (h :: hs)) none
/-- an instance method or a constructor: j, n arguments, of class c -/
def mm_inv (me : mm_Me) (pc : Nat) (L : mm_L) (st : List Value) (S : mm_St) (j n c : Nat) : mm_N := match mm_pop n [] st with
  | some (as, .ref a :: rest) => match S.1[a]? with
    | some (.inl ci) => cond (Nat.beq ci c && Nat.ble (mm_wt rest) 8) (mm_back me pc L rest (call j (.ref a :: as) S)) none
    | _ => none
  | _ => none
def mm_invS (me : mm_Me) (pc : Nat) (L : mm_L) (st : List Value) (S : mm_St) (j n : Nat) : mm_N := match mm_pop n [] st with
  | some (as, rest) => cond (Nat.ble (mm_wt rest) 8) (mm_back me pc L rest (call j as S)) none
  | none => none
/-- a constructor's call: it doesn't throw -/
def mm_noT (r : mm_N) : mm_N := match r with
  | some (.inl z) => some (.inl z)
  | _ => none
def mm_getf (ck : Nat → List Nat) (pc : Nat) (L : mm_L) (st : List Value) (S : mm_St) (c k : Nat) : mm_N := match st with
  | .ref a :: r => match S.1[a]? with
    | some (.inl ci) => cond (Nat.beq ci c) (match (ck c)[k]? with
        | some kd => mm_go (pc + 3) L (mm_rd S.2.1 kd a k :: r) S
        | none => none) none
    | _ => none
  | _ => none
def mm_putv (pc : Nat) (L : mm_L) (r : List Value) (S : mm_St) (a k : Nat) (v : Value) (kd : Nat) : mm_N := match kd with
  | 0 => match v with
    | .int x => mm_go (pc + 3) L r (mm_sI S a k x)
    | _ => none
  | 1 => match v with
    | .double x => mm_go (pc + 3) L r (mm_sD S a k x)
    | _ => none
  | 2 => match v with
    | .ref x => mm_go (pc + 3) L r (mm_sR S a k (some x))
    | .null => mm_go (pc + 3) L r (mm_sR S a k none)
    | _ => none
  | 3 => match v with
    | .long x => mm_go (pc + 3) L r (mm_sJ S a k x)
    | _ => none
  | 4 => match v with
    | .int x => if x = 0 ∨ x = 1 then mm_go (pc + 3) L r (mm_sI S a k x) else none
    | _ => none
  | _ => none
def mm_putf (ck : Nat → List Nat) (pc : Nat) (L : mm_L) (st : List Value) (S : mm_St) (c k : Nat) : mm_N := match st with
  | v :: .ref a :: r => match S.1[a]? with
    | some (.inl ci) => cond (Nat.beq ci c) (match (ck c)[k]? with
        | some kd => mm_putv pc L r S a k v kd
        | none => none) none
    | _ => none
  | _ => none
def mm_icmp (c : ClassFile.Cond) (x y : Int32) (A B : mm_N) : mm_N := match c with
  | .eq => if x = y then A else B
  | .ne => if x = y then B else A
  | .lt => if x < y then A else B
  | .ge => if y ≤ x then A else B
  | .gt => if y < x then A else B
  | .le => if x ≤ y then A else B
/-- an index within -/
def mm_ix (i : Int32) (n : Nat) (A : mm_N) : mm_N := if i < 0 ∨ n ≤ i.toNatClampNeg then none else A
def mm_i (st : List Value) (f : Int32 → List Value → mm_N) : mm_N := match st with
  | .int x :: r => f x r
  | _ => none
def mm_ii (st : List Value) (f : Int32 → Int32 → List Value → mm_N) : mm_N := match st with
  | .int y :: .int x :: r => f x y r
  | _ => none
def mm_j (st : List Value) (f : Int64 → List Value → mm_N) : mm_N := match st with
  | .long x :: r => f x r
  | _ => none
def mm_jj (st : List Value) (f : Int64 → Int64 → List Value → mm_N) : mm_N := match st with
  | .long y :: .long x :: r => f x y r
  | _ => none
def mm_ji (st : List Value) (f : Int64 → Int32 → List Value → mm_N) : mm_N := match st with
  | .int y :: .long x :: r => f x y r
  | _ => none
def mm_d (st : List Value) (f : UInt64 → List Value → mm_N) : mm_N := match st with
  | .double x :: r => f x r
  | _ => none
def mm_dd (st : List Value) (f : UInt64 → UInt64 → List Value → mm_N) : mm_N := match st with
  | .double y :: .double x :: r => f x y r
  | _ => none
def mm_r (st : List Value) (f : Nat → List Value → mm_N) : mm_N := match st with
  | .ref a :: r => f a r
  | _ => none
def mm_1 (st : List Value) (f : Value → List Value → mm_N) : mm_N := match st with
  | v :: r => f v r
  | _ => none
def mm_2 (st : List Value) (f : Value → Value → List Value → mm_N) : mm_N := match st with
  | v :: w :: r => f v w r
  | _ => none
def mm_3 (st : List Value) (f : Value → Value → Value → List Value → mm_N) : mm_N := match st with
  | v :: w :: u :: r => f v w u r
  | _ => none
def mm_lI (L : mm_L) (n : Nat) (f : Int32 → mm_N) : mm_N := match mm_ld L n with
  | some (.int x) => f x
  | _ => none
def mm_lJ (L : mm_L) (n : Nat) (f : Int64 → mm_N) : mm_N := match mm_ld L n with
  | some (.long x) => f x
  | _ => none
def mm_lD (L : mm_L) (n : Nat) (f : UInt64 → mm_N) : mm_N := match mm_ld L n with
  | some (.double x) => f x
  | _ => none
def mm_lA (L : mm_L) (n : Nat) (f : Value → mm_N) : mm_N := match mm_ld L n with
  | some (.ref x) => f (.ref x)
  | some (.retAddr x) => f (.retAddr x)
  | _ => none
def mm_ty : FieldType → Nat
  | .int => 0
  | .char => 1
  | .double => 2
  | .long => 3
  | .boolean => 4
  | .object _ => 5
  | _ => 9
/-- the array at a: of the type with that code, of n places -/
def mm_ar (ak : Nat → FieldType) (S : mm_St) (a ty : Nat) (f : Nat → mm_N) : mm_N := match S.1[a]? with
  | some (.inr (t, n)) => cond (Nat.beq (mm_ty (ak t)) ty) (f n) none
  | _ => none
/-- .. and an index into it -/
def mm_ai (ak : Nat → FieldType) (S : mm_St) (st : List Value) (ty : Nat) (f : Int32 → Nat → List Value → mm_N) : mm_N := match st with
  | .int i :: .ref a :: r => mm_ar ak S a ty fun n => mm_ix i n (f i a r)
  | _ => none
/-- an object into an array of its class (types from 10 on: objects) -/
def mm_aas (ak : Nat → FieldType) (S : mm_St) (st : List Value) (f : Nat → Int32 → Nat → List Value → mm_N) : mm_N := match st with
  | .ref x :: .int i :: .ref a :: r => match S.1[x]? with
    | some (.inl ci) => match S.1[a]? with
      | some (.inr (t, n)) => cond (Nat.beq t (10 + ci) && Nat.beq (mm_ty (ak t)) 5) (mm_ix i n (f x i a r)) none
      | _ => none
    | _ => none
  | _ => none
def mm_lk (me : mm_Me) (ix : Nat) (f : mm_K → mm_N) : mm_N := match me.lk ix with
  | some k => f k
  | none => none
def mm_al (S : mm_St) (A : mm_N) : mm_N := match S.2.2 with
  | 0 => A
  | _ + 1 => none
def mm_ial (xs : Nat → Int32) (Ls : Nat) (ak : Nat → FieldType) (pc : Nat) (L : mm_L) (S : mm_St) (st : List Value) : mm_N := match st with
  | .int i :: .retAddr _ :: r => mm_ix i Ls (mm_go (pc + 1) L (.int (xs i.toNatClampNeg) :: r) S)
  | st => mm_ai ak S st 0 fun i a r => mm_go (pc + 1) L (.int (S.2.1.1 a i.toNatClampNeg) :: r) S
def mm_rI (me : mm_Me) (S : mm_St) (st : List Value) : mm_N := match st with
  | [.int x] => match me.rk with
    | 0 => mm_end (.inl (some (.int x))) S
    | 1 => if (x.toUInt32 % 65536).toInt32 = x then mm_end (.inl (some (.int x))) S else none
    | _ => if x = 0 ∨ x = 1 then mm_end (.inl (some (.int x))) S else none
  | _ => none
def mm_rJ (S : mm_St) (st : List Value) : mm_N := match st with
  | [.long x] => mm_end (.inl (some (.long x))) S
  | _ => none
def mm_rD (S : mm_St) (st : List Value) : mm_N := match st with
  | [.double x] => mm_end (.inl (some (.double x))) S
  | _ => none
def mm_rA (S : mm_St) (st : List Value) : mm_N := match st with
  | [.ref x] => mm_end (.inl (some (.ref x))) S
  | [.null] => mm_end (.inl (some .null)) S
  | _ => none
def mm_rV (S : mm_St) (st : List Value) : mm_N := match st with
  | [] => mm_end (.inl none) S
  | _ => none
def mm_do (xs : Nat → Int32) (Ls : Nat) (ck : Nat → List Nat) (ak : Nat → FieldType) (me : mm_Me) (pc : Nat) (L : mm_L) (st : List Value) (S : mm_St) (i : Instr) : mm_N := match i with
  | .iconst n => mm_go (pc + 1) L (.int (Int32.ofInt n) :: st) S
  | .bipush n => mm_go (pc + 2) L (.int (Int8.ofInt n).toInt32 :: st) S
  | .sipush n => mm_go (pc + 3) L (.int (Int16.ofInt n).toInt32 :: st) S
  | .lconst n => mm_go (pc + 1) L (.long (Int64.ofNat (n : Nat)) :: st) S
  | .dconst n => mm_go (pc + 1) L (.double (match n with | 0 => FP.dconst0 | 1 => FP.dconst1) :: st) S
  | .aconst_null => mm_go (pc + 1) L (.null :: st) S
  | .ldc ix => mm_lk me ix fun k => cond (Nat.beq k.1 6) (mm_go (pc + 2) L (.int (Int32.ofNat k.2.1) :: st) S) none
  | .ldc2_w ix => mm_lk me ix fun k => cond (Nat.beq k.1 7) (mm_go (pc + 3) L (.long (Int64.ofNat k.2.1) :: st) S) (cond (Nat.beq k.1 8) (mm_go (pc + 3) L (.double (UInt64.ofNat k.2.1) :: st) S) none)
  | .iload_n n => mm_lI L n fun x => mm_go (pc + 1) L (.int x :: st) S
  | .iload n => mm_lI L n fun x => mm_go (pc + 2) L (.int x :: st) S
  | .lload_n n => mm_lJ L n fun x => mm_go (pc + 1) L (.long x :: st) S
  | .lload n => mm_lJ L n fun x => mm_go (pc + 2) L (.long x :: st) S
  | .dload_n n => mm_lD L n fun x => mm_go (pc + 1) L (.double x :: st) S
  | .dload n => mm_lD L n fun x => mm_go (pc + 2) L (.double x :: st) S
  | .aload_n n => mm_lA L n fun v => mm_go (pc + 1) L (v :: st) S
  | .aload n => mm_lA L n fun v => mm_go (pc + 2) L (v :: st) S
  | .istore_n n => mm_i st fun x r => mm_go (pc + 1) (mm_sto L 0 n (.int x)) r S
  | .istore n => mm_i st fun x r => mm_go (pc + 2) (mm_sto L 0 n (.int x)) r S
  | .lstore_n n => mm_j st fun x r => mm_go (pc + 1) (mm_sto L 0 n (.long x)) r S
  | .lstore n => mm_j st fun x r => mm_go (pc + 2) (mm_sto L 0 n (.long x)) r S
  | .dstore_n n => mm_d st fun x r => mm_go (pc + 1) (mm_sto L 0 n (.double x)) r S
  | .dstore n => mm_d st fun x r => mm_go (pc + 2) (mm_sto L 0 n (.double x)) r S
  | .astore_n n => mm_r st fun x r => mm_go (pc + 1) (mm_sto L 0 n (.ref x)) r S
  | .astore n => mm_r st fun x r => mm_go (pc + 2) (mm_sto L 0 n (.ref x)) r S
  | .iinc n z => mm_lI L n fun x => mm_go (pc + 3) (mm_sto L 0 n (.int (x + Int32.ofInt z))) st S
  | .iadd => mm_ii st fun x y r => mm_go (pc + 1) L (.int (x + y) :: r) S
  | .isub => mm_ii st fun x y r => mm_go (pc + 1) L (.int (x - y) :: r) S
  | .imul => mm_ii st fun x y r => mm_go (pc + 1) L (.int (x * y) :: r) S
  | .idiv => mm_ii st fun x y r => if y = 0 then none else mm_go (pc + 1) L (.int (x / y) :: r) S
  | .irem => mm_ii st fun x y r => if y = 0 then none else mm_go (pc + 1) L (.int (x - x / y * y) :: r) S
  | .ineg => mm_i st fun x r => mm_go (pc + 1) L (.int (-x) :: r) S
  | .iand => mm_ii st fun x y r => mm_go (pc + 1) L (.int (x &&& y) :: r) S
  | .ior => mm_ii st fun x y r => mm_go (pc + 1) L (.int (x ||| y) :: r) S
  | .ixor => mm_ii st fun x y r => mm_go (pc + 1) L (.int (x ^^^ y) :: r) S
  | .ishl => mm_ii st fun x y r => mm_go (pc + 1) L (.int (x <<< (y &&& 31)) :: r) S
  | .ishr => mm_ii st fun x y r => mm_go (pc + 1) L (.int (x >>> (y &&& 31)) :: r) S
  | .iushr => mm_ii st fun x y r => mm_go (pc + 1) L (.int (x.toUInt32 >>> (y.toUInt32 &&& Int32.toUInt32 31)).toInt32 :: r) S
  | .ladd => mm_jj st fun x y r => mm_go (pc + 1) L (.long (x + y) :: r) S
  | .lsub => mm_jj st fun x y r => mm_go (pc + 1) L (.long (x - y) :: r) S
  | .land => mm_jj st fun x y r => mm_go (pc + 1) L (.long (x &&& y) :: r) S
  | .lor => mm_jj st fun x y r => mm_go (pc + 1) L (.long (x ||| y) :: r) S
  | .lushr => mm_ji st fun x y r => mm_go (pc + 1) L (.long (x.toUInt64 >>> (y.toInt64.toUInt64 &&& Int64.toUInt64 63)).toInt64 :: r) S
  | .lshr => mm_ji st fun x y r => mm_go (pc + 1) L (.long (x >>> (y.toInt64 &&& 63)) :: r) S
  | .lshl => mm_ji st fun x y r => mm_go (pc + 1) L (.long (x <<< (y.toInt64 &&& 63)) :: r) S
  | .i2l => mm_i st fun x r => mm_go (pc + 1) L (.long x.toInt64 :: r) S
  | .l2i => mm_j st fun x r => mm_go (pc + 1) L (.int x.toInt32 :: r) S
  | .i2c => mm_i st fun x r => mm_go (pc + 1) L (.int (x.toUInt32 % 65536).toInt32 :: r) S
  | .i2b => mm_i st fun x r => mm_go (pc + 1) L (.int x.toInt8.toInt32 :: r) S
  | .i2d => mm_i st fun x r => mm_go (pc + 1) L (.double (FP.i2d x) :: r) S
  | .d2i => mm_d st fun x r => mm_go (pc + 1) L (.int (FP.d2i x) :: r) S
  | .dadd => mm_dd st fun x y r => cond (mm_n64 (FP.dadd x y)) (mm_go (pc + 1) L (.double (FP.dadd x y) :: r) S) none
  | .dsub => mm_dd st fun x y r => cond (mm_n64 (FP.dsub x y)) (mm_go (pc + 1) L (.double (FP.dsub x y) :: r) S) none
  | .dmul => mm_dd st fun x y r => cond (mm_n64 (FP.dmul x y)) (mm_go (pc + 1) L (.double (FP.dmul x y) :: r) S) none
  | .ddiv => mm_dd st fun x y r => cond (mm_n64 (FP.ddiv x y)) (mm_go (pc + 1) L (.double (FP.ddiv x y) :: r) S) none
  | .dneg => mm_d st fun x r => mm_go (pc + 1) L (.double (FP.dneg x) :: r) S
  | .dcmp op => mm_dd st fun x y r => mm_go (pc + 1) L (.int (Op.cmpValue (FP.dcmp x y) op) :: r) S
  | .lcmp => mm_jj st fun x y r => mm_go (pc + 1) L (.int (lg_cmp x y) :: r) S
  | .dup => mm_1 st fun v r => cond (mm_c2 v) none (mm_go (pc + 1) L (v :: v :: r) S)
  | .pop => mm_1 st fun v r => cond (mm_c2 v) none (mm_go (pc + 1) L r S)
  | .dup_x1 => mm_2 st fun v w r => cond (mm_c2 v || mm_c2 w) none (mm_go (pc + 1) L (v :: w :: v :: r) S)
  | .dup_x2 => mm_3 st fun v w u r => cond (mm_c2 v || (mm_c2 w || mm_c2 u)) none (mm_go (pc + 1) L (v :: w :: u :: v :: r) S)
  | .dup2 => mm_2 st fun v w r => cond (mm_c2 v || mm_c2 w) none (mm_go (pc + 1) L (v :: w :: v :: w :: r) S)
  | .goto o => mm_go (mm_tg pc o) L st S
  | .ifCond c o => mm_i st fun x r => mm_icmp c x 0 (mm_go (mm_tg pc o) L r S) (mm_go (pc + 3) L r S)
  | .if_icmp c o => mm_ii st fun x y r => mm_icmp c x y (mm_go (mm_tg pc o) L r S) (mm_go (pc + 3) L r S)
  | .ifnull o => mm_1 st fun v r => match v with
    | .ref _ => mm_go (pc + 3) L r S
    | .null => mm_go (mm_tg pc o) L r S
    | _ => none
  | .ifnonnull o => mm_1 st fun v r => match v with
    | .ref _ => mm_go (mm_tg pc o) L r S
    | .null => mm_go (pc + 3) L r S
    | _ => none
  | .tableswitch d lo _ os => mm_i st fun x r => mm_tsw x (fun o => mm_go (mm_tg pc o) L r S) d lo os.toList
  | .lookupswitch d ps => mm_i st fun x r => mm_lsw x (fun o => mm_go (mm_tg pc o) L r S) d ps.toList
  | .getfield ix => mm_lk me ix fun k => cond (Nat.beq k.1 0) (mm_getf ck pc L st S k.2.1 k.2.2.1) none
  | .putfield ix => mm_lk me ix fun k => cond (Nat.beq k.1 0) (mm_putf ck pc L st S k.2.1 k.2.2.1) none
  | .arraylength => mm_1 st fun v r => match v with
    | .retAddr _ => mm_go (pc + 1) L (.int (Int32.ofNat Ls) :: r) S
    | .ref a => match S.1[a]? with
      | some (.inr (_, n)) => mm_go (pc + 1) L (.int (Int32.ofNat n) :: r) S
      | _ => none
    | _ => none
  | .iaload => mm_ial xs Ls ak pc L S st
  | .caload => mm_ai ak S st 1 fun i a r => mm_go (pc + 1) L (.int (S.2.1.1 a i.toNatClampNeg) :: r) S
  | .baload => mm_ai ak S st 4 fun i a r => mm_go (pc + 1) L (.int (S.2.1.1 a i.toNatClampNeg) :: r) S
  | .daload => mm_ai ak S st 2 fun i a r => mm_go (pc + 1) L (.double (S.2.1.2.1 a i.toNatClampNeg) :: r) S
  | .laload => mm_ai ak S st 3 fun i a r => mm_go (pc + 1) L (.long (S.2.1.2.2.2 a i.toNatClampNeg) :: r) S
  | .aaload => mm_ai ak S st 5 fun i a r => mm_go (pc + 1) L (va_rf (S.2.1.2.2.1 a i.toNatClampNeg) :: r) S
  | .iastore => mm_i st fun x st => mm_ai ak S st 0 fun i a r => mm_go (pc + 1) L r (mm_sI S a i.toNatClampNeg x)
  | .castore => mm_i st fun x st => mm_ai ak S st 1 fun i a r => mm_go (pc + 1) L r (mm_sI S a i.toNatClampNeg (vp_nar .char x))
  | .bastore => mm_i st fun x st => mm_ai ak S st 4 fun i a r => mm_go (pc + 1) L r (mm_sI S a i.toNatClampNeg (vp_nar .boolean x))
  | .dastore => mm_d st fun x st => mm_ai ak S st 2 fun i a r => mm_go (pc + 1) L r (mm_sD S a i.toNatClampNeg x)
  | .lastore => mm_j st fun x st => mm_ai ak S st 3 fun i a r => mm_go (pc + 1) L r (mm_sJ S a i.toNatClampNeg x)
  | .aastore => mm_aas ak S st fun x i a r => mm_go (pc + 1) L r (mm_sR S a i.toNatClampNeg (some x))
  | .new ix => mm_lk me ix fun k => cond (Nat.beq k.1 4) (mm_al S (mm_go (pc + 3) L (.ref S.1.length :: st) (mm_new S (.inl k.2.1)))) (cond (Nat.beq k.1 5 && Nat.ble (mm_wt st) 8) (match me.hs with
      | [] => mm_end (.inr k.2.1) (S.1, S.2.1, S.2.2 + 1)
      | _ :: _ => none) none)
  | .newarray t => mm_i st fun n r => mm_al S (if n < 0 then none else match t with
    | .int => mm_go (pc + 2) L (.ref S.1.length :: r) (mm_new S (.inr (0, n.toNatClampNeg)))
    | .char => mm_go (pc + 2) L (.ref S.1.length :: r) (mm_new S (.inr (1, n.toNatClampNeg)))
    | .double => mm_go (pc + 2) L (.ref S.1.length :: r) (mm_new S (.inr (2, n.toNatClampNeg)))
    | .long => mm_go (pc + 2) L (.ref S.1.length :: r) (mm_new S (.inr (3, n.toNatClampNeg)))
    | .boolean => mm_go (pc + 2) L (.ref S.1.length :: r) (mm_new S (.inr (4, n.toNatClampNeg)))
    | _ => none)
  | .anewarray ix => mm_i st fun n r => mm_lk me ix fun k => cond (Nat.beq k.1 4) (mm_al S (if n < 0 then none else mm_go (pc + 3) L (.ref S.1.length :: r) (mm_new S (.inr (10 + k.2.1, n.toNatClampNeg))))) none
  | .invokevirtual ix => mm_lk me ix fun k => cond (Nat.beq k.1 1) (mm_inv call me pc L st S k.2.1 k.2.2.1 k.2.2.2) none
  | .invokespecial ix => mm_lk me ix fun k => cond (Nat.beq k.1 10) (mm_noT (mm_inv call me pc L st S k.2.1 k.2.2.1 k.2.2.2)) (cond (Nat.beq k.1 3) (mm_r st fun _ r => cond (Nat.ble (mm_wt r) 8) (mm_go (pc + 3) L r S) none) none)
  | .invokestatic ix => mm_lk me ix fun k => cond (Nat.beq k.1 2) (mm_invS call me pc L st S k.2.1 k.2.2.1) (cond (Nat.beq k.1 14) (mm_noT (mm_invS call me pc L st S k.2.1 k.2.2.1)) none)
  | .ireturn => mm_rI me S st
  | .lreturn => mm_rJ S st
  | .dreturn => mm_rD S st
  | .areturn => mm_rA S st
  | .return_ => mm_rV S st
  | _ => none
def mm_step (xs : Nat → Int32) (Ls : Nat) (ck : Nat → List Nat) (ak : Nat → FieldType) (me : mm_Me) (z : mm_Z) : mm_N := match me.dec[z.1]? with
  | some (some i) => mm_do call xs Ls ck ak me z.1 z.2.1 z.2.2.1 z.2.2.2 i.1
  | _ => none
end MM
/-- n instructions of a method at most -/
def mm_ex (nx : mm_Z → mm_N) : Nat → mm_Z → Option mm_O
  | 0 => fun _ => none
  | n + 1 => fun z => match nx z with
    | some (.inl z') => mm_ex nx n z'
    | some (.inr o) => some o
    | none => none
theorem mm_ex_go {nx : mm_Z → mm_N} {n : Nat} {z z' : mm_Z} (h : nx z = some (.inl z')) : mm_ex nx (n + 1) z = mm_ex nx n z' := by
  show (match nx z with
    | some (.inl z') => mm_ex nx n z'
    | some (.inr o) => some o
    | none => none) = _
  rw [h]
theorem mm_ex_end {nx : mm_Z → mm_N} {n : Nat} {z : mm_Z} {o : mm_O} (h : nx z = some (.inr o)) : mm_ex nx (n + 1) z = some o := by
  show (match nx z with
    | some (.inl z') => mm_ex nx n z'
    | some (.inr o) => some o
    | none => none) = _
  rw [h]
/-- it comes to o -/
def mm_R (nx : mm_Z → mm_N) (z : mm_Z) (o : mm_O) : Prop := ∃ n, mm_ex nx n z = some o
theorem mm_R.go {nx : mm_Z → mm_N} {z z' : mm_Z} {o : mm_O} (h : nx z = some (.inl z')) (k : mm_R nx z' o) : mm_R nx z o := by
  obtain ⟨n, hn⟩ := k
  exact ⟨n + 1, by rw [mm_ex_go h]; exact hn⟩
theorem mm_R.end {nx : mm_Z → mm_N} {z : mm_Z} {o : mm_O} (h : nx z = some (.inr o)) : mm_R nx z o := ⟨1, mm_ex_end h⟩
/-- by the instruction that stands there -/
theorem mm_R.cs {nx : mm_Z → mm_N} {z : mm_Z} {o : mm_O} (h : mm_R nx z o) : (∃ z', nx z = some (.inl z') ∧ mm_R nx z' o) ∨ nx z = some (.inr o) := by
  obtain ⟨n, hn⟩ := h
  cases n with
  | zero => cases hn
  | succ n =>
    cases hz : nx z with
    | none =>
      rw [show mm_ex nx (n + 1) z = none by
        show (match nx z with
          | some (.inl z') => mm_ex nx n z'
          | some (.inr o) => some o
          | none => none) = _
        rw [hz]] at hn
      cases hn
    | some r =>
      cases r with
      | inl z' => exact Or.inl ⟨z', rfl, n, by rw [← mm_ex_go hz]; exact hn⟩
      | inr o' =>
        rw [mm_ex_end hz] at hn
        cases hn
        exact Or.inr rfl
theorem mm_R.one {nx : mm_Z → mm_N} : ∀ (n : Nat) (z : mm_Z) (o o' : mm_O), mm_ex nx n z = some o → mm_R nx z o' → o = o' := by
  intro n
  induction n with
  | zero => intro z o o' h; cases h
  | succ n ih =>
    intro z o o' h h'
    rcases h'.cs with ⟨z', hz, hr⟩ | hz
    · rw [mm_ex_go hz] at h
      exact ih z' o o' h hr
    · rw [mm_ex_end hz] at h
      exact (Option.some.inj h).symm
theorem mm_R.det {nx : mm_Z → mm_N} {z : mm_Z} {o o' : mm_O} (h : mm_R nx z o) (h' : mm_R nx z o') : o = o' := by
  obtain ⟨n, hn⟩ := h
  exact mm_R.one n z o o' hn h'
section
variable (xs : Nat → Int32) (Ls : Nat) (ck : Nat → List Nat) (ak : Nat → FieldType) (me : Nat → mm_Me)
/-- a call of the method j, d frames deep at most -/
noncomputable def mm_ev : Nat → Nat → List Value → mm_St → Option mm_O
  | 0 => fun _ _ _ => none
  | d + 1 => fun j as S => Classical.epsilon (fun r : Option mm_O => ∀ o, r = some o ↔ (mm_wt as ≤ (me j).nL ∧ mm_R (mm_step (mm_ev d) xs Ls ck ak (me j)) (0, mm_pad (mm_in as) (me j).nL, [], S) o))
theorem mm_ev_iff {d j : Nat} {as : List Value} {S : mm_St} {o : mm_O} : mm_ev xs Ls ck ak me (d + 1) j as S = some o ↔ (mm_wt as ≤ (me j).nL ∧ mm_R (mm_step (mm_ev xs Ls ck ak me d) xs Ls ck ak (me j)) (0, mm_pad (mm_in as) (me j).nL, [], S) o) := by
  have h : ∃ r : Option mm_O, ∀ o, r = some o ↔ (mm_wt as ≤ (me j).nL ∧ mm_R (mm_step (mm_ev xs Ls ck ak me d) xs Ls ck ak (me j)) (0, mm_pad (mm_in as) (me j).nL, [], S) o) := by
    by_cases hh : ∃ o, mm_wt as ≤ (me j).nL ∧ mm_R (mm_step (mm_ev xs Ls ck ak me d) xs Ls ck ak (me j)) (0, mm_pad (mm_in as) (me j).nL, [], S) o
    · obtain ⟨o1, h0, h1⟩ := hh
      exact ⟨some o1, fun o => ⟨fun e => by rw [← Option.some.inj e]; exact ⟨h0, h1⟩, fun h2 => by rw [h1.det h2.2]⟩⟩
    · exact ⟨none, fun o => ⟨fun e => (by cases e), fun h2 => absurd ⟨o, h2⟩ hh⟩⟩
  exact Classical.epsilon_spec h o
end
end
section
/-! THE SMALL MACHINE AND THE HEAP: a small address a is the cell B + a; the script is the cell b -/
def mm_v (B b : Nat) : Value → Value
  | .ref a => .ref (B + a)
  | .retAddr _ => .ref b
  | v => v
theorem mm_v_cat (B b : Nat) (v : Value) : (mm_v B b v).category = cond (mm_c2 v) 2 1 := by cases v <;> rfl
theorem mm_v_rf (B b : Nat) (r : Option Nat) : mm_v B b (va_rf r) = va_rf (r.map (B + ·)) := by cases r <;> rfl
theorem mm_wt_eq (B b : Nat) (st : List Value) : ((st.map (mm_v B b)).map fun v => v.category).sum = mm_wt st := by
  induction st with
  | nil => rfl
  | cons v vs ih =>
    simp only [List.map_cons, List.sum_cons, mm_v_cat, mm_wt] at ih ⊢
    rw [ih]
def mm_fs (M : mm_M) (B b a : Nat) (kds : List Nat) : List Value := (List.range kds.length).map fun k => mm_v B b (mm_rd M (kds.getD k 0) a k)
theorem mm_fs_at {M : mm_M} {B b a : Nat} {kds : List Nat} {k kd : Nat} (h : kds[k]? = some kd) : (mm_fs M B b a kds)[k]? = some (mm_v B b (mm_rd M kd a k)) := by
  have hk : k < kds.length := (List.getElem?_eq_some_iff.mp h).1
  have e : kds[k] = kd := (List.getElem?_eq_some_iff.mp h).2
  simp [mm_fs, hk, e]
theorem mm_fs_len (M : mm_M) (B b a : Nat) (kds : List Nat) : (mm_fs M B b a kds).length = kds.length := by simp [mm_fs]
/-- only what lies at the address a tells -/
theorem mm_fs_eq {M M' : mm_M} {B b a : Nat} {kds : List Nat} (h : ∀ k kd, kds[k]? = some kd → mm_rd M' kd a k = mm_rd M kd a k) : mm_fs M' B b a kds = mm_fs M B b a kds := by
  refine List.ext_getElem? fun i => ?_
  by_cases hi : i < kds.length
  · have e := List.getElem?_eq_getElem hi
    rw [mm_fs_at e, mm_fs_at e, h i _ e]
  · rw [List.getElem?_eq_none (by rw [mm_fs_len]; omega), List.getElem?_eq_none (by rw [mm_fs_len]; omega)]
theorem mm_fs_set {M M' : mm_M} {B b a : Nat} {kds : List Nat} {k kd : Nat} {v : Value} (hk : kds[k]? = some kd) (hv : mm_rd M' kd a k = v) (h : ∀ j kj, j ≠ k → kds[j]? = some kj → mm_rd M' kj a j = mm_rd M kj a j) :
    mm_fs M' B b a kds = (mm_fs M B b a kds).set k (mm_v B b v) := by
  have hlt : k < kds.length := (List.getElem?_eq_some_iff.mp hk).1
  refine List.ext_getElem? fun i => ?_
  rw [List.getElem?_set]
  by_cases hi : i < kds.length
  · have e := List.getElem?_eq_getElem hi
    by_cases hik : k = i
    · subst hik
      rw [if_pos rfl, if_pos (by rw [mm_fs_len]; exact hlt), mm_fs_at hk, hv]
    · rw [if_neg hik, mm_fs_at e, mm_fs_at e, h i _ (Ne.symm hik) e]
  · rw [if_neg (by omega), List.getElem?_eq_none (by rw [mm_fs_len]; omega), List.getElem?_eq_none (by rw [mm_fs_len]; omega)]
def mm_arr (ty : FieldType) (M : mm_M) (B a : Nat) : (Nat → Int32) ⊕ (Nat → Int64) ⊕ (Nat → UInt32) ⊕ (Nat → UInt64) ⊕ (Nat → Option Nat) := match ty with
  | .double => .inr (.inr (.inr (.inl (M.2.1 a))))
  | .long => .inr (.inl (M.2.2.2 a))
  | .object _ => .inr (.inr (.inr (.inr (fun j => (M.2.2.1 a j).map (B + ·)))))
  | _ => .inl (M.1 a)
section REL
variable (ck : Nat → List Nat) (ak : Nat → FieldType) (dA : Nat → ClassId) (B b : Nat)
def mm_cell (M : mm_M) (a : Nat) : Nat ⊕ (Nat × Nat) → va_E
  | .inl ci => .inr (ci, mm_fs M B b a (ck ci))
  | .inr (t, n) => .inl (dA t, n, mm_arr (ak t) M B a)
def mm_ws (Sh : mm_Sh) (M : mm_M) : va_W := (List.range Sh.length).map fun a => (B + a, mm_cell ck ak dA B b M a (Sh.getD a (.inl 0)))
variable {ck ak dA B b}
theorem mm_ws_at {Sh : mm_Sh} {M : mm_M} {a : Nat} {sh : Nat ⊕ (Nat × Nat)} (h : Sh[a]? = some sh) : (mm_ws ck ak dA B b Sh M)[a]? = some (B + a, mm_cell ck ak dA B b M a sh) := by
  have ha : a < Sh.length := (List.getElem?_eq_some_iff.mp h).1
  have e : Sh[a] = sh := (List.getElem?_eq_some_iff.mp h).2
  simp [mm_ws, ha, e]
theorem mm_ws_len (Sh : mm_Sh) (M : mm_M) : (mm_ws ck ak dA B b Sh M).length = Sh.length := by simp [mm_ws]
theorem mm_ws_of {Sh : mm_Sh} {M : mm_M} {a : Nat} {q : Nat × va_E} (h : (mm_ws ck ak dA B b Sh M)[a]? = some q) : q.1 = B + a ∧ a < Sh.length := by
  have ha : a < Sh.length := by
    have := (List.getElem?_eq_some_iff.mp h).1
    rwa [mm_ws_len] at this
  rw [mm_ws_at (List.getElem?_eq_getElem ha)] at h
  cases h
  exact ⟨rfl, ha⟩
theorem mm_ws_D {A : Nat → Prop} (hA : ∀ q, B ≤ q → A q) (Sh : mm_Sh) (M : mm_M) : va_D A (mm_ws ck ak dA B b Sh M) := by
  refine ⟨fun i j p q hp hq he => ?_, fun k q hk => ?_⟩
  · have h1 := (mm_ws_of hp).1
    have h2 := (mm_ws_of hq).1
    omega
  · exact hA _ (by have := (mm_ws_of hk).1; omega)
/-- a cell's change -/
theorem mm_ws_set {Sh : mm_Sh} {M M' : mm_M} {a : Nat} {sh : Nat ⊕ (Nat × Nat)} {e : va_E} (ha : Sh[a]? = some sh) (he : mm_cell ck ak dA B b M' a sh = e)
    (h : ∀ c, c ≠ a → ∀ sc, Sh[c]? = some sc → mm_cell ck ak dA B b M' c sc = mm_cell ck ak dA B b M c sc) : mm_ws ck ak dA B b Sh M' = (mm_ws ck ak dA B b Sh M).set a (B + a, e) := by
  have hlt : a < Sh.length := (List.getElem?_eq_some_iff.mp ha).1
  refine List.ext_getElem? fun i => ?_
  rw [List.getElem?_set]
  by_cases hi : i < Sh.length
  · have e0 := List.getElem?_eq_getElem hi
    by_cases hia : a = i
    · subst hia
      rw [if_pos rfl, if_pos (by rw [mm_ws_len]; exact hlt), mm_ws_at ha, he]
    · rw [if_neg hia, mm_ws_at e0, mm_ws_at e0, h i (Ne.symm hia) _ e0]
  · rw [if_neg (by omega), List.getElem?_eq_none (by rw [mm_ws_len]; omega), List.getElem?_eq_none (by rw [mm_ws_len]; omega)]
/-- stores that agree at an address -/
def mm_ag (M M' : mm_M) (c : Nat) : Prop := M'.1 c = M.1 c ∧ M'.2.1 c = M.2.1 c ∧ M'.2.2.1 c = M.2.2.1 c ∧ M'.2.2.2 c = M.2.2.2 c
theorem mm_rd_ag {M M' : mm_M} {c : Nat} (h : mm_ag M M' c) (kd k : Nat) : mm_rd M' kd c k = mm_rd M kd c k := by
  obtain ⟨h1, h2, h3, h4⟩ := h
  unfold mm_rd
  split <;> simp [h1, h2, h3, h4]
theorem mm_cell_ag {M M' : mm_M} {c : Nat} (h : mm_ag M M' c) (sc : Nat ⊕ (Nat × Nat)) : mm_cell ck ak dA B b M' c sc = mm_cell ck ak dA B b M c sc := by
  cases sc with
  | inl ci => simp only [mm_cell]; rw [mm_fs_eq fun k kd _ => mm_rd_ag h kd k]
  | inr tn =>
    obtain ⟨t, n⟩ := tn
    obtain ⟨h1, h2, h3, h4⟩ := h
    simp only [mm_cell, mm_arr, h1, h2, h3, h4]
theorem mm_u_ag {α : Type} {f : Nat → Nat → α} {a k c : Nat} {x : α} (h : c ≠ a) : mm_u f a k x c = f c := by
  funext j
  exact mm_u_a h
theorem mm_z_ag {α : Type} {f : Nat → Nat → α} {a c : Nat} {d : α} (h : c ≠ a) : mm_z f a d c = f c := by
  funext j
  simp [mm_z, h]
theorem mm_sI_ag {S : mm_St} {a k c : Nat} {x : Int32} (h : c ≠ a) : mm_ag S.2.1 (mm_sI S a k x).2.1 c := ⟨mm_u_ag h, rfl, rfl, rfl⟩
theorem mm_sD_ag {S : mm_St} {a k c : Nat} {x : UInt64} (h : c ≠ a) : mm_ag S.2.1 (mm_sD S a k x).2.1 c := ⟨rfl, mm_u_ag h, rfl, rfl⟩
theorem mm_sR_ag {S : mm_St} {a k c : Nat} {x : Option Nat} (h : c ≠ a) : mm_ag S.2.1 (mm_sR S a k x).2.1 c := ⟨rfl, rfl, mm_u_ag h, rfl⟩
theorem mm_sJ_ag {S : mm_St} {a k c : Nat} {x : Int64} (h : c ≠ a) : mm_ag S.2.1 (mm_sJ S a k x).2.1 c := ⟨rfl, rfl, rfl, mm_u_ag h⟩
/-- a field is set -/
theorem mm_ws_f {S : mm_St} {M' : mm_M} {a ci k kd : Nat} {v : Value} (ha : S.1[a]? = some (.inl ci)) (hk : (ck ci)[k]? = some kd) (hv : mm_rd M' kd a k = v) (hj : ∀ j kj, j ≠ k → mm_rd M' kj a j = mm_rd S.2.1 kj a j) (hag : ∀ c, c ≠ a → mm_ag S.2.1 M' c) :
    mm_ws ck ak dA B b S.1 M' = (mm_ws ck ak dA B b S.1 S.2.1).set a (B + a, .inr (ci, (mm_fs S.2.1 B b a (ck ci)).set k (mm_v B b v))) :=
  mm_ws_set ha (by simp only [mm_cell]; rw [mm_fs_set hk hv fun j kj hjk _ => hj j kj hjk]) fun c hc sc _ => mm_cell_ag (hag c hc) sc
theorem mm_u_row (f : Nat → Nat → Int32) (a k : Nat) (x : Int32) : mm_u f a k x a = upd (f a) k x := by
  funext j
  simp [mm_u, upd]
theorem mm_u_rowD (f : Nat → Nat → UInt64) (a k : Nat) (x : UInt64) : mm_u f a k x a = vf_upd (f a) k x := by
  funext j
  simp [mm_u, vf_upd]
theorem mm_u_rowJ (f : Nat → Nat → Int64) (a k : Nat) (x : Int64) : mm_u f a k x a = vp_updL (f a) k x := by
  funext j
  simp [mm_u, vp_updL]
theorem mm_u_rowR (f : Nat → Nat → Option Nat) (a k : Nat) (x : Option Nat) : (fun j => (mm_u f a k x a j).map (B + ·)) = va_up (fun j => (f a j).map (B + ·)) k (x.map (B + ·)) := by
  funext j
  by_cases h : j = k <;> simp [mm_u, va_up, h]
end REL
end
section
/-! ONE INSTRUCTION -/
def mm_len : Instr → Nat
  | .bipush _ | .iload _ | .lload _ | .dload _ | .aload _ | .istore _ | .lstore _ | .dstore _ | .astore _ | .ldc _ | .newarray _ => 2
  | .sipush _ | .ldc2_w _ | .ldc_w _ | .iinc _ _ | .goto _ | .ifCond _ _ | .if_icmp _ _ | .ifnull _ | .ifnonnull _ | .getfield _ | .putfield _ | .new _ | .anewarray _ | .invokevirtual _ | .invokespecial _ | .invokestatic _ => 3
  | .tableswitch _ _ _ _ | .lookupswitch _ _ => 0
  | _ => 1
def mm_offs : Instr → List Int
  | .goto o => [o]
  | .ifCond _ o => [o]
  | .if_icmp _ o => [o]
  | .ifnull o => [o]
  | .ifnonnull o => [o]
  | .tableswitch d _ _ os => d :: os.toList
  | .lookupswitch d ps => d :: ps.toList.map (·.2)
  | _ => []
theorem mm_tg_eq {pc : Nat} {o : Int} (h : 0 ≤ (pc : Int) + o) : (pc : Int) + o = (mm_tg pc o : Int) := (Int.toNat_of_nonneg h).symm
theorem mm_i_inv {st : List Value} {f : Int32 → List Value → mm_N} {z : mm_Z ⊕ mm_O} (h : mm_i st f = some z) : ∃ x r, st = .int x :: r ∧ f x r = some z := by
  unfold mm_i at h
  split at h
  · exact ⟨_, _, rfl, h⟩
  · cases h
theorem mm_ii_inv {st : List Value} {f : Int32 → Int32 → List Value → mm_N} {z : mm_Z ⊕ mm_O} (h : mm_ii st f = some z) : ∃ x y r, st = .int y :: .int x :: r ∧ f x y r = some z := by
  unfold mm_ii at h
  split at h
  · exact ⟨_, _, _, rfl, h⟩
  · cases h
theorem mm_j_inv {st : List Value} {f : Int64 → List Value → mm_N} {z : mm_Z ⊕ mm_O} (h : mm_j st f = some z) : ∃ x r, st = .long x :: r ∧ f x r = some z := by
  unfold mm_j at h
  split at h
  · exact ⟨_, _, rfl, h⟩
  · cases h
theorem mm_jj_inv {st : List Value} {f : Int64 → Int64 → List Value → mm_N} {z : mm_Z ⊕ mm_O} (h : mm_jj st f = some z) : ∃ x y r, st = .long y :: .long x :: r ∧ f x y r = some z := by
  unfold mm_jj at h
  split at h
  · exact ⟨_, _, _, rfl, h⟩
  · cases h
theorem mm_ji_inv {st : List Value} {f : Int64 → Int32 → List Value → mm_N} {z : mm_Z ⊕ mm_O} (h : mm_ji st f = some z) : ∃ x y r, st = .int y :: .long x :: r ∧ f x y r = some z := by
  unfold mm_ji at h
  split at h
  · exact ⟨_, _, _, rfl, h⟩
  · cases h
theorem mm_d_inv {st : List Value} {f : UInt64 → List Value → mm_N} {z : mm_Z ⊕ mm_O} (h : mm_d st f = some z) : ∃ x r, st = .double x :: r ∧ f x r = some z := by
  unfold mm_d at h
  split at h
  · exact ⟨_, _, rfl, h⟩
  · cases h
theorem mm_dd_inv {st : List Value} {f : UInt64 → UInt64 → List Value → mm_N} {z : mm_Z ⊕ mm_O} (h : mm_dd st f = some z) : ∃ x y r, st = .double y :: .double x :: r ∧ f x y r = some z := by
  unfold mm_dd at h
  split at h
  · exact ⟨_, _, _, rfl, h⟩
  · cases h
theorem mm_r_inv {st : List Value} {f : Nat → List Value → mm_N} {z : mm_Z ⊕ mm_O} (h : mm_r st f = some z) : ∃ a r, st = .ref a :: r ∧ f a r = some z := by
  unfold mm_r at h
  split at h
  · exact ⟨_, _, rfl, h⟩
  · cases h
theorem mm_1_inv {st : List Value} {f : Value → List Value → mm_N} {z : mm_Z ⊕ mm_O} (h : mm_1 st f = some z) : ∃ v r, st = v :: r ∧ f v r = some z := by
  unfold mm_1 at h
  split at h
  · exact ⟨_, _, rfl, h⟩
  · cases h
theorem mm_2_inv {st : List Value} {f : Value → Value → List Value → mm_N} {z : mm_Z ⊕ mm_O} (h : mm_2 st f = some z) : ∃ v w r, st = v :: w :: r ∧ f v w r = some z := by
  unfold mm_2 at h
  split at h
  · exact ⟨_, _, _, rfl, h⟩
  · cases h
theorem mm_3_inv {st : List Value} {f : Value → Value → Value → List Value → mm_N} {z : mm_Z ⊕ mm_O} (h : mm_3 st f = some z) : ∃ v w u r, st = v :: w :: u :: r ∧ f v w u r = some z := by
  unfold mm_3 at h
  split at h
  · exact ⟨_, _, _, _, rfl, h⟩
  · cases h
theorem mm_lI_inv {L : mm_L} {n : Nat} {f : Int32 → mm_N} {z : mm_Z ⊕ mm_O} (h : mm_lI L n f = some z) : ∃ x, mm_ld L n = some (.int x) ∧ f x = some z := by
  unfold mm_lI at h
  split at h
  next hx => exact ⟨_, hx, h⟩
  next => cases h
theorem mm_lJ_inv {L : mm_L} {n : Nat} {f : Int64 → mm_N} {z : mm_Z ⊕ mm_O} (h : mm_lJ L n f = some z) : ∃ x, mm_ld L n = some (.long x) ∧ f x = some z := by
  unfold mm_lJ at h
  split at h
  next hx => exact ⟨_, hx, h⟩
  next => cases h
theorem mm_lD_inv {L : mm_L} {n : Nat} {f : UInt64 → mm_N} {z : mm_Z ⊕ mm_O} (h : mm_lD L n f = some z) : ∃ x, mm_ld L n = some (.double x) ∧ f x = some z := by
  unfold mm_lD at h
  split at h
  next hx => exact ⟨_, hx, h⟩
  next => cases h
theorem mm_lA_inv {L : mm_L} {n : Nat} {f : Value → mm_N} {z : mm_Z ⊕ mm_O} (h : mm_lA L n f = some z) : (∃ x, mm_ld L n = some (.ref x) ∧ f (.ref x) = some z) ∨ (∃ x, mm_ld L n = some (.retAddr x) ∧ f (.retAddr x) = some z) := by
  unfold mm_lA at h
  split at h
  next hx => exact Or.inl ⟨_, hx, h⟩
  next hx => exact Or.inr ⟨_, hx, h⟩
  next => cases h
theorem mm_lk_inv {me : mm_Me} {ix : Nat} {f : mm_K → mm_N} {z : mm_Z ⊕ mm_O} (h : mm_lk me ix f = some z) : ∃ k, me.lk ix = some k ∧ f k = some z := by
  unfold mm_lk at h
  split at h
  next k hx => exact ⟨k, hx, h⟩
  next => cases h
theorem mm_cond_inv {q : Bool} {A : mm_N} {z : mm_Z ⊕ mm_O} (h : cond q A none = some z) : q = true ∧ A = some z := by
  cases q with
  | true => exact ⟨rfl, h⟩
  | false => cases h
theorem mm_cond2_inv {q : Bool} {A A' : mm_N} {z : mm_Z ⊕ mm_O} (h : cond q A A' = some z) : (q = true ∧ A = some z) ∨ (q = false ∧ A' = some z) := by
  cases q with
  | true => exact Or.inl ⟨rfl, h⟩
  | false => exact Or.inr ⟨rfl, h⟩
theorem mm_condn_inv {q : Bool} {A : mm_N} {z : mm_Z ⊕ mm_O} (h : cond q none A = some z) : q = false ∧ A = some z := by
  cases q with
  | true => cases h
  | false => exact ⟨rfl, h⟩
theorem mm_noT_inv {r : mm_N} {z : mm_Z ⊕ mm_O} (h : mm_noT r = some z) : r = some z ∧ ∃ z', z = .inl z' := by
  unfold mm_noT at h
  split at h
  next z' => cases h; exact ⟨rfl, z', rfl⟩
  next => cases h
theorem mm_al_inv {S : mm_St} {A : mm_N} {z : mm_Z ⊕ mm_O} (h : mm_al S A = some z) : S.2.2 = 0 ∧ A = some z := by
  unfold mm_al at h
  split at h
  next hx => exact ⟨hx, h⟩
  next => cases h
theorem mm_ix_inv {i : Int32} {n : Nat} {A : mm_N} {z : mm_Z ⊕ mm_O} (h : mm_ix i n A = some z) : vp_in i n ∧ A = some z := by
  unfold mm_ix at h
  split at h
  next => cases h
  next hx => exact ⟨hx, h⟩
theorem mm_ar_inv {ak : Nat → FieldType} {S : mm_St} {a ty : Nat} {f : Nat → mm_N} {z : mm_Z ⊕ mm_O} (h : mm_ar ak S a ty f = some z) : ∃ t n, S.1[a]? = some (.inr (t, n)) ∧ mm_ty (ak t) = ty ∧ f n = some z := by
  unfold mm_ar at h
  split at h
  next t n hx =>
    obtain ⟨h1, h2⟩ := mm_cond_inv h
    exact ⟨t, n, hx, Nat.eq_of_beq_eq_true h1, h2⟩
  next => cases h
theorem mm_ai_inv {ak : Nat → FieldType} {S : mm_St} {st : List Value} {ty : Nat} {f : Int32 → Nat → List Value → mm_N} {z : mm_Z ⊕ mm_O} (h : mm_ai ak S st ty f = some z) : ∃ i a r t n, st = .int i :: .ref a :: r ∧ S.1[a]? = some (.inr (t, n)) ∧ mm_ty (ak t) = ty ∧ vp_in i n ∧ f i a r = some z := by
  unfold mm_ai at h
  split at h
  next i a r =>
    obtain ⟨t, n, h1, h2, h3⟩ := mm_ar_inv h
    obtain ⟨h4, h5⟩ := mm_ix_inv h3
    exact ⟨i, a, r, t, n, rfl, h1, h2, h4, h5⟩
  next => cases h
/-! locals -/
def mm_LR (B b : Nat) (ls : Array Slot) (n : Nat) (L : mm_L) : Prop := ls.size = n ∧ lv_wf ls ∧ ∀ i v, mm_ld L i = some v → ls[i]? = some (.val (mm_v B b v))
def mm_as (B b : Nat) (L : mm_L) : List (Nat × Value) := (List.range L.length).filterMap fun i => (mm_ld L i).map fun v => (i, mm_v B b v)
theorem mm_ld_lt {L : mm_L} {i : Nat} {v : Value} (h : mm_ld L i = some v) : i < L.length := by
  unfold mm_ld at h
  split at h
  next hx => exact (List.getElem?_eq_some_iff.mp hx).1
  next => cases h
theorem mm_as_mem {B b : Nat} {L : mm_L} {i : Nat} {v : Value} (h : mm_ld L i = some v) : (i, mm_v B b v) ∈ mm_as B b L :=
  List.mem_filterMap.mpr ⟨i, List.mem_range.mpr (mm_ld_lt h), by rw [h]; rfl⟩
theorem mm_as_of {B b : Nat} {L : mm_L} {q : Nat × Value} (h : q ∈ mm_as B b L) : ∃ v, mm_ld L q.1 = some v ∧ q.2 = mm_v B b v := by
  obtain ⟨i, -, h2⟩ := List.mem_filterMap.mp h
  cases hv : mm_ld L i with
  | none => rw [hv] at h2; cases h2
  | some v =>
    rw [hv] at h2
    cases h2
    exact ⟨v, hv, rfl⟩
theorem mm_LR.has {B b : Nat} {ls : Array Slot} {n : Nat} {L : mm_L} (h : mm_LR B b ls n L) : lv_has ls n (mm_as B b L) := ⟨h.1, h.2.1, fun q hq => by
  obtain ⟨v, h1, h2⟩ := mm_as_of hq
  rw [h2]
  exact h.2.2 _ _ h1⟩
theorem mm_sto_at (L : mm_L) : ∀ (j k i : Nat) (v : Value), (mm_sto L j i v)[k]? = (L[k]?).map fun o => cond (Nat.beq (j + k) i) (some v) (cond ((Nat.beq (j + k) (i + 1) && mm_c2 v) || (Nat.beq (j + k + 1) i && mm_o2 o)) none o) := by
  induction L with
  | nil => intro j k i v; rfl
  | cons o L ih =>
    intro j k i v
    cases k with
    | zero => rfl
    | succ k =>
      have h := ih (j + 1) k i v
      rw [show j + 1 + k = j + (k + 1) by omega] at h
      exact h
theorem mm_sto_ld {L : mm_L} {i j : Nat} {v w : Value} (h : mm_ld (mm_sto L 0 i v) j = some w) : (j = i ∧ w = v) ∨ (mm_ld L j = some w ∧ j ≠ i ∧ (mm_c2 v = true → j ≠ i + 1) ∧ (mm_c2 w = true → j + 1 ≠ i)) := by
  unfold mm_ld at h
  rw [mm_sto_at] at h
  cases ho : L[j]? with
  | none => rw [ho] at h; cases h
  | some o =>
    rw [ho] at h
    simp only [Option.map_some, Nat.zero_add] at h
    by_cases e1 : j = i
    · subst e1
      rw [Nat.beq_refl] at h
      cases h
      exact Or.inl ⟨rfl, rfl⟩
    · have b1 : Nat.beq j i = false := by
        cases hb : Nat.beq j i
        · rfl
        · exact absurd (Nat.eq_of_beq_eq_true hb) e1
      rw [b1] at h
      cases hq : ((Nat.beq j (i + 1) && mm_c2 v) || (Nat.beq (j + 1) i && mm_o2 o)) with
      | true => rw [hq] at h; cases h
      | false =>
        rw [hq] at h
        have h : o = some w := h
        subst h
        refine Or.inr ⟨by unfold mm_ld; rw [ho], e1, fun hc e => ?_, fun hc e => ?_⟩
        · subst e
          rw [Nat.beq_refl, hc] at hq
          cases hq
        · rw [e, Nat.beq_refl] at hq
          simp only [mm_o2, hc, Bool.and_self, Bool.or_true] at hq
          cases hq
theorem mm_LR.st1 {B b : Nat} {ls : Array Slot} {n i : Nat} {L : mm_L} {v : Value} (hc : mm_c2 v = false)
    (h : lv_has ls n ((i, mm_v B b v) :: (mm_as B b L).filter (fun q => !(q.1 == i) && !(q.1 + 1 == i && q.2.category == 2)))) : mm_LR B b ls n (mm_sto L 0 i v) := by
  refine ⟨h.1, h.2.1, fun j w hw => ?_⟩
  rcases mm_sto_ld hw with ⟨rfl, rfl⟩ | ⟨h1, h2, -, h4⟩
  · exact h.2.2 (j, mm_v B b w) List.mem_cons_self
  · refine h.2.2 (j, mm_v B b w) (List.mem_cons_of_mem _ (List.mem_filter.mpr ⟨mm_as_mem h1, ?_⟩))
    have e1 : (j == i) = false := by simp [h2]
    have e2 : (j + 1 == i && (mm_v B b w).category == 2) = false := by
      cases hw2 : mm_c2 w with
      | true => simp [h4 hw2]
      | false => simp [mm_v_cat, hw2]
    simp only [e1, e2]
    rfl
theorem mm_LR.st2 {B b : Nat} {ls : Array Slot} {n i : Nat} {L : mm_L} {v : Value} (hc : mm_c2 v = true)
    (h : lv_has ls n ((i, mm_v B b v) :: (mm_as B b L).filter (fun q => !(q.1 == i) && (!(q.1 == i + 1) && !(q.1 + 1 == i && q.2.category == 2))))) : mm_LR B b ls n (mm_sto L 0 i v) := by
  refine ⟨h.1, h.2.1, fun j w hw => ?_⟩
  rcases mm_sto_ld hw with ⟨rfl, rfl⟩ | ⟨h1, h2, h3, h4⟩
  · exact h.2.2 (j, mm_v B b w) List.mem_cons_self
  · refine h.2.2 (j, mm_v B b w) (List.mem_cons_of_mem _ (List.mem_filter.mpr ⟨mm_as_mem h1, ?_⟩))
    have e1 : (j == i) = false := by simp [h2]
    have e3 : (j == i + 1) = false := by simp [h3 hc]
    have e2 : (j + 1 == i && (mm_v B b w).category == 2) = false := by
      cases hw2 : mm_c2 w with
      | true => simp [h4 hw2]
      | false => simp [mm_v_cat, hw2]
    simp only [e1, e2, e3]
    rfl
end
section
section SIM
variable {p : Program} {l : Launch} {e : Env} {R : Room} {s : State} {m : MethodId} {args : Array Value} {below : List Frame} {meth : Method} {c : Code} {Q : State → Prop}
/-- from where the small machine stands the JVM comes to Q -/
def mm_J (p : Program) (l : Launch) (e : Env) (R : Room) (s : State) (m : MethodId) (args : Array Value) (below : List Frame) (meth : Method) (c : Code) (Q : State → Prop) (B b nL : Nat) (Rz : mm_St → Heap → List Loc → Nat → Nat → Prop) (z : mm_Z) : Prop :=
  ∀ (ls : Array Slot) (H : Heap) (locs : List Loc) (cells slots : Nat), mm_LR B b ls nL z.2.1 → Rz z.2.2.2 H locs cells slots → W p l e R s m args below meth c H locs cells slots Q (F0 m z.1 ls (z.2.2.1.map (mm_v B b)))
/-- how many locals an instruction needs -/
def mm_sti : Instr → Nat
  | .istore n | .astore n => n + 1
  | .istore_n n | .astore_n n => n.val + 1
  | .iinc n _ => n + 1
  | .lstore n | .dstore n => n + 2
  | .lstore_n n | .dstore_n n => n.val + 2
  | _ => 0
/-- the instructions that leave the cells alone -/
def mm_isP : Instr → Bool
  | .iconst _ | .bipush _ | .sipush _ | .lconst _ | .dconst _ | .aconst_null | .iload_n _ | .iload _ | .lload_n _ | .lload _ | .dload_n _ | .dload _ | .aload_n _ | .aload _ => true
  | .istore_n _ | .istore _ | .lstore_n _ | .lstore _ | .dstore_n _ | .dstore _ | .astore_n _ | .astore _ | .iinc _ _ => true
  | .iadd | .isub | .imul | .idiv | .irem | .ineg | .iand | .ior | .ixor | .ishl | .ishr | .iushr | .ladd | .lsub | .land | .lor | .lushr | .lshr | .lshl | .i2l | .l2i | .i2c | .i2b | .i2d | .d2i => true
  | .dadd | .dsub | .dmul | .ddiv | .dneg | .dcmp _ | .lcmp | .dup | .pop | .dup_x1 | .dup_x2 | .dup2 | .goto _ | .ifCond _ _ | .if_icmp _ _ | .ifnull _ | .ifnonnull _ | .tableswitch _ _ _ _ | .lookupswitch _ _ => true
  | _ => false
theorem mm_tsw_at {x : Int32} {k : Int → mm_N} {d lo : Int} {os : List Int} {z : mm_Z ⊕ mm_O} (h : mm_tsw x k d lo os = some z) (hlo : -2147483648 ≤ lo) (hhi : lo + os.length ≤ 2147483648) :
    ((x.toInt < lo ∨ lo + os.length ≤ x.toInt) ∧ k d = some z) ∨ (∃ o, ¬ x.toInt < lo ∧ os[(x.toInt - lo).toNat]? = some o ∧ k o = some z) := by
  induction os generalizing lo with
  | nil => exact Or.inl ⟨by simp only [List.length_nil]; omega, h⟩
  | cons o os ih =>
    have hl : ((o :: os).length : Int) = os.length + 1 := by simp
    rw [hl] at hhi
    have hlt : (Int32.ofInt lo).toInt = lo := by
      rw [Int32.toInt_ofInt_of_le (by omega) (by omega)]
    unfold mm_tsw at h
    split at h
    next hx =>
      have hx2 : x.toInt = lo := by rw [hx, hlt]
      exact Or.inr ⟨o, by omega, by rw [hx2, Int.sub_self]; rfl, h⟩
    next hx =>
      have hne : x.toInt ≠ lo := fun q => hx (Int32.toInt_inj.mp (by rw [hlt]; exact q))
      rcases ih h (by omega) (by omega) with ⟨h1, h2⟩ | ⟨o2, h1, h2, h3⟩
      · exact Or.inl ⟨by rw [hl]; omega, h2⟩
      · refine Or.inr ⟨o2, by omega, ?_, h3⟩
        rw [show (x.toInt - lo).toNat = (x.toInt - (lo + 1)).toNat + 1 by omega]
        exact h2
theorem mm_lsw_at {x : Int32} {k : Int → mm_N} {d : Int} {ps : List (Int × Int)} {z : mm_Z ⊕ mm_O} (h : mm_lsw x k d ps = some z) (hp : ∀ q ∈ ps, (Int32.ofInt q.1).toInt = q.1) : k (Op.lookupswitch.offset ps d x.toInt) = some z ∧ (Op.lookupswitch.offset ps d x.toInt = d ∨ ∃ q ∈ ps, q.2 = Op.lookupswitch.offset ps d x.toInt) := by
  induction ps with
  | nil => exact ⟨h, Or.inl rfl⟩
  | cons q ps ih =>
    obtain ⟨a, o⟩ := q
    have hq : (Int32.ofInt a).toInt = a := hp (a, o) List.mem_cons_self
    unfold mm_lsw at h
    rw [Op.lookupswitch.offset_cons]
    split at h
    next hx =>
      have hx2 : x.toInt = a := by rw [hx, hq]
      rw [if_pos hx2.symm]
      exact ⟨h, Or.inr ⟨(a, o), List.mem_cons_self, rfl⟩⟩
    next hx =>
      have hne : ¬ a = x.toInt := fun q => hx (Int32.toInt_inj.mp (by rw [hq]; exact q.symm))
      rw [if_neg hne]
      obtain ⟨h1, h2⟩ := ih h fun q hq => hp q (List.mem_cons_of_mem _ hq)
      refine ⟨h1, ?_⟩
      rcases h2 with h2 | ⟨q, hq, h2⟩
      · exact Or.inl h2
      · exact Or.inr ⟨q, List.mem_cons_of_mem _ hq, h2⟩
/-- what a switch must be: its numbers are ints, in order -/
def mm_swok : Instr → Bool
  | .tableswitch _ lo hi os => decide (-2147483648 ≤ lo) && decide (lo + os.toList.length ≤ 2147483648) && decide (lo + os.toList.length = hi + 1)
  | .lookupswitch _ ps => (ps.toList.all fun q => decide ((Int32.ofInt q.1).toInt = q.1)) && (ps.toList.zip (ps.toList.drop 1)).all (fun (a, next) => a.1 < next.1)
  | _ => true
set_option maxHeartbeats 4000000 in
set_option maxRecDepth 100000 in
theorem mm_pure {call : Nat → List Value → mm_St → Option mm_O} {xs : Nat → Int32} {Ls : Nat} {ck : Nat → List Nat} {ak : Nat → FieldType} {me : mm_Me} {cc : ByteArray} {B b nL pc : Nat} {L : mm_L} {st : List Value} {S : mm_St} {z' : mm_Z} {Rz : mm_St → Heap → List Loc → Nat → Nat → Prop}
    (hx : p.tables.exec = Jvm.exec) (hb : c.code = cc) (i : Instr) (hd0 : ∃ n, decode cc pc = .ok (i, n)) (hd : mm_len i ≠ 0 → decode cc pc = .ok (i, mm_len i)) (ht : ∀ o ∈ mm_offs i, 0 ≤ (pc : Int) + o) (hn : mm_sti i ≤ nL) (hsw : mm_swok i = true) (hp : mm_isP i = true)
    (h : mm_do call xs Ls ck ak me pc L st S i = some (.inl z')) (k : mm_J p l e R s m args below meth c Q B b nL Rz z') : mm_J p l e R s m args below meth c Q B b nL Rz (pc, L, st, S) := by
  cases i with
  | iconst n =>
    cases h
    exact fun ls H locs cells slots hL hR => lv_iconst hx hb (hd (by simp [mm_len])) rfl (k ls H locs cells slots hL hR)
  | bipush n =>
    cases h
    exact fun ls H locs cells slots hL hR => lv_bipush hx hb (hd (by simp [mm_len])) rfl (k ls H locs cells slots hL hR)
  | sipush n =>
    cases h
    exact fun ls H locs cells slots hL hR => lv_sipush hx hb (hd (by simp [mm_len])) rfl (k ls H locs cells slots hL hR)
  | lconst n =>
    cases h
    exact fun ls H locs cells slots hL hR => lv_lconst hx hb (hd (by simp [mm_len])) rfl (k ls H locs cells slots hL hR)
  | dconst n =>
    cases h
    match n, hd, k with
    | 0, hd, k => exact fun ls H locs cells slots hL hR => lv_dconst0 hx hb (hd (by simp [mm_len])) (k ls H locs cells slots hL hR)
    | 1, hd, k => exact fun ls H locs cells slots hL hR => lv_dconst1 hx hb (hd (by simp [mm_len])) (k ls H locs cells slots hL hR)
  | aconst_null =>
    cases h
    exact fun ls H locs cells slots hL hR => lv_null hx hb (hd (by simp [mm_len])) (k ls H locs cells slots hL hR)
  | iload_n n =>
    obtain ⟨x, hv, h⟩ := mm_lI_inv h
    cases h
    exact fun ls H locs cells slots hL hR => lv_iload_n hx hb (hd (by simp [mm_len])) rfl (hL.2.2 _ _ hv) (k ls H locs cells slots hL hR)
  | iload n =>
    obtain ⟨x, hv, h⟩ := mm_lI_inv h
    cases h
    exact fun ls H locs cells slots hL hR => lv_iload hx hb (hd (by simp [mm_len])) (hL.2.2 _ _ hv) (k ls H locs cells slots hL hR)
  | lload_n n =>
    obtain ⟨x, hv, h⟩ := mm_lJ_inv h
    cases h
    exact fun ls H locs cells slots hL hR => lv_lload_n hx hb (hd (by simp [mm_len])) rfl (hL.2.2 _ _ hv) (k ls H locs cells slots hL hR)
  | lload n =>
    obtain ⟨x, hv, h⟩ := mm_lJ_inv h
    cases h
    exact fun ls H locs cells slots hL hR => lv_lload hx hb (hd (by simp [mm_len])) (hL.2.2 _ _ hv) (k ls H locs cells slots hL hR)
  | dload_n n =>
    obtain ⟨x, hv, h⟩ := mm_lD_inv h
    cases h
    exact fun ls H locs cells slots hL hR => lv_dload_n hx hb (hd (by simp [mm_len])) rfl (hL.2.2 _ _ hv) (k ls H locs cells slots hL hR)
  | dload n =>
    obtain ⟨x, hv, h⟩ := mm_lD_inv h
    cases h
    exact fun ls H locs cells slots hL hR => lv_dload hx hb (hd (by simp [mm_len])) (hL.2.2 _ _ hv) (k ls H locs cells slots hL hR)
  | aload_n n =>
    have h : (mm_lA L n fun v => mm_go (pc + 1) L (v :: st) S) = some (.inl z') := h
    rcases mm_lA_inv h with ⟨x, hv, h⟩ | ⟨x, hv, h⟩
    · cases h
      exact fun ls H locs cells slots hL hR => lv_aload_n hx hb (hd (by simp [mm_len])) rfl (hL.2.2 _ _ hv) (k ls H locs cells slots hL hR)
    · cases h
      exact fun ls H locs cells slots hL hR => lv_aload_n hx hb (hd (by simp [mm_len])) rfl (hL.2.2 _ _ hv) (k ls H locs cells slots hL hR)
  | aload n =>
    have h : (mm_lA L n fun v => mm_go (pc + 2) L (v :: st) S) = some (.inl z') := h
    rcases mm_lA_inv h with ⟨x, hv, h⟩ | ⟨x, hv, h⟩
    · cases h
      exact fun ls H locs cells slots hL hR => lv_aload hx hb (hd (by simp [mm_len])) (hL.2.2 _ _ hv) (k ls H locs cells slots hL hR)
    · cases h
      exact fun ls H locs cells slots hL hR => lv_aload hx hb (hd (by simp [mm_len])) (hL.2.2 _ _ hv) (k ls H locs cells slots hL hR)
  | istore_n n =>
    obtain ⟨x, r, rfl, h⟩ := mm_i_inv h
    cases h
    exact fun ls H locs cells slots hL hR => lv_istore_n hx hb (hd (by simp [mm_len])) rfl hL.has (by simp only [mm_sti] at hn; omega) rfl (fun ls' hl' => k ls' H locs cells slots (mm_LR.st1 (v := .int x) rfl hl') hR)
  | istore n =>
    obtain ⟨x, r, rfl, h⟩ := mm_i_inv h
    cases h
    exact fun ls H locs cells slots hL hR => lv_istore hx hb (hd (by simp [mm_len])) hL.has (by simp only [mm_sti] at hn; omega) rfl (fun ls' hl' => k ls' H locs cells slots (mm_LR.st1 (v := .int x) rfl hl') hR)
  | astore_n n =>
    obtain ⟨x, r, rfl, h⟩ := mm_r_inv h
    cases h
    exact fun ls H locs cells slots hL hR => lv_astore_n hx hb (hd (by simp [mm_len])) rfl hL.has (by simp only [mm_sti] at hn; omega) rfl (fun ls' hl' => k ls' H locs cells slots (mm_LR.st1 (v := .ref x) rfl hl') hR)
  | astore n =>
    obtain ⟨x, r, rfl, h⟩ := mm_r_inv h
    cases h
    exact fun ls H locs cells slots hL hR => lv_astore hx hb (hd (by simp [mm_len])) hL.has (by simp only [mm_sti] at hn; omega) rfl (fun ls' hl' => k ls' H locs cells slots (mm_LR.st1 (v := .ref x) rfl hl') hR)
  | lstore_n n =>
    obtain ⟨x, r, rfl, h⟩ := mm_j_inv h
    cases h
    exact fun ls H locs cells slots hL hR => lv_lstore_n hx hb (hd (by simp [mm_len])) rfl hL.has (by simp only [mm_sti] at hn; omega) rfl (fun ls' hl' => k ls' H locs cells slots (mm_LR.st2 (v := .long x) rfl hl') hR)
  | lstore n =>
    obtain ⟨x, r, rfl, h⟩ := mm_j_inv h
    cases h
    exact fun ls H locs cells slots hL hR => lv_lstore hx hb (hd (by simp [mm_len])) hL.has (by simp only [mm_sti] at hn; omega) rfl (fun ls' hl' => k ls' H locs cells slots (mm_LR.st2 (v := .long x) rfl hl') hR)
  | dstore_n n =>
    obtain ⟨x, r, rfl, h⟩ := mm_d_inv h
    cases h
    exact fun ls H locs cells slots hL hR => lv_dstore_n hx hb (hd (by simp [mm_len])) rfl hL.has (by simp only [mm_sti] at hn; omega) rfl (fun ls' hl' => k ls' H locs cells slots (mm_LR.st2 (v := .double x) rfl hl') hR)
  | dstore n =>
    obtain ⟨x, r, rfl, h⟩ := mm_d_inv h
    cases h
    exact fun ls H locs cells slots hL hR => lv_dstore hx hb (hd (by simp [mm_len])) hL.has (by simp only [mm_sti] at hn; omega) rfl (fun ls' hl' => k ls' H locs cells slots (mm_LR.st2 (v := .double x) rfl hl') hR)
  | iinc n z =>
    obtain ⟨x, hv, h⟩ := mm_lI_inv h
    cases h
    intro ls H locs cells slots hL hR
    obtain ⟨j, hj⟩ := List.getElem?_of_mem (mm_as_mem (B := B) (b := b) hv)
    exact lv_iinc hx hb (hd (by simp [mm_len])) hL.has hj rfl (by simp only [mm_sti] at hn; omega) rfl (fun ls' hl' => k ls' H locs cells slots (mm_LR.st1 (v := .int (x + Int32.ofInt z)) rfl hl') hR)
  | iadd =>
    obtain ⟨x, y, r, rfl, h⟩ := mm_ii_inv h
    cases h
    exact fun ls H locs cells slots hL hR => lv_iadd hx hb (hd (by simp [mm_len])) (k ls H locs cells slots hL hR)
  | isub =>
    obtain ⟨x, y, r, rfl, h⟩ := mm_ii_inv h
    cases h
    exact fun ls H locs cells slots hL hR => lv_isub hx hb (hd (by simp [mm_len])) (k ls H locs cells slots hL hR)
  | imul =>
    obtain ⟨x, y, r, rfl, h⟩ := mm_ii_inv h
    cases h
    exact fun ls H locs cells slots hL hR => lv_imul hx hb (hd (by simp [mm_len])) (k ls H locs cells slots hL hR)
  | iand =>
    obtain ⟨x, y, r, rfl, h⟩ := mm_ii_inv h
    cases h
    exact fun ls H locs cells slots hL hR => lv_iand hx hb (hd (by simp [mm_len])) (k ls H locs cells slots hL hR)
  | ior =>
    obtain ⟨x, y, r, rfl, h⟩ := mm_ii_inv h
    cases h
    exact fun ls H locs cells slots hL hR => lv_ior hx hb (hd (by simp [mm_len])) (k ls H locs cells slots hL hR)
  | ixor =>
    obtain ⟨x, y, r, rfl, h⟩ := mm_ii_inv h
    cases h
    exact fun ls H locs cells slots hL hR => lv_ixor hx hb (hd (by simp [mm_len])) (k ls H locs cells slots hL hR)
  | ishl =>
    obtain ⟨x, y, r, rfl, h⟩ := mm_ii_inv h
    cases h
    exact fun ls H locs cells slots hL hR => lv_ishl hx hb (hd (by simp [mm_len])) (k ls H locs cells slots hL hR)
  | ishr =>
    obtain ⟨x, y, r, rfl, h⟩ := mm_ii_inv h
    cases h
    exact fun ls H locs cells slots hL hR => lv_ishr hx hb (hd (by simp [mm_len])) (k ls H locs cells slots hL hR)
  | iushr =>
    obtain ⟨x, y, r, rfl, h⟩ := mm_ii_inv h
    cases h
    exact fun ls H locs cells slots hL hR => lv_iushr hx hb (hd (by simp [mm_len])) rfl (k ls H locs cells slots hL hR)
  | idiv =>
    obtain ⟨x, y, r, rfl, h⟩ := mm_ii_inv h
    have h : (if y = 0 then none else mm_go (pc + 1) L (.int (x / y) :: r) S) = some (.inl z') := h
    by_cases hy : y = 0
    · rw [if_pos hy] at h; cases h
    · rw [if_neg hy] at h
      cases h
      exact fun ls H locs cells slots hL hR => lv_idiv hx hb (hd (by simp [mm_len])) hy (k ls H locs cells slots hL hR)
  | irem =>
    obtain ⟨x, y, r, rfl, h⟩ := mm_ii_inv h
    have h : (if y = 0 then none else mm_go (pc + 1) L (.int (x - x / y * y) :: r) S) = some (.inl z') := h
    by_cases hy : y = 0
    · rw [if_pos hy] at h; cases h
    · rw [if_neg hy] at h
      cases h
      exact fun ls H locs cells slots hL hR => lv_irem hx hb (hd (by simp [mm_len])) hy (k ls H locs cells slots hL hR)
  | ineg =>
    obtain ⟨x, r, rfl, h⟩ := mm_i_inv h
    cases h
    exact fun ls H locs cells slots hL hR => lv_ineg hx hb (hd (by simp [mm_len])) (k ls H locs cells slots hL hR)
  | ladd =>
    obtain ⟨x, y, r, rfl, h⟩ := mm_jj_inv h
    cases h
    exact fun ls H locs cells slots hL hR => lv_ladd hx hb (hd (by simp [mm_len])) (k ls H locs cells slots hL hR)
  | lsub =>
    obtain ⟨x, y, r, rfl, h⟩ := mm_jj_inv h
    cases h
    exact fun ls H locs cells slots hL hR => lv_lsub hx hb (hd (by simp [mm_len])) (k ls H locs cells slots hL hR)
  | land =>
    obtain ⟨x, y, r, rfl, h⟩ := mm_jj_inv h
    cases h
    exact fun ls H locs cells slots hL hR => lv_land hx hb (hd (by simp [mm_len])) (k ls H locs cells slots hL hR)
  | lor =>
    obtain ⟨x, y, r, rfl, h⟩ := mm_jj_inv h
    cases h
    exact fun ls H locs cells slots hL hR => lv_lor hx hb (hd (by simp [mm_len])) (k ls H locs cells slots hL hR)
  | lcmp =>
    obtain ⟨x, y, r, rfl, h⟩ := mm_jj_inv h
    cases h
    exact fun ls H locs cells slots hL hR => W.lcmp hx hb (hd (by simp [mm_len])) (k ls H locs cells slots hL hR)
  | lushr =>
    obtain ⟨x, y, r, rfl, h⟩ := mm_ji_inv h
    cases h
    exact fun ls H locs cells slots hL hR => lv_lushr hx hb (hd (by simp [mm_len])) rfl (k ls H locs cells slots hL hR)
  | lshr =>
    obtain ⟨x, y, r, rfl, h⟩ := mm_ji_inv h
    cases h
    exact fun ls H locs cells slots hL hR => lv_lshr hx hb (hd (by simp [mm_len])) rfl (k ls H locs cells slots hL hR)
  | lshl =>
    obtain ⟨x, y, r, rfl, h⟩ := mm_ji_inv h
    cases h
    exact fun ls H locs cells slots hL hR => lv_lshl hx hb (hd (by simp [mm_len])) rfl (k ls H locs cells slots hL hR)
  | i2l =>
    obtain ⟨x, r, rfl, h⟩ := mm_i_inv h
    cases h
    exact fun ls H locs cells slots hL hR => lv_i2l hx hb (hd (by simp [mm_len])) rfl (k ls H locs cells slots hL hR)
  | l2i =>
    obtain ⟨x, r, rfl, h⟩ := mm_j_inv h
    cases h
    exact fun ls H locs cells slots hL hR => lv_l2i hx hb (hd (by simp [mm_len])) rfl (k ls H locs cells slots hL hR)
  | i2c =>
    obtain ⟨x, r, rfl, h⟩ := mm_i_inv h
    cases h
    exact fun ls H locs cells slots hL hR => lv_i2c hx hb (hd (by simp [mm_len])) rfl (k ls H locs cells slots hL hR)
  | i2b =>
    obtain ⟨x, r, rfl, h⟩ := mm_i_inv h
    cases h
    exact fun ls H locs cells slots hL hR => lv_i2b hx hb (hd (by simp [mm_len])) rfl (k ls H locs cells slots hL hR)
  | i2d =>
    obtain ⟨x, r, rfl, h⟩ := mm_i_inv h
    cases h
    exact fun ls H locs cells slots hL hR => lv_i2d hx hb (hd (by simp [mm_len])) (k ls H locs cells slots hL hR)
  | d2i =>
    obtain ⟨x, r, rfl, h⟩ := mm_d_inv h
    cases h
    exact fun ls H locs cells slots hL hR => lv_d2i hx hb (hd (by simp [mm_len])) (k ls H locs cells slots hL hR)
  | dneg =>
    obtain ⟨x, r, rfl, h⟩ := mm_d_inv h
    cases h
    exact fun ls H locs cells slots hL hR => lv_dneg hx hb (hd (by simp [mm_len])) (k ls H locs cells slots hL hR)
  | dadd =>
    obtain ⟨x, y, r, rfl, h⟩ := mm_dd_inv h
    obtain ⟨hq, h⟩ := mm_cond_inv h
    cases h
    exact fun ls H locs cells slots hL hR => lv_dadd hx hb (hd (by simp [mm_len])) (show vf_n64 _ from of_decide_eq_true (p := FP.dadd x y &&& 0x7fffffffffffffff ≤ 0x7ff0000000000000) hq) (k ls H locs cells slots hL hR)
  | dsub =>
    obtain ⟨x, y, r, rfl, h⟩ := mm_dd_inv h
    obtain ⟨hq, h⟩ := mm_cond_inv h
    cases h
    exact fun ls H locs cells slots hL hR => lv_dsub hx hb (hd (by simp [mm_len])) (show vf_n64 _ from of_decide_eq_true (p := FP.dsub x y &&& 0x7fffffffffffffff ≤ 0x7ff0000000000000) hq) (k ls H locs cells slots hL hR)
  | dmul =>
    obtain ⟨x, y, r, rfl, h⟩ := mm_dd_inv h
    obtain ⟨hq, h⟩ := mm_cond_inv h
    cases h
    exact fun ls H locs cells slots hL hR => lv_dmul hx hb (hd (by simp [mm_len])) (show vf_n64 _ from of_decide_eq_true (p := FP.dmul x y &&& 0x7fffffffffffffff ≤ 0x7ff0000000000000) hq) (k ls H locs cells slots hL hR)
  | ddiv =>
    obtain ⟨x, y, r, rfl, h⟩ := mm_dd_inv h
    obtain ⟨hq, h⟩ := mm_cond_inv h
    cases h
    exact fun ls H locs cells slots hL hR => lv_ddiv hx hb (hd (by simp [mm_len])) (show vf_n64 _ from of_decide_eq_true (p := FP.ddiv x y &&& 0x7fffffffffffffff ≤ 0x7ff0000000000000) hq) (k ls H locs cells slots hL hR)
  | dcmp op =>
    obtain ⟨x, y, r, rfl, h⟩ := mm_dd_inv h
    cases h
    exact fun ls H locs cells slots hL hR => lv_dcmp hx hb (hd (by simp [mm_len])) (k ls H locs cells slots hL hR)
  | dup =>
    obtain ⟨v, r, rfl, h⟩ := mm_1_inv h
    obtain ⟨hv, h⟩ := mm_condn_inv h
    cases h
    exact fun ls H locs cells slots hL hR => lv_dup hx hb (hd (by simp [mm_len])) (by rw [mm_v_cat, hv]; rfl) (k ls H locs cells slots hL hR)
  | pop =>
    obtain ⟨v, r, rfl, h⟩ := mm_1_inv h
    obtain ⟨hv, h⟩ := mm_condn_inv h
    cases h
    exact fun ls H locs cells slots hL hR => lv_pop hx hb (hd (by simp [mm_len])) (by rw [mm_v_cat, hv]; rfl) (k ls H locs cells slots hL hR)
  | dup_x1 =>
    obtain ⟨v, w, r, rfl, h⟩ := mm_2_inv h
    obtain ⟨hv, h⟩ := mm_condn_inv h
    rw [Bool.or_eq_false_iff] at hv
    cases h
    exact fun ls H locs cells slots hL hR => lv_dup_x1 hx hb (hd (by simp [mm_len])) (by rw [mm_v_cat, hv.1]; rfl) (by rw [mm_v_cat, hv.2]; rfl) (k ls H locs cells slots hL hR)
  | dup2 =>
    obtain ⟨v, w, r, rfl, h⟩ := mm_2_inv h
    obtain ⟨hv, h⟩ := mm_condn_inv h
    rw [Bool.or_eq_false_iff] at hv
    cases h
    exact fun ls H locs cells slots hL hR => lv_dup2_11 hx hb (hd (by simp [mm_len])) (by rw [mm_v_cat, hv.1]; rfl) (by rw [mm_v_cat, hv.2]; rfl) (k ls H locs cells slots hL hR)
  | dup_x2 =>
    obtain ⟨v, w, u, r, rfl, h⟩ := mm_3_inv h
    obtain ⟨hv, h⟩ := mm_condn_inv h
    rw [Bool.or_eq_false_iff, Bool.or_eq_false_iff] at hv
    cases h
    exact fun ls H locs cells slots hL hR => lv_dup_x2 hx hb (hd (by simp [mm_len])) (by rw [mm_v_cat, hv.1]; rfl) (by rw [mm_v_cat, hv.2.1]; rfl) (by rw [mm_v_cat, hv.2.2]; rfl) (k ls H locs cells slots hL hR)
  | goto o =>
    cases h
    exact fun ls H locs cells slots hL hR => lv_goto hx hb (hd (by simp [mm_len])) (mm_tg_eq (ht o (by simp [mm_offs]))) (k ls H locs cells slots hL hR)
  | ifCond cn o =>
    obtain ⟨x, r, rfl, h⟩ := mm_i_inv h
    cases cn with
    | eq =>
      have h : (if x = 0 then mm_go (mm_tg pc o) L r S else mm_go (pc + 3) L r S) = some (.inl z') := h
      by_cases hc : x = 0
      · rw [if_pos hc] at h
        cases h
        exact fun ls H locs cells slots hL hR => lv_if_eq hx hb (hd (by simp [mm_len])) (mm_tg_eq (ht o (by simp [mm_offs]))) (fun _ => (k ls H locs cells slots hL hR)) (fun q => absurd hc q)
      · rw [if_neg hc] at h
        cases h
        exact fun ls H locs cells slots hL hR => lv_if_eq hx hb (hd (by simp [mm_len])) (mm_tg_eq (ht o (by simp [mm_offs]))) (fun q => absurd q hc) (fun _ => (k ls H locs cells slots hL hR))
    | ne =>
      have h : (if x = 0 then mm_go (pc + 3) L r S else mm_go (mm_tg pc o) L r S) = some (.inl z') := h
      by_cases hc : x = 0
      · rw [if_pos hc] at h
        cases h
        exact fun ls H locs cells slots hL hR => lv_if_ne hx hb (hd (by simp [mm_len])) (mm_tg_eq (ht o (by simp [mm_offs]))) (fun q => absurd hc q) (fun _ => (k ls H locs cells slots hL hR))
      · rw [if_neg hc] at h
        cases h
        exact fun ls H locs cells slots hL hR => lv_if_ne hx hb (hd (by simp [mm_len])) (mm_tg_eq (ht o (by simp [mm_offs]))) (fun _ => (k ls H locs cells slots hL hR)) (fun q => absurd q hc)
    | lt =>
      have h : (if x < 0 then mm_go (mm_tg pc o) L r S else mm_go (pc + 3) L r S) = some (.inl z') := h
      by_cases hc : x < 0
      · rw [if_pos hc] at h
        cases h
        exact fun ls H locs cells slots hL hR => lv_if_lt hx hb (hd (by simp [mm_len])) (mm_tg_eq (ht o (by simp [mm_offs]))) (fun _ => (k ls H locs cells slots hL hR)) (fun q => absurd hc q)
      · rw [if_neg hc] at h
        cases h
        exact fun ls H locs cells slots hL hR => lv_if_lt hx hb (hd (by simp [mm_len])) (mm_tg_eq (ht o (by simp [mm_offs]))) (fun q => absurd q hc) (fun _ => (k ls H locs cells slots hL hR))
    | ge =>
      have h : (if 0 ≤ x then mm_go (mm_tg pc o) L r S else mm_go (pc + 3) L r S) = some (.inl z') := h
      by_cases hc : 0 ≤ x
      · rw [if_pos hc] at h
        cases h
        exact fun ls H locs cells slots hL hR => lv_if_ge hx hb (hd (by simp [mm_len])) (mm_tg_eq (ht o (by simp [mm_offs]))) (fun _ => (k ls H locs cells slots hL hR)) (fun q => absurd hc q)
      · rw [if_neg hc] at h
        cases h
        exact fun ls H locs cells slots hL hR => lv_if_ge hx hb (hd (by simp [mm_len])) (mm_tg_eq (ht o (by simp [mm_offs]))) (fun q => absurd q hc) (fun _ => (k ls H locs cells slots hL hR))
    | gt =>
      have h : (if 0 < x then mm_go (mm_tg pc o) L r S else mm_go (pc + 3) L r S) = some (.inl z') := h
      by_cases hc : 0 < x
      · rw [if_pos hc] at h
        cases h
        exact fun ls H locs cells slots hL hR => lv_if_gt hx hb (hd (by simp [mm_len])) (mm_tg_eq (ht o (by simp [mm_offs]))) (fun _ => (k ls H locs cells slots hL hR)) (fun q => absurd hc q)
      · rw [if_neg hc] at h
        cases h
        exact fun ls H locs cells slots hL hR => lv_if_gt hx hb (hd (by simp [mm_len])) (mm_tg_eq (ht o (by simp [mm_offs]))) (fun q => absurd q hc) (fun _ => (k ls H locs cells slots hL hR))
    | le =>
      have h : (if x ≤ 0 then mm_go (mm_tg pc o) L r S else mm_go (pc + 3) L r S) = some (.inl z') := h
      by_cases hc : x ≤ 0
      · rw [if_pos hc] at h
        cases h
        exact fun ls H locs cells slots hL hR => lv_if_le hx hb (hd (by simp [mm_len])) (mm_tg_eq (ht o (by simp [mm_offs]))) (fun _ => (k ls H locs cells slots hL hR)) (fun q => absurd hc q)
      · rw [if_neg hc] at h
        cases h
        exact fun ls H locs cells slots hL hR => lv_if_le hx hb (hd (by simp [mm_len])) (mm_tg_eq (ht o (by simp [mm_offs]))) (fun q => absurd q hc) (fun _ => (k ls H locs cells slots hL hR))
  | if_icmp cn o =>
    obtain ⟨x, y, r, rfl, h⟩ := mm_ii_inv h
    cases cn with
    | eq =>
      have h : (if x = y then mm_go (mm_tg pc o) L r S else mm_go (pc + 3) L r S) = some (.inl z') := h
      by_cases hc : x = y
      · rw [if_pos hc] at h
        cases h
        exact fun ls H locs cells slots hL hR => lv_icmp_eq hx hb (hd (by simp [mm_len])) (mm_tg_eq (ht o (by simp [mm_offs]))) (fun _ => (k ls H locs cells slots hL hR)) (fun q => absurd hc q)
      · rw [if_neg hc] at h
        cases h
        exact fun ls H locs cells slots hL hR => lv_icmp_eq hx hb (hd (by simp [mm_len])) (mm_tg_eq (ht o (by simp [mm_offs]))) (fun q => absurd q hc) (fun _ => (k ls H locs cells slots hL hR))
    | ne =>
      have h : (if x = y then mm_go (pc + 3) L r S else mm_go (mm_tg pc o) L r S) = some (.inl z') := h
      by_cases hc : x = y
      · rw [if_pos hc] at h
        cases h
        exact fun ls H locs cells slots hL hR => lv_icmp_ne hx hb (hd (by simp [mm_len])) (mm_tg_eq (ht o (by simp [mm_offs]))) (fun q => absurd hc q) (fun _ => (k ls H locs cells slots hL hR))
      · rw [if_neg hc] at h
        cases h
        exact fun ls H locs cells slots hL hR => lv_icmp_ne hx hb (hd (by simp [mm_len])) (mm_tg_eq (ht o (by simp [mm_offs]))) (fun _ => (k ls H locs cells slots hL hR)) (fun q => absurd q hc)
    | lt =>
      have h : (if x < y then mm_go (mm_tg pc o) L r S else mm_go (pc + 3) L r S) = some (.inl z') := h
      by_cases hc : x < y
      · rw [if_pos hc] at h
        cases h
        exact fun ls H locs cells slots hL hR => lv_icmp_lt hx hb (hd (by simp [mm_len])) (mm_tg_eq (ht o (by simp [mm_offs]))) (fun _ => (k ls H locs cells slots hL hR)) (fun q => absurd hc q)
      · rw [if_neg hc] at h
        cases h
        exact fun ls H locs cells slots hL hR => lv_icmp_lt hx hb (hd (by simp [mm_len])) (mm_tg_eq (ht o (by simp [mm_offs]))) (fun q => absurd q hc) (fun _ => (k ls H locs cells slots hL hR))
    | ge =>
      have h : (if y ≤ x then mm_go (mm_tg pc o) L r S else mm_go (pc + 3) L r S) = some (.inl z') := h
      by_cases hc : y ≤ x
      · rw [if_pos hc] at h
        cases h
        exact fun ls H locs cells slots hL hR => lv_icmp_ge hx hb (hd (by simp [mm_len])) (mm_tg_eq (ht o (by simp [mm_offs]))) (fun _ => (k ls H locs cells slots hL hR)) (fun q => absurd hc q)
      · rw [if_neg hc] at h
        cases h
        exact fun ls H locs cells slots hL hR => lv_icmp_ge hx hb (hd (by simp [mm_len])) (mm_tg_eq (ht o (by simp [mm_offs]))) (fun q => absurd q hc) (fun _ => (k ls H locs cells slots hL hR))
    | gt =>
      have h : (if y < x then mm_go (mm_tg pc o) L r S else mm_go (pc + 3) L r S) = some (.inl z') := h
      by_cases hc : y < x
      · rw [if_pos hc] at h
        cases h
        exact fun ls H locs cells slots hL hR => lv_icmp_gt hx hb (hd (by simp [mm_len])) (mm_tg_eq (ht o (by simp [mm_offs]))) (fun _ => (k ls H locs cells slots hL hR)) (fun q => absurd hc q)
      · rw [if_neg hc] at h
        cases h
        exact fun ls H locs cells slots hL hR => lv_icmp_gt hx hb (hd (by simp [mm_len])) (mm_tg_eq (ht o (by simp [mm_offs]))) (fun q => absurd q hc) (fun _ => (k ls H locs cells slots hL hR))
    | le =>
      have h : (if x ≤ y then mm_go (mm_tg pc o) L r S else mm_go (pc + 3) L r S) = some (.inl z') := h
      by_cases hc : x ≤ y
      · rw [if_pos hc] at h
        cases h
        exact fun ls H locs cells slots hL hR => lv_icmp_le hx hb (hd (by simp [mm_len])) (mm_tg_eq (ht o (by simp [mm_offs]))) (fun _ => (k ls H locs cells slots hL hR)) (fun q => absurd hc q)
      · rw [if_neg hc] at h
        cases h
        exact fun ls H locs cells slots hL hR => lv_icmp_le hx hb (hd (by simp [mm_len])) (mm_tg_eq (ht o (by simp [mm_offs]))) (fun q => absurd q hc) (fun _ => (k ls H locs cells slots hL hR))
  | ifnull o =>
    obtain ⟨v, r, rfl, h⟩ := mm_1_inv h
    cases v with
    | ref a =>
      cases h
      exact fun ls H locs cells slots hL hR => lv_ifnull hx hb (hd (by simp [mm_len])) (k ls H locs cells slots hL hR)
    | null =>
      cases h
      exact fun ls H locs cells slots hL hR => lv_ifnullN hx hb (hd (by simp [mm_len])) (mm_tg_eq (ht o (by simp [mm_offs]))) (k ls H locs cells slots hL hR)
    | _ => cases h
  | ifnonnull o =>
    obtain ⟨v, r, rfl, h⟩ := mm_1_inv h
    cases v with
    | ref a =>
      cases h
      exact fun ls H locs cells slots hL hR => lv_ifnonnull hx hb (hd (by simp [mm_len])) (mm_tg_eq (ht o (by simp [mm_offs]))) (k ls H locs cells slots hL hR)
    | null =>
      cases h
      exact fun ls H locs cells slots hL hR => lv_ifnonnullN hx hb (hd (by simp [mm_len])) (k ls H locs cells slots hL hR)
    | _ => cases h
  | tableswitch d lo hi os =>
    obtain ⟨x, r, rfl, h⟩ := mm_i_inv h
    obtain ⟨n, hd0⟩ := hd0
    simp only [mm_swok, Bool.and_eq_true, decide_eq_true_eq] at hsw
    obtain ⟨⟨h1, h2⟩, h3⟩ := hsw
    rcases mm_tsw_at h h1 h2 with ⟨hr, h⟩ | ⟨o, hr, ho, h⟩
    · cases h
      exact fun ls H locs cells slots hL hR => lv_tableOut hx hb hd0 (by rcases hr with q | q; exact Or.inl q; exact Or.inr (by omega)) (mm_tg_eq (ht d (by simp [mm_offs]))) (k ls H locs cells slots hL hR)
    · cases h
      have hin : (x.toInt - lo).toNat < os.toList.length := (List.getElem?_eq_some_iff.mp ho).1
      exact fun ls H locs cells slots hL hR => lv_tableIn hx hb hd0 hr (by omega) (by rw [← Array.getElem?_toList]; exact ho) (mm_tg_eq (ht o (by simp only [mm_offs]; exact List.mem_cons_of_mem _ (List.mem_of_getElem? ho)))) (k ls H locs cells slots hL hR)
  | lookupswitch d ps =>
    obtain ⟨x, r, rfl, h⟩ := mm_i_inv h
    obtain ⟨n, hd0⟩ := hd0
    simp only [mm_swok, Bool.and_eq_true] at hsw
    obtain ⟨h1, h2⟩ := hsw
    obtain ⟨h, ho⟩ := mm_lsw_at h (fun q hq => of_decide_eq_true (List.all_eq_true.mp h1 q hq))
    cases h
    refine fun ls H locs cells slots hL hR => lv_lookup hx hb hd0 h2 rfl (mm_tg_eq (ht _ ?_)) (k ls H locs cells slots hL hR)
    simp only [mm_offs]
    rcases ho with ho | ⟨q, hq, ho⟩
    · rw [ho]; exact List.mem_cons_self
    · rw [← ho]; exact List.mem_cons_of_mem _ (List.mem_map.mpr ⟨q, hq, rfl⟩)
  | _ => cases hp
end SIM
end
section
/-! THE INSTRUCTIONS ON CELLS -/
/-- cells made, throws -/
def mm_co (S : mm_St) : Nat := S.1.length + S.2.2
def mm_sz (ck : Nat → List Nat) : mm_Sh → Nat
  | [] => 0
  | .inl ci :: r => (ck ci).length + mm_sz ck r
  | .inr (_, n) :: r => n + mm_sz ck r
def mm_sl (ck : Nat → List Nat) (S : mm_St) : Nat := mm_sz ck S.1 + 6 * S.2.2
/-- the kind of a field and its type -/
def mm_kt (kd : Nat) (ty : FieldType) : Bool := match kd, ty with
  | 0, .int => true
  | 1, .double => true
  | 2, .object _ => true
  | 2, .array _ => true
  | 3, .long => true
  | 4, .boolean => true
  | _, _ => false
/-- the classes' tables -/
def mm_CK (cl : List vw_C) (ck : Nat → List Nat) (ct : Nat → Nat → FieldType) (TT : List Cond) : Prop :=
  ∀ (ci : Nat) (C : String) (T : u_T) (N : Nat), cl[ci]? = some (C, T, N) → (∀ w ∈ u_ws C T N, w ∈ TT) ∧ (ck ci).length = N ∧ (∀ k, k < N → parseFieldDescriptor (T k).2.2.1 = some (ct ci k)) ∧ (∀ a, a < N → ∀ b, b < N → a ≠ b → (T a).2.1 ≠ (T b).2.1) ∧ ∀ k kd, (ck ci)[k]? = some kd → mm_kt kd (ct ci k) = true
/-- a field's link -/
def mm_FL (cl : List vw_C) (TT : List Cond) (own : String) (ix ci k : Nat) (C : String) (T : u_T) (N : Nat) : Prop :=
  cl[ci]? = some (C, T, N) ∧ k < N ∧ Cond.fieldLink own ix (T k).1 (T k).2.1 (T k).2.2.1 ∈ TT
section HEAP
variable {p : Program} {l : Launch} {e : Env} {R : Room} {s : State} {m : MethodId} {args : Array Value} {below : List Frame} {meth : Method} {c : Code} {Q : State → Prop}
variable {D : va_G} {cl : List vw_C} {tys : List (ClassId × FieldType)} {ck : Nat → List Nat} {ct : Nat → Nat → FieldType} {ak : Nat → FieldType} {dA : Nat → ClassId} {B b Ls nL pc : Nat} {xs : Nat → Int32} {TT : List Cond} {cc : ByteArray} {own : String} {me : mm_Me} {L : mm_L} {st : List Value} {S S0 : mm_St} {z' : mm_Z}
/-- the heap holds the small machine's cells; nothing below B has changed; so many cells are new -/
def mm_Rz (D : va_G) (cl : List vw_C) (ck : Nat → List Nat) (ak : Nat → FieldType) (dA : Nat → ClassId) (B b : Nat) (H0 : Heap) (S0 : mm_St) (S : mm_St) (H : Heap) (locs : List Loc) (cells slots : Nat) : Prop :=
  va_P D cl (mm_ws ck ak dA B b S.1 S.2.1) H ∧ va_S (fun q => B ≤ q) H0 H locs ∧ mm_co S0 + cells = mm_co S ∧ mm_sl ck S0 + slots = mm_sl ck S ∧ S0.2.2 ≤ S.2.2
theorem mm_k_getf {ix ci k : Nat} {C : String} {T : u_T} {N : Nat} (X : CallFix p m c cc nL s args TT own) (hK : va_K D cl tys s) (hCK : mm_CK cl ck ct TT) (hl : mm_FL cl TT own ix ci k C T N) (hd : decode cc pc = .ok (.getfield ix, 3))
    (h : mm_getf ck pc L st S ci k = some (.inl z')) (kJ : mm_J p l e R s m args below meth c Q B b nL (mm_Rz D cl ck ak dA B b s.heap S0) z') : mm_J p l e R s m args below meth c Q B b nL (mm_Rz D cl ck ak dA B b s.heap S0) (pc, L, st, S) := by
  obtain ⟨hx, hb, hml, hown, hts⟩ := X
  obtain ⟨hc1, hkN, hlk⟩ := hl
  obtain ⟨hin, hlen, hty, hnm, hkt⟩ := hCK ci C T N hc1
  unfold mm_getf at h
  split at h
  next a r =>
    split at h
    next cj ha =>
      obtain ⟨hq, h⟩ := mm_cond_inv h
      have hq := Nat.eq_of_beq_eq_true hq
      subst hq
      split at h
      next kd hkd =>
        cases h
        intro ls H locs cells slots hL hR
        have hP := hR.1
        exact va_get hx hb hts hin hown hK hP a (mm_ws_at ha) hc1 k hkN (hts _ hlk) (fun _ h9 => h9) (mm_fs_at hkd) hd (kJ ls H locs cells slots hL hR)
      next => cases h
    next => cases h
  next => cases h
/-- a write of a field: the new cells -/
theorem mm_put_at {ix ci k a kd : Nat} {C : String} {T : u_T} {N : Nat} {v : Value} {r : List Value} {S' : mm_St} (X : CallFix p m c cc nL s args TT own) (hK : va_K D cl tys s) (hCK : mm_CK cl ck ct TT) (hl : mm_FL cl TT own ix ci k C T N) (hfin : (T k).2.2.2 = false ∨ (meth.name = "<init>" ∧ (T k).1 = own)) (hd : decode cc pc = .ok (.putfield ix, 3))
    (ha : S.1[a]? = some (.inl ci)) (hkd : (ck ci)[k]? = some kd) (hn : narrow (ct ci k) (mm_v B b v) = mm_v B b v) (hfit : fits (ct ci k) (mm_v B b v) = true) (hS1 : S'.1 = S.1) (hS2 : S'.2.2 = S.2.2)
    (hv : mm_rd S'.2.1 kd a k = v) (hj : ∀ j kj, j ≠ k → mm_rd S'.2.1 kj a j = mm_rd S.2.1 kj a j) (hag : ∀ c, c ≠ a → mm_ag S.2.1 S'.2.1 c)
    (kJ : mm_J p l e R s m args below meth c Q B b nL (mm_Rz D cl ck ak dA B b s.heap S0) (pc + 3, L, r, S')) : mm_J p l e R s m args below meth c Q B b nL (mm_Rz D cl ck ak dA B b s.heap S0) (pc, L, v :: .ref a :: r, S) := by
  obtain ⟨hx, hb, hml, hown, hts⟩ := X
  obtain ⟨hc1, hkN, hlk⟩ := hl
  obtain ⟨hin, hlen, hty, hnm, hkt⟩ := hCK ci C T N hc1
  intro ls H locs cells slots hL hR
  obtain ⟨hP, hS, hco, hsl, hnx⟩ := hR
  have hws := mm_ws_f (ak := ak) (dA := dA) (B := B) (b := b) ha hkd hv hj hag
  have hkl : k < (mm_fs S.2.1 B b a (ck ci)).length := by rw [mm_fs_len, hlen]; exact hkN
  have hD : va_D (fun q => B ≤ q) (mm_ws ck ak dA B b S.1 S.2.1) := mm_ws_D (fun q h => h) _ _
  have fin : ∀ (H1 : Heap) (locs1 : List Loc), va_P D cl ((mm_ws ck ak dA B b S.1 S.2.1).set a (B + a, .inr (ci, (mm_fs S.2.1 B b a (ck ci)).set k (mm_v B b v)))) H1 → va_S (fun q => B ≤ q) s.heap H1 locs1 → W p l e R s m args below meth c H1 locs1 cells slots Q (F0 m (pc + 3) ls (r.map (mm_v B b))) := by
    intro H1 locs1 hP1 hS1'
    refine kJ ls H1 locs1 cells slots hL ⟨?_, hS1', ?_, ?_, ?_⟩
    · show va_P D cl (mm_ws ck ak dA B b S'.1 S'.2.1) H1
      rw [hS1, hws]; exact hP1
    · show mm_co S0 + cells = S'.1.length + S'.2.2
      rw [hS1, hS2]; exact hco
    · show mm_sl ck S0 + slots = mm_sz ck S'.1 + 6 * S'.2.2
      rw [hS1, hS2]; exact hsl
    · show S0.2.2 ≤ S'.2.2
      rw [hS2]; exact hnx
  cases hf : (T k).2.2.2 with
  | false => exact va_put hx hb hts hin (ct ci) hty hnm hown hK hP hD hS a (mm_ws_at ha) hc1 k hkN (hts _ hlk) (fun _ h9 => h9) hf (hty k hkN) hn hfit hkl hd (fun H1 locs1 h1 _ h3 => fin H1 locs1 h1 h3)
  | true =>
    rcases hfin with hfin | ⟨hi1, hi2⟩
    · rw [hf] at hfin; cases hfin
    · exact va_putF hx hb hts hin (ct ci) hty hnm hown hK hP hD hS a (mm_ws_at ha) hc1 k hkN (hts _ hlk) (fun _ h9 => h9) hf hi1 hi2 (hty k hkN) hn hfit hkl hd (fun H1 locs1 h1 _ h3 => fin H1 locs1 h1 h3)
theorem mm_kt0 {ty : FieldType} (h : mm_kt 0 ty = true) : ty = .int := by cases ty <;> first | rfl | cases h
theorem mm_kt1 {ty : FieldType} (h : mm_kt 1 ty = true) : ty = .double := by cases ty <;> first | rfl | cases h
theorem mm_kt2 {ty : FieldType} (h : mm_kt 2 ty = true) : (∃ n, ty = .object n) ∨ ∃ t, ty = .array t := by cases ty <;> first | exact Or.inl ⟨_, rfl⟩ | exact Or.inr ⟨_, rfl⟩ | cases h
theorem mm_kt3 {ty : FieldType} (h : mm_kt 3 ty = true) : ty = .long := by cases ty <;> first | rfl | cases h
theorem mm_kt4 {ty : FieldType} (h : mm_kt 4 ty = true) : ty = .boolean := by cases ty <;> first | rfl | cases h
theorem mm_rd_uI {M : mm_M} {a k j : Nat} {x : Int32} (h : j ≠ k) (kj : Nat) : mm_rd (mm_u M.1 a k x, M.2) kj a j = mm_rd M kj a j := by
  unfold mm_rd
  split <;> simp [mm_u_k h]
theorem mm_rd_uD {M : mm_M} {a k j : Nat} {x : UInt64} (h : j ≠ k) (kj : Nat) : mm_rd (M.1, mm_u M.2.1 a k x, M.2.2) kj a j = mm_rd M kj a j := by
  unfold mm_rd
  split <;> simp [mm_u_k h]
theorem mm_rd_uR {M : mm_M} {a k j : Nat} {x : Option Nat} (h : j ≠ k) (kj : Nat) : mm_rd (M.1, M.2.1, mm_u M.2.2.1 a k x, M.2.2.2) kj a j = mm_rd M kj a j := by
  unfold mm_rd
  split <;> simp [mm_u_k h]
theorem mm_rd_uJ {M : mm_M} {a k j : Nat} {x : Int64} (h : j ≠ k) (kj : Nat) : mm_rd (M.1, M.2.1, M.2.2.1, mm_u M.2.2.2 a k x) kj a j = mm_rd M kj a j := by
  unfold mm_rd
  split <;> simp [mm_u_k h]
theorem mm_k_putf {ix ci k : Nat} {C : String} {T : u_T} {N : Nat} (X : CallFix p m c cc nL s args TT own) (hK : va_K D cl tys s) (hCK : mm_CK cl ck ct TT) (hl : mm_FL cl TT own ix ci k C T N) (hfin : (T k).2.2.2 = false ∨ (meth.name = "<init>" ∧ (T k).1 = own)) (hd : decode cc pc = .ok (.putfield ix, 3))
    (h : mm_putf ck pc L st S ci k = some (.inl z')) (kJ : mm_J p l e R s m args below meth c Q B b nL (mm_Rz D cl ck ak dA B b s.heap S0) z') : mm_J p l e R s m args below meth c Q B b nL (mm_Rz D cl ck ak dA B b s.heap S0) (pc, L, st, S) := by
  have hkt := (hCK ci C T N hl.1).2.2.2.2
  unfold mm_putf at h
  split at h
  next v a r =>
    split at h
    next cj ha =>
      obtain ⟨hq, h⟩ := mm_cond_inv h
      have hq := Nat.eq_of_beq_eq_true hq
      subst hq
      split at h
      next kd hkd =>
        have hk9 := hkt k _ hkd
        match kd, hkd, hk9, h with
        | 0, hkd, hk9, h =>
          have hty := mm_kt0 hk9
          cases v with
          | int x =>
            cases h
            exact mm_put_at (kd := 0) (v := .int x) (S' := mm_sI S a k x) X hK hCK hl hfin hd ha hkd (by rw [hty]; rfl) (by rw [hty]; rfl) rfl rfl (by simp [mm_rd, mm_sI, mm_u_s]) (fun j kj hj => mm_rd_uI hj kj) (fun c hc => mm_sI_ag hc) kJ
          | _ => cases h
        | 1, hkd, hk9, h =>
          have hty := mm_kt1 hk9
          cases v with
          | double x =>
            cases h
            exact mm_put_at (kd := 1) (v := .double x) (S' := mm_sD S a k x) X hK hCK hl hfin hd ha hkd (by rw [hty]; rfl) (by rw [hty]; rfl) rfl rfl (by simp [mm_rd, mm_sD, mm_u_s]) (fun j kj hj => mm_rd_uD hj kj) (fun c hc => mm_sD_ag hc) kJ
          | _ => cases h
        | 2, hkd, hk9, h =>
          cases v with
          | ref x =>
            cases h
            rcases mm_kt2 hk9 with ⟨n, hty⟩ | ⟨t, hty⟩
            · exact mm_put_at (kd := 2) (v := .ref x) (S' := mm_sR S a k (some x)) X hK hCK hl hfin hd ha hkd (by rw [hty]; rfl) (by rw [hty]; rfl) rfl rfl (by simp [mm_rd, mm_sR, mm_u_s, va_rf]) (fun j kj hj => mm_rd_uR hj kj) (fun c hc => mm_sR_ag hc) kJ
            · exact mm_put_at (kd := 2) (v := .ref x) (S' := mm_sR S a k (some x)) X hK hCK hl hfin hd ha hkd (by rw [hty]; rfl) (by rw [hty]; rfl) rfl rfl (by simp [mm_rd, mm_sR, mm_u_s, va_rf]) (fun j kj hj => mm_rd_uR hj kj) (fun c hc => mm_sR_ag hc) kJ
          | null =>
            cases h
            rcases mm_kt2 hk9 with ⟨n, hty⟩ | ⟨t, hty⟩
            · exact mm_put_at (kd := 2) (v := .null) (S' := mm_sR S a k none) X hK hCK hl hfin hd ha hkd (by rw [hty]; rfl) (by rw [hty]; rfl) rfl rfl (by simp [mm_rd, mm_sR, mm_u_s, va_rf]) (fun j kj hj => mm_rd_uR hj kj) (fun c hc => mm_sR_ag hc) kJ
            · exact mm_put_at (kd := 2) (v := .null) (S' := mm_sR S a k none) X hK hCK hl hfin hd ha hkd (by rw [hty]; rfl) (by rw [hty]; rfl) rfl rfl (by simp [mm_rd, mm_sR, mm_u_s, va_rf]) (fun j kj hj => mm_rd_uR hj kj) (fun c hc => mm_sR_ag hc) kJ
          | _ => cases h
        | 3, hkd, hk9, h =>
          have hty := mm_kt3 hk9
          cases v with
          | long x =>
            cases h
            exact mm_put_at (kd := 3) (v := .long x) (S' := mm_sJ S a k x) X hK hCK hl hfin hd ha hkd (by rw [hty]; rfl) (by rw [hty]; rfl) rfl rfl (by simp [mm_rd, mm_sJ, mm_u_s]) (fun j kj hj => mm_rd_uJ hj kj) (fun c hc => mm_sJ_ag hc) kJ
          | _ => cases h
        | 4, hkd, hk9, h =>
          have hty := mm_kt4 hk9
          cases v with
          | int x =>
            have h : (if x = 0 ∨ x = 1 then mm_go (pc + 3) L r (mm_sI S a k x) else none) = some (.inl z') := h
            by_cases h01 : x = 0 ∨ x = 1
            · rw [if_pos h01] at h
              cases h
              exact mm_put_at (kd := 4) (v := .int x) (S' := mm_sI S a k x) X hK hCK hl hfin hd ha hkd (by rw [hty]; rcases h01 with h | h <;> (subst h; rfl)) (by rw [hty]; rcases h01 with h | h <;> (subst h; rfl)) rfl rfl (by simp [mm_rd, mm_sI, mm_u_s]) (fun j kj hj => mm_rd_uI hj kj) (fun c hc => mm_sI_ag hc) kJ
            · rw [if_neg h01] at h
              cases h
          | _ => cases h
        | n + 5, hkd, hk9, h => cases h
      next => cases h
    next => cases h
  next => cases h
end HEAP
end
section
section ARR
variable {p : Program} {l : Launch} {e : Env} {R : Room} {s : State} {m : MethodId} {args : Array Value} {below : List Frame} {meth : Method} {c : Code} {Q : State → Prop}
variable {D : va_G} {cl : List vw_C} {tys : List (ClassId × FieldType)} {ck : Nat → List Nat} {ct : Nat → Nat → FieldType} {ak : Nat → FieldType} {dA : Nat → ClassId} {B b Ls nL pc : Nat} {xs : Nat → Int32} {TT : List Cond} {cc : ByteArray} {own : String} {me : mm_Me} {L : mm_L} {st : List Value} {S S0 : mm_St} {z' : mm_Z}
theorem mm_ty0 {ty : FieldType} (h : mm_ty ty = 0) : ty = .int := by cases ty <;> first | rfl | cases h
theorem mm_ty1 {ty : FieldType} (h : mm_ty ty = 1) : ty = .char := by cases ty <;> first | rfl | cases h
theorem mm_ty2 {ty : FieldType} (h : mm_ty ty = 2) : ty = .double := by cases ty <;> first | rfl | cases h
theorem mm_ty3 {ty : FieldType} (h : mm_ty ty = 3) : ty = .long := by cases ty <;> first | rfl | cases h
theorem mm_ty4 {ty : FieldType} (h : mm_ty ty = 4) : ty = .boolean := by cases ty <;> first | rfl | cases h
theorem mm_ty5 {ty : FieldType} (h : mm_ty ty = 5) : ∃ C, ty = .object C := by cases ty <;> first | exact ⟨_, rfl⟩ | cases h
/-- the arrays' classes -/
def mm_AT (tys : List (ClassId × FieldType)) (ak : Nat → FieldType) (dA : Nat → ClassId) : Prop := ∀ t, ∃ t0 : Nat, tys[t0]? = some (dA t, ak t)
theorem mm_ws_ar {t n a : Nat} {ty : FieldType} (ha : S.1[a]? = some (.inr (t, n))) (hty : ak t = ty) : (mm_ws ck ak dA B b S.1 S.2.1)[a]? = some (B + a, .inl (dA t, n, mm_arr ty S.2.1 B a)) := by
  have h := mm_ws_at (ck := ck) (ak := ak) (dA := dA) (B := B) (b := b) (M := S.2.1) ha
  simp only [mm_cell, hty] at h
  exact h
theorem mm_ws_ar_set {t n a : Nat} {ty : FieldType} {M' : mm_M} {x} (ha : S.1[a]? = some (.inr (t, n))) (hty : ak t = ty) (hx : mm_arr ty M' B a = x) (hag : ∀ c, c ≠ a → mm_ag S.2.1 M' c) :
    mm_ws ck ak dA B b S.1 M' = (mm_ws ck ak dA B b S.1 S.2.1).set a (B + a, .inl (dA t, n, x)) :=
  mm_ws_set ha (by simp only [mm_cell, hty, hx]) fun c hc sc _ => mm_cell_ag (hag c hc) sc

theorem mm_k_iald (X : CallFix p m c cc nL s args TT own) (hK : va_K D cl tys s) (hT : mm_AT tys ak dA) (hd : decode cc pc = .ok (.iaload, 1))
    (h : (mm_ai ak S st 0 fun i a r => mm_go (pc + 1) L (.int (S.2.1.1 a i.toNatClampNeg) :: r) S) = some (.inl z')) (kJ : mm_J p l e R s m args below meth c Q B b nL (mm_Rz D cl ck ak dA B b s.heap S0) z') : mm_J p l e R s m args below meth c Q B b nL (mm_Rz D cl ck ak dA B b s.heap S0) (pc, L, st, S) := by
  obtain ⟨hx, hb, hml, hown, hts⟩ := X
  obtain ⟨i, a, r, t, n, rfl, ha, ht, hi, h⟩ := mm_ai_inv h
  cases h
  obtain ⟨t0, h0⟩ := hT t
  have hty := mm_ty0 ht
  rw [hty] at h0
  exact fun ls H locs cells slots hL hR => va_iald hx hb hK hR.1 a t0 (mm_ws_ar ha hty) h0 hi hd (kJ ls H locs cells slots hL hR)
theorem mm_k_cald (X : CallFix p m c cc nL s args TT own) (hK : va_K D cl tys s) (hT : mm_AT tys ak dA) (hd : decode cc pc = .ok (.caload, 1))
    (h : (mm_ai ak S st 1 fun i a r => mm_go (pc + 1) L (.int (S.2.1.1 a i.toNatClampNeg) :: r) S) = some (.inl z')) (kJ : mm_J p l e R s m args below meth c Q B b nL (mm_Rz D cl ck ak dA B b s.heap S0) z') : mm_J p l e R s m args below meth c Q B b nL (mm_Rz D cl ck ak dA B b s.heap S0) (pc, L, st, S) := by
  obtain ⟨hx, hb, hml, hown, hts⟩ := X
  obtain ⟨i, a, r, t, n, rfl, ha, ht, hi, h⟩ := mm_ai_inv h
  cases h
  obtain ⟨t0, h0⟩ := hT t
  have hty := mm_ty1 ht
  rw [hty] at h0
  exact fun ls H locs cells slots hL hR => va_cald hx hb hK hR.1 a t0 (mm_ws_ar ha hty) h0 hi hd (kJ ls H locs cells slots hL hR)
theorem mm_k_zald (X : CallFix p m c cc nL s args TT own) (hK : va_K D cl tys s) (hT : mm_AT tys ak dA) (hd : decode cc pc = .ok (.baload, 1))
    (h : (mm_ai ak S st 4 fun i a r => mm_go (pc + 1) L (.int (S.2.1.1 a i.toNatClampNeg) :: r) S) = some (.inl z')) (kJ : mm_J p l e R s m args below meth c Q B b nL (mm_Rz D cl ck ak dA B b s.heap S0) z') : mm_J p l e R s m args below meth c Q B b nL (mm_Rz D cl ck ak dA B b s.heap S0) (pc, L, st, S) := by
  obtain ⟨hx, hb, hml, hown, hts⟩ := X
  obtain ⟨i, a, r, t, n, rfl, ha, ht, hi, h⟩ := mm_ai_inv h
  cases h
  obtain ⟨t0, h0⟩ := hT t
  have hty := mm_ty4 ht
  rw [hty] at h0
  exact fun ls H locs cells slots hL hR => va_zald hx hb hK hR.1 a t0 (mm_ws_ar ha hty) h0 hi hd (kJ ls H locs cells slots hL hR)
theorem mm_k_dald (X : CallFix p m c cc nL s args TT own) (hK : va_K D cl tys s) (hT : mm_AT tys ak dA) (hd : decode cc pc = .ok (.daload, 1))
    (h : (mm_ai ak S st 2 fun i a r => mm_go (pc + 1) L (.double (S.2.1.2.1 a i.toNatClampNeg) :: r) S) = some (.inl z')) (kJ : mm_J p l e R s m args below meth c Q B b nL (mm_Rz D cl ck ak dA B b s.heap S0) z') : mm_J p l e R s m args below meth c Q B b nL (mm_Rz D cl ck ak dA B b s.heap S0) (pc, L, st, S) := by
  obtain ⟨hx, hb, hml, hown, hts⟩ := X
  obtain ⟨i, a, r, t, n, rfl, ha, ht, hi, h⟩ := mm_ai_inv h
  cases h
  obtain ⟨t0, h0⟩ := hT t
  have hty := mm_ty2 ht
  rw [hty] at h0
  exact fun ls H locs cells slots hL hR => va_dald hx hb hK hR.1 a t0 (mm_ws_ar ha hty) h0 hi hd (kJ ls H locs cells slots hL hR)
theorem mm_k_lald (X : CallFix p m c cc nL s args TT own) (hK : va_K D cl tys s) (hT : mm_AT tys ak dA) (hd : decode cc pc = .ok (.laload, 1))
    (h : (mm_ai ak S st 3 fun i a r => mm_go (pc + 1) L (.long (S.2.1.2.2.2 a i.toNatClampNeg) :: r) S) = some (.inl z')) (kJ : mm_J p l e R s m args below meth c Q B b nL (mm_Rz D cl ck ak dA B b s.heap S0) z') : mm_J p l e R s m args below meth c Q B b nL (mm_Rz D cl ck ak dA B b s.heap S0) (pc, L, st, S) := by
  obtain ⟨hx, hb, hml, hown, hts⟩ := X
  obtain ⟨i, a, r, t, n, rfl, ha, ht, hi, h⟩ := mm_ai_inv h
  cases h
  obtain ⟨t0, h0⟩ := hT t
  have hty := mm_ty3 ht
  rw [hty] at h0
  exact fun ls H locs cells slots hL hR => va_lald hx hb hK hR.1 a t0 (mm_ws_ar ha hty) h0 hi hd (kJ ls H locs cells slots hL hR)
theorem mm_k_aald (X : CallFix p m c cc nL s args TT own) (hK : va_K D cl tys s) (hT : mm_AT tys ak dA) (hd : decode cc pc = .ok (.aaload, 1))
    (h : (mm_ai ak S st 5 fun i a r => mm_go (pc + 1) L (va_rf (S.2.1.2.2.1 a i.toNatClampNeg) :: r) S) = some (.inl z')) (kJ : mm_J p l e R s m args below meth c Q B b nL (mm_Rz D cl ck ak dA B b s.heap S0) z') : mm_J p l e R s m args below meth c Q B b nL (mm_Rz D cl ck ak dA B b s.heap S0) (pc, L, st, S) := by
  obtain ⟨hx, hb, hml, hown, hts⟩ := X
  obtain ⟨i, a, r, t, n, rfl, ha, ht, hi, h⟩ := mm_ai_inv h
  cases h
  obtain ⟨t0, h0⟩ := hT t
  obtain ⟨C, hty⟩ := mm_ty5 ht
  rw [hty] at h0
  intro ls H locs cells slots hL hR
  have k9 := kJ ls H locs cells slots hL hR
  simp only [List.map_cons, mm_v_rf] at k9
  exact va_aldq hx hb hK hR.1 a t0 (mm_ws_ar ha hty) h0 hi hd k9
theorem mm_k_iast (X : CallFix p m c cc nL s args TT own) (hK : va_K D cl tys s) (hT : mm_AT tys ak dA) (hd : decode cc pc = .ok (.iastore, 1))
    (h : (mm_i st fun x st => mm_ai ak S st 0 fun i a r => mm_go (pc + 1) L r (mm_sI S a i.toNatClampNeg x)) = some (.inl z')) (kJ : mm_J p l e R s m args below meth c Q B b nL (mm_Rz D cl ck ak dA B b s.heap S0) z') : mm_J p l e R s m args below meth c Q B b nL (mm_Rz D cl ck ak dA B b s.heap S0) (pc, L, st, S) := by
  obtain ⟨hx, hb, hml, hown, hts⟩ := X
  obtain ⟨x, st, rfl, h⟩ := mm_i_inv h
  obtain ⟨i, a, r, t, n, rfl, ha, ht, hi, h⟩ := mm_ai_inv h
  cases h
  obtain ⟨t0, h0⟩ := hT t
  have hty := mm_ty0 ht
  rw [hty] at h0
  intro ls H locs cells slots hL hR
  obtain ⟨hP, hS, hco, hsl, hnx⟩ := hR
  refine va_iast hx hb hK hP (mm_ws_D (fun q h => h) _ _) hS a t0 (mm_ws_ar ha hty) h0 hi hd (fun H1 locs1 hP1 _ hS1 => kJ ls H1 locs1 cells slots hL ⟨?_, hS1, hco, hsl, hnx⟩)
  show va_P D cl (mm_ws ck ak dA B b S.1 (mm_sI S a i.toNatClampNeg x).2.1) H1
  rw [mm_ws_ar_set ha hty (M' := (mm_sI S a i.toNatClampNeg x).2.1) rfl (fun c hc => mm_sI_ag hc)]
  have e9 : mm_arr (.int) (mm_sI S a i.toNatClampNeg x).2.1 B a = .inl (upd (S.2.1.1 a) i.toNatClampNeg x) := by
    simp only [mm_arr, mm_sI, mm_u_row]
  rw [e9]
  exact hP1
theorem mm_k_cast (X : CallFix p m c cc nL s args TT own) (hK : va_K D cl tys s) (hT : mm_AT tys ak dA) (hd : decode cc pc = .ok (.castore, 1))
    (h : (mm_i st fun x st => mm_ai ak S st 1 fun i a r => mm_go (pc + 1) L r (mm_sI S a i.toNatClampNeg (vp_nar .char x))) = some (.inl z')) (kJ : mm_J p l e R s m args below meth c Q B b nL (mm_Rz D cl ck ak dA B b s.heap S0) z') : mm_J p l e R s m args below meth c Q B b nL (mm_Rz D cl ck ak dA B b s.heap S0) (pc, L, st, S) := by
  obtain ⟨hx, hb, hml, hown, hts⟩ := X
  obtain ⟨x, st, rfl, h⟩ := mm_i_inv h
  obtain ⟨i, a, r, t, n, rfl, ha, ht, hi, h⟩ := mm_ai_inv h
  cases h
  obtain ⟨t0, h0⟩ := hT t
  have hty := mm_ty1 ht
  rw [hty] at h0
  intro ls H locs cells slots hL hR
  obtain ⟨hP, hS, hco, hsl, hnx⟩ := hR
  refine va_cast hx hb hK hP (mm_ws_D (fun q h => h) _ _) hS a t0 (mm_ws_ar ha hty) h0 hi hd (fun H1 locs1 hP1 _ hS1 => kJ ls H1 locs1 cells slots hL ⟨?_, hS1, hco, hsl, hnx⟩)
  show va_P D cl (mm_ws ck ak dA B b S.1 (mm_sI S a i.toNatClampNeg (vp_nar .char x)).2.1) H1
  rw [mm_ws_ar_set ha hty (M' := (mm_sI S a i.toNatClampNeg (vp_nar .char x)).2.1) rfl (fun c hc => mm_sI_ag hc)]
  have e9 : mm_arr (.char) (mm_sI S a i.toNatClampNeg (vp_nar .char x)).2.1 B a = .inl (upd (S.2.1.1 a) i.toNatClampNeg (vp_nar .char x)) := by
    simp only [mm_arr, mm_sI, mm_u_row]
  rw [e9]
  exact hP1
theorem mm_k_zast (X : CallFix p m c cc nL s args TT own) (hK : va_K D cl tys s) (hT : mm_AT tys ak dA) (hd : decode cc pc = .ok (.bastore, 1))
    (h : (mm_i st fun x st => mm_ai ak S st 4 fun i a r => mm_go (pc + 1) L r (mm_sI S a i.toNatClampNeg (vp_nar .boolean x))) = some (.inl z')) (kJ : mm_J p l e R s m args below meth c Q B b nL (mm_Rz D cl ck ak dA B b s.heap S0) z') : mm_J p l e R s m args below meth c Q B b nL (mm_Rz D cl ck ak dA B b s.heap S0) (pc, L, st, S) := by
  obtain ⟨hx, hb, hml, hown, hts⟩ := X
  obtain ⟨x, st, rfl, h⟩ := mm_i_inv h
  obtain ⟨i, a, r, t, n, rfl, ha, ht, hi, h⟩ := mm_ai_inv h
  cases h
  obtain ⟨t0, h0⟩ := hT t
  have hty := mm_ty4 ht
  rw [hty] at h0
  intro ls H locs cells slots hL hR
  obtain ⟨hP, hS, hco, hsl, hnx⟩ := hR
  refine va_zast hx hb hK hP (mm_ws_D (fun q h => h) _ _) hS a t0 (mm_ws_ar ha hty) h0 hi hd (fun H1 locs1 hP1 _ hS1 => kJ ls H1 locs1 cells slots hL ⟨?_, hS1, hco, hsl, hnx⟩)
  show va_P D cl (mm_ws ck ak dA B b S.1 (mm_sI S a i.toNatClampNeg (vp_nar .boolean x)).2.1) H1
  rw [mm_ws_ar_set ha hty (M' := (mm_sI S a i.toNatClampNeg (vp_nar .boolean x)).2.1) rfl (fun c hc => mm_sI_ag hc)]
  have e9 : mm_arr (.boolean) (mm_sI S a i.toNatClampNeg (vp_nar .boolean x)).2.1 B a = .inl (upd (S.2.1.1 a) i.toNatClampNeg (vp_nar .boolean x)) := by
    simp only [mm_arr, mm_sI, mm_u_row]
  rw [e9]
  exact hP1
theorem mm_k_dast (X : CallFix p m c cc nL s args TT own) (hK : va_K D cl tys s) (hT : mm_AT tys ak dA) (hd : decode cc pc = .ok (.dastore, 1))
    (h : (mm_d st fun x st => mm_ai ak S st 2 fun i a r => mm_go (pc + 1) L r (mm_sD S a i.toNatClampNeg x)) = some (.inl z')) (kJ : mm_J p l e R s m args below meth c Q B b nL (mm_Rz D cl ck ak dA B b s.heap S0) z') : mm_J p l e R s m args below meth c Q B b nL (mm_Rz D cl ck ak dA B b s.heap S0) (pc, L, st, S) := by
  obtain ⟨hx, hb, hml, hown, hts⟩ := X
  obtain ⟨x, st, rfl, h⟩ := mm_d_inv h
  obtain ⟨i, a, r, t, n, rfl, ha, ht, hi, h⟩ := mm_ai_inv h
  cases h
  obtain ⟨t0, h0⟩ := hT t
  have hty := mm_ty2 ht
  rw [hty] at h0
  intro ls H locs cells slots hL hR
  obtain ⟨hP, hS, hco, hsl, hnx⟩ := hR
  refine va_dast hx hb hK hP (mm_ws_D (fun q h => h) _ _) hS a t0 (mm_ws_ar ha hty) h0 hi hd (fun H1 locs1 hP1 _ hS1 => kJ ls H1 locs1 cells slots hL ⟨?_, hS1, hco, hsl, hnx⟩)
  show va_P D cl (mm_ws ck ak dA B b S.1 (mm_sD S a i.toNatClampNeg x).2.1) H1
  rw [mm_ws_ar_set ha hty (M' := (mm_sD S a i.toNatClampNeg x).2.1) rfl (fun c hc => mm_sD_ag hc)]
  have e9 : mm_arr (.double) (mm_sD S a i.toNatClampNeg x).2.1 B a = .inr (.inr (.inr (.inl (vf_upd (S.2.1.2.1 a) i.toNatClampNeg x)))) := by
    simp only [mm_arr, mm_sD, mm_u_rowD]
  rw [e9]
  exact hP1
theorem mm_k_last (X : CallFix p m c cc nL s args TT own) (hK : va_K D cl tys s) (hT : mm_AT tys ak dA) (hd : decode cc pc = .ok (.lastore, 1))
    (h : (mm_j st fun x st => mm_ai ak S st 3 fun i a r => mm_go (pc + 1) L r (mm_sJ S a i.toNatClampNeg x)) = some (.inl z')) (kJ : mm_J p l e R s m args below meth c Q B b nL (mm_Rz D cl ck ak dA B b s.heap S0) z') : mm_J p l e R s m args below meth c Q B b nL (mm_Rz D cl ck ak dA B b s.heap S0) (pc, L, st, S) := by
  obtain ⟨hx, hb, hml, hown, hts⟩ := X
  obtain ⟨x, st, rfl, h⟩ := mm_j_inv h
  obtain ⟨i, a, r, t, n, rfl, ha, ht, hi, h⟩ := mm_ai_inv h
  cases h
  obtain ⟨t0, h0⟩ := hT t
  have hty := mm_ty3 ht
  rw [hty] at h0
  intro ls H locs cells slots hL hR
  obtain ⟨hP, hS, hco, hsl, hnx⟩ := hR
  refine va_last hx hb hK hP (mm_ws_D (fun q h => h) _ _) hS a t0 (mm_ws_ar ha hty) h0 hi hd (fun H1 locs1 hP1 _ hS1 => kJ ls H1 locs1 cells slots hL ⟨?_, hS1, hco, hsl, hnx⟩)
  show va_P D cl (mm_ws ck ak dA B b S.1 (mm_sJ S a i.toNatClampNeg x).2.1) H1
  rw [mm_ws_ar_set ha hty (M' := (mm_sJ S a i.toNatClampNeg x).2.1) rfl (fun c hc => mm_sJ_ag hc)]
  have e9 : mm_arr (.long) (mm_sJ S a i.toNatClampNeg x).2.1 B a = .inr (.inl (vp_updL (S.2.1.2.2.2 a) i.toNatClampNeg x)) := by
    simp only [mm_arr, mm_sJ, mm_u_rowJ]
  rw [e9]
  exact hP1
end ARR
end
section
section NEW
variable {p : Program} {l : Launch} {e : Env} {R : Room} {s : State} {m : MethodId} {args : Array Value} {below : List Frame} {meth : Method} {c : Code} {Q : State → Prop}
variable {D : va_G} {cl : List vw_C} {tys : List (ClassId × FieldType)} {ck : Nat → List Nat} {ct : Nat → Nat → FieldType} {ak : Nat → FieldType} {dA : Nat → ClassId} {B b Ls nL pc : Nat} {xs : Nat → Int32} {TT : List Cond} {cc : ByteArray} {own : String} {me : mm_Me} {L : mm_L} {st : List Value} {S S0 : mm_St} {z' : mm_Z}
theorem mm_aas_inv {f : Nat → Int32 → Nat → List Value → mm_N} {z : mm_Z ⊕ mm_O} (h : mm_aas ak S st f = some z) : ∃ x i a r ci n, st = .ref x :: .int i :: .ref a :: r ∧ S.1[x]? = some (.inl ci) ∧ S.1[a]? = some (.inr (10 + ci, n)) ∧ vp_in i n ∧ f x i a r = some z ∧ mm_ty (ak (10 + ci)) = 5 := by
  unfold mm_aas at h
  split at h
  next x i a r =>
    split at h
    next ci hci =>
      split at h
      next t n ht =>
        obtain ⟨hq, h9⟩ := mm_cond_inv h
        rw [Bool.and_eq_true] at hq
        have hq5 := Nat.eq_of_beq_eq_true hq.2
        have hq := Nat.eq_of_beq_eq_true hq.1
        subst hq
        obtain ⟨h1, h2⟩ := mm_ix_inv h9
        exact ⟨x, i, a, r, ci, n, rfl, hci, ht, h1, h2, hq5⟩
      next => cases h
    next => cases h
  next => cases h
/-- types from 10 on are arrays of objects -/
def mm_AO (cl : List vw_C) (ak : Nat → FieldType) : Prop := ∀ (ci : Nat) (r : vw_C), cl[ci]? = some r → mm_ty (ak (10 + ci)) = 5 → ak (10 + ci) = .object r.1
theorem mm_k_aast (X : CallFix p m c cc nL s args TT own) (hK : va_K D cl tys s) (hT : mm_AT tys ak dA) (hO : mm_AO cl ak) (hd : decode cc pc = .ok (.aastore, 1))
    (h : (mm_aas ak S st fun x i a r => mm_go (pc + 1) L r (mm_sR S a i.toNatClampNeg (some x))) = some (.inl z')) (kJ : mm_J p l e R s m args below meth c Q B b nL (mm_Rz D cl ck ak dA B b s.heap S0) z') : mm_J p l e R s m args below meth c Q B b nL (mm_Rz D cl ck ak dA B b s.heap S0) (pc, L, st, S) := by
  obtain ⟨hx, hb, hml, hown, hts⟩ := X
  obtain ⟨x, i, a, r, ci, n, rfl, hxc, ha, hi, h, h5⟩ := mm_aas_inv h
  cases h
  obtain ⟨t0, h0⟩ := hT (10 + ci)
  intro ls H locs cells slots hL hR
  obtain ⟨hP, hS, hco, hsl, hnx⟩ := hR
  obtain ⟨rc, hrc, -⟩ := hP _ _ (mm_ws_at (ck := ck) (ak := ak) (dA := dA) (B := B) (b := b) (M := S.2.1) hxc)
  have hty := hO ci rc hrc h5
  rw [hty] at h0
  refine va_astq hx hb hK hP (mm_ws_D (fun q h => h) _ _) hS a t0 x ci (mm_ws_ar ha hty) h0 (mm_ws_at hxc) hrc hi hd (fun H1 locs1 hP1 _ hS1 => kJ ls H1 locs1 cells slots hL ⟨?_, hS1, hco, hsl, hnx⟩)
  show va_P D cl (mm_ws ck ak dA B b S.1 (mm_sR S a i.toNatClampNeg (some x)).2.1) H1
  rw [mm_ws_ar_set ha hty (M' := (mm_sR S a i.toNatClampNeg (some x)).2.1) rfl (fun c hc => mm_sR_ag hc)]
  have e9 : mm_arr (.object rc.1) (mm_sR S a i.toNatClampNeg (some x)).2.1 B a = .inr (.inr (.inr (.inr (va_up (fun j => (S.2.1.2.2.1 a j).map (B + ·)) i.toNatClampNeg (some (B + x)))))) := by
    simp only [mm_arr, mm_sR]
    rw [mm_u_rowR]
    rfl
  rw [e9]
  exact hP1
theorem mm_ws_new {Sh : mm_Sh} {M M' : mm_M} {sh : Nat ⊕ (Nat × Nat)} (h : ∀ c, c ≠ Sh.length → mm_ag M M' c) : mm_ws ck ak dA B b (Sh ++ [sh]) M' = mm_ws ck ak dA B b Sh M ++ [(B + Sh.length, mm_cell ck ak dA B b M' Sh.length sh)] := by
  refine List.ext_getElem? fun i => ?_
  by_cases hi : i < Sh.length
  · have e := List.getElem?_eq_getElem hi
    have e' : (Sh ++ [sh])[i]? = some Sh[i] := by rw [List.getElem?_append_left hi]; exact e
    rw [mm_ws_at e', List.getElem?_append_left (by rw [mm_ws_len]; exact hi), mm_ws_at e, mm_cell_ag (h i (by omega))]
  · by_cases hi2 : i = Sh.length
    · subst hi2
      have e' : (Sh ++ [sh])[Sh.length]? = some sh := by simp
      rw [mm_ws_at e', List.getElem?_append_right (by rw [mm_ws_len]; exact Nat.le_refl _), mm_ws_len, Nat.sub_self]
      rfl
    · rw [List.getElem?_eq_none (by rw [mm_ws_len, List.length_append, List.length_singleton]; omega), List.getElem?_eq_none (by rw [List.length_append, mm_ws_len, List.length_singleton]; omega)]
theorem mm_fresh {Sh : mm_Sh} {M : mm_M} {q : Nat} {x : va_E} {H1 : Heap} (hP : va_P D cl (mm_ws ck ak dA B b Sh M ++ [(q, x)]) H1) (hD : va_D (fun q => B ≤ q) (mm_ws ck ak dA B b Sh M ++ [(q, x)])) (hz : H1.size ≤ B + Sh.length + 1) : q = B + Sh.length := by
  have hlast : (mm_ws ck ak dA B b Sh M ++ [(q, x)])[Sh.length]? = some (q, x) := by
    rw [List.getElem?_append_right (by rw [mm_ws_len]; exact Nat.le_refl _), mm_ws_len, Nat.sub_self]
    rfl
  have h1 : q < H1.size := (hP _ _ hlast).lt
  have h2 : B ≤ q := hD.2 _ _ hlast
  by_cases h3 : q < B + Sh.length
  · have ha : q - B < Sh.length := by omega
    have e := mm_ws_at (ck := ck) (ak := ak) (dA := dA) (B := B) (b := b) (M := M) (List.getElem?_eq_getElem ha)
    have e2 := (List.getElem?_append_left (l₂ := [(q, x)]) (by rw [mm_ws_len]; exact ha)).trans e
    have e3 := hD.1 _ _ _ _ e2 hlast (by show B + (q - B) = q; omega)
    omega
  · omega
theorem mm_new_ag (S : mm_St) (sh : Nat ⊕ (Nat × Nat)) : ∀ c, c ≠ S.1.length → mm_ag S.2.1 (mm_new S sh).2.1 c := fun c hc => ⟨mm_z_ag hc, mm_z_ag hc, mm_z_ag hc, mm_z_ag hc⟩
theorem mm_sz_app (ck : Nat → List Nat) (a b : mm_Sh) : mm_sz ck (a ++ b) = mm_sz ck a + mm_sz ck b := by
  induction a with
  | nil => simp [mm_sz]
  | cons x a ih =>
    cases x with
    | inl ci => simp only [List.cons_append, mm_sz, ih]; omega
    | inr tn => simp only [List.cons_append, mm_sz, ih]; omega
theorem mm_new_rd (S : mm_St) (sh : Nat ⊕ (Nat × Nat)) {kd : Nat} {ty : FieldType} (h : mm_kt kd ty = true) (k : Nat) : mm_v B b (mm_rd (mm_new S sh).2.1 kd S.1.length k) = defaultValue ty := by
  have z1 : ∀ {α : Type} (f : Nat → Nat → α) (d : α), mm_z f S.1.length d S.1.length k = d := fun f d => by simp [mm_z]
  match kd, h with
  | 0, h => rw [mm_kt0 h]; simp [mm_rd, mm_new, z1, mm_v, defaultValue]
  | 1, h => rw [mm_kt1 h]; simp [mm_rd, mm_new, z1, mm_v, defaultValue]
  | 2, h =>
    rcases mm_kt2 h with ⟨n, h⟩ | ⟨t, h⟩
    · rw [h]; simp [mm_rd, mm_new, z1, mm_v, va_rf, defaultValue]
    · rw [h]; simp [mm_rd, mm_new, z1, mm_v, va_rf, defaultValue]
  | 3, h => rw [mm_kt3 h]; simp [mm_rd, mm_new, z1, mm_v, defaultValue]
  | 4, h => rw [mm_kt4 h]; simp [mm_rd, mm_new, z1, mm_v, defaultValue]
  | n + 5, h => cases ty <;> cases h
theorem mm_k_new {ix ci : Nat} {C : String} {T : u_T} {N : Nat} (X : CallFix p m c cc nL s args TT own) (hK : va_K D cl tys s) (hCK : mm_CK cl ck ct TT) (hc1 : cl[ci]? = some (C, T, N)) (w1 : Cond.classLink own ix C ∈ TT) (w2 : Cond.instantiable C N ∈ TT) (w3 : Cond.initialized C ∈ TT) (hd : decode cc pc = .ok (.new ix, 3)) (hB : B ≤ s.heap.size) (hex : S0.2.2 = 0 → s.heap.size = B + S0.1.length)
    (h0 : S.2.2 = 0) (hRc : mm_co (mm_new S (.inl ci)) ≤ mm_co S0 + R.cells) (hRs : mm_sl ck (mm_new S (.inl ci)) ≤ mm_sl ck S0 + R.slots)
    (kJ : mm_J p l e R s m args below meth c Q B b nL (mm_Rz D cl ck ak dA B b s.heap S0) (pc + 3, L, .ref S.1.length :: st, mm_new S (.inl ci))) : mm_J p l e R s m args below meth c Q B b nL (mm_Rz D cl ck ak dA B b s.heap S0) (pc, L, st, S) := by
  obtain ⟨hx, hb, hml, hown, hts⟩ := X
  obtain ⟨hin, hlen, hty, hnm, hkt⟩ := hCK ci C T N hc1
  intro ls H locs cells slots hL hR
  obtain ⟨hP, hS, hco, hsl, hnx⟩ := hR
  have hl1 : (mm_new S (.inl ci)).1.length = S.1.length + 1 := by simp [mm_new]
  have hz1 : mm_sz ck (mm_new S (.inl ci)).1 = mm_sz ck S.1 + N := by
    show mm_sz ck (S.1 ++ [.inl ci]) = _
    rw [mm_sz_app]
    simp only [mm_sz, hlen, Nat.add_zero]
  have hn1 : (mm_new S (.inl ci)).2.2 = S.2.2 := rfl
  have hRc : S.1.length + 1 + S.2.2 ≤ S0.1.length + S0.2.2 + R.cells := by
    have := hRc
    simp only [mm_co, hl1, hn1] at this
    exact this
  have hRs : mm_sz ck S.1 + N + 6 * S.2.2 ≤ mm_sz ck S0.1 + 6 * S0.2.2 + R.slots := by
    have := hRs
    simp only [mm_sl, hz1, hn1] at this
    exact this
  have hco : S0.1.length + S0.2.2 + cells = S.1.length + S.2.2 := hco
  have hsl : mm_sz ck S0.1 + 6 * S0.2.2 + slots = mm_sz ck S.1 + 6 * S.2.2 := hsl
  have hnx : S0.2.2 ≤ S.2.2 := hnx
  refine va_new (ci := ci) (fs := mm_fs (mm_new S (.inl ci)).2.1 B b S.1.length (ck ci)) hx hb hts hin (ct ci) hty hown (hts _ w1) (hts _ w2) (hts _ w3) hK hP (mm_ws_D (fun q h => h) _ _) hS (fun q h => Nat.le_trans hB h) hc1 ?_ (by omega) (by omega) hd (fun q H1 hP1 hD1 hS1 => ?_)
  · intro j hj
    have hj2 : j < (ck ci).length := by rw [hlen]; exact hj
    have e := List.getElem?_eq_getElem hj2
    rw [vp_V, List.getD_eq_getElem?_getD, mm_fs_at e, Option.getD_some, mm_new_rd S _ (hkt j _ e) j]
  · intro T9 hT9 X9
    have hsz := X9.heapSize
    rw [hT9] at hsz
    have hs0 := hex (by omega)
    have hq := mm_fresh (Sh := S.1) (M := S.2.1) hP1 hD1 (by omega)
    subst hq
    refine kJ ls H1 locs (cells + 1) (slots + N) hL ⟨?_, hS1, ?_, ?_, hnx⟩ T9 hT9 X9
    · show va_P D cl (mm_ws ck ak dA B b (S.1 ++ [.inl ci]) (mm_new S (.inl ci)).2.1) H1
      rw [mm_ws_new (mm_new_ag S _)]
      exact hP1
    · simp only [mm_co, hl1, hn1]; omega
    · simp only [mm_sl, hz1, hn1]; omega
theorem mm_RA_one {ty : FieldType} {c1 c2 : ClassId} (h1 : va_RA s c1 ty) (h2 : va_RA s c2 ty) : c1 = c2 := by
  cases ty with
  | object C =>
    obtain ⟨k1, m1, -, -, -, h1⟩ := h1
    obtain ⟨k2, m2, -, -, -, h2⟩ := h2
    exact Option.some.inj (h1.symm.trans h2)
  | _ => exact Option.some.inj (Eq.trans (Eq.symm h1) h2)
theorem mm_new_arr (S : mm_St) (sh : Nat ⊕ (Nat × Nat)) (n : Nat) {ty : FieldType} (h : mm_ty ty < 6) (cA : ClassId) : vp_cell cA (n, mm_arr ty (mm_new S sh).2.1 B S.1.length) = arrV cA n (fun _ => defaultValue ty) := by
  have z1 : ∀ {α : Type} (f : Nat → Nat → α) (d : α), mm_z f S.1.length d S.1.length = fun _ => d := fun f d => by funext k; simp [mm_z]
  cases ty with
  | int => simp [mm_arr, mm_new, z1, vp_cell, defaultValue]
  | char => simp [mm_arr, mm_new, z1, vp_cell, defaultValue]
  | double => simp [mm_arr, mm_new, z1, vp_cell, defaultValue]
  | long => simp [mm_arr, mm_new, z1, vp_cell, defaultValue]
  | boolean => simp [mm_arr, mm_new, z1, vp_cell, defaultValue]
  | object C => simp [mm_arr, mm_new, z1, vp_cell, defaultValue, va_rf]
  | _ => simp [mm_ty] at h
theorem mm_k_newa {atype : ArrayType} {t : Nat} {n : Int32} (X : CallFix p m c cc nL s args TT own) (hK : va_K D cl tys s) (hT : mm_AT tys ak dA) (hty : newarray.typeOf atype = ak t) (ht6 : mm_ty (ak t) < 6) (hby : componentBytes (ak t) ≤ 8) (w1 : Cond.arrayClass (newarray.typeOf atype) ∈ TT) (hd : decode cc pc = .ok (.newarray atype, 2)) (hB : B ≤ s.heap.size) (hex : S0.2.2 = 0 → s.heap.size = B + S0.1.length)
    (h0 : S.2.2 = 0) (hn : ¬ n < 0) (hRb : R.slots ≤ 60000000) (hRc : mm_co (mm_new S (.inr (t, n.toNatClampNeg))) ≤ mm_co S0 + R.cells) (hRs : mm_sl ck (mm_new S (.inr (t, n.toNatClampNeg))) ≤ mm_sl ck S0 + R.slots)
    (kJ : mm_J p l e R s m args below meth c Q B b nL (mm_Rz D cl ck ak dA B b s.heap S0) (pc + 2, L, .ref S.1.length :: st, mm_new S (.inr (t, n.toNatClampNeg)))) : mm_J p l e R s m args below meth c Q B b nL (mm_Rz D cl ck ak dA B b s.heap S0) (pc, L, .int n :: st, S) := by
  obtain ⟨hx, hb, hml, hown, hts⟩ := X
  obtain ⟨t0, ht0⟩ := hT t
  intro ls H locs cells slots hL hR
  obtain ⟨hP, hS, hco, hsl, hnx⟩ := hR
  generalize hN : n.toNatClampNeg = N at hRc hRs kJ
  have hl1 : (mm_new S (.inr (t, N))).1.length = S.1.length + 1 := by simp [mm_new]
  have hz1 : mm_sz ck (mm_new S (.inr (t, N))).1 = mm_sz ck S.1 + N := by
    show mm_sz ck (S.1 ++ [.inr (t, N)]) = _
    rw [mm_sz_app]
    simp only [mm_sz, Nat.add_zero]
  have hn1 : (mm_new S (.inr (t, N))).2.2 = S.2.2 := rfl
  have hRc : S.1.length + 1 + S.2.2 ≤ S0.1.length + S0.2.2 + R.cells := by
    have := hRc
    simp only [mm_co, hl1, hn1] at this
    exact this
  have hRs : mm_sz ck S.1 + N + 6 * S.2.2 ≤ mm_sz ck S0.1 + 6 * S0.2.2 + R.slots := by
    have := hRs
    simp only [mm_sl, hz1, hn1] at this
    exact this
  have hco : S0.1.length + S0.2.2 + cells = S.1.length + S.2.2 := hco
  have hsl : mm_sz ck S0.1 + 6 * S0.2.2 + slots = mm_sz ck S.1 + 6 * S.2.2 := hsl
  have hnx : S0.2.2 ≤ S.2.2 := hnx
  have hNb : N * componentBytes (ak t) ≤ N * 8 := Nat.mul_le_mul_left _ hby
  refine va_newa (a0 := (N, mm_arr (ak t) (mm_new S (.inr (t, N))).2.1 B S.1.length)) hx hb (hts _ w1) hty hK hP (mm_ws_D (fun q h => h) _ _) hS (fun q h => Nat.le_trans hB h) (fun cA => mm_new_arr S _ N ht6 cA) hn hN (by omega) (by omega) (by omega) hd (fun q cA H1 hK1 hP1 hD1 hS1 => ?_)
  intro T9 hT9 X9
  have hsz := X9.heapSize
  rw [hT9] at hsz
  have hs0 := hex (by omega)
  have hq := mm_fresh (Sh := S.1) (M := S.2.1) hP1 hD1 (by omega)
  subst hq
  have hcA : cA = dA t := mm_RA_one (hK1.2 tys.length (cA, ak t) (by simp)).2 (hK.2 t0 _ ht0).2
  subst hcA
  refine kJ ls H1 locs (cells + 1) (slots + N) hL ⟨?_, hS1, ?_, ?_, hnx⟩ T9 hT9 X9
  · show va_P D cl (mm_ws ck ak dA B b (S.1 ++ [.inr (t, N)]) (mm_new S (.inr (t, N))).2.1) H1
    rw [mm_ws_new (mm_new_ag S _)]
    exact hP1
  · simp only [mm_co, hl1, hn1]; omega
  · simp only [mm_sl, hz1, hn1]; omega
theorem mm_k_newq {ix t : Nat} {C : String} {n : Int32} (X : CallFix p m c cc nL s args TT own) (hK : va_K D cl tys s) (hT : mm_AT tys ak dA) (hty : ak t = .object C) (w1 : Cond.classLink own ix C ∈ TT) (w2 : va_AO C s) (hd : decode cc pc = .ok (.anewarray ix, 3)) (hB : B ≤ s.heap.size) (hex : S0.2.2 = 0 → s.heap.size = B + S0.1.length)
    (h0 : S.2.2 = 0) (hn : ¬ n < 0) (hRb : R.slots ≤ 60000000) (hRc : mm_co (mm_new S (.inr (t, n.toNatClampNeg))) ≤ mm_co S0 + R.cells) (hRs : mm_sl ck (mm_new S (.inr (t, n.toNatClampNeg))) ≤ mm_sl ck S0 + R.slots)
    (kJ : mm_J p l e R s m args below meth c Q B b nL (mm_Rz D cl ck ak dA B b s.heap S0) (pc + 3, L, .ref S.1.length :: st, mm_new S (.inr (t, n.toNatClampNeg)))) : mm_J p l e R s m args below meth c Q B b nL (mm_Rz D cl ck ak dA B b s.heap S0) (pc, L, .int n :: st, S) := by
  obtain ⟨hx, hb, hml, hown, hts⟩ := X
  obtain ⟨t0, ht0⟩ := hT t
  intro ls H locs cells slots hL hR
  obtain ⟨hP, hS, hco, hsl, hnx⟩ := hR
  generalize hN : n.toNatClampNeg = N at hRc hRs kJ
  have hl1 : (mm_new S (.inr (t, N))).1.length = S.1.length + 1 := by simp [mm_new]
  have hz1 : mm_sz ck (mm_new S (.inr (t, N))).1 = mm_sz ck S.1 + N := by
    show mm_sz ck (S.1 ++ [.inr (t, N)]) = _
    rw [mm_sz_app]
    simp only [mm_sz, Nat.add_zero]
  have hn1 : (mm_new S (.inr (t, N))).2.2 = S.2.2 := rfl
  have hRc : S.1.length + 1 + S.2.2 ≤ S0.1.length + S0.2.2 + R.cells := by
    have := hRc
    simp only [mm_co, hl1, hn1] at this
    exact this
  have hRs : mm_sz ck S.1 + N + 6 * S.2.2 ≤ mm_sz ck S0.1 + 6 * S0.2.2 + R.slots := by
    have := hRs
    simp only [mm_sl, hz1, hn1] at this
    exact this
  have hco : S0.1.length + S0.2.2 + cells = S.1.length + S.2.2 := hco
  have hsl : mm_sz ck S0.1 + 6 * S0.2.2 + slots = mm_sz ck S.1 + 6 * S.2.2 := hsl
  have hnx : S0.2.2 ≤ S.2.2 := hnx
  refine va_newq hx hb hown (hts _ w1) w2 hK hP (mm_ws_D (fun q h => h) _ _) hS (fun q h => Nat.le_trans hB h) hn hN (by omega) (by omega) (by omega) hd (fun q cA H1 hK1 hP1 hD1 hS1 => ?_)
  intro T9 hT9 X9
  have hsz := X9.heapSize
  rw [hT9] at hsz
  have hs0 := hex (by omega)
  have hq := mm_fresh (Sh := S.1) (M := S.2.1) hP1 hD1 (by omega)
  subst hq
  rw [hty] at ht0
  have hcA : cA = dA t := mm_RA_one (hK1.2 tys.length (cA, .object C) (by simp)).2 (hK.2 t0 _ ht0).2
  subst hcA
  refine kJ ls H1 locs (cells + 1) (slots + N) hL ⟨?_, hS1, ?_, ?_, hnx⟩ T9 hT9 X9
  · show va_P D cl (mm_ws ck ak dA B b (S.1 ++ [.inr (t, N)]) (mm_new S (.inr (t, N))).2.1) H1
    rw [mm_ws_new (mm_new_ag S _)]
    have e9 : mm_cell ck ak dA B b (mm_new S (.inr (t, N))).2.1 S.1.length (.inr (t, N)) = .inl (dA t, N, .inr (.inr (.inr (.inr (fun _ => none))))) := by
      have z1 : ∀ {α : Type} (f : Nat → Nat → α) (d : α), mm_z f S.1.length d S.1.length = fun _ => d := fun f d => by funext k; simp [mm_z]
      simp [mm_cell, hty, mm_arr, mm_new, z1]
    rw [e9]
    exact hP1
  · simp only [mm_co, hl1, hn1]; omega
  · simp only [mm_sl, hz1, hn1]; omega
end NEW
end
section
/-! A CALLEE THAT THROWS, for contracts in free form -/
section THR
variable {p : Program} {l : Launch} {e : Env} {R : Room} {s : State} {m : MethodId} {args : Array Value} {below : List Frame} {meth : Method} {c : Code} {T : State} {locs : List Loc} {cells slots : Nat}
variable {ws : List Cond} {rm : Room} {Pc : Array Value → State → Prop} {Qo : Array Value → State → Outcome → State → Prop} {y : MethodName} {bytes : ByteArray} {maxL mc ms : Nat} {ret : Option FieldType} {free : Addr → Prop} {own : String} {index : Nat}
/-- the contract's end is a throw; so many cells are new, only free ones have changed -/
def mm_QT (Qo : Array Value → State → Outcome → State → Prop) (mc ms : Nat) (free : Addr → Prop) : Prop := ∀ (a : Array Value) (st : State) (o : Outcome) (t : State), Qo a st o t → ∃ q, o = .threw q ∧ st.WarmedH t.vm ∧ ∃ L, st.sameButNew ({ t with vm := st.vm } : State) L mc ms ∧ ∀ z ∈ L, free z.base
/-- what a caller asks of its room and of the callee's words -/
def mm_CR (R : Room) (s : State) (args : Array Value) (y : MethodName) (bytes : ByteArray) (maxL : Nat) (ret : Option FieldType) (ws : List Cond) (rm : Room) (mc ms : Nat) : Prop :=
  rm.cells = mc ∧ rm.slots = ms ∧ rm.frames + 1 ≤ R.frames ∧ 8 + (maxL + 11) + rm.locals ≤ R.locals ∧ (∀ w ∈ ws, ∀ (a' : Array Value) (U : State), s.WarmedH U.vm → w.before a' U = true) ∧ Cond.code y bytes maxL ret ∈ ws ∧ ∀ (a' : Array Value) (U : State), s.WarmedH U.vm → (Cond.initialized y.cls).before a' U = true
theorem mm_thr (X : Stand p l e R s m args below meth c T locs cells slots) (hM : MetFree l y (headSpec ws rm) Pc (fun _ _ _ _ _ => True) Qo) (hQ : mm_QT Qo mc ms free) (hbl : FrameBlind Pc) (hC : mm_CR R s args y bytes maxL ret ws rm mc ms)
    {g : JFrame} (hg : g.method = m) (hsize : g.locals.size = c.maxLocals) {ig : Instr} {len : Nat} (hdg : decode c.code g.pc = .ok (ig, len)) (hW : 2 * g.monitorRoom + (g.stack.map fun v => v.category).sum ≤ 8) {mk : MethodId} (hn : T.methodNamed? y = some mk) {a : Array Value} (hf : cells + mc ≤ R.cells ∧ slots + ms ≤ R.slots) (hP : Pc a T) :
    ∃ (q : Addr) (t T' : State) (L : List Loc), Stand p l e R s m args below meth c T' (locs ++ L) (cells + mc) (slots + ms) ∧ (∀ z ∈ L, free z.base) ∧ T'.heap = t.heap ∧ T'.vm = t.vm ∧ Qo a (T.calling g mk a) (.threw q) t ∧ Steps p.tables e below (doInvoke e (T.setTop g) [] mk a).1 ((T'.setTop g).pushFrame (.throwing q)) := by
  obtain ⟨hrc, hrs, hfr, hlo, hws, hcode, hini⟩ := hC
  obtain ⟨methY, cY, hmY, hcY, -, hlY, -, -, -, -⟩ := Cond.code_spec hn (hws _ hcode a T X.warmed)
  obtain ⟨kY, hkY, -⟩ := className_of_methodNamed hn
  have hinitY : kY.init = .initialized := Cond.initialized_spec (findClass_of_methodNamed hn) hkY (hini a T X.warmed)
  have h : At T g.method c below := by rw [hg]; exact X.here
  have happ : (headSpec ws rm).appliesLoose y e.platform (T.calling g mk a) = true :=
    Spec.appliesLoose_calling (g := g) h hdg hn hkY hinitY
      (X.room_calling (g := g) (R' := (headSpec ws rm).room) hsize hmY hcY hfr (by rw [hlY]; show _ + (maxL + 11) + rm.locals ≤ _; omega) (by show cells + rm.cells ≤ _; rw [hrc]; exact hf.1) (by show slots + rm.slots ≤ _; rw [hrs]; exact hf.2))
      (atoms_intro fun w hw => hws w hw _ _ X.warmed)
  obtain ⟨mid, hmid⟩ := h.above
  have hfr9 : (T.setTop g).frames = (.java g :: mid) ++ below := by rw [State.frames_setTop' g h.top, hmid]; rfl
  obtain ⟨o, s₂, hsteps, -, hend, hq⟩ := Steps.callFree hM p X.admits X.cas X.clock (acts := []) hfr9 happ (hbl _ _ _ _ hP) trivial
  have hq : Qo a (T.calling g mk a) o s₂ := hq
  obtain ⟨q, rfl, hW₂, L, hsm, hL⟩ := hQ _ _ _ _ hq
  rw [State.frames_setTop' g h.top] at hend
  obtain ⟨g₀, hg0⟩ := Option.isSome_iff_exists.mp h.top
  obtain ⟨r, hr⟩ := State.topJava?_eq_some.mp hg0
  have hr' : (({ T with heap := s₂.heap, slotsUsed := s₂.slotsUsed } : State).setVm s₂.vm).frames = .java g₀ :: r := hr
  obtain ⟨e2, q2, q3, q4, q5, q6⟩ := id hsm
  have e3 : s₂ = ({ (T.calling g mk a).setFrames s₂.frames with heap := s₂.heap, slotsUsed := s₂.slotsUsed } : State).setVm s₂.vm := by
    have e0 : s₂ = ({ s₂ with vm := (T.calling g mk a).vm } : State).setVm s₂.vm := rfl
    rw [e2] at e0
    exact e0
  have hf₂ : s₂.frames = .throwing q :: .java g :: T.frames.tail := hend
  have hW' : T.WarmedH s₂.vm := hW₂
  have hs₂ : s₂ = ((({ T with heap := s₂.heap, slotsUsed := s₂.slotsUsed } : State).setVm s₂.vm).setTop g).pushFrame (.throwing q) := by
    refine e3.trans ?_
    rw [hf₂, State.calling_eq h.top, State.setFrames_setFrames, State.pushFrame, State.frames_setTop _ hr', State.setTop_of_frames _ hr', State.setFrames_setFrames, hr]
    rfl
  have hsame : T.sameButNew ({ T with heap := s₂.heap, slotsUsed := s₂.slotsUsed } : State) L mc ms := by
    refine ⟨?_, q2, q3, q4, q5, q6⟩
    obtain ⟨t9, ht9, -⟩ := State.frames_cons hr
    show ({ T with heap := s₂.heap, slotsUsed := s₂.slotsUsed } : State) = { T.setFrames T.frames with heap := s₂.heap, slotsUsed := s₂.slotsUsed }
    rw [State.setFrames_self ht9]
  subst hg
  refine ⟨q, s₂, ({ T with heap := s₂.heap, slotsUsed := s₂.slotsUsed } : State).setVm s₂.vm, L,
    ⟨X.admits, X.cas, X.clock, X.frames, X.room, X.hears, X.method, X.code, (X.here.setHeapUsed s₂.heap s₂.slotsUsed).setVm hW'.alike, X.tail, State.WarmedH.trans X.warmed hW', X.limits, X.bytes, X.same.trans (hsame.setVm s.vm)⟩, hL, rfl, rfl, hq, ?_⟩
  rw [← hs₂]
  exact hsteps
/-- .. called by invokevirtual -/
theorem mm_thrV (X : Stand p l e R s m args below meth c T locs cells slots) (hexec : p.tables.exec = Jvm.exec) {C : String} (hown : s.vm.findClass own = some m.cls) (hlink : (Cond.methodLink own index y).before args s = true) (hinst : (Cond.instanceMethod y).before args s = true) (hsel : (Cond.selects C y y).before args s = true) (hy : y.cls ≠ "java/lang/invoke/MethodHandle" ∧ y.cls ≠ "java/lang/invoke/VarHandle")
    (hM : MetFree l y (headSpec ws rm) Pc (fun _ _ _ _ _ => True) Qo) (hQ : mm_QT Qo mc ms free) (hbl : FrameBlind Pc) (hC : mm_CR R s args y bytes maxL ret ws rm mc ms) {b : Addr} {cellB : Cell} (hcell : T.heap[b]? = some cellB) (hobj : cellB.vm.isStatics = false) (hcls : s.vm.findClass C = some cellB.cls)
    {g : JFrame} (hg : g.method = m) (hsize : g.locals.size = c.maxLocals) {argsL rest : List Value} (hlen : ∀ sig, parseMethodDescriptor y.desc = some sig → argsL.length = sig.parameters.length) (hstack : g.stack = argsL.reverse ++ .ref b :: rest) (hW : 2 * g.monitorRoom + (rest.map fun v => v.category).sum ≤ 8) (hdg : decode c.code g.pc = .ok (.invokevirtual index, 3)) (hf : cells + mc ≤ R.cells ∧ slots + ms ≤ R.slots) (hP : ∀ U : State, U.heap = T.heap → s.WarmedH U.vm → Pc (Value.ref b :: argsL).toArray U) :
    ∃ (q : Addr) (st t T' : State) (L : List Loc), st.heap = T.heap ∧ s.WarmedH st.vm ∧ Stand p l e R s m args below meth c T' (locs ++ L) (cells + mc) (slots + ms) ∧ (∀ z ∈ L, free z.base) ∧ T'.heap = t.heap ∧ T'.vm = t.vm ∧ Qo (Value.ref b :: argsL).toArray st (.threw q) t ∧ Steps p.tables e below (T.setTop g) ((T'.setTop { g with stack := rest }).pushFrame (.throwing q)) := by
  have hcode : (Cond.code y bytes maxL ret).before args s = true := hC.2.2.2.2.1 _ hC.2.2.2.2.2.1 args s (State.WarmedH.refl s)
  obtain ⟨mk, methM, hnamed, hmethM, hstM, habM⟩ := Cond.instanceMethod_spec hinst
  obtain ⟨methM', cM, hmethM', -, -, -, -, -, -, hsigM⟩ := Cond.code_spec hnamed hcode
  cases hmethM.symm.trans hmethM'
  obtain ⟨c2, r2, m2, q1, q2, q3, q4, kP, hkP, hkPi⟩ := Cond.selects_spec hsel
  cases hcls.symm.trans q1
  cases (State.methodFound?_of_named hnamed hy).symm.trans q2
  cases hnamed.symm.trans q3
  have hselP : selectMethod e.platform s.vm cellB.cls mk = .method mk := by rw [Launch.admits_selectMethod X.admits]; exact q4
  obtain ⟨vm₁, X₁, hstep₁⟩ := X.invokevirtual hexec hown hlink hnamed hmethM hstM hkP hkPi hy (a := b) (cell := cellB) hcell (fun z h => by rw [h] at hobj; cases hobj) hselP hmethM habM hkP hkPi (g := g) hg (argsL := argsL) (rest := rest) (hlen _ hsigM) hstack hdg
  obtain ⟨q, t, T', L, X', hL, e1, e2, hq, st⟩ := mm_thr X₁ hM hQ hbl hC (g := { g with stack := rest }) hg hsize hdg hW (X₁.named hnamed) hf (hP _ rfl X₁.warmed)
  exact ⟨q, (T.setVm vm₁).calling { g with stack := rest } mk (Value.ref b :: argsL).toArray, t, T', L, rfl, X₁.warmed, X', hL, e1, e2, hq, hstep₁ _ fun acts => by rw [doInvoke_state]; exact st⟩
/-- .. called by invokestatic -/
theorem mm_thrS (X : Stand p l e R s m args below meth c T locs cells slots) (hexec : p.tables.exec = Jvm.exec) (hown : s.vm.findClass own = some m.cls) (hlink : (Cond.methodLink own index y).before args s = true) (hstat : (Cond.static y).before args s = true) (hy : y.cls ≠ "java/lang/invoke/MethodHandle" ∧ y.cls ≠ "java/lang/invoke/VarHandle")
    (hM : MetFree l y (headSpec ws rm) Pc (fun _ _ _ _ _ => True) Qo) (hQ : mm_QT Qo mc ms free) (hbl : FrameBlind Pc) (hC : mm_CR R s args y bytes maxL ret ws rm mc ms)
    {g : JFrame} (hg : g.method = m) (hsize : g.locals.size = c.maxLocals) {argsL rest : List Value} (hlen : ∀ sig, parseMethodDescriptor y.desc = some sig → argsL.length = sig.parameters.length) (hstack : g.stack = argsL.reverse ++ rest) (hW : 2 * g.monitorRoom + (rest.map fun v => v.category).sum ≤ 8) (hdg : decode c.code g.pc = .ok (.invokestatic index, 3)) (hf : cells + mc ≤ R.cells ∧ slots + ms ≤ R.slots) (hP : ∀ U : State, U.heap = T.heap → s.WarmedH U.vm → Pc argsL.toArray U) :
    ∃ (q : Addr) (st t T' : State) (L : List Loc), st.heap = T.heap ∧ s.WarmedH st.vm ∧ Stand p l e R s m args below meth c T' (locs ++ L) (cells + mc) (slots + ms) ∧ (∀ z ∈ L, free z.base) ∧ T'.heap = t.heap ∧ T'.vm = t.vm ∧ Qo argsL.toArray st (.threw q) t ∧ Steps p.tables e below (T.setTop g) ((T'.setTop { g with stack := rest }).pushFrame (.throwing q)) := by
  have hcode : (Cond.code y bytes maxL ret).before args s = true := hC.2.2.2.2.1 _ hC.2.2.2.2.2.1 args s (State.WarmedH.refl s)
  have hinit : (Cond.initialized y.cls).before args s = true := hC.2.2.2.2.2.2 args s (State.WarmedH.refl s)
  obtain ⟨mk, hnamed⟩ := Cond.code_named hcode
  obtain ⟨methM, cM, hmethM, -, -, -, -, -, -, hsigM⟩ := Cond.code_spec hnamed hcode
  have hstatic : methM.isStatic = true := Cond.static_spec hnamed hmethM hstat
  obtain ⟨kP, hkP, -⟩ := className_of_methodNamed hnamed
  have hinitP : kP.init = .initialized := Cond.initialized_spec (findClass_of_methodNamed hnamed) hkP hinit
  obtain ⟨vm₁, X₁, hstep₁⟩ := X.invokestatic hexec hown hlink hnamed hmethM hstatic hkP hinitP hy (g := g) hg (argsL := argsL) (rest := rest) (hlen _ hsigM) hstack hdg
  obtain ⟨q, t, T', L, X', hL, e1, e2, hq, st⟩ := mm_thr X₁ hM hQ hbl hC (g := { g with stack := rest }) hg hsize hdg hW (X₁.named hnamed) hf (hP _ rfl X₁.warmed)
  exact ⟨q, (T.setVm vm₁).calling { g with stack := rest } mk argsL.toArray, t, T', L, rfl, X₁.warmed, X', hL, e1, e2, hq, hstep₁ _ fun acts => by rw [doInvoke_state]; exact st⟩
end THR
end
section
/-! 'throw new E("text")' -/
/-- a static field that holds null or a reference, in a cell that none of ours is -/
def mm_SF (C n d : String) (B : Nat) (U : State) (H : Heap) : Prop := ∃ (c : ClassId) (k : Class) (i : Nat) (f : Field) (a : Nat) (cell : Cell) (v : Value), U.vm.findClass C = some c ∧ U.fieldFound? C n d = some (c, k, i, f) ∧ f.isStatic = true ∧ k.statics = some a ∧ H[a]? = some cell ∧ cell.vm.isStatics = true ∧ cell.cls = c ∧ f.slot < cell.slots.size ∧ k.staticTypes[f.slot]? = some f.type ∧ a < B ∧ cell.slots[f.slot]? = some v ∧ v.isRef = true
theorem mm_SF.to {C n d : String} {B : Nat} {u U : State} {H H1 : Heap} (hvm : u.vm.Alike U.vm) (hk : ∀ a : Nat, a < B → H1[a]? = H[a]?) (h : mm_SF C n d B u H) : mm_SF C n d B U H1 := by
  obtain ⟨c, k, i, f, a, cell, v, h1, h2, h3, h4, h5, h6, h7, h8, h9, h10, h11, h12⟩ := h
  obtain ⟨k', hi', he⟩ := State.fieldFound?_setVm hvm h2
  exact ⟨c, k', i, f, a, cell, v, by rw [hvm.findClass]; exact h1, hi', h3, by rw [he]; exact h4, by rw [hk a h10]; exact h5, h6, h7, h8, by rw [he]; exact h9, h10, h11, h12⟩
theorem mm_SF.lays {C n d : String} {B : Nat} {U : State} {args : Array Value} (h : mm_SF C n d B U U.heap) : (Cond.laysStatic C n d).before args U = true := by
  obtain ⟨c, k, i, f, a, cell, v, h1, h2, h3, h4, h5, h6, h7, h8, h9, -⟩ := h
  show (Cond.laysStatic C n d).holds args U none U [] = true
  exact Cond.laysStatic_of h1 h2 h3 h4 h5 h6 h7 h8 h9
theorem mm_SF.ref {C n d : String} {B : Nat} {U : State} {args : Array Value} (h : mm_SF C n d B U U.heap) : (Cond.isRef (.static C n d)).before args U = true := by
  obtain ⟨c, k, i, f, a, cell, v, h1, h2, h3, h4, h5, h6, h7, h8, h9, -, h11, h12⟩ := h
  have he : (Term.static C n d).eval args U none [] U = some v := by
    simp [Term.eval, State.fieldNamed?, h2, h3, h4, h5, h6, h11]
  simp only [Cond.before, Cond.holds, Cond.value, he]
  cases v <;> simp_all [Value.isRef]
theorem mm_SF.of {C n d : String} {B : Nat} {U : State} {args : Array Value} (hB : U.heap.size ≤ B) (hl : (Cond.laysStatic C n d).before args U = true) (hr : (Cond.isRef (.static C n d)).before args U = true) : mm_SF C n d B U U.heap := by
  obtain ⟨c, k, i, f, a, cell, h1, h2, h3, h4, h5, h6, h7, h8, h9⟩ := Cond.laysStatic_spec hl
  have ha := (Array.getElem?_eq_some_iff.mp h5).1
  have hv : cell.slots[f.slot]? = some cell.slots[f.slot] := Array.getElem?_eq_getElem h8
  have he : (Term.static C n d).eval args U none [] U = some cell.slots[f.slot] := by
    simp [Term.eval, State.fieldNamed?, h2, h3, h4, h5, h6, hv]
  refine ⟨c, k, i, f, a, cell, _, h1, h2, h3, h4, h5, h6, h7, h8, h9, Nat.lt_of_lt_of_le ha hB, hv, ?_⟩
  simp only [Cond.before, Cond.holds, Cond.value, he] at hr
  revert hr
  generalize cell.slots[f.slot] = w
  intro hr
  cases w <;> simp_all [Value.isRef]
section THROW
variable {p : Program} {l : Launch} {e : Env} {R : Room} {s : State} {m : MethodId} {args : Array Value} {below : List Frame} {meth : Method} {c : Code} {locs : List Loc} {cells slots : Nat}
/-- the frame as if its method had been called just now, with what room is left -/
theorem mm_anew {T : State} (X : Stand p l e R s m args below meth c T locs cells slots) (hc : cells + 1 ≤ R.cells) (hs : slots + 6 ≤ R.slots) :
    ∃ s' : State, s'.vm = s.vm ∧ s'.heap = T.heap ∧ Stand p l e { frames := R.frames, locals := R.locals, cells := 1, slots := 6 } s' m args below meth c T [] 0 0 ∧
      ∀ U : State, s'.sameButNew ({ U with vm := s'.vm } : State) [] 1 6 → s.sameButNew ({ U with vm := s.vm } : State) locs (cells + 1) (slots + 6) := by
  obtain ⟨g₀, hgt⟩ := X.frames_eq
  have hcur : (T.setVm s.vm).cur < (T.setVm s.vm).threads.size := State.cur_lt_of_frames (s := T.setVm s.vm) hgt
  have hfr : ((T.setVm s.vm).setFrames (.invoking m args :: below)).frames = .invoking m args :: below := State.frames_setFrames _ hcur
  obtain ⟨t9, ht9, -⟩ := State.frames_cons (s := T.setVm s.vm) hgt
  have hdrop : (T.heap.toList.drop T.heap.size).map (·.slots.size) = [] := by rw [List.drop_eq_nil_of_le (by simp)]; rfl
  have hloc : ((T.setVm s.vm).setFrames (.invoking m args :: below)).localsInUse = s.localsInUse := (State.localsInUse_invoking hfr (meth := meth) (c := c) X.method X.code).trans (State.localsInUse_invoking X.frames X.method X.code).symm
  have hlim : e.platform.stackLimits ((T.setVm s.vm).setFrames (.invoking m args :: below)).me = e.platform.stackLimits s.me := (State.stackLimits_setFrames _ _ _).trans X.limits
  have hbyt : ((T.setVm s.vm).setFrames (.invoking m args :: below)).me.stackBytes = s.me.stackBytes := (State.stackBytes_setFrames _ _).trans X.bytes
  refine ⟨(T.setVm s.vm).setFrames (.invoking m args :: below), rfl, rfl, ?_, fun U hU => ?_⟩
  · refine ⟨X.admits, X.cas, X.clock, hfr, ?_, X.hears, X.method, X.code, X.here, X.tail, X.warmed, X.limits.trans hlim.symm, X.bytes.trans hbyt.symm, ?_⟩
    · have h := X.room
      have h1 := X.heapSize
      have h2 := X.used
      unfold State.hasRoom at h ⊢
      rw [hloc, hfr, hlim, hbyt]
      rw [X.frames] at h
      simp only [Bool.and_eq_true, decide_eq_true_eq] at h ⊢
      obtain ⟨⟨⟨⟨a1, a2, a3, a4, a5, a6⟩, a7⟩, a8⟩, a9⟩ := h
      refine ⟨⟨⟨⟨a1, a2, a3, a4, a5, a6⟩, ?_⟩, ?_⟩, X.book⟩
      · show T.heap.size + 1 ≤ _
        omega
      · show T.slotsUsed + 6 ≤ _
        omega
    · refine ⟨?_, Nat.le_refl _, Nat.le_refl _, ?_, ?_, fun a c9 h9 => ⟨c9, h9, rfl, rfl, fun _ _ => rfl⟩⟩
      · show T.setVm s.vm = { ((T.setVm s.vm).setFrames (.invoking m args :: below)).setFrames (T.setVm s.vm).frames with heap := T.heap, slotsUsed := T.slotsUsed }
        rw [State.setFrames_setFrames, State.setFrames_self ht9]
        rfl
      · show T.slotsUsed = T.slotsUsed + ((T.heap.toList.drop T.heap.size).map (·.slots.size)).sum
        rw [hdrop]
        rfl
      · show ((T.heap.toList.drop T.heap.size).map (·.slots.size)).sum ≤ 0
        rw [hdrop]
        exact Nat.le_refl _
  · obtain ⟨e1, e2⟩ := hU
    rw [State.setFrames_setFrames] at e1
    have h2 : (T.setVm s.vm).sameButNew ({ U with vm := s.vm } : State) [] 1 6 := ⟨e1, e2⟩
    have h3 := X.same.trans h2
    rw [List.append_nil] at h3
    exact h3
end THROW
end
section
/-! CALLS, AND A METHOD'S END -/
/-- a word that stays when entries are resolved -/
def mm_wd : Cond → Bool
  | .castable _ _ => true
  | .declares _ => true
  | .arrayOver (.object _) => true
  | w => goodWord w
theorem mm_warm {args a' : Array Value} {s U : State} {w : Cond} (hW : s.WarmedH U.vm) (hw : mm_wd w = true) (h : w.before args s = true) : w.before a' U = true := by
  unfold mm_wd at hw
  split at hw
  next C T => exact va_Nw.use rfl (va_Nw.warmC hW (va_Nw.of rfl h))
  next x => exact va_Nw.use rfl (va_Nw.warmD hW (va_Nw.of rfl h))
  next C => exact va_AO.use (va_AO.moved hW.alike (va_AO.of h))
  next => exact word_at hW (good_of_word hw) h
/-- the words of a throw that speak of the heap -/
def mm_HW : List Cond := [.isRef (.static Bundle.tN "UNASSIGNED_STACK" Bundle.steD), .isRef (.static Bundle.tN "SUPPRESSED_SENTINEL" Bundle.listD), .laysStatic Bundle.tN "UNASSIGNED_STACK" Bundle.steD, .laysStatic Bundle.tN "SUPPRESSED_SENTINEL" Bundle.listD]
/-- what stands at every call: the tables' words, the classes, what a throw needs, the script, classes that are no casts of each other -/
def mm_Env (D : va_G) (cl : List vw_C) (tys : List (ClassId × FieldType)) (TT : List Cond) (strs : List (String × Nat × String)) (nc : List (String × String)) (B b Ls : Nat) (xs : Nat → Int32) (U : State) : Prop :=
  (∀ w ∈ TT, w.before #[] U = true) ∧ va_K D cl tys U ∧ mm_SF Bundle.tN "UNASSIGNED_STACK" Bundle.steD B U U.heap ∧ mm_SF Bundle.tN "SUPPRESSED_SENTINEL" Bundle.listD B U U.heap ∧ (∀ q ∈ strs, ∃ a, vk_R q.1 q.2.1 q.2.2 a U) ∧ (∀ q ∈ nc, va_Nc q.1 q.2 U) ∧ va_X b Ls xs U U.heap ∧ b < B ∧ B ≤ U.heap.size
section CALL
variable {p : Program} {l : Launch} {e : Env} {R : Room} {s : State} {m : MethodId} {args : Array Value} {below : List Frame} {meth : Method} {c : Code} {Q : State → Prop} {H : Heap} {locs : List Loc} {cells slots : Nat} {ls : Array Slot}
variable {D : va_G} {cl : List vw_C} {tys : List (ClassId × FieldType)} {ck : Nat → List Nat} {ct : Nat → Nat → FieldType} {ak : Nat → FieldType} {dA : Nat → ClassId} {B b Ls nL pc : Nat} {xs : Nat → Int32} {TT : List Cond} {strs : List (String × Nat × String)} {nc : List (String × String)} {cc : ByteArray} {own : String} {me : mm_Me} {L : mm_L} {st : List Value} {S S0 : mm_St} {z' : mm_Z} {ex : Nat → String} {mc ms : Nat}
theorem mm_Env.moved {U : State} (hTT : ∀ w ∈ TT, mm_wd w = true) (hW : s.WarmedH U.vm) (hU : U.heap = H) (hS : va_S (fun q => B ≤ q) s.heap H locs) (h : mm_Env D cl tys TT strs nc B b Ls xs s) : mm_Env D cl tys TT strs nc B b Ls xs U := by
  obtain ⟨h1, h2, h3, h4, h5, h6, h7, h8, h9⟩ := h
  subst hU
  have hk : ∀ a : Nat, a < B → U.heap[a]? = s.heap[a]? := fun a ha => hS.2.1 a (by omega) (by show ¬ B ≤ a; omega)
  refine ⟨fun w hw => mm_warm hW (hTT w hw) (h1 w hw), va_K.moved hW.alike h2, h3.to hW.alike hk, h4.to hW.alike hk, fun q hq => ?_, fun q hq => (h6 q hq).moved hW.alike, va_X.moved hW.alike (h7.kept (hk b h8)), h8, Nat.le_trans h9 hS.1⟩
  obtain ⟨a, ha⟩ := h5 q hq
  exact ⟨a, vk_R.warm hW ha⟩
theorem mm_Env.HW {U : State} (h : mm_Env D cl tys TT strs nc B b Ls xs U) : ∀ w ∈ mm_HW, ∀ a : Array Value, w.before a U = true := by
  obtain ⟨-, -, h3, h4, -⟩ := h
  intro w hw a
  simp only [mm_HW, List.mem_cons, List.mem_nil_iff, or_false] at hw
  rcases hw with rfl | rfl | rfl | rfl
  · exact h3.ref
  · exact h4.ref
  · exact h3.lays
  · exact h4.lays
def mm_Pc (D : va_G) (cl : List vw_C) (tys : List (ClassId × FieldType)) (TT : List Cond) (strs : List (String × Nat × String)) (nc : List (String × String)) (B b Ls : Nat) (xs : Nat → Int32) (ck : Nat → List Nat) (ak : Nat → FieldType) (dA : Nat → ClassId) (as : List Value) (S : mm_St) : Array Value → State → Prop := fun a U =>
  a = (as.map (mm_v B b)).toArray ∧ mm_Env D cl tys TT strs nc B b Ls xs U ∧ va_P D cl (mm_ws ck ak dA B b S.1 S.2.1) U.heap ∧ (S.2.2 = 0 → U.heap.size = B + S.1.length)
/-- how a method has ended, as the small machine has it -/
def mm_Out (B b : Nat) (ex : Nat → String) (r : Option Value ⊕ Nat) (oc : Outcome) (st t : State) : Prop := match r with
  | .inl v => oc = .returned (v.map (mm_v B b))
  | .inr n => ∃ (q : Addr) (ce : Cell), oc = .threw q ∧ t.heap[q]? = some ce ∧ ce.vm = .none ∧ st.vm.findClass (ex n) = some ce.cls
def mm_QO (D : va_G) (cl : List vw_C) (B b : Nat) (ck : Nat → List Nat) (ak : Nat → FieldType) (dA : Nat → ClassId) (ex : Nat → String) (o : mm_O) (mc ms : Nat) : Array Value → State → Outcome → State → Prop := fun _ st oc t =>
  mm_Out B b ex o.1 oc st t ∧ va_P D cl (mm_ws ck ak dA B b o.2.1 o.2.2.1) t.heap ∧ va_F (fun q => B ≤ q) st t ∧ st.WarmedH t.vm ∧ ∃ Lc, st.sameButNew ({ t with vm := st.vm } : State) Lc mc ms ∧ ∀ z ∈ Lc, B ≤ z.base
/-- what a method's frame comes to -/
def mm_E (below : List Frame) (args : Array Value) (s : State) (D : va_G) (cl : List vw_C) (B b : Nat) (ck : Nat → List Nat) (ak : Nat → FieldType) (dA : Nat → ClassId) (ex : Nat → String) (o : mm_O) (mc ms : Nat) : State → Prop := fun t => ∃ oc, t.status = .running ∧ Ended t below oc ∧ mm_QO D cl B b ck ak dA ex o mc ms args s oc t
theorem mm_Pc.blind (hTT : ∀ w ∈ TT, mm_wd w = true) (as : List Value) (S : mm_St) : FrameBlind (mm_Pc D cl tys TT strs nc B b Ls xs ck ak dA as S) := by
  intro a U g mk h
  obtain ⟨h1, h2, h3, h4⟩ := h
  exact ⟨h1, mm_Env.moved (s := U) (U := U.calling g mk a) (locs := []) hTT (State.WarmedH.refl U) rfl va_S.rf h2, h3, h4⟩
/-- the kit's end of a method that returns -/
theorem mm_ret {v : Option Value} {g : JFrame} (hR : mm_Rz D cl ck ak dA B b s.heap S0 S H locs cells slots) (hmc : cells ≤ mc) (hms : slots ≤ ms)
    (k : ∀ Qc : Array Value → State → Outcome → State → Prop, (∀ t : State, t.heap = H → s.WarmedH t.vm → Qc args s (.returned (v.map (mm_v B b))) t) → W p l e R s m args below meth c H locs cells slots (MQ below Qc args s cells slots (fun q => B ≤ q)) g) :
    W p l e R s m args below meth c H locs cells slots (mm_E below args s D cl B b ck ak dA ex (.inl v, S) mc ms) g := by
  have k1 := k (fun _ st oc t => oc = .returned (v.map (mm_v B b)) ∧ t.heap = H ∧ st.WarmedH t.vm) (fun t ht hW => ⟨rfl, ht, hW⟩)
  intro T hT X
  obtain ⟨t, a1, oc, b1, b2, ⟨b3, b4, b5⟩, Lc, ⟨-, b6, b7⟩, b8⟩ := k1 T hT X
  exact ⟨t, a1, oc, b1, b2, b3, by rw [b4]; exact hR.1, hR.2.1.F b4, b5, Lc, b7.mono hmc hms, b8⟩
theorem mm_cs (hR : mm_Rz D cl ck ak dA B b s.heap S0 S H locs cells slots) (hmc : mm_co S0 + mc = mm_co S) (hms : mm_sl ck S0 + ms = mm_sl ck S) : cells ≤ mc ∧ slots ≤ ms := by
  have h1 := hR.2.2.1
  have h2 := hR.2.2.2.1
  omega
theorem mm_k_ireturn {x : Int32} {ty : FieldType} (X : CallFix p m c cc nL s args TT own) (hr : meth.sig.returnType = some ty) (hty : narrow ty (.int x) = .int x) (hlocks : meth.locks = false) (hmc : mm_co S0 + mc = mm_co S) (hms : mm_sl ck S0 + ms = mm_sl ck S) (hd : decode cc pc = .ok (.ireturn, 1)) :
    mm_J p l e R s m args below meth c (mm_E below args s D cl B b ck ak dA ex (.inl (some (.int x)), S) mc ms) B b nL (mm_Rz D cl ck ak dA B b s.heap S0) (pc, L, [.int x], S) := by
  intro ls H locs cells slots hL hR
  obtain ⟨hx, hb, hml, hown, hts⟩ := X
  obtain ⟨e1, e2⟩ := mm_cs hR hmc hms
  exact mm_ret hR e1 e2 (fun Qc hq => W.zret (v := x) hx hb hr hty hq hR.2.1.2.2 hd)
theorem mm_k_lreturn {x : Int64} (X : CallFix p m c cc nL s args TT own) (hr : meth.sig.returnType = some .long) (hlocks : meth.locks = false) (hmc : mm_co S0 + mc = mm_co S) (hms : mm_sl ck S0 + ms = mm_sl ck S) (hd : decode cc pc = .ok (.lreturn, 1)) :
    mm_J p l e R s m args below meth c (mm_E below args s D cl B b ck ak dA ex (.inl (some (.long x)), S) mc ms) B b nL (mm_Rz D cl ck ak dA B b s.heap S0) (pc, L, [.long x], S) := by
  intro ls H locs cells slots hL hR
  obtain ⟨hx, hb, hml, hown, hts⟩ := X
  obtain ⟨e1, e2⟩ := mm_cs hR hmc hms
  exact mm_ret hR e1 e2 (fun Qc hq => W.lret (v := x) hx hb hr hq hR.2.1.2.2 hd)
theorem mm_k_dreturn {x : UInt64} (X : CallFix p m c cc nL s args TT own) (hr : meth.sig.returnType = some .double) (hlocks : meth.locks = false) (hmc : mm_co S0 + mc = mm_co S) (hms : mm_sl ck S0 + ms = mm_sl ck S) (hd : decode cc pc = .ok (.dreturn, 1)) :
    mm_J p l e R s m args below meth c (mm_E below args s D cl B b ck ak dA ex (.inl (some (.double x)), S) mc ms) B b nL (mm_Rz D cl ck ak dA B b s.heap S0) (pc, L, [.double x], S) := by
  intro ls H locs cells slots hL hR
  obtain ⟨hx, hb, hml, hown, hts⟩ := X
  obtain ⟨e1, e2⟩ := mm_cs hR hmc hms
  exact mm_ret hR e1 e2 (fun Qc hq => W.dret (v := x) hx hb hr hq hR.2.1.2.2 hd)
theorem mm_k_areturn {v : Value} {rt : FieldType} (hv : v = .null ∨ ∃ a, v = .ref a) (X : CallFix p m c cc nL s args TT own) (hr : meth.sig.returnType = some rt) (hrt : (∃ n, rt = .object n) ∨ ∃ t, rt = .array t) (hlocks : meth.locks = false) (hmc : mm_co S0 + mc = mm_co S) (hms : mm_sl ck S0 + ms = mm_sl ck S) (hd : decode cc pc = .ok (.areturn, 1)) :
    mm_J p l e R s m args below meth c (mm_E below args s D cl B b ck ak dA ex (.inl (some v), S) mc ms) B b nL (mm_Rz D cl ck ak dA B b s.heap S0) (pc, L, [v], S) := by
  intro ls H locs cells slots hL hR
  obtain ⟨hx, hb, hml, hown, hts⟩ := X
  obtain ⟨e1, e2⟩ := mm_cs hR hmc hms
  exact mm_ret hR e1 e2 (fun Qc hq => W.aret (v := mm_v B b v) hx hb hr hrt (by rcases hv with rfl | ⟨a, rfl⟩; exact Or.inl rfl; exact Or.inr ⟨_, rfl⟩) hq hR.2.1.2.2 hd)
theorem mm_k_return (X : CallFix p m c cc nL s args TT own) (hr : meth.sig.returnType = none) (hlocks : meth.locks = false) (hmc : mm_co S0 + mc = mm_co S) (hms : mm_sl ck S0 + ms = mm_sl ck S) (hd : decode cc pc = .ok (.return_, 1)) :
    mm_J p l e R s m args below meth c (mm_E below args s D cl B b ck ak dA ex (.inl none, S) mc ms) B b nL (mm_Rz D cl ck ak dA B b s.heap S0) (pc, L, [], S) := by
  intro ls H locs cells slots hL hR
  obtain ⟨hx, hb, hml, hown, hts⟩ := X
  obtain ⟨e1, e2⟩ := mm_cs hR hmc hms
  exact mm_ret hR e1 e2 (fun Qc hq => W.vret hx hb hr hq hR.2.1.2.2 hd)
end CALL
end
section
/-! A THROW BY A CONSTRUCTOR WITH A MESSAGE whose own code is any 'pass the message on' (the library's ctorThrowS is of one pool index) -/
def mm_tl (own : String) (ic : Nat) (X : String) : List Cond :=
  [.methodLink own ic (Bundle.initS X), .instantiable X 6, .castable X X, .selects X Bundle.tFill0 Bundle.tFill0, .selects X Bundle.tFill Bundle.tFill,
   .lays X Bundle.tN "cause" "Ljava/lang/Throwable;", .lays X Bundle.tN "stackTrace" Bundle.steD, .lays X Bundle.tN "suppressedExceptions" Bundle.listD, .lays X Bundle.tN "detailMessage" "Ljava/lang/String;",
   .isRef (.static Bundle.tN "UNASSIGNED_STACK" Bundle.steD), .isRef (.static Bundle.tN "SUPPRESSED_SENTINEL" Bundle.listD),
   .fieldLink Bundle.tN 198 Bundle.tN "backtrace" "Ljava/lang/Object;", .lays Bundle.tN Bundle.tN "backtrace" "Ljava/lang/Object;", .lays X Bundle.tN "backtrace" "Ljava/lang/Object;"]
def mm_oa (own : String) (ic : Nat) (X : String) (ix : Nat) (rx : ByteArray) (Y : String) (r : List String) : List Cond :=
  (Bundle.throwableAtoms ++ Bundle.throwableSAtoms) ++ ((Bundle.passSAtoms X Y ix rx ++ Bundle.chainSAtoms Y r) ++ mm_tl own ic X)
section CTORX
variable {p : Program} {l : Launch} {e : Env} {R : Room} {s : State} {m₀ : MethodId} {args : Array Value} {below : List Frame} {meth : Method} {c : Code} {W : State} {locs : List Loc} {cells slots : Nat}
set_option maxHeartbeats 2000000 in
theorem mm_ctorX (X : Stand p l e R s m₀ args below meth c W locs cells slots) (hexec : p.tables.exec = Jvm.exec) (htr : e.platform.stackTraces = false) {own cls Y0 : String} {r0 : List String} {ic ix : Nat} {rx : ByteArray}
    (x0 : decode rx 0 = .ok (.aload_n 0, 1)) (x1 : decode rx 1 = .ok (.aload_n 1, 1)) (x2 : decode rx 2 = .ok (.invokespecial ix, 3)) (x5 : decode rx 5 = .ok (.return_, 1))
    (hown : s.vm.findClass own = some m₀.cls) (hcls : Bundle.fit cls = true) (hnames : ∀ n ∈ Y0 :: r0, Bundle.fit n = true)
    (h : ∀ a ∈ mm_oa own ic cls ix rx Y0 r0, a.before args s = true)
    (hlocs : ∀ x ∈ locs, ∀ cell, s.heap[x.base]? = some cell → cell.vm.isStatics = false)
    {a : Addr} {cX : ClassId} {kX : Class} (hfoundX : s.vm.findClass cls = some cX) (hkX : s.vm.classes[cX]? = some kX) (hcell : W.heap[a]? = some (freshCell cX kX)) (hnew : s.heap.size ≤ a)
    {msg : Value} (hmsg : msg.isRef = true)
    {g : JFrame} (hg : g.method = m₀) (hsize : g.locals.size = c.maxLocals) (hlocked : g.locked = none) (hentered : g.entered = []) {rest : List Value} (hstack : g.stack = msg :: .ref a :: .ref a :: rest)
    (hd6 : decode c.code g.pc = .ok (.invokespecial ic, 3)) (hd9 : decode c.code (g.pc + 3) = .ok (.athrow, 1)) (hout : ∀ x ∈ c.exceptionTable.toList, covers x (g.pc + 3) = false)
    (hRframes : (Y0 :: r0).length + 3 < R.frames) (hRlocals : 2 * g.monitorRoom + ((Value.ref a :: rest).map fun v => v.category).sum + (13 * ((Y0 :: r0).length + 1) + 42) ≤ R.locals) (hlocks : meth.locks = false) :
    ∃ U : State, Steps p.tables e below (W.setTop g) U ∧ U.status = .running ∧ Ended U below (.threw a) ∧ s.WarmedH U.vm ∧ s.sameButNew ({ U with vm := s.vm } : State) locs cells slots ∧
      ∃ ce, U.heap[a]? = some ce ∧ s.vm.findClass cls = some ce.cls ∧ ce.vm = .none := by
  have howns : e.platform.frameOwnsMonitors = true := by rw [X.admits.platform]
  have hfin : e.platform.finalization = false := by rw [X.admits.platform]
  have hpl : e.platform.magicAccessors = ({} : Platform).magicAccessors := by rw [X.admits.platform]
  have hA : ∀ x ∈ Bundle.throwableAtoms, x.before args s = true := fun x hx => h x (List.mem_append.mpr (.inl (List.mem_append.mpr (.inl hx))))
  have hB : ∀ x ∈ Bundle.throwableSAtoms, x.before args s = true := fun x hx => h x (List.mem_append.mpr (.inl (List.mem_append.mpr (.inr hx))))
  have hC : ∀ x ∈ Bundle.passSAtoms cls Y0 ix rx, x.before args s = true := fun x hx => h x (List.mem_append.mpr (.inr (List.mem_append.mpr (.inl (List.mem_append.mpr (.inl hx))))))
  have hD : ∀ x ∈ Bundle.chainSAtoms Y0 r0, x.before args s = true := fun x hx => h x (List.mem_append.mpr (.inr (List.mem_append.mpr (.inl (List.mem_append.mpr (.inr hx))))))
  have a' : ∀ x, x ∈ mm_tl own ic cls → x.holds args s none s [] = true := fun x hx => h x (List.mem_append.mpr (.inr (List.mem_append.mpr (.inr hx))))
  obtain ⟨T, Z0, L, -, Y⟩ := ThrowableC.of_atoms (args := args) howns hfin hpl hA
  obtain ⟨Z, M, LZ, LM, hnZ⟩ := Init0T.ofS_atoms (args := args) hpl L Y hB
  obtain ⟨P1, L1, hP1m, hs1⟩ := PassC.ofS_atoms (args := args) (s := s) hpl (X := cls) (Y := Y0) (Bundle.fit_spec hcls).1 (Bundle.fit_spec (hnames Y0 List.mem_cons_self)).2 x0 x1 x2 x5 hC
  obtain ⟨P', Ps, hlen, L', hL, hm', hsup, hpass⟩ := Bundle.chainS (args := args) hpl hnZ r0 Y0 (hnames Y0 List.mem_cons_self) (fun n hn' => hnames n (List.mem_cons_of_mem _ hn')) hD
  have hlink1 := Option.some.inj (hs1.symm.trans hm')
  have hfound : s.vm.findClass cls = some P1.m.cls := findClass_of_methodNamed hP1m
  cases Option.some.inj (hfoundX.symm.trans hfound)
  obtain ⟨c1, kX', hc1, hk, hord, -, -, hn6⟩ := Cond.instantiable_spec (a' (.instantiable cls 6) (by simp [mm_tl]))
  cases Option.some.inj (hc1.symm.trans hfound)
  cases Option.some.inj (hkX.symm.trans hk)
  have hsel0 : selectMethod e.platform s.vm P1.m.cls T.fill0 = .method T.fill0 := by
    obtain ⟨c2, r2, m2, q1, q2, q3, q4, -⟩ := Cond.selects_spec (a' (.selects cls Bundle.tFill0 Bundle.tFill0) (by simp [mm_tl]))
    cases Option.some.inj (q1.symm.trans hfound)
    cases Option.some.inj (q2.symm.trans (State.methodFound?_of_named Y.fill0 (by decide)))
    cases Option.some.inj (q3.symm.trans Y.fill0)
    rw [Launch.admits_selectMethod X.admits]; exact q4
  have hselF : selectMethod e.platform s.vm P1.m.cls T.fill = .method T.fill := by
    obtain ⟨c2, r2, m2, q1, q2, q3, q4, -⟩ := Cond.selects_spec (a' (.selects cls Bundle.tFill Bundle.tFill) (by simp [mm_tl]))
    cases Option.some.inj (q1.symm.trans hfound)
    cases Option.some.inj (q2.symm.trans (State.methodFound?_of_named Y.fill (by decide)))
    cases Option.some.inj (q3.symm.trans Y.fill)
    rw [Launch.admits_selectMethod X.admits]; exact q4
  obtain ⟨cellS0, hcS0, hiss⟩ := Y.statics
  obtain ⟨u0, hu0⟩ := Cond.staticRefV Y.unassigned L.unassignedStatic L.statics hcS0 hiss (a' (.isRef (.static Bundle.tN "UNASSIGNED_STACK" Bundle.steD)) (by simp [mm_tl]))
  obtain ⟨sen, hsen⟩ := Cond.staticRefV Y.sentinel L.sentinelStatic L.statics hcS0 hiss (a' (.isRef (.static Bundle.tN "SUPPRESSED_SENTINEL" Bundle.listD)) (by simp [mm_tl]))
  obtain ⟨ci198, i198, fB, hk198, hg198, ha198, hsB, -, hnB, htB, hffB⟩ := Cond.ownField (t := .object "java/lang/Object") Y.found L.cls (by decide +kernel) (a' (.fieldLink Bundle.tN 198 Bundle.tN "backtrace" "Ljava/lang/Object;") (by simp [mm_tl])) (a' (.lays Bundle.tN Bundle.tN "backtrace" "Ljava/lang/Object;") (by simp [mm_tl])) e.platform hpl
  obtain ⟨cellS, hcS', heS, -, hkeep⟩ := X.same.2.2.2.2.2 T.aS cellS0 hcS0
  have hcellS : W.heap[T.aS]? = some cellS := hcS'
  have hout' : ∀ i, (⟨T.aS, i⟩ : Loc) ∉ locs := fun i hmem => by
    have := hlocs _ hmem cellS0 hcS0
    rw [hiss] at this; cases this
  have hknownS : cellS.vm ≠ .unknown := by
    rw [heS]; intro hu
    rw [show cellS0.vm = .unknown from hu] at hiss
    cases hiss
  have hneS : T.aS ≠ a := Nat.ne_of_lt (Nat.lt_of_lt_of_le (Array.getElem?_eq_some_iff.mp hcS0).1 hnew)
  obtain ⟨iM, hffM⟩ := Y.msg
  obtain ⟨tyC, dC, hdC, hdnC⟩ := Cond.laysAt hfound hk Y.cause (a' (.lays cls Bundle.tN "cause" "Ljava/lang/Throwable;") (by simp [mm_tl]))
  obtain ⟨tyS, dS, hdS, hdnS⟩ := Cond.laysAt hfound hk Y.stack (a' (.lays cls Bundle.tN "stackTrace" Bundle.steD) (by simp [mm_tl]))
  obtain ⟨tyP, dP, hdP, hdnP⟩ := Cond.laysAt hfound hk Y.supp (a' (.lays cls Bundle.tN "suppressedExceptions" Bundle.listD) (by simp [mm_tl]))
  obtain ⟨tyM, dM, hdM, hdnM⟩ := Cond.laysAt hfound hk hffM (a' (.lays cls Bundle.tN "detailMessage" "Ljava/lang/String;") (by simp [mm_tl]))
  obtain ⟨tyB, dB, hdB, hdnB⟩ := Cond.laysAt hfound hk hffB (a' (.lays cls Bundle.tN "backtrace" "Ljava/lang/Object;") (by simp [mm_tl]))
  have bC := Cond.laysApart hdB hdC hdnB hdnC (by rw [hnB, Y.causeName]; decide)
  have bS := Cond.laysApart hdB hdS hdnB hdnS (by rw [hnB, Y.stackName]; decide)
  have bP := Cond.laysApart hdB hdP hdnB hdnP (by rw [hnB, Y.suppName]; decide)
  have hskip : SkipFacts T e.platform s (fun u => u) u0 ((preparedCellV T.toThrowableT (freshCell P1.m.cls kX) a u0 sen).withEntry W.cur) :=
    ⟨{ ci198 := ci198, i198 := i198, fBack := fB }, ⟨hk198, hg198, ha198, hsB⟩, by
      have := fresh_default (c := P1.m.cls) tyB
      rw [htB] at this
      simpa [preparedCellV, Cell.setSlot, Cell.withEntry, Array.getElem?_setIfInBounds, bC, bS, bP, bC.symm, bS.symm, bP.symm, defaultValue] using this, fun _ _ => rfl⟩
  obtain ⟨tm, methC, cdC, kC, vm₁, hnC, -, -, -, -, -, -, -, hW₁, st1⟩ := Steps.initColdS (tb := p.tables) (e := e) (below := below) (s := s) (U := W) X.here hexec X.warmed hpl hown (t := Bundle.initS cls) rfl rfl (Bundle.fit_spec hcls).2
    (a' (.methodLink own ic (Bundle.initS cls)) (by simp [mm_tl])) (hC (.instanceMethod (Bundle.initS cls)) (by simp [Bundle.passSAtoms])) (bytes := rx) (maxL := 2) (hC (.code (Bundle.initS cls) rx 2 none) (by simp [Bundle.passSAtoms]))
    (f := g) hg (a := a) (msg := msg) (rest := .ref a :: rest) hstack hd6
  cases Option.some.inj (hnC.symm.trans hP1m)
  have X₁ := X.noted hW₁
  have hl2 : (P1 :: P' :: Ps).length = (Y0 :: r0).length + 1 := by simp only [List.length_cons, hlen]
  obtain ⟨vm₂, X₂, st2⟩ := X₁.ctorMessageOffV hexec (g := { g with stack := .ref a :: rest }) hg hsize T L Z LZ M LM (P1 :: P' :: Ps)
    (fun P hP => by rcases List.mem_cons.mp hP with rfl | hP; exact L1; rcases List.mem_cons.mp hP with rfl | hP; exact L'; exact hL P hP) ⟨hlink1, hsup, hpass⟩ (u0 := u0) (sen := sen) (self := a) hmsg (cell := freshCell P1.m.cls kX) (cellS := cellS)
    hcell (fun _ => by simp) (by simp) rfl rfl hsel0 hselF hcellS hneS hknownS (by rw [hkeep _ (hout' _)]; exact hu0) (by rw [hkeep _ (hout' _)]; exact hsen)
    (Takes.of_laid hk hord tyC (by rw [Y.causeType]; rfl)) (Takes.of_laid hk hord tyS (by rw [Y.stackType]; exact fits_refV_array _ u0)) (Takes.of_laid hk hord tyP (by rw [Y.suppType]; exact fits_refV_object _ sen))
    (Takes.of_laid hk hord tyM (by rw [Y.msgType]; exact fits_refV_object _ ⟨msg, hmsg⟩)) Y.objLocals hskip htr [] hd6
    (by rw [hl2]; omega) (by rw [hl2]; exact hRlocals)
  obtain ⟨hwalk, hrun, hended, hWU, hsame⟩ := X₂.athrowLeaves hexec (g := { g with stack := .ref a :: rest, pc := g.pc + 3 }) hg hlocked hentered hout (a := a) (rest := rest) rfl hd9
  have hlt : a < ((W.setVm vm₁).setVm vm₂).heap.size := (Array.getElem?_eq_some_iff.mp hcell).1
  have hU := heapAt_setCell_self (s := (W.setVm vm₁).setVm vm₂) (plainBareV T.toThrowableT (freshCell P1.m.cls kX) a u0 sen msg) hlt
  refine ⟨_, st1 _ (fun acts => ?_), hrun, hended, hWU, hsame.weaken (fun y hy hlt' => ?_) (Nat.le_refl _) (Nat.le_refl _), _, hU, hfound, rfl⟩
  · rw [doInvoke_state]
    exact st2 _ hwalk
  · rcases List.mem_append.mp hy with h1 | h1
    · exact h1
    · exfalso
      have hb : y.base = a := by
        simp only [List.mem_cons, List.not_mem_nil, or_false] at h1
        rcases h1 with rfl | rfl | rfl | rfl | rfl <;> rfl
      rw [hb] at hlt'
      exact Nat.not_lt.mpr hnew hlt'
end CTORX
end
section
/-! 'throw new E("text")' IN THE SMALL MACHINE'S WORDS -/
/-- what a throw's rows are -/
def mm_TH (TT : List Cond) (strs : List (String × Nat × String)) (cc : ByteArray) (own cls : String) (pc ik is ic : Nat) (text : String) (names : List String) : Prop :=
  Bundle.fit cls = true ∧ (∀ n ∈ names, Bundle.fit n = true) ∧ Cond.classLink own ik cls ∈ TT ∧ Cond.initialized cls ∈ TT ∧ Cond.instantiable cls 6 ∈ TT ∧ (own, is, text) ∈ strs ∧ (∃ ix rx Y r, names = Y :: r ∧ decode rx 0 = .ok (.aload_n 0, 1) ∧ decode rx 1 = .ok (.aload_n 1, 1) ∧ decode rx 2 = .ok (.invokespecial ix, 3) ∧ decode rx 5 = .ok (.return_, 1) ∧ ∀ w ∈ mm_oa own ic cls ix rx Y r, w ∈ TT ∨ w ∈ mm_HW) ∧ names.length ≤ 4 ∧
  decode cc pc = .ok (.new ik, 3) ∧ decode cc (pc + 3) = .ok (.dup, 1) ∧ decode cc (pc + 4) = .ok (.ldc is, 2) ∧ decode cc (pc + 6) = .ok (.invokespecial ic, 3) ∧ decode cc (pc + 9) = .ok (.athrow, 1)
section THROWS
variable {p : Program} {l : Launch} {e : Env} {R : Room} {s : State} {m : MethodId} {args : Array Value} {below : List Frame} {meth : Method} {c : Code} {Q : State → Prop} {H : Heap} {locs : List Loc} {cells slots : Nat} {ls : Array Slot}
variable {D : va_G} {cl : List vw_C} {tys : List (ClassId × FieldType)} {ck : Nat → List Nat} {ct : Nat → Nat → FieldType} {ak : Nat → FieldType} {dA : Nat → ClassId} {B b Ls nL pc : Nat} {xs : Nat → Int32} {TT : List Cond} {strs : List (String × Nat × String)} {nc : List (String × String)} {cc : ByteArray} {own : String} {me : mm_Me} {L : mm_L} {st : List Value} {S S0 : mm_St} {z' : mm_Z} {ex : Nat → String} {mc ms : Nat}
/-- nothing old has changed -/
theorem mm_kept {u U : State} {k n : Nat} (h : u.sameButNew ({ U with vm := u.vm } : State) [] k n) : u.heap.size ≤ U.heap.size ∧ ∀ q : Nat, q < u.heap.size → U.heap[q]? = u.heap[q]? := by
  obtain ⟨-, h2, -, -, -, h6⟩ := h
  refine ⟨h2, fun q hq => ?_⟩
  have e0 := Array.getElem?_eq_getElem hq
  obtain ⟨c9, e1, e2, e3, e4⟩ := h6 q _ e0
  have hs : c9.slots = (u.heap[q]).slots := Array.ext_getElem? fun i => e4 i (by simp)
  rw [hs] at e2
  have e5 : c9 = u.heap[q] := e2
  have e6 : U.heap[q]? = some c9 := e1
  rw [e6, e5, e0]
set_option maxHeartbeats 4000000 in
theorem mm_k_throw {E ik is ic : Nat} {text : String} {names : List String} (X : CallFix p m c cc nL s args TT own) (hl : l.stackTraces = false) (hTT : ∀ w ∈ TT, mm_wd w = true) (hE : mm_Env D cl tys TT strs nc B b Ls xs s) (hth : mm_TH TT strs cc own (ex E) pc ik is ic text names) (hexc : ∀ x ∈ c.exceptionTable.toList, False) (hlocks : meth.locks = false) (hwt : mm_wt st ≤ 8) (hfr : 8 ≤ R.frames) (hlo : 200 ≤ R.locals) (hRc : mc ≤ R.cells) (hRs : ms ≤ R.slots)
    (hmc : mm_co S0 + mc = mm_co S + 1) (hms : mm_sl ck S0 + ms = mm_sl ck S + 6) : mm_J p l e R s m args below meth c (mm_E below args s D cl B b ck ak dA ex (.inr E, (S.1, S.2.1, S.2.2 + 1)) mc ms) B b nL (mm_Rz D cl ck ak dA B b s.heap S0) (pc, L, st, S) := by
  obtain ⟨hx, hb, hml, hown, hts⟩ := X
  obtain ⟨h1, h2, h3, h4, h4b, h5, ⟨ix9, rx9, Y9, r9, rfl, x0, x1, x2, x5, h6⟩, h8, d0, d3, d4, d6, d9⟩ := hth
  intro ls H locs cells slots hL hR
  obtain ⟨hP, hS, hco, hsl, hnx⟩ := hR
  have hco : mm_co S0 + cells = mm_co S := hco
  have hsl : mm_sl ck S0 + slots = mm_sl ck S := hsl
  intro T hT X
  have htr : e.platform.stackTraces = false := (show e.platform.stackTraces = l.stackTraces by rw [X.admits.platform]).trans hl
  obtain ⟨s', hv', hh', X', hback⟩ := mm_anew X (by omega) (by omega)
  have hW0 : s.WarmedH s'.vm := by rw [hv']; exact State.WarmedH.refl s
  have hE' : mm_Env D cl tys TT strs nc B b Ls xs s' := hE.moved hTT hW0 (hh'.trans hT) hS
  have hts' : ∀ w ∈ TT, w.before args s' = true := fun w hw => mm_warm hW0 (hTT w hw) (hts w hw)
  have hown' : s'.vm.findClass own = some m.cls := by rw [hv']; exact hown
  have hat : ∀ w ∈ mm_oa own ic (ex E) ix9 rx9 Y9 r9, w.before args s' = true := fun w hw => (h6 w hw).elim (hts' w) (fun q => hE'.HW w q args)
  obtain ⟨sa, hsa⟩ := hE'.2.2.2.2.1 _ h5
  have K : W p l e { frames := R.frames, locals := R.locals, cells := 1, slots := 6 } s' m args below meth c T.heap [] 0 0 (mm_E below args s D cl B b ck ak dA ex (.inr E, (S.1, S.2.1, S.2.2 + 1)) mc ms) (F0 m pc ls (st.map (mm_v B b))) := by
    refine W.newc hx hb hown' (hts' _ h3) (hts' _ h4b) (hts' _ h4) (g := F0 m pc ls (st.map (mm_v B b))) rfl d0 (Nat.le_refl _) (Nat.le_refl _) (fun cC kC k1 k2 k3 k4 => ?_)
    refine lv_dup (pc := pc + 3) hx hb d3 rfl ?_
    refine va_ldcS (pc := pc + 4) hx hb hown' hsa d4 ?_
    intro T2 hT2 X2
    obtain ⟨U, hsteps, hrun, hend, hW, hsame, ce, hce, hO⟩ := mm_ctorX X2 hx htr (own := own) (cls := ex E) (Y0 := Y9) (r0 := r9) (ic := ic) x0 x1 x2 x5 hown' h1 h2 hat (fun x hx => nomatch hx) k1 k2 (a := T.heap.size) (by rw [hT2, Array.getElem?_push_size]) (by rw [hh']; exact Nat.le_refl _) (msg := .ref sa) rfl
      (g := F0 m (pc + 6) ls (.ref sa :: .ref T.heap.size :: .ref T.heap.size :: st.map (mm_v B b))) rfl (hL.1.trans hml.symm) rfl rfl (rest := st.map (mm_v B b)) rfl (by rw [hb]; exact d6) (by rw [hb]; exact d9) (fun x hx => (hexc x hx).elim) (by show (Y9 :: r9).length + 3 < R.frames; omega)
      (by
        have hw := mm_wt_eq B b st
        simp only [List.map_cons, List.sum_cons] at hw ⊢
        rw [hw]
        show 0 + (1 + mm_wt st) + (13 * ((Y9 :: r9).length + 1) + 42) ≤ R.locals
        omega) hlocks
    obtain ⟨f1, f2⟩ := mm_kept hsame
    rw [hh'] at f1 f2
    rw [hT] at f1 f2
    have hcl : s.vm.findClass (ex E) = some ce.cls := by
      have h9 := hO.1
      rw [hv'] at h9
      exact h9
    refine ⟨U, hsteps, .threw T.heap.size, hrun, hend, ⟨T.heap.size, ce, rfl, hce, hO.2, hcl⟩, ?_, ⟨Nat.le_trans hS.1 f1, fun q hq hA => (f2 q (Nat.lt_of_lt_of_le hq hS.1)).trans (hS.2.1 q hq hA)⟩, State.WarmedH.trans hW0 hW, locs, (hback U hsame).mono (by omega) (by omega), fun z hz => hS.2.2 z hz⟩
    exact hP.kept fun k q hk => f2 q.1 (hP k q hk).lt
  exact K T rfl X'
end THROWS
end
section
/-! CALLS IN THE SMALL MACHINE'S WORDS -/
def mm_rm (d mc ms : Nat) : Room := { frames := d + 8, cells := mc, slots := ms, locals := 40 * d + 200 }
theorem mm_free_mono {l : Launch} {y : MethodName} {S : Spec} {P : Array Value → State → Prop} {K : Program → Env → List Frame → State → Array Value → Prop} {Q Q' : Array Value → State → Outcome → State → Prop} (h : MetFree l y S P K Q) (hq : ∀ a st o t, Q a st o t → Q' a st o t) : MetFree l y S P K Q' := by
  intro p e ha hc hk s m args below hf happ hP hK
  obtain ⟨n, o, h1, h2, h3, h4⟩ := h p e ha hc hk s m args below hf happ hP hK
  exact ⟨n, o, h1, h2, h3, hq _ _ _ _ h4⟩
theorem mm_pop_spec : ∀ (n : Nat) (acc st as r : List Value), mm_pop n acc st = some (as, r) → ∃ ys, as = ys ++ acc ∧ st = ys.reverse ++ r ∧ ys.length = n := by
  intro n
  induction n with
  | zero =>
    intro acc st as r h
    unfold mm_pop at h
    cases h
    exact ⟨[], rfl, rfl, rfl⟩
  | succ n ih =>
    intro acc st as r h
    cases st with
    | nil => cases h
    | cons v st =>
      obtain ⟨ys, h1, h2, h3⟩ := ih (v :: acc) st as r h
      refine ⟨ys ++ [v], by rw [h1]; simp, by rw [h2]; simp, by simp [h3]⟩
section CALLS
variable {p : Program} {l : Launch} {e : Env} {R : Room} {s : State} {m : MethodId} {args : Array Value} {below : List Frame} {meth : Method} {c : Code} {Q : State → Prop} {H : Heap} {locs : List Loc} {cells slots : Nat} {ls : Array Slot}
variable {D : va_G} {cl : List vw_C} {tys : List (ClassId × FieldType)} {ck : Nat → List Nat} {ct : Nat → Nat → FieldType} {ak : Nat → FieldType} {dA : Nat → ClassId} {B b Ls nL pc : Nat} {xs : Nat → Int32} {TT : List Cond} {strs : List (String × Nat × String)} {nc : List (String × String)} {cc : ByteArray} {own : String} {me : mm_Me} {L : mm_L} {st : List Value} {S S0 : mm_St} {z' : mm_Z} {ex : Nat → String} {mc ms : Nat}
/-- the places written so far, when a callee has come back -/
theorem mm_after {st₀ t T' : State} {L1 : List Loc} {H0 : Heap} (h0 : st₀.heap = H) (e1 : T'.heap = t.heap) (hS : va_S (fun q => B ≤ q) H0 H locs) (hL : ∀ z ∈ L1, B ≤ z.base) (hF : va_F (fun q => B ≤ q) st₀ t) : va_S (fun q => B ≤ q) H0 T'.heap (locs ++ L1) := by
  obtain ⟨hz, hk⟩ := hF
  rw [h0] at hz hk
  rw [e1]
  refine ⟨Nat.le_trans hS.1 hz, fun q h1 h2 => (hk q (Nat.lt_of_lt_of_le h1 hS.1) h2).trans (hS.2.1 q h1 h2), fun q hq => ?_⟩
  rcases List.mem_append.mp hq with h | h
  · exact hS.2.2 q h
  · exact hL q h
theorem mm_run_ret {mc' ms' : Nat} {o : mm_O} {v : Option Value} {a : Array Value} {st0 rest : List Value} (hr : va_Run p l e R s m args below meth c H locs cells slots mc' ms' (F0 m pc ls st0) rest (mm_QO D cl B b ck ak dA ex o mc' ms' a) (fun q => B ≤ q)) (ho : o.1 = .inl v) (hS : va_S (fun q => B ≤ q) s.heap H locs)
    (k : ∀ (H1 : Heap) (locs1 : List Loc), va_P D cl (mm_ws ck ak dA B b o.2.1 o.2.2.1) H1 → va_S (fun q => B ≤ q) s.heap H1 locs1 → W p l e R s m args below meth c H1 locs1 (cells + mc') (slots + ms') Q (F0 m (pc + 3) ls ((v.toList ++ []).map (mm_v B b) ++ rest))) : W p l e R s m args below meth c H locs cells slots Q (F0 m pc ls st0) := by
  intro T hT X
  obtain ⟨v1, st₀, t, T', L1, h0, X', hL, e1, e2, ⟨ho1, hP1, hF, -⟩, st⟩ := hr T hT X
  rw [ho] at ho1
  have ho2 : Outcome.returned v1 = .returned (v.map (mm_v B b)) := ho1
  cases ho2
  obtain ⟨t2, a1, b1⟩ := k T'.heap (locs ++ L1) (by rw [e1]; exact hP1) (mm_after h0 e1 hS hL hF) T' rfl X'
  refine ⟨t2, st t2 ?_, b1⟩
  have e9 : (v.toList ++ []).map (mm_v B b) = (v.map (mm_v B b)).toList := by cases v <;> rfl
  rw [e9] at a1
  exact a1
/-- out of a caller without handlers, when its callee has thrown -/
theorem mm_out {T T' st₀ t : State} {L1 : List Loc} {q : Addr} {n mc' ms' : Nat} {o : mm_O} {a : Array Value} {rest : List Value} (ho : o.1 = .inr n) (hT : T.heap = H) (h0 : st₀.heap = T.heap) (hW : s.WarmedH st₀.vm) (X' : Stand p l e R s m args below meth c T' (locs ++ L1) (cells + mc') (slots + ms')) (hL : ∀ z ∈ L1, B ≤ z.base) (e1 : T'.heap = t.heap) (e2 : T'.vm = t.vm)
    (hq : mm_QO D cl B b ck ak dA ex o mc' ms' a st₀ (.threw q) t) (hS : va_S (fun q => B ≤ q) s.heap H locs) (hexc : ∀ x ∈ c.exceptionTable.toList, False) (hlocks : meth.locks = false) (hmc : cells + mc' ≤ mc) (hms : slots + ms' ≤ ms) :
    ∃ t2, Steps p.tables e below ((T'.setTop (F0 m pc ls rest)).pushFrame (.throwing q)) t2 ∧ mm_E below args s D cl B b ck ak dA ex o mc ms t2 := by
  obtain ⟨ho1, hP1, hF, -⟩ := hq
  rw [ho] at ho1
  obtain ⟨q2, ce, hq2, hce, hcv, hcl⟩ := ho1
  cases hq2
  obtain ⟨st1, hrun, hend, hW9, hsm⟩ := X'.leaveThrown q (g := F0 m pc ls rest) rfl rfl rfl (fun x hx => (hexc x hx).elim) hlocks
  have hS' := mm_after (h0.trans hT) e1 hS hL hF
  have hcl9 : s.vm.findClass (ex n) = some ce.cls := by rw [← hcl, hW.alike.findClass]
  refine ⟨_, st1, .threw q, hrun, hend, ?_, ?_, hS'.F (t := T'.setFrames (.throwing q :: below)) rfl, hW9, _, hsm.mono hmc hms, fun z hz => hS'.2.2 z hz⟩
  · rw [ho]
    exact ⟨q, ce, rfl, by show T'.heap[q]? = _; rw [e1]; exact hce, hcv, hcl9⟩
  · show va_P D cl _ T'.heap
    rw [e1]; exact hP1
/-- how large the heap is, while nothing has been thrown -/
theorem mm_size {T : State} (X : Stand p l e R s m args below meth c T locs cells slots) (hT : T.heap = H) (hR : mm_Rz D cl ck ak dA B b s.heap S0 S H locs cells slots) (hB : B ≤ s.heap.size) (hex : S0.2.2 = 0 → s.heap.size = B + S0.1.length) : S.2.2 = 0 → H.size = B + S.1.length := by
  intro h0
  obtain ⟨hP, hS, hco, hsl, hnx⟩ := hR
  have h1 := hex (by omega)
  have h2 := X.heapSize
  rw [hT] at h2
  have h3 : S0.1.length + S0.2.2 + cells = S.1.length + S.2.2 := hco
  have h4 : B + S.1.length ≤ H.size := by
    by_cases hz : S.1.length = 0
    · have := hS.1
      omega
    · have e := mm_ws_at (ck := ck) (ak := ak) (dA := dA) (B := B) (b := b) (M := S.2.1) (List.getElem?_eq_getElem (show S.1.length - 1 < S.1.length by omega))
      have h5 : B + (S.1.length - 1) < H.size := (hP _ _ e).lt
      omega
  omega
/-- the contracts of all methods: names, bytes, what they return, their code's words -/
def mm_Ct (l : Launch) (D : va_G) (cl : List vw_C) (tys : List (ClassId × FieldType)) (TT : List Cond) (strs : List (String × Nat × String)) (nc : List (String × String)) (B b Ls : Nat) (xs : Nat → Int32) (ck : Nat → List Nat) (ak : Nat → FieldType) (dA : Nat → ClassId) (ex : Nat → String) (yj : Nat → MethodName) (cw : Nat → Cond) (d : Nat) (call : Nat → List Value → mm_St → Option mm_O) : Prop :=
  ∀ j as S o, call j as S = some o → mm_co S ≤ mm_co o.2 ∧ mm_sl ck S ≤ mm_sl ck o.2 ∧ S.2.2 ≤ o.2.2.2 ∧ ∀ mc ms, ms ≤ 60000000 → mm_co S + mc = mm_co o.2 → mm_sl ck S + ms = mm_sl ck o.2 →
    MetFree l (yj j) (headSpec [cw j] (mm_rm d mc ms)) (mm_Pc D cl tys TT strs nc B b Ls xs ck ak dA as S) (fun _ _ _ _ _ => True) (mm_QO D cl B b ck ak dA ex o mc ms)
/-- a callee's words, but how it is linked -/
def mm_CE (TT : List Cond) (y : MethodName) (bytes : ByteArray) (maxL n : Nat) (ret : Option FieldType) : Prop :=
  Cond.code y bytes maxL ret ∈ TT ∧ goodWord (.code y bytes maxL ret) = true ∧ Cond.initialized y.cls ∈ TT ∧ (y.cls ≠ "java/lang/invoke/MethodHandle" ∧ y.cls ≠ "java/lang/invoke/VarHandle") ∧ (parseMethodDescriptor y.desc).map (fun d => d.parameters.length) = some n ∧ maxL ≤ 21
theorem mm_CE.toB {y : MethodName} {bytes : ByteArray} {maxL n ix d mc' ms' : Nat} {ret : Option FieldType} (h : mm_CE TT y bytes maxL n ret) (hts : ∀ w ∈ TT, w.before args s = true) (hl : Cond.methodLink own ix y ∈ TT) (hRf : d + 9 ≤ R.frames) (hRl : 40 * d + 240 ≤ R.locals) :
    CallB R s args own ix y bytes maxL ret [.code y bytes maxL ret] (mm_rm d mc' ms') mc' ms' n := by
  obtain ⟨h1, h2, h3, h4, h5, h6⟩ := h
  exact callB_of n hts (fun w hw => by rw [List.mem_singleton] at hw; subst hw; exact ⟨h1, good_of_word h2⟩) rfl rfl rfl (hts _ h3) (hts _ hl) ⟨h4.1, h4.2, h5⟩ ⟨by show d + 8 + 1 ≤ _; omega, by show 8 + (maxL + 11) + (40 * d + 200) ≤ _; omega⟩
theorem mm_CE.toR {y : MethodName} {bytes : ByteArray} {maxL n d mc' ms' : Nat} {ret : Option FieldType} (h : mm_CE TT y bytes maxL n ret) (hTT : ∀ w ∈ TT, mm_wd w = true) (hts : ∀ w ∈ TT, w.before args s = true) (hRf : d + 9 ≤ R.frames) (hRl : 40 * d + 240 ≤ R.locals) :
    mm_CR R s args y bytes maxL ret [.code y bytes maxL ret] (mm_rm d mc' ms') mc' ms' := by
  obtain ⟨h1, h2, h3, h4, h5, h6⟩ := h
  exact ⟨rfl, rfl, by show d + 8 + 1 ≤ _; omega, by show 8 + (maxL + 11) + (40 * d + 200) ≤ _; omega, fun w hw a' U hW => by rw [List.mem_singleton] at hw; subst hw; exact mm_warm hW (hTT _ h1) (hts _ h1), List.mem_singleton.mpr rfl, fun a' U hW => mm_warm hW (hTT _ h3) (hts _ h3)⟩
theorem mm_QO.met {y : MethodName} {ws : List Cond} {rm : Room} {P : Array Value → State → Prop} {o : mm_O} {v : Option Value} (ho : o.1 = .inl v) (h : MetFree l y (headSpec ws rm) P (fun _ _ _ _ _ => True) (mm_QO D cl B b ck ak dA ex o mc ms)) : Met l y ws rm P (mm_QO D cl B b ck ak dA ex o mc ms) mc ms (fun q => B ≤ q) :=
  mm_free_mono h fun a st oc t hq => ⟨hq, by
    obtain ⟨h1, -, -, h4, Lc, h5, h6⟩ := hq
    rw [ho] at h1
    exact ⟨Lc, ⟨⟨_, h1⟩, h4, h5⟩, h6⟩⟩
theorem mm_QO.thr {o : mm_O} {n : Nat} (ho : o.1 = .inr n) : mm_QT (mm_QO D cl B b ck ak dA ex o mc ms) mc ms (fun q => B ≤ q) := by
  intro a st oc t hq
  obtain ⟨h1, -, -, h4, Lc, h5, h6⟩ := hq
  rw [ho] at h1
  obtain ⟨q, ce, h1, -⟩ := h1
  exact ⟨q, h1, h4, Lc, h5, h6⟩
end CALLS
end
section
section INV
variable {p : Program} {l : Launch} {e : Env} {R : Room} {s : State} {m : MethodId} {args : Array Value} {below : List Frame} {meth : Method} {c : Code} {Q : State → Prop} {H : Heap} {locs : List Loc} {cells slots : Nat} {ls : Array Slot}
variable {D : va_G} {cl : List vw_C} {tys : List (ClassId × FieldType)} {ck : Nat → List Nat} {ct : Nat → Nat → FieldType} {ak : Nat → FieldType} {dA : Nat → ClassId} {B b Ls nL pc : Nat} {xs : Nat → Int32} {TT : List Cond} {strs : List (String × Nat × String)} {nc : List (String × String)} {cc : ByteArray} {own : String} {me : mm_Me} {L : mm_L} {st : List Value} {S S0 : mm_St} {z' : mm_Z} {ex : Nat → String} {mc ms : Nat}
variable {call : Nat → List Value → mm_St → Option mm_O} {yj : Nat → MethodName} {cw : Nat → Cond} {d : Nat}
theorem mm_inv_inv {j n ci : Nat} {r : mm_Z ⊕ mm_O} (h : mm_inv call me pc L st S j n ci = some r) : ∃ as a rest, st = as.reverse ++ .ref a :: rest ∧ as.length = n ∧ S.1[a]? = some (.inl ci) ∧ mm_wt rest ≤ 8 ∧ mm_back me pc L rest (call j (.ref a :: as) S) = some r := by
  unfold mm_inv at h
  split at h
  next as a rest hp =>
    split at h
    next cj ha =>
      obtain ⟨hq, h9⟩ := mm_cond_inv h
      rw [Bool.and_eq_true] at hq
      have hq1 := Nat.eq_of_beq_eq_true hq.1
      subst hq1
      obtain ⟨ys, e1, e2, e3⟩ := mm_pop_spec _ _ _ _ _ hp
      rw [List.append_nil] at e1
      subst e1
      exact ⟨as, a, rest, e2, e3, ha, Nat.le_of_ble_eq_true hq.2, h9⟩
    next => cases h
  next => cases h
theorem mm_invS_inv {j n : Nat} {r : mm_Z ⊕ mm_O} (h : mm_invS call me pc L st S j n = some r) : ∃ as rest, st = as.reverse ++ rest ∧ as.length = n ∧ mm_wt rest ≤ 8 ∧ mm_back me pc L rest (call j as S) = some r := by
  unfold mm_invS at h
  split at h
  next as rest hp =>
    obtain ⟨hq, h9⟩ := mm_cond_inv h
    obtain ⟨ys, e1, e2, e3⟩ := mm_pop_spec _ _ _ _ _ hp
    rw [List.append_nil] at e1
    subst e1
    exact ⟨as, rest, e2, e3, Nat.le_of_ble_eq_true hq, h9⟩
  next => cases h
/-- a caller without handlers -/
theorem mm_back_inv {rest : List Value} {o : Option mm_O} {r : mm_Z ⊕ mm_O} (hh : me.hs = []) (h : mm_back me pc L rest o = some r) : (∃ v S', o = some (.inl v, S') ∧ r = .inl (pc + 3, L, v.toList ++ rest, S')) ∨ (∃ E S', o = some (.inr E, S') ∧ r = .inr (.inr E, S')) := by
  unfold mm_back at h
  split at h
  next => cases h
  next v S' => cases h; exact Or.inl ⟨v, S', rfl, rfl⟩
  next E S' =>
    rw [hh] at h
    cases h
    exact Or.inr ⟨E, S', rfl, rfl⟩
/-- what a call by an instance rests on -/
def mm_ML (TT : List Cond) (cl : List vw_C) (own : String) (ix ci : Nat) (y : MethodName) : Prop := Cond.methodLink own ix y ∈ TT ∧ Cond.instanceMethod y ∈ TT ∧ ∃ q, cl[ci]? = some q ∧ Cond.selects q.1 y y ∈ TT
theorem mm_pre {T : State} {as : List Value} (hTT : ∀ w ∈ TT, mm_wd w = true) (hE : mm_Env D cl tys TT strs nc B b Ls xs s) (hR : mm_Rz D cl ck ak dA B b s.heap S0 S H locs cells slots) (hsz : S.2.2 = 0 → H.size = B + S.1.length) : ∀ U : State, U.heap = H → s.WarmedH U.vm → mm_Pc D cl tys TT strs nc B b Ls xs ck ak dA as S (as.map (mm_v B b)).toArray U :=
  fun U hU hW => ⟨rfl, hE.moved hTT hW hU hR.2.1, by rw [hU]; exact hR.1, by rw [hU]; exact hsz⟩
theorem mm_map_args (as rest : List Value) (a : Nat) : (as.reverse ++ .ref a :: rest).map (mm_v B b) = (as.map (mm_v B b)).reverse ++ .ref (B + a) :: rest.map (mm_v B b) := by
  simp [mm_v]
/-- an instance method that returns -/
theorem mm_k_inv {ix ci j n maxL : Nat} {y : MethodName} {bytes : ByteArray} {ret : Option FieldType} (X : CallFix p m c cc nL s args TT own) (hK : va_K D cl tys s) (hTT : ∀ w ∈ TT, mm_wd w = true) (hE : mm_Env D cl tys TT strs nc B b Ls xs s) (hB : B ≤ s.heap.size) (hex : S0.2.2 = 0 → s.heap.size = B + S0.1.length) (hCt : mm_Ct l D cl tys TT strs nc B b Ls xs ck ak dA ex yj cw d call) (hy : yj j = y) (hcw : cw j = .code y bytes maxL ret)
    (hCE : mm_CE TT y bytes maxL n ret) (hML : mm_ML TT cl own ix ci y) (hRb : R.slots ≤ 60000000) (hRf : d + 9 ≤ R.frames) (hRl : 40 * d + 240 ≤ R.locals) (hRc : mm_co z'.2.2.2 ≤ mm_co S0 + R.cells) (hRs : mm_sl ck z'.2.2.2 ≤ mm_sl ck S0 + R.slots) (hd : decode cc pc = .ok (.invokevirtual ix, 3)) (hh : me.hs = [])
    (h : mm_inv call me pc L st S j n ci = some (.inl z')) (kJ : mm_J p l e R s m args below meth c Q B b nL (mm_Rz D cl ck ak dA B b s.heap S0) z') : mm_J p l e R s m args below meth c Q B b nL (mm_Rz D cl ck ak dA B b s.heap S0) (pc, L, st, S) := by
  obtain ⟨as, a, rest, rfl, hn, ha, hwt, h⟩ := mm_inv_inv h
  rcases mm_back_inv hh h with ⟨v, S', hcall, hz⟩ | ⟨E, S', hcall, hz⟩
  · cases hz
    obtain ⟨m1, m2, m3, hM⟩ := hCt _ _ _ _ hcall
    obtain ⟨mc', hmc'⟩ := Nat.le.dest m1
    obtain ⟨ms', hms'⟩ := Nat.le.dest m2
    have hM0 := fun q => hM mc' ms' q hmc' hms'
    have hmc' : mm_co S + mc' = mm_co S' := hmc'
    have hms' : mm_sl ck S + ms' = mm_sl ck S' := hms'
    obtain ⟨l1, l2, ⟨C, T9, N9⟩, hc1, l3⟩ := hML
    have hX := X
    obtain ⟨hx, hb, hml, hown, hts⟩ := X
    intro ls H locs cells slots hL hR T hT XT
    have hsz := mm_size XT hT hR hB hex
    obtain ⟨hP, hS, hco, hsl, hnx⟩ := id hR
    have hco : mm_co S0 + cells = mm_co S := hco
    have hsl : mm_sl ck S0 + slots = mm_sl ck S := hsl
    have hM := hM0 (by have : mm_sl ck S' ≤ mm_sl ck S0 + R.slots := hRs; omega)
    rw [hy, hcw] at hM
    have hr := va_runV (e := e) (below := below) (meth := meth) (H := H) (locs := locs) (cells := cells) (slots := slots) (C := C) (As := as.map (mm_v B b)) (rest := rest.map (mm_v B b)) (b := B + a) (n := n) (g := F0 m pc ls ((as.reverse ++ .ref a :: rest).map (mm_v B b))) hX (mm_QO.met (v := v) rfl hM) ⟨hCE.toB hts l1 hRf hRl, hts _ l2, hts _ l3⟩
      ⟨mm_Pc.blind hTT _ _, va_recv hK hP hc1 (mm_ws_at ha), mm_pre (T := T) (as := .ref a :: as) hTT hE hR hsz⟩ rfl (by simp [hn]) hL.1 (mm_map_args _ _ _) (lv_room (by rw [mm_wt_eq]; exact hwt)) hd
      ⟨by have : mm_co S' ≤ mm_co S0 + R.cells := hRc; omega, by have : mm_sl ck S' ≤ mm_sl ck S0 + R.slots := hRs; omega⟩
    refine mm_run_ret (Q := Q) (v := v) hr rfl hS (fun H1 locs1 hP1 hS1 => ?_) T hT XT
    have k9 := kJ ls H1 locs1 (cells + mc') (slots + ms') hL ⟨hP1, hS1, by show mm_co S0 + (cells + mc') = mm_co S'; omega, by show mm_sl ck S0 + (slots + ms') = mm_sl ck S'; omega, by show S0.2.2 ≤ S'.2.2; have : S0.2.2 ≤ S.2.2 := hnx; have : S.2.2 ≤ S'.2.2 := m3; omega⟩
    have e9 : (v.toList ++ []).map (mm_v B b) ++ rest.map (mm_v B b) = (v.toList ++ rest).map (mm_v B b) := by simp
    rw [e9]
    exact k9
  · cases hz
/-- an instance method that throws -/
theorem mm_k_invT {ix ci j n maxL : Nat} {y : MethodName} {bytes : ByteArray} {ret : Option FieldType} {o : mm_O} (X : CallFix p m c cc nL s args TT own) (hK : va_K D cl tys s) (hTT : ∀ w ∈ TT, mm_wd w = true) (hE : mm_Env D cl tys TT strs nc B b Ls xs s) (hB : B ≤ s.heap.size) (hex : S0.2.2 = 0 → s.heap.size = B + S0.1.length) (hCt : mm_Ct l D cl tys TT strs nc B b Ls xs ck ak dA ex yj cw d call) (hy : yj j = y) (hcw : cw j = .code y bytes maxL ret)
    (hCE : mm_CE TT y bytes maxL n ret) (hML : mm_ML TT cl own ix ci y) (hRb : R.slots ≤ 60000000) (hRf : d + 9 ≤ R.frames) (hRl : 40 * d + 240 ≤ R.locals) (hRc : mc ≤ R.cells) (hRs : ms ≤ R.slots) (hmc : mm_co S0 + mc = mm_co o.2) (hms : mm_sl ck S0 + ms = mm_sl ck o.2) (hexc : ∀ x ∈ c.exceptionTable.toList, False) (hlocks : meth.locks = false) (hd : decode cc pc = .ok (.invokevirtual ix, 3)) (hh : me.hs = [])
    (h : mm_inv call me pc L st S j n ci = some (.inr o)) : mm_J p l e R s m args below meth c (mm_E below args s D cl B b ck ak dA ex o mc ms) B b nL (mm_Rz D cl ck ak dA B b s.heap S0) (pc, L, st, S) := by
  obtain ⟨as, a, rest, rfl, hn, ha, hwt, h⟩ := mm_inv_inv h
  rcases mm_back_inv hh h with ⟨v, S', hcall, hz⟩ | ⟨E, S', hcall, hz⟩
  · cases hz
  · cases hz
    obtain ⟨m1, m2, m3, hM⟩ := hCt _ _ _ _ hcall
    obtain ⟨mc', hmc'⟩ := Nat.le.dest m1
    obtain ⟨ms', hms'⟩ := Nat.le.dest m2
    have hM0 := fun q => hM mc' ms' q hmc' hms'
    have hmc' : mm_co S + mc' = mm_co S' := hmc'
    have hms' : mm_sl ck S + ms' = mm_sl ck S' := hms'
    obtain ⟨l1, l2, ⟨C, T9, N9⟩, hc1, l3⟩ := hML
    obtain ⟨hx, hb, hml, hown, hts⟩ := X
    intro ls H locs cells slots hL hR T hT XT
    have hsz := mm_size XT hT hR hB hex
    obtain ⟨hP, hS, hco, hsl, hnx⟩ := id hR
    have hco : mm_co S0 + cells = mm_co S := hco
    have hsl : mm_sl ck S0 + slots = mm_sl ck S := hsl
    have hM := hM0 (by have : mm_sl ck S0 + ms = mm_sl ck S' := hms; omega)
    rw [hy, hcw] at hM
    obtain ⟨cellB, r1, r2, r3⟩ := va_recv hK hP hc1 (mm_ws_at ha)
    obtain ⟨q, st₀, t, T', L1, h0, hW, X', hL1, e1, e2, hq, hst⟩ := mm_thrV XT hx (C := C) hown (hts _ l1) (hts _ l2) (hts _ l3) hCE.2.2.2.1 hM (mm_QO.thr (n := E) rfl) (mm_Pc.blind hTT _ _) (hCE.toR hTT hts hRf hRl) (by rw [hT]; exact r1) r2 r3
      (g := F0 m pc ls ((as.reverse ++ .ref a :: rest).map (mm_v B b))) rfl (hL.1.trans hml.symm) (argsL := as.map (mm_v B b)) (rest := rest.map (mm_v B b)) (fun sig hsig => by have h5 := hCE.2.2.2.2.1; rw [hsig] at h5; rw [List.length_map, hn]; exact (Option.some.inj h5).symm) (mm_map_args _ _ _) (lv_room (by rw [mm_wt_eq]; exact hwt)) (by rw [hb]; exact hd)
      ⟨by have : mm_co S0 + mc = mm_co S' := hmc; omega, by have : mm_sl ck S0 + ms = mm_sl ck S' := hms; omega⟩ (fun U hU hW => mm_pre (T := T) (as := .ref a :: as) hTT hE hR hsz U (hU.trans hT) hW)
    obtain ⟨t2, a1, b1⟩ := mm_out (pc := pc) (ls := ls) (rest := rest.map (mm_v B b)) (mc := mc) (ms := ms) (n := E) rfl hT h0 hW X' hL1 e1 e2 hq hS hexc hlocks (by have : mm_co S0 + mc = mm_co S' := hmc; omega) (by have : mm_sl ck S0 + ms = mm_sl ck S' := hms; omega)
    exact ⟨t2, hst.trans a1, b1⟩
end INV
end
section
section INV2
variable {p : Program} {l : Launch} {e : Env} {R : Room} {s : State} {m : MethodId} {args : Array Value} {below : List Frame} {meth : Method} {c : Code} {Q : State → Prop} {H : Heap} {locs : List Loc} {cells slots : Nat} {ls : Array Slot}
variable {D : va_G} {cl : List vw_C} {tys : List (ClassId × FieldType)} {ck : Nat → List Nat} {ct : Nat → Nat → FieldType} {ak : Nat → FieldType} {dA : Nat → ClassId} {B b Ls nL pc : Nat} {xs : Nat → Int32} {TT : List Cond} {strs : List (String × Nat × String)} {nc : List (String × String)} {cc : ByteArray} {own : String} {me : mm_Me} {L : mm_L} {st : List Value} {S S0 : mm_St} {z' : mm_Z} {ex : Nat → String} {mc ms : Nat}
variable {call : Nat → List Value → mm_St → Option mm_O} {yj : Nat → MethodName} {cw : Nat → Cond} {d : Nat}
theorem mm_map_argsS (as rest : List Value) : (as.reverse ++ rest).map (mm_v B b) = (as.map (mm_v B b)).reverse ++ rest.map (mm_v B b) := by
  simp
/-- a static method that returns -/
theorem mm_k_invS {ix j n maxL : Nat} {y : MethodName} {bytes : ByteArray} {ret : Option FieldType} (X : CallFix p m c cc nL s args TT own) (hK : va_K D cl tys s) (hTT : ∀ w ∈ TT, mm_wd w = true) (hE : mm_Env D cl tys TT strs nc B b Ls xs s) (hB : B ≤ s.heap.size) (hex : S0.2.2 = 0 → s.heap.size = B + S0.1.length) (hCt : mm_Ct l D cl tys TT strs nc B b Ls xs ck ak dA ex yj cw d call) (hy : yj j = y) (hcw : cw j = .code y bytes maxL ret)
    (hCE : mm_CE TT y bytes maxL n ret) (hML : Cond.methodLink own ix y ∈ TT ∧ Cond.static y ∈ TT) (hRb : R.slots ≤ 60000000) (hRf : d + 9 ≤ R.frames) (hRl : 40 * d + 240 ≤ R.locals) (hRc : mm_co z'.2.2.2 ≤ mm_co S0 + R.cells) (hRs : mm_sl ck z'.2.2.2 ≤ mm_sl ck S0 + R.slots) (hd : decode cc pc = .ok (.invokestatic ix, 3)) (hh : me.hs = [])
    (h : mm_invS call me pc L st S j n = some (.inl z')) (kJ : mm_J p l e R s m args below meth c Q B b nL (mm_Rz D cl ck ak dA B b s.heap S0) z') : mm_J p l e R s m args below meth c Q B b nL (mm_Rz D cl ck ak dA B b s.heap S0) (pc, L, st, S) := by
  obtain ⟨as, rest, rfl, hn, hwt, h⟩ := mm_invS_inv h
  rcases mm_back_inv hh h with ⟨v, S', hcall, hz⟩ | ⟨E, S', hcall, hz⟩
  · cases hz
    obtain ⟨m1, m2, m3, hM⟩ := hCt _ _ _ _ hcall
    obtain ⟨mc', hmc'⟩ := Nat.le.dest m1
    obtain ⟨ms', hms'⟩ := Nat.le.dest m2
    have hM0 := fun q => hM mc' ms' q hmc' hms'
    have hmc' : mm_co S + mc' = mm_co S' := hmc'
    have hms' : mm_sl ck S + ms' = mm_sl ck S' := hms'
    obtain ⟨l1, l2⟩ := hML
    have hX := X
    obtain ⟨hx, hb, hml, hown, hts⟩ := X
    intro ls H locs cells slots hL hR T hT XT
    have hsz := mm_size XT hT hR hB hex
    obtain ⟨hP, hS, hco, hsl, hnx⟩ := id hR
    have hco : mm_co S0 + cells = mm_co S := hco
    have hsl : mm_sl ck S0 + slots = mm_sl ck S := hsl
    have hM := hM0 (by have : mm_sl ck S' ≤ mm_sl ck S0 + R.slots := hRs; omega)
    rw [hy, hcw] at hM
    have hr := va_runS (e := e) (below := below) (meth := meth) (H := H) (locs := locs) (cells := cells) (slots := slots) (As := as.map (mm_v B b)) (rest := rest.map (mm_v B b)) (n := n) (g := F0 m pc ls ((as.reverse ++ rest).map (mm_v B b))) hX (mm_QO.met (v := v) rfl hM) ⟨hCE.toB hts l1 hRf hRl, hts _ l2⟩
      ⟨mm_Pc.blind hTT _ _, mm_pre (T := T) (as := as) hTT hE hR hsz⟩ rfl (by simp [hn]) hL.1 (mm_map_argsS _ _) (lv_room (by rw [mm_wt_eq]; exact hwt)) hd
      ⟨by have : mm_co S' ≤ mm_co S0 + R.cells := hRc; omega, by have : mm_sl ck S' ≤ mm_sl ck S0 + R.slots := hRs; omega⟩
    refine mm_run_ret (Q := Q) (v := v) hr rfl hS (fun H1 locs1 hP1 hS1 => ?_) T hT XT
    have k9 := kJ ls H1 locs1 (cells + mc') (slots + ms') hL ⟨hP1, hS1, by show mm_co S0 + (cells + mc') = mm_co S'; omega, by show mm_sl ck S0 + (slots + ms') = mm_sl ck S'; omega, by show S0.2.2 ≤ S'.2.2; have : S0.2.2 ≤ S.2.2 := hnx; have : S.2.2 ≤ S'.2.2 := m3; omega⟩
    have e9 : (v.toList ++ []).map (mm_v B b) ++ rest.map (mm_v B b) = (v.toList ++ rest).map (mm_v B b) := by simp
    rw [e9]
    exact k9
  · cases hz
/-- a static method that throws -/
theorem mm_k_invST {ix j n maxL : Nat} {y : MethodName} {bytes : ByteArray} {ret : Option FieldType} {o : mm_O} (X : CallFix p m c cc nL s args TT own) (hK : va_K D cl tys s) (hTT : ∀ w ∈ TT, mm_wd w = true) (hE : mm_Env D cl tys TT strs nc B b Ls xs s) (hB : B ≤ s.heap.size) (hex : S0.2.2 = 0 → s.heap.size = B + S0.1.length) (hCt : mm_Ct l D cl tys TT strs nc B b Ls xs ck ak dA ex yj cw d call) (hy : yj j = y) (hcw : cw j = .code y bytes maxL ret)
    (hCE : mm_CE TT y bytes maxL n ret) (hML : Cond.methodLink own ix y ∈ TT ∧ Cond.static y ∈ TT) (hRb : R.slots ≤ 60000000) (hRf : d + 9 ≤ R.frames) (hRl : 40 * d + 240 ≤ R.locals) (hRc : mc ≤ R.cells) (hRs : ms ≤ R.slots) (hmc : mm_co S0 + mc = mm_co o.2) (hms : mm_sl ck S0 + ms = mm_sl ck o.2) (hexc : ∀ x ∈ c.exceptionTable.toList, False) (hlocks : meth.locks = false) (hd : decode cc pc = .ok (.invokestatic ix, 3)) (hh : me.hs = [])
    (h : mm_invS call me pc L st S j n = some (.inr o)) : mm_J p l e R s m args below meth c (mm_E below args s D cl B b ck ak dA ex o mc ms) B b nL (mm_Rz D cl ck ak dA B b s.heap S0) (pc, L, st, S) := by
  obtain ⟨as, rest, rfl, hn, hwt, h⟩ := mm_invS_inv h
  rcases mm_back_inv hh h with ⟨v, S', hcall, hz⟩ | ⟨E, S', hcall, hz⟩
  · cases hz
  · cases hz
    obtain ⟨m1, m2, m3, hM⟩ := hCt _ _ _ _ hcall
    obtain ⟨mc', hmc'⟩ := Nat.le.dest m1
    obtain ⟨ms', hms'⟩ := Nat.le.dest m2
    have hM0 := fun q => hM mc' ms' q hmc' hms'
    have hmc' : mm_co S + mc' = mm_co S' := hmc'
    have hms' : mm_sl ck S + ms' = mm_sl ck S' := hms'
    obtain ⟨l1, l2⟩ := hML
    obtain ⟨hx, hb, hml, hown, hts⟩ := X
    intro ls H locs cells slots hL hR T hT XT
    have hsz := mm_size XT hT hR hB hex
    obtain ⟨hP, hS, hco, hsl, hnx⟩ := id hR
    have hco : mm_co S0 + cells = mm_co S := hco
    have hsl : mm_sl ck S0 + slots = mm_sl ck S := hsl
    have hM := hM0 (by have : mm_sl ck S0 + ms = mm_sl ck S' := hms; omega)
    rw [hy, hcw] at hM
    obtain ⟨q, st₀, t, T', L1, h0, hW, X', hL1, e1, e2, hq, hst⟩ := mm_thrS XT hx hown (hts _ l1) (hts _ l2) hCE.2.2.2.1 hM (mm_QO.thr (n := E) rfl) (mm_Pc.blind hTT _ _) (hCE.toR hTT hts hRf hRl)
      (g := F0 m pc ls ((as.reverse ++ rest).map (mm_v B b))) rfl (hL.1.trans hml.symm) (argsL := as.map (mm_v B b)) (rest := rest.map (mm_v B b)) (fun sig hsig => by have h5 := hCE.2.2.2.2.1; rw [hsig] at h5; rw [List.length_map, hn]; exact (Option.some.inj h5).symm) (mm_map_argsS _ _) (lv_room (by rw [mm_wt_eq]; exact hwt)) (by rw [hb]; exact hd)
      ⟨by have : mm_co S0 + mc = mm_co S' := hmc; omega, by have : mm_sl ck S0 + ms = mm_sl ck S' := hms; omega⟩ (fun U hU hW => mm_pre (T := T) (as := as) hTT hE hR hsz U (hU.trans hT) hW)
    obtain ⟨t2, a1, b1⟩ := mm_out (pc := pc) (ls := ls) (rest := rest.map (mm_v B b)) (mc := mc) (ms := ms) (n := E) rfl hT h0 hW X' hL1 e1 e2 hq hS hexc hlocks (by have : mm_co S0 + mc = mm_co S' := hmc; omega) (by have : mm_sl ck S0 + ms = mm_sl ck S' := hms; omega)
    exact ⟨t2, hst.trans a1, b1⟩
/-- a constructor -/
theorem mm_k_invI {ix ci j n maxL : Nat} {y : MethodName} {bytes : ByteArray} (X : CallFix p m c cc nL s args TT own) (hK : va_K D cl tys s) (hTT : ∀ w ∈ TT, mm_wd w = true) (hE : mm_Env D cl tys TT strs nc B b Ls xs s) (hB : B ≤ s.heap.size) (hex : S0.2.2 = 0 → s.heap.size = B + S0.1.length) (hCt : mm_Ct l D cl tys TT strs nc B b Ls xs ck ak dA ex yj cw d call) (hy : yj j = y) (hcw : cw j = .code y bytes maxL none)
    (hCE : mm_CE TT y bytes maxL n none) (hML : Cond.methodLink own ix y ∈ TT ∧ Cond.instanceMethod y ∈ TT ∧ y.name = "<init>") (hRb : R.slots ≤ 60000000) (hRf : d + 9 ≤ R.frames) (hRl : 40 * d + 240 ≤ R.locals) (hRc : mm_co z'.2.2.2 ≤ mm_co S0 + R.cells) (hRs : mm_sl ck z'.2.2.2 ≤ mm_sl ck S0 + R.slots) (hd : decode cc pc = .ok (.invokespecial ix, 3)) (hh : me.hs = [])
    (h : mm_inv call me pc L st S j n ci = some (.inl z')) (kJ : mm_J p l e R s m args below meth c Q B b nL (mm_Rz D cl ck ak dA B b s.heap S0) z') : mm_J p l e R s m args below meth c Q B b nL (mm_Rz D cl ck ak dA B b s.heap S0) (pc, L, st, S) := by
  obtain ⟨as, a, rest, rfl, hn, ha, hwt, h⟩ := mm_inv_inv h
  rcases mm_back_inv hh h with ⟨v, S', hcall, hz⟩ | ⟨E, S', hcall, hz⟩
  · cases hz
    obtain ⟨m1, m2, m3, hM⟩ := hCt _ _ _ _ hcall
    obtain ⟨mc', hmc'⟩ := Nat.le.dest m1
    obtain ⟨ms', hms'⟩ := Nat.le.dest m2
    have hM0 := fun q => hM mc' ms' q hmc' hms'
    have hmc' : mm_co S + mc' = mm_co S' := hmc'
    have hms' : mm_sl ck S + ms' = mm_sl ck S' := hms'
    obtain ⟨l1, l2, l3⟩ := hML
    have hX := X
    obtain ⟨hx, hb, hml, hown, hts⟩ := X
    intro ls H locs cells slots hL hR T hT XT
    have hsz := mm_size XT hT hR hB hex
    obtain ⟨hP, hS, hco, hsl, hnx⟩ := id hR
    have hco : mm_co S0 + cells = mm_co S := hco
    have hsl : mm_sl ck S0 + slots = mm_sl ck S := hsl
    have hM := hM0 (by have : mm_sl ck S' ≤ mm_sl ck S0 + R.slots := hRs; omega)
    rw [hy, hcw] at hM
    have hr := va_runI (e := e) (below := below) (meth := meth) (H := H) (locs := locs) (cells := cells) (slots := slots) (As := as.map (mm_v B b)) (rest := rest.map (mm_v B b)) (b := B + a) (n := n) (g := F0 m pc ls ((as.reverse ++ .ref a :: rest).map (mm_v B b))) hX (mm_QO.met (v := v) rfl hM) ⟨hCE.toB hts l1 hRf hRl, l3, hts _ l2⟩
      ⟨mm_Pc.blind hTT _ _, mm_pre (T := T) (as := .ref a :: as) hTT hE hR hsz⟩ rfl (by simp [hn]) hL.1 (mm_map_args _ _ _) (lv_room (by rw [mm_wt_eq]; exact hwt)) hd
      ⟨by have : mm_co S' ≤ mm_co S0 + R.cells := hRc; omega, by have : mm_sl ck S' ≤ mm_sl ck S0 + R.slots := hRs; omega⟩
    refine mm_run_ret (Q := Q) (v := v) hr rfl hS (fun H1 locs1 hP1 hS1 => ?_) T hT XT
    have k9 := kJ ls H1 locs1 (cells + mc') (slots + ms') hL ⟨hP1, hS1, by show mm_co S0 + (cells + mc') = mm_co S'; omega, by show mm_sl ck S0 + (slots + ms') = mm_sl ck S'; omega, by show S0.2.2 ≤ S'.2.2; have : S0.2.2 ≤ S.2.2 := hnx; have : S.2.2 ≤ S'.2.2 := m3; omega⟩
    have e9 : (v.toList ++ []).map (mm_v B b) ++ rest.map (mm_v B b) = (v.toList ++ rest).map (mm_v B b) := by simp
    rw [e9]
    exact k9
  · cases hz
end INV2
end
section
section REST
variable {p : Program} {l : Launch} {e : Env} {R : Room} {s : State} {m : MethodId} {args : Array Value} {below : List Frame} {meth : Method} {c : Code} {Q : State → Prop}
variable {D : va_G} {cl : List vw_C} {tys : List (ClassId × FieldType)} {ck : Nat → List Nat} {ct : Nat → Nat → FieldType} {ak : Nat → FieldType} {dA : Nat → ClassId} {B b Ls nL pc : Nat} {xs : Nat → Int32} {TT : List Cond} {strs : List (String × Nat × String)} {nc : List (String × String)} {cc : ByteArray} {own : String} {me : mm_Me} {L : mm_L} {st : List Value} {S S0 : mm_St} {z' : mm_Z} {Rz : mm_St → Heap → List Loc → Nat → Nat → Prop}
theorem mm_k_ldc {ix : Nat} {v : Int32} (X : CallFix p m c cc nL s args TT own) (hw : Cond.constant own ix v ∈ TT) (hd : decode cc pc = .ok (.ldc ix, 2)) (kJ : mm_J p l e R s m args below meth c Q B b nL Rz (pc + 2, L, .int v :: st, S)) : mm_J p l e R s m args below meth c Q B b nL Rz (pc, L, st, S) :=
  fun ls H locs cells slots hL hR => lv_ldc X.1 X.2.1 X.2.2.2.1 (X.2.2.2.2 _ hw) hd (kJ ls H locs cells slots hL hR)
theorem mm_k_ldc2 {ix : Nat} {v : Int64} (X : CallFix p m c cc nL s args TT own) (hw : Cond.constantLong own ix v ∈ TT) (hd : decode cc pc = .ok (.ldc2_w ix, 3)) (kJ : mm_J p l e R s m args below meth c Q B b nL Rz (pc + 3, L, .long v :: st, S)) : mm_J p l e R s m args below meth c Q B b nL Rz (pc, L, st, S) :=
  fun ls H locs cells slots hL hR => lv_ldc2 X.1 X.2.1 X.2.2.2.1 (X.2.2.2.2 _ hw) hd (kJ ls H locs cells slots hL hR)
theorem mm_k_ldc2d {ix : Nat} {v : UInt64} (X : CallFix p m c cc nL s args TT own) (hw : Cond.constantDouble own ix v ∈ TT) (hd : decode cc pc = .ok (.ldc2_w ix, 3)) (kJ : mm_J p l e R s m args below meth c Q B b nL Rz (pc + 3, L, .double v :: st, S)) : mm_J p l e R s m args below meth c Q B b nL Rz (pc, L, st, S) :=
  fun ls H locs cells slots hL hR => lv_ldc2d X.1 X.2.1 X.2.2.2.1 (X.2.2.2.2 _ hw) hd (kJ ls H locs cells slots hL hR)
theorem mm_k_obj {ix a : Nat} {r : List Value} (X : CallFix p m c cc nL s args TT own) (h1 : Cond.methodLink own ix Lib.objectInit ∈ TT) (h2 : Cond.instanceMethod Lib.objectInit ∈ TT) (h3 : Cond.code Lib.objectInit ⟨#[0xb1]⟩ 1 none ∈ TT) (hRf : 1 ≤ R.frames) (hRl : 20 ≤ R.locals) (hw : mm_wt r ≤ 8) (hd : decode cc pc = .ok (.invokespecial ix, 3))
    (kJ : mm_J p l e R s m args below meth c Q B b nL Rz (pc + 3, L, r, S)) : mm_J p l e R s m args below meth c Q B b nL Rz (pc, L, .ref a :: r, S) := by
  obtain ⟨hx, hb, hml, hown, hts⟩ := X
  intro ls H locs cells slots hL hR
  refine W.objInit hx hb hown (hts _ h1) (hts _ h2) (hts _ h3) (g := F0 m pc ls (.ref (B + a) :: r.map (mm_v B b))) rfl (hL.1.trans hml.symm) rfl hd hRf (by rw [mm_wt_eq]; show 2 * 0 + mm_wt r + 12 ≤ _; omega) ?_
  exact kJ ls H locs cells slots hL hR
theorem mm_k_alen (X : CallFix p m c cc nL s args TT own) (hK : va_K D cl tys s) (hT : mm_AT tys ak dA) (hE : mm_Env D cl tys TT strs nc B b Ls xs s) (hd : decode cc pc = .ok (.arraylength, 1)) {call : Nat → List Value → mm_St → Option mm_O}
    (h : mm_do call xs Ls ck ak me pc L st S .arraylength = some (.inl z')) (kJ : mm_J p l e R s m args below meth c Q B b nL (mm_Rz D cl ck ak dA B b s.heap S0) z') : mm_J p l e R s m args below meth c Q B b nL (mm_Rz D cl ck ak dA B b s.heap S0) (pc, L, st, S) := by
  obtain ⟨hx, hb, hml, hown, hts⟩ := X
  obtain ⟨v, r, rfl, h⟩ := mm_1_inv h
  cases v with
  | retAddr w =>
    cases h
    exact fun ls H locs cells slots hL hR => va_slen hx hb hE.2.2.2.2.2.2.1 (Nat.lt_of_lt_of_le hE.2.2.2.2.2.2.2.1 hE.2.2.2.2.2.2.2.2) (Nat.not_le.mpr hE.2.2.2.2.2.2.2.1) hR.2.1 hd (kJ ls H locs cells slots hL hR)
  | ref a =>
    have h : (match S.1[a]? with
      | some (.inr (_, n)) => mm_go (pc + 1) L (.int (Int32.ofNat n) :: r) S
      | _ => none) = some (.inl z') := h
    split at h
    next t n ha =>
      cases h
      obtain ⟨t0, h0⟩ := hT t
      exact fun ls H locs cells slots hL hR => va_alen hx hb hK hR.1 a t0 (mm_ws_ar ha rfl) h0 rfl hd (kJ ls H locs cells slots hL hR)
    next => cases h
  | _ => cases h
theorem mm_k_iald0 (X : CallFix p m c cc nL s args TT own) (hK : va_K D cl tys s) (hT : mm_AT tys ak dA) (hE : mm_Env D cl tys TT strs nc B b Ls xs s) (hd : decode cc pc = .ok (.iaload, 1)) {call : Nat → List Value → mm_St → Option mm_O}
    (h : mm_do call xs Ls ck ak me pc L st S .iaload = some (.inl z')) (kJ : mm_J p l e R s m args below meth c Q B b nL (mm_Rz D cl ck ak dA B b s.heap S0) z') : mm_J p l e R s m args below meth c Q B b nL (mm_Rz D cl ck ak dA B b s.heap S0) (pc, L, st, S) := by
  have h : mm_ial xs Ls ak pc L S st = some (.inl z') := h
  unfold mm_ial at h
  split at h
  next i w r =>
    obtain ⟨hi, h⟩ := mm_ix_inv h
    cases h
    obtain ⟨hx, hb, hml, hown, hts⟩ := X
    exact fun ls H locs cells slots hL hR => va_sld hx hb hE.2.2.2.2.2.2.1 (Nat.lt_of_lt_of_le hE.2.2.2.2.2.2.2.1 hE.2.2.2.2.2.2.2.2) (Nat.not_le.mpr hE.2.2.2.2.2.2.2.1) hR.2.1 hi hd (kJ ls H locs cells slots hL hR)
  next => exact mm_k_iald X hK hT hd h kJ
end REST
end
section
section INV3
variable {p : Program} {l : Launch} {e : Env} {R : Room} {s : State} {m : MethodId} {args : Array Value} {below : List Frame} {meth : Method} {c : Code} {Q : State → Prop} {H : Heap} {locs : List Loc} {cells slots : Nat} {ls : Array Slot}
variable {D : va_G} {cl : List vw_C} {tys : List (ClassId × FieldType)} {ck : Nat → List Nat} {ct : Nat → Nat → FieldType} {ak : Nat → FieldType} {dA : Nat → ClassId} {B b Ls nL pc : Nat} {xs : Nat → Int32} {TT : List Cond} {strs : List (String × Nat × String)} {nc : List (String × String)} {cc : ByteArray} {own : String} {me : mm_Me} {L : mm_L} {st : List Value} {S S0 : mm_St} {z' : mm_Z} {ex : Nat → String} {mc ms : Nat}
variable {call : Nat → List Value → mm_St → Option mm_O} {yj : Nat → MethodName} {cw : Nat → Cond} {d : Nat}
/-- a callee with handlers: its words, but how it is linked -/
def mm_CEW (TT : List Cond) (y : MethodName) (bytes : ByteArray) (maxL n : Nat) (ret : Option FieldType) (hh : List (Nat × Nat × Nat × Nat)) : Prop :=
  Cond.codeWith y bytes maxL ret hh ∈ TT ∧ Cond.initialized y.cls ∈ TT ∧ (y.cls ≠ "java/lang/invoke/MethodHandle" ∧ y.cls ≠ "java/lang/invoke/VarHandle") ∧ (parseMethodDescriptor y.desc).map (fun d => d.parameters.length) = some n ∧ maxL ≤ 21
theorem mm_runSW {ix n maxL mc' ms' : Nat} {y : MethodName} {bytes : ByteArray} {ret : Option FieldType} {hh : List (Nat × Nat × Nat × Nat)} {Pc : Array Value → State → Prop} {Qc : Array Value → State → Outcome → State → Prop} {free : Addr → Prop} {As rest : List Value} {g : JFrame} (X : CallFix p m c cc nL s args TT own) (hM : Met l y [.codeWith y bytes maxL ret hh] (mm_rm d mc' ms') Pc Qc mc' ms' free) (hCE : mm_CEW TT y bytes maxL n ret hh) (hTT : ∀ w ∈ TT, mm_wd w = true) (hRf : d + 9 ≤ R.frames) (hRl : 40 * d + 240 ≤ R.locals) (hl : (Cond.methodLink own ix y).before args s = true) (hstat : (Cond.static y).before args s = true) (hp : PreS s H Pc As)
    (hg : g.method = m) (hn : As.length = n) (hsize : g.locals.size = nL) (hstack : g.stack = As.reverse ++ rest) (hW : 2 * g.monitorRoom + (rest.map fun v => v.category).sum ≤ 8) (hdg : decode cc g.pc = .ok (.invokestatic ix, 3)) (hf : cells + mc' ≤ R.cells ∧ slots + ms' ≤ R.slots) :
    va_Run p l e R s m args below meth c H locs cells slots mc' ms' g rest (Qc As.toArray) free := by
  obtain ⟨hx, hb, hml, hown, hts⟩ := X
  obtain ⟨h1, h3, hy, h5, h6⟩ := hCE
  have hK : Back l R p e below s args y 3 8 (PreOf R mc' ms' Pc) (PostOf Qc mc' ms' free) := va_backW (hh := hh) (bytes := bytes) (maxL := maxL) (ret := ret) hM hp.1 rfl rfl (by show d + 8 + 1 ≤ _; omega) (by show 8 + (maxL + 11) + (40 * d + 200) ≤ _; omega) (fun w hw a' U hW => by rw [List.mem_singleton] at hw; subst hw; exact mm_warm hW (hTT _ h1) (hts _ h1)) (List.mem_singleton.mpr rfl) (fun a' U hW => mm_warm hW (hTT _ h3) (hts _ h3))
  obtain ⟨mk, methM, cM, hnamed, hmethM, -, -, -, -, -, -, hsigM⟩ := Cond.codeWith_spec (hts _ h1)
  have hstatic : methM.isStatic = true := Cond.static_spec hnamed hmethM hstat
  obtain ⟨kP, hkP, -⟩ := className_of_methodNamed hnamed
  have hinitP : kP.init = .initialized := Cond.initialized_spec (findClass_of_methodNamed hnamed) hkP (hts _ h3)
  have hlen : As.length = methM.sig.parameters.length := by
    rw [hsigM] at h5
    exact hn.trans (Option.some.inj h5).symm
  intro T hT X
  obtain ⟨vm₁, X₁, hstep₁⟩ := X.invokestatic hx hown hl hnamed hmethM hstatic hkP hinitP hy (g := g) hg (argsL := As) (rest := rest) hlen hstack (by rw [hb]; exact hdg)
  obtain ⟨v, ⟨U', l2, c2, s2⟩, X', ⟨g', mk', t, L1, e1, e2, hq, k1, hL, k2, k3⟩, hsteps⟩ := hK m meth c ⟨T.setVm vm₁, locs, cells, slots⟩ { g with stack := rest } (.invokestatic ix) mk As.toArray X₁ hg (hsize.trans hml.symm) (by rw [hb]; exact hdg) hW (X₁.named hnamed) ⟨hf.1, hf.2, hp.2 (T.setVm vm₁) hT X₁.warmed⟩
  dsimp only [Pt.U, Pt.locs, Pt.cells, Pt.slots] at X' e1 e2 k1 k2 k3 hsteps
  subst k1; subst k2; subst k3
  exact ⟨v, (T.setVm vm₁).calling g' mk' As.toArray, t, U', L1, hT, X', hL, e1, e2, hq, fun tg h => hstep₁ _ fun acts => by rw [doInvoke_state]; exact hsteps.trans h⟩
/-- a static method that has handlers -/
theorem mm_k_invSW {ix j n maxL : Nat} {hh9 : List (Nat × Nat × Nat × Nat)} {y : MethodName} {bytes : ByteArray} {ret : Option FieldType} (X : CallFix p m c cc nL s args TT own) (hK : va_K D cl tys s) (hTT : ∀ w ∈ TT, mm_wd w = true) (hE : mm_Env D cl tys TT strs nc B b Ls xs s) (hB : B ≤ s.heap.size) (hex : S0.2.2 = 0 → s.heap.size = B + S0.1.length) (hCt : mm_Ct l D cl tys TT strs nc B b Ls xs ck ak dA ex yj cw d call) (hy : yj j = y) (hcw : cw j = .codeWith y bytes maxL ret hh9)
    (hCE : mm_CEW TT y bytes maxL n ret hh9) (hML : Cond.methodLink own ix y ∈ TT ∧ Cond.static y ∈ TT) (hRb : R.slots ≤ 60000000) (hRf : d + 9 ≤ R.frames) (hRl : 40 * d + 240 ≤ R.locals) (hRc : mm_co z'.2.2.2 ≤ mm_co S0 + R.cells) (hRs : mm_sl ck z'.2.2.2 ≤ mm_sl ck S0 + R.slots) (hd : decode cc pc = .ok (.invokestatic ix, 3)) (hh : me.hs = [])
    (h : mm_invS call me pc L st S j n = some (.inl z')) (kJ : mm_J p l e R s m args below meth c Q B b nL (mm_Rz D cl ck ak dA B b s.heap S0) z') : mm_J p l e R s m args below meth c Q B b nL (mm_Rz D cl ck ak dA B b s.heap S0) (pc, L, st, S) := by
  obtain ⟨as, rest, rfl, hn, hwt, h⟩ := mm_invS_inv h
  rcases mm_back_inv hh h with ⟨v, S', hcall, hz⟩ | ⟨E, S', hcall, hz⟩
  · cases hz
    obtain ⟨m1, m2, m3, hM⟩ := hCt _ _ _ _ hcall
    obtain ⟨mc', hmc'⟩ := Nat.le.dest m1
    obtain ⟨ms', hms'⟩ := Nat.le.dest m2
    have hM0 := fun q => hM mc' ms' q hmc' hms'
    have hmc' : mm_co S + mc' = mm_co S' := hmc'
    have hms' : mm_sl ck S + ms' = mm_sl ck S' := hms'
    obtain ⟨l1, l2⟩ := hML
    have hX := X
    obtain ⟨hx, hb, hml, hown, hts⟩ := X
    intro ls H locs cells slots hL hR T hT XT
    have hsz := mm_size XT hT hR hB hex
    obtain ⟨hP, hS, hco, hsl, hnx⟩ := id hR
    have hco : mm_co S0 + cells = mm_co S := hco
    have hsl : mm_sl ck S0 + slots = mm_sl ck S := hsl
    have hM := hM0 (by have : mm_sl ck S' ≤ mm_sl ck S0 + R.slots := hRs; omega)
    rw [hy, hcw] at hM
    have hr := mm_runSW (e := e) (below := below) (meth := meth) (H := H) (locs := locs) (cells := cells) (slots := slots) (As := as.map (mm_v B b)) (rest := rest.map (mm_v B b)) (n := n) (g := F0 m pc ls ((as.reverse ++ rest).map (mm_v B b))) hX (mm_QO.met (v := v) rfl hM) hCE hTT hRf hRl (hts _ l1) (hts _ l2)
      ⟨mm_Pc.blind hTT _ _, mm_pre (T := T) (as := as) hTT hE hR hsz⟩ rfl (by simp [hn]) hL.1 (mm_map_argsS _ _) (lv_room (by rw [mm_wt_eq]; exact hwt)) hd
      ⟨by have : mm_co S' ≤ mm_co S0 + R.cells := hRc; omega, by have : mm_sl ck S' ≤ mm_sl ck S0 + R.slots := hRs; omega⟩
    refine mm_run_ret (Q := Q) (v := v) hr rfl hS (fun H1 locs1 hP1 hS1 => ?_) T hT XT
    have k9 := kJ ls H1 locs1 (cells + mc') (slots + ms') hL ⟨hP1, hS1, by show mm_co S0 + (cells + mc') = mm_co S'; omega, by show mm_sl ck S0 + (slots + ms') = mm_sl ck S'; omega, by show S0.2.2 ≤ S'.2.2; have : S0.2.2 ≤ S.2.2 := hnx; have : S.2.2 ≤ S'.2.2 := m3; omega⟩
    have e9 : (v.toList ++ []).map (mm_v B b) ++ rest.map (mm_v B b) = (v.toList ++ rest).map (mm_v B b) := by simp
    rw [e9]
    exact k9
  · cases hz
end INV3
end
section
/-! WHAT CELLS COME: how the count of cells and slots moves -/
def mm_mo (ck : Nat → List Nat) (S S' : mm_St) : Prop := mm_co S ≤ mm_co S' ∧ mm_sl ck S ≤ mm_sl ck S' ∧ S.2.2 ≤ S'.2.2
def mm_rS : mm_Z ⊕ mm_O → mm_St
  | .inl z => z.2.2.2
  | .inr o => o.2
theorem mm_mo.rf {ck : Nat → List Nat} {S : mm_St} : mm_mo ck S S := ⟨Nat.le_refl _, Nat.le_refl _, Nat.le_refl _⟩
theorem mm_mo.tr {ck : Nat → List Nat} {S S1 S2 : mm_St} (h : mm_mo ck S S1) (k : mm_mo ck S1 S2) : mm_mo ck S S2 := ⟨Nat.le_trans h.1 k.1, Nat.le_trans h.2.1 k.2.1, Nat.le_trans h.2.2 k.2.2⟩
theorem mm_tsw_S {x : Int32} {d lo : Int} {os : List Int} {r0 : mm_Z ⊕ mm_O} {pc : Nat} {L : mm_L} {r : List Value} {S : mm_St} (h : mm_tsw x (fun o => mm_go (mm_tg pc o) L r S) d lo os = some r0) : ∃ z', r0 = .inl z' ∧ z'.2.2.2 = S := by
  induction os generalizing lo with
  | nil => cases h; exact ⟨_, rfl, rfl⟩
  | cons o os ih =>
    unfold mm_tsw at h
    split at h
    · cases h; exact ⟨_, rfl, rfl⟩
    · exact ih h
theorem mm_lsw_S {x : Int32} {d : Int} {ps : List (Int × Int)} {r0 : mm_Z ⊕ mm_O} {pc : Nat} {L : mm_L} {r : List Value} {S : mm_St} (h : mm_lsw x (fun o => mm_go (mm_tg pc o) L r S) d ps = some r0) : ∃ z', r0 = .inl z' ∧ z'.2.2.2 = S := by
  induction ps with
  | nil => cases h; exact ⟨_, rfl, rfl⟩
  | cons o os ih =>
    obtain ⟨a, o⟩ := o
    unfold mm_lsw at h
    split at h
    · cases h; exact ⟨_, rfl, rfl⟩
    · exact ih h
set_option maxHeartbeats 4000000 in
theorem mm_pure_S {call : Nat → List Value → mm_St → Option mm_O} {xs : Nat → Int32} {Ls : Nat} {ck : Nat → List Nat} {ak : Nat → FieldType} {me : mm_Me} {pc : Nat} {L : mm_L} {st : List Value} {S : mm_St} {r0 : mm_Z ⊕ mm_O} (i : Instr) (hp : mm_isP i = true) (h : mm_do call xs Ls ck ak me pc L st S i = some r0) : ∃ z', r0 = .inl z' ∧ z'.2.2.2 = S := by
  cases i with
  | iconst n =>
    cases h
    exact ⟨_, rfl, rfl⟩
  | bipush n =>
    cases h
    exact ⟨_, rfl, rfl⟩
  | sipush n =>
    cases h
    exact ⟨_, rfl, rfl⟩
  | lconst n =>
    cases h
    exact ⟨_, rfl, rfl⟩
  | dconst n =>
    cases h
    exact ⟨_, rfl, rfl⟩
  | aconst_null =>
    cases h
    exact ⟨_, rfl, rfl⟩
  | iload_n n =>
    obtain ⟨x, hv, h⟩ := mm_lI_inv h
    cases h
    exact ⟨_, rfl, rfl⟩
  | iload n =>
    obtain ⟨x, hv, h⟩ := mm_lI_inv h
    cases h
    exact ⟨_, rfl, rfl⟩
  | lload_n n =>
    obtain ⟨x, hv, h⟩ := mm_lJ_inv h
    cases h
    exact ⟨_, rfl, rfl⟩
  | lload n =>
    obtain ⟨x, hv, h⟩ := mm_lJ_inv h
    cases h
    exact ⟨_, rfl, rfl⟩
  | dload_n n =>
    obtain ⟨x, hv, h⟩ := mm_lD_inv h
    cases h
    exact ⟨_, rfl, rfl⟩
  | dload n =>
    obtain ⟨x, hv, h⟩ := mm_lD_inv h
    cases h
    exact ⟨_, rfl, rfl⟩
  | aload_n n =>
    have h : (mm_lA L n fun v => mm_go (pc + 1) L (v :: st) S) = some r0 := h
    rcases mm_lA_inv h with ⟨x, hv, h⟩ | ⟨x, hv, h⟩
    · cases h
      exact ⟨_, rfl, rfl⟩
    · cases h
      exact ⟨_, rfl, rfl⟩
  | aload n =>
    have h : (mm_lA L n fun v => mm_go (pc + 2) L (v :: st) S) = some r0 := h
    rcases mm_lA_inv h with ⟨x, hv, h⟩ | ⟨x, hv, h⟩
    · cases h
      exact ⟨_, rfl, rfl⟩
    · cases h
      exact ⟨_, rfl, rfl⟩
  | istore_n n =>
    obtain ⟨x, r, rfl, h⟩ := mm_i_inv h
    cases h
    exact ⟨_, rfl, rfl⟩
  | istore n =>
    obtain ⟨x, r, rfl, h⟩ := mm_i_inv h
    cases h
    exact ⟨_, rfl, rfl⟩
  | astore_n n =>
    obtain ⟨x, r, rfl, h⟩ := mm_r_inv h
    cases h
    exact ⟨_, rfl, rfl⟩
  | astore n =>
    obtain ⟨x, r, rfl, h⟩ := mm_r_inv h
    cases h
    exact ⟨_, rfl, rfl⟩
  | lstore_n n =>
    obtain ⟨x, r, rfl, h⟩ := mm_j_inv h
    cases h
    exact ⟨_, rfl, rfl⟩
  | lstore n =>
    obtain ⟨x, r, rfl, h⟩ := mm_j_inv h
    cases h
    exact ⟨_, rfl, rfl⟩
  | dstore_n n =>
    obtain ⟨x, r, rfl, h⟩ := mm_d_inv h
    cases h
    exact ⟨_, rfl, rfl⟩
  | dstore n =>
    obtain ⟨x, r, rfl, h⟩ := mm_d_inv h
    cases h
    exact ⟨_, rfl, rfl⟩
  | iinc n z =>
    obtain ⟨x, hv, h⟩ := mm_lI_inv h
    cases h
    exact ⟨_, rfl, rfl⟩
  | iadd =>
    obtain ⟨x, y, r, rfl, h⟩ := mm_ii_inv h
    cases h
    exact ⟨_, rfl, rfl⟩
  | isub =>
    obtain ⟨x, y, r, rfl, h⟩ := mm_ii_inv h
    cases h
    exact ⟨_, rfl, rfl⟩
  | imul =>
    obtain ⟨x, y, r, rfl, h⟩ := mm_ii_inv h
    cases h
    exact ⟨_, rfl, rfl⟩
  | iand =>
    obtain ⟨x, y, r, rfl, h⟩ := mm_ii_inv h
    cases h
    exact ⟨_, rfl, rfl⟩
  | ior =>
    obtain ⟨x, y, r, rfl, h⟩ := mm_ii_inv h
    cases h
    exact ⟨_, rfl, rfl⟩
  | ixor =>
    obtain ⟨x, y, r, rfl, h⟩ := mm_ii_inv h
    cases h
    exact ⟨_, rfl, rfl⟩
  | ishl =>
    obtain ⟨x, y, r, rfl, h⟩ := mm_ii_inv h
    cases h
    exact ⟨_, rfl, rfl⟩
  | ishr =>
    obtain ⟨x, y, r, rfl, h⟩ := mm_ii_inv h
    cases h
    exact ⟨_, rfl, rfl⟩
  | iushr =>
    obtain ⟨x, y, r, rfl, h⟩ := mm_ii_inv h
    cases h
    exact ⟨_, rfl, rfl⟩
  | idiv =>
    obtain ⟨x, y, r, rfl, h⟩ := mm_ii_inv h
    have h : (if y = 0 then none else mm_go (pc + 1) L (.int (x / y) :: r) S) = some r0 := h
    by_cases hy : y = 0
    · rw [if_pos hy] at h; cases h
    · rw [if_neg hy] at h
      cases h
      exact ⟨_, rfl, rfl⟩
  | irem =>
    obtain ⟨x, y, r, rfl, h⟩ := mm_ii_inv h
    have h : (if y = 0 then none else mm_go (pc + 1) L (.int (x - x / y * y) :: r) S) = some r0 := h
    by_cases hy : y = 0
    · rw [if_pos hy] at h; cases h
    · rw [if_neg hy] at h
      cases h
      exact ⟨_, rfl, rfl⟩
  | ineg =>
    obtain ⟨x, r, rfl, h⟩ := mm_i_inv h
    cases h
    exact ⟨_, rfl, rfl⟩
  | ladd =>
    obtain ⟨x, y, r, rfl, h⟩ := mm_jj_inv h
    cases h
    exact ⟨_, rfl, rfl⟩
  | lsub =>
    obtain ⟨x, y, r, rfl, h⟩ := mm_jj_inv h
    cases h
    exact ⟨_, rfl, rfl⟩
  | land =>
    obtain ⟨x, y, r, rfl, h⟩ := mm_jj_inv h
    cases h
    exact ⟨_, rfl, rfl⟩
  | lor =>
    obtain ⟨x, y, r, rfl, h⟩ := mm_jj_inv h
    cases h
    exact ⟨_, rfl, rfl⟩
  | lcmp =>
    obtain ⟨x, y, r, rfl, h⟩ := mm_jj_inv h
    cases h
    exact ⟨_, rfl, rfl⟩
  | lushr =>
    obtain ⟨x, y, r, rfl, h⟩ := mm_ji_inv h
    cases h
    exact ⟨_, rfl, rfl⟩
  | lshr =>
    obtain ⟨x, y, r, rfl, h⟩ := mm_ji_inv h
    cases h
    exact ⟨_, rfl, rfl⟩
  | lshl =>
    obtain ⟨x, y, r, rfl, h⟩ := mm_ji_inv h
    cases h
    exact ⟨_, rfl, rfl⟩
  | i2l =>
    obtain ⟨x, r, rfl, h⟩ := mm_i_inv h
    cases h
    exact ⟨_, rfl, rfl⟩
  | l2i =>
    obtain ⟨x, r, rfl, h⟩ := mm_j_inv h
    cases h
    exact ⟨_, rfl, rfl⟩
  | i2c =>
    obtain ⟨x, r, rfl, h⟩ := mm_i_inv h
    cases h
    exact ⟨_, rfl, rfl⟩
  | i2b =>
    obtain ⟨x, r, rfl, h⟩ := mm_i_inv h
    cases h
    exact ⟨_, rfl, rfl⟩
  | i2d =>
    obtain ⟨x, r, rfl, h⟩ := mm_i_inv h
    cases h
    exact ⟨_, rfl, rfl⟩
  | d2i =>
    obtain ⟨x, r, rfl, h⟩ := mm_d_inv h
    cases h
    exact ⟨_, rfl, rfl⟩
  | dneg =>
    obtain ⟨x, r, rfl, h⟩ := mm_d_inv h
    cases h
    exact ⟨_, rfl, rfl⟩
  | dadd =>
    obtain ⟨x, y, r, rfl, h⟩ := mm_dd_inv h
    obtain ⟨hq, h⟩ := mm_cond_inv h
    cases h
    exact ⟨_, rfl, rfl⟩
  | dsub =>
    obtain ⟨x, y, r, rfl, h⟩ := mm_dd_inv h
    obtain ⟨hq, h⟩ := mm_cond_inv h
    cases h
    exact ⟨_, rfl, rfl⟩
  | dmul =>
    obtain ⟨x, y, r, rfl, h⟩ := mm_dd_inv h
    obtain ⟨hq, h⟩ := mm_cond_inv h
    cases h
    exact ⟨_, rfl, rfl⟩
  | ddiv =>
    obtain ⟨x, y, r, rfl, h⟩ := mm_dd_inv h
    obtain ⟨hq, h⟩ := mm_cond_inv h
    cases h
    exact ⟨_, rfl, rfl⟩
  | dcmp op =>
    obtain ⟨x, y, r, rfl, h⟩ := mm_dd_inv h
    cases h
    exact ⟨_, rfl, rfl⟩
  | dup =>
    obtain ⟨v, r, rfl, h⟩ := mm_1_inv h
    obtain ⟨hv, h⟩ := mm_condn_inv h
    cases h
    exact ⟨_, rfl, rfl⟩
  | pop =>
    obtain ⟨v, r, rfl, h⟩ := mm_1_inv h
    obtain ⟨hv, h⟩ := mm_condn_inv h
    cases h
    exact ⟨_, rfl, rfl⟩
  | dup_x1 =>
    obtain ⟨v, w, r, rfl, h⟩ := mm_2_inv h
    obtain ⟨hv, h⟩ := mm_condn_inv h
    rw [Bool.or_eq_false_iff] at hv
    cases h
    exact ⟨_, rfl, rfl⟩
  | dup2 =>
    obtain ⟨v, w, r, rfl, h⟩ := mm_2_inv h
    obtain ⟨hv, h⟩ := mm_condn_inv h
    rw [Bool.or_eq_false_iff] at hv
    cases h
    exact ⟨_, rfl, rfl⟩
  | dup_x2 =>
    obtain ⟨v, w, u, r, rfl, h⟩ := mm_3_inv h
    obtain ⟨hv, h⟩ := mm_condn_inv h
    rw [Bool.or_eq_false_iff, Bool.or_eq_false_iff] at hv
    cases h
    exact ⟨_, rfl, rfl⟩
  | goto o =>
    cases h
    exact ⟨_, rfl, rfl⟩
  | ifCond cn o =>
    obtain ⟨x, r, rfl, h⟩ := mm_i_inv h
    cases cn with
    | eq =>
      have h : (if x = 0 then mm_go (mm_tg pc o) L r S else mm_go (pc + 3) L r S) = some r0 := h
      by_cases hc : x = 0
      · rw [if_pos hc] at h
        cases h
        exact ⟨_, rfl, rfl⟩
      · rw [if_neg hc] at h
        cases h
        exact ⟨_, rfl, rfl⟩
    | ne =>
      have h : (if x = 0 then mm_go (pc + 3) L r S else mm_go (mm_tg pc o) L r S) = some r0 := h
      by_cases hc : x = 0
      · rw [if_pos hc] at h
        cases h
        exact ⟨_, rfl, rfl⟩
      · rw [if_neg hc] at h
        cases h
        exact ⟨_, rfl, rfl⟩
    | lt =>
      have h : (if x < 0 then mm_go (mm_tg pc o) L r S else mm_go (pc + 3) L r S) = some r0 := h
      by_cases hc : x < 0
      · rw [if_pos hc] at h
        cases h
        exact ⟨_, rfl, rfl⟩
      · rw [if_neg hc] at h
        cases h
        exact ⟨_, rfl, rfl⟩
    | ge =>
      have h : (if 0 ≤ x then mm_go (mm_tg pc o) L r S else mm_go (pc + 3) L r S) = some r0 := h
      by_cases hc : 0 ≤ x
      · rw [if_pos hc] at h
        cases h
        exact ⟨_, rfl, rfl⟩
      · rw [if_neg hc] at h
        cases h
        exact ⟨_, rfl, rfl⟩
    | gt =>
      have h : (if 0 < x then mm_go (mm_tg pc o) L r S else mm_go (pc + 3) L r S) = some r0 := h
      by_cases hc : 0 < x
      · rw [if_pos hc] at h
        cases h
        exact ⟨_, rfl, rfl⟩
      · rw [if_neg hc] at h
        cases h
        exact ⟨_, rfl, rfl⟩
    | le =>
      have h : (if x ≤ 0 then mm_go (mm_tg pc o) L r S else mm_go (pc + 3) L r S) = some r0 := h
      by_cases hc : x ≤ 0
      · rw [if_pos hc] at h
        cases h
        exact ⟨_, rfl, rfl⟩
      · rw [if_neg hc] at h
        cases h
        exact ⟨_, rfl, rfl⟩
  | if_icmp cn o =>
    obtain ⟨x, y, r, rfl, h⟩ := mm_ii_inv h
    cases cn with
    | eq =>
      have h : (if x = y then mm_go (mm_tg pc o) L r S else mm_go (pc + 3) L r S) = some r0 := h
      by_cases hc : x = y
      · rw [if_pos hc] at h
        cases h
        exact ⟨_, rfl, rfl⟩
      · rw [if_neg hc] at h
        cases h
        exact ⟨_, rfl, rfl⟩
    | ne =>
      have h : (if x = y then mm_go (pc + 3) L r S else mm_go (mm_tg pc o) L r S) = some r0 := h
      by_cases hc : x = y
      · rw [if_pos hc] at h
        cases h
        exact ⟨_, rfl, rfl⟩
      · rw [if_neg hc] at h
        cases h
        exact ⟨_, rfl, rfl⟩
    | lt =>
      have h : (if x < y then mm_go (mm_tg pc o) L r S else mm_go (pc + 3) L r S) = some r0 := h
      by_cases hc : x < y
      · rw [if_pos hc] at h
        cases h
        exact ⟨_, rfl, rfl⟩
      · rw [if_neg hc] at h
        cases h
        exact ⟨_, rfl, rfl⟩
    | ge =>
      have h : (if y ≤ x then mm_go (mm_tg pc o) L r S else mm_go (pc + 3) L r S) = some r0 := h
      by_cases hc : y ≤ x
      · rw [if_pos hc] at h
        cases h
        exact ⟨_, rfl, rfl⟩
      · rw [if_neg hc] at h
        cases h
        exact ⟨_, rfl, rfl⟩
    | gt =>
      have h : (if y < x then mm_go (mm_tg pc o) L r S else mm_go (pc + 3) L r S) = some r0 := h
      by_cases hc : y < x
      · rw [if_pos hc] at h
        cases h
        exact ⟨_, rfl, rfl⟩
      · rw [if_neg hc] at h
        cases h
        exact ⟨_, rfl, rfl⟩
    | le =>
      have h : (if x ≤ y then mm_go (mm_tg pc o) L r S else mm_go (pc + 3) L r S) = some r0 := h
      by_cases hc : x ≤ y
      · rw [if_pos hc] at h
        cases h
        exact ⟨_, rfl, rfl⟩
      · rw [if_neg hc] at h
        cases h
        exact ⟨_, rfl, rfl⟩
  | ifnull o =>
    obtain ⟨v, r, rfl, h⟩ := mm_1_inv h
    cases v with
    | ref a =>
      cases h
      exact ⟨_, rfl, rfl⟩
    | null =>
      cases h
      exact ⟨_, rfl, rfl⟩
    | _ => cases h
  | ifnonnull o =>
    obtain ⟨v, r, rfl, h⟩ := mm_1_inv h
    cases v with
    | ref a =>
      cases h
      exact ⟨_, rfl, rfl⟩
    | null =>
      cases h
      exact ⟨_, rfl, rfl⟩
    | _ => cases h
  | tableswitch d lo hi os =>
    obtain ⟨x, r, rfl, h⟩ := mm_i_inv h
    exact mm_tsw_S h
  | lookupswitch d ps =>
    obtain ⟨x, r, rfl, h⟩ := mm_i_inv h
    exact mm_lsw_S h
  | _ => cases hp
end
section
section MO
variable {call : Nat → List Value → mm_St → Option mm_O} {xs : Nat → Int32} {Ls : Nat} {ck : Nat → List Nat} {ak : Nat → FieldType} {me : mm_Me} {pc : Nat} {L : mm_L} {st : List Value} {S : mm_St} {r0 : mm_Z ⊕ mm_O}
theorem mm_new_mo (S : mm_St) (sh : Nat ⊕ (Nat × Nat)) : mm_mo ck S (mm_new S sh) := by
  refine ⟨?_, ?_, Nat.le_refl _⟩
  · show S.1.length + S.2.2 ≤ (S.1 ++ [sh]).length + S.2.2
    rw [List.length_append]
    omega
  · show mm_sz ck S.1 + 6 * S.2.2 ≤ mm_sz ck (S.1 ++ [sh]) + 6 * S.2.2
    rw [mm_sz_app]
    omega
theorem mm_hs_mo {E : Nat} (hs : List (Nat × Nat × Nat × Nat)) (h : mm_hs me pc L E S hs = some r0) : mm_rS r0 = S := by
  induction hs with
  | nil => cases h
  | cons q hs ih =>
    obtain ⟨a, b, t, ix⟩ := q
    unfold mm_hs at h
    rcases mm_cond2_inv h with ⟨-, h⟩ | ⟨-, h⟩
    · split at h
      · rcases mm_cond2_inv h with ⟨-, h⟩ | ⟨-, h⟩
        · split at h
          · cases h; rfl
          · cases h; rfl
          · cases h
        · exact ih h
      · cases h
    · exact ih h
theorem mm_back_mo {rest : List Value} {o : Option mm_O} (ho : ∀ q, o = some q → mm_mo ck S q.2) (h : mm_back me pc L rest o = some r0) : mm_mo ck S (mm_rS r0) := by
  unfold mm_back at h
  split at h
  next => cases h
  next v S' => cases h; exact ho _ rfl
  next E S' =>
    split at h
    · cases h; exact ho _ rfl
    · obtain ⟨-, h⟩ := mm_cond_inv h
      rw [mm_hs_mo _ h]; exact ho _ rfl
theorem mm_getf_mo {c k : Nat} (h : mm_getf ck pc L st S c k = some r0) : mm_rS r0 = S := by
  unfold mm_getf at h
  split at h
  · split at h
    · obtain ⟨-, h⟩ := mm_cond_inv h
      split at h
      · cases h; rfl
      · cases h
    · cases h
  · cases h
theorem mm_putv_mo {a k kd : Nat} {v : Value} {r : List Value} (h : mm_putv pc L r S a k v kd = some r0) : mm_mo ck S (mm_rS r0) := by
  unfold mm_putv at h
  split at h
  · split at h
    · cases h; exact (mm_mo.rf : mm_mo ck S S)
    · cases h
  · split at h
    · cases h; exact (mm_mo.rf : mm_mo ck S S)
    · cases h
  · split at h
    · cases h; exact (mm_mo.rf : mm_mo ck S S)
    · cases h; exact (mm_mo.rf : mm_mo ck S S)
    · cases h
  · split at h
    · cases h; exact (mm_mo.rf : mm_mo ck S S)
    · cases h
  · split at h
    · split at h
      · cases h; exact (mm_mo.rf : mm_mo ck S S)
      · cases h
    · cases h
  · cases h
theorem mm_putf_mo {c k : Nat} (h : mm_putf ck pc L st S c k = some r0) : mm_mo ck S (mm_rS r0) := by
  unfold mm_putf at h
  split at h
  · split at h
    · obtain ⟨-, h⟩ := mm_cond_inv h
      split at h
      · exact mm_putv_mo h
      · cases h
    · cases h
  · cases h
theorem mm_inv_mo {j n ci : Nat} (hc : ∀ j as S o, call j as S = some o → mm_mo ck S o.2) (h : mm_inv call me pc L st S j n ci = some r0) : mm_mo ck S (mm_rS r0) := by
  obtain ⟨as, a, rest, -, -, -, -, h⟩ := mm_inv_inv h
  exact mm_back_mo (fun q hq => hc _ _ _ _ hq) h
theorem mm_invS_mo {j n : Nat} (hc : ∀ j as S o, call j as S = some o → mm_mo ck S o.2) (h : mm_invS call me pc L st S j n = some r0) : mm_mo ck S (mm_rS r0) := by
  obtain ⟨as, rest, -, -, -, h⟩ := mm_invS_inv h
  exact mm_back_mo (fun q hq => hc _ _ _ _ hq) h
set_option maxHeartbeats 4000000 in
theorem mm_do_mo (hc : ∀ j as S o, call j as S = some o → mm_mo ck S o.2) (i : Instr) (h : mm_do call xs Ls ck ak me pc L st S i = some r0) : mm_mo ck S (mm_rS r0) := by
  by_cases hp : mm_isP i = true
  · obtain ⟨z', rfl, hz⟩ := mm_pure_S i hp h
    show mm_mo ck S z'.2.2.2
    rw [hz]
    exact mm_mo.rf
  · cases i with
    | ldc ix =>
      obtain ⟨k, -, h⟩ := mm_lk_inv h
      obtain ⟨-, h⟩ := mm_cond_inv h
      cases h
      exact mm_mo.rf
    | ldc2_w ix =>
      obtain ⟨k, -, h⟩ := mm_lk_inv h
      rcases mm_cond2_inv h with ⟨-, h⟩ | ⟨-, h⟩
      · cases h; exact mm_mo.rf
      · obtain ⟨-, h⟩ := mm_cond_inv h
        cases h
        exact mm_mo.rf
    | getfield ix =>
      obtain ⟨k, -, h⟩ := mm_lk_inv h
      obtain ⟨-, h⟩ := mm_cond_inv h
      rw [mm_getf_mo h]
      exact mm_mo.rf
    | putfield ix =>
      obtain ⟨k, -, h⟩ := mm_lk_inv h
      obtain ⟨-, h⟩ := mm_cond_inv h
      exact mm_putf_mo h
    | arraylength =>
      obtain ⟨v, r, rfl, h⟩ := mm_1_inv h
      cases v with
      | retAddr w => cases h; exact mm_mo.rf
      | ref a =>
        have h : (match S.1[a]? with
          | some (.inr (_, n)) => mm_go (pc + 1) L (.int (Int32.ofNat n) :: r) S
          | _ => none) = some r0 := h
        split at h
        · cases h; exact mm_mo.rf
        · cases h
      | _ => cases h
    | iaload =>
      have h : mm_ial xs Ls ak pc L S st = some r0 := h
      unfold mm_ial at h
      split at h
      · obtain ⟨-, h⟩ := mm_ix_inv h
        cases h
        exact mm_mo.rf
      · obtain ⟨i, a, r, t, n, -, -, -, -, h⟩ := mm_ai_inv h
        cases h
        exact mm_mo.rf
    | caload => obtain ⟨i, a, r, t, n, -, -, -, -, h⟩ := mm_ai_inv h; cases h; exact mm_mo.rf
    | baload => obtain ⟨i, a, r, t, n, -, -, -, -, h⟩ := mm_ai_inv h; cases h; exact mm_mo.rf
    | daload => obtain ⟨i, a, r, t, n, -, -, -, -, h⟩ := mm_ai_inv h; cases h; exact mm_mo.rf
    | laload => obtain ⟨i, a, r, t, n, -, -, -, -, h⟩ := mm_ai_inv h; cases h; exact mm_mo.rf
    | aaload => obtain ⟨i, a, r, t, n, -, -, -, -, h⟩ := mm_ai_inv h; cases h; exact mm_mo.rf
    | iastore => obtain ⟨x, st, -, h⟩ := mm_i_inv h; obtain ⟨i, a, r, t, n, -, -, -, -, h⟩ := mm_ai_inv h; cases h; exact (mm_mo.rf : mm_mo ck S S)
    | castore => obtain ⟨x, st, -, h⟩ := mm_i_inv h; obtain ⟨i, a, r, t, n, -, -, -, -, h⟩ := mm_ai_inv h; cases h; exact (mm_mo.rf : mm_mo ck S S)
    | bastore => obtain ⟨x, st, -, h⟩ := mm_i_inv h; obtain ⟨i, a, r, t, n, -, -, -, -, h⟩ := mm_ai_inv h; cases h; exact (mm_mo.rf : mm_mo ck S S)
    | dastore => obtain ⟨x, st, -, h⟩ := mm_d_inv h; obtain ⟨i, a, r, t, n, -, -, -, -, h⟩ := mm_ai_inv h; cases h; exact (mm_mo.rf : mm_mo ck S S)
    | lastore => obtain ⟨x, st, -, h⟩ := mm_j_inv h; obtain ⟨i, a, r, t, n, -, -, -, -, h⟩ := mm_ai_inv h; cases h; exact (mm_mo.rf : mm_mo ck S S)
    | aastore => obtain ⟨x, i, a, r, ci, n, -, -, -, -, h, -⟩ := mm_aas_inv h; cases h; exact (mm_mo.rf : mm_mo ck S S)
    | new ix =>
      obtain ⟨k, -, h⟩ := mm_lk_inv h
      rcases mm_cond2_inv h with ⟨-, h⟩ | ⟨-, h⟩
      · obtain ⟨-, h⟩ := mm_al_inv h
        cases h
        exact mm_new_mo S _
      · obtain ⟨-, h⟩ := mm_cond_inv h
        split at h
        · cases h
          exact ⟨by show S.1.length + S.2.2 ≤ S.1.length + (S.2.2 + 1); omega, by show mm_sz ck S.1 + 6 * S.2.2 ≤ mm_sz ck S.1 + 6 * (S.2.2 + 1); omega, by show S.2.2 ≤ S.2.2 + 1; omega⟩
        · cases h
    | newarray t =>
      obtain ⟨n, r, rfl, h⟩ := mm_i_inv h
      obtain ⟨-, h⟩ := mm_al_inv h
      split at h
      · cases h
      · split at h <;> first | (cases h; exact mm_new_mo S _) | (cases h)
    | anewarray ix =>
      obtain ⟨n, r, rfl, h⟩ := mm_i_inv h
      obtain ⟨k, -, h⟩ := mm_lk_inv h
      obtain ⟨-, h⟩ := mm_cond_inv h
      obtain ⟨-, h⟩ := mm_al_inv h
      split at h
      · cases h
      · cases h; exact mm_new_mo S _
    | invokevirtual ix =>
      obtain ⟨k, -, h⟩ := mm_lk_inv h
      obtain ⟨-, h⟩ := mm_cond_inv h
      exact mm_inv_mo hc h
    | invokespecial ix =>
      obtain ⟨k, -, h⟩ := mm_lk_inv h
      rcases mm_cond2_inv h with ⟨-, h⟩ | ⟨-, h⟩
      · exact mm_inv_mo hc (mm_noT_inv h).1
      · obtain ⟨-, h⟩ := mm_cond_inv h
        obtain ⟨a, r, rfl, h⟩ := mm_r_inv h
        obtain ⟨-, h⟩ := mm_cond_inv h
        cases h
        exact mm_mo.rf
    | invokestatic ix =>
      obtain ⟨k, -, h⟩ := mm_lk_inv h
      rcases mm_cond2_inv h with ⟨-, h⟩ | ⟨-, h⟩
      · exact mm_invS_mo hc h
      · obtain ⟨-, h⟩ := mm_cond_inv h
        exact mm_invS_mo hc (mm_noT_inv h).1
    | ireturn =>
      have h : mm_rI me S st = some r0 := h
      unfold mm_rI at h
      split at h
      · split at h
        · cases h; exact mm_mo.rf
        · split at h
          · cases h; exact mm_mo.rf
          · cases h
        · split at h
          · cases h; exact mm_mo.rf
          · cases h
      · cases h
    | lreturn =>
      have h : mm_rJ S st = some r0 := h
      unfold mm_rJ at h
      split at h
      · cases h; exact mm_mo.rf
      · cases h
    | dreturn =>
      have h : mm_rD S st = some r0 := h
      unfold mm_rD at h
      split at h
      · cases h; exact mm_mo.rf
      · cases h
    | areturn =>
      have h : mm_rA S st = some r0 := h
      unfold mm_rA at h
      split at h
      · cases h; exact mm_mo.rf
      · cases h; exact mm_mo.rf
      · cases h
    | return_ =>
      have h : mm_rV S st = some r0 := h
      unfold mm_rV at h
      split at h
      · cases h; exact mm_mo.rf
      · cases h
    | _ => first | (exact absurd rfl hp) | (cases h)
end MO
end
section
/-! ONE STEP, FOR METHODS WITHOUT HANDLERS -/
/-- an instruction's links are as the tables have them -/
def mm_IOK (cl : List vw_C) (ak : Nat → FieldType) (TT : List Cond) (strs : List (String × Nat × String)) (ex : Nat → String) (yj : Nat → MethodName) (cw : Nat → Cond) (y : MethodName) (bytes : ByteArray) (ret : Option FieldType) (me : mm_Me) (pc : Nat) (i : Instr) : Prop := match i with
  | .ldc ix => ∀ k, me.lk ix = some k → k.1 = 6 → Cond.constant y.cls ix (Int32.ofNat k.2.1) ∈ TT
  | .ldc2_w ix => ∀ k, me.lk ix = some k → (k.1 = 7 → Cond.constantLong y.cls ix (Int64.ofNat k.2.1) ∈ TT) ∧ (k.1 = 8 → Cond.constantDouble y.cls ix (UInt64.ofNat k.2.1) ∈ TT)
  | .getfield ix => ∀ k, me.lk ix = some k → k.1 = 0 → ∃ C T N, mm_FL cl TT y.cls ix k.2.1 k.2.2.1 C T N
  | .putfield ix => ∀ k, me.lk ix = some k → k.1 = 0 → ∃ C T N, mm_FL cl TT y.cls ix k.2.1 k.2.2.1 C T N ∧ ((T k.2.2.1).2.2.2 = false ∨ (y.name = "<init>" ∧ (T k.2.2.1).1 = y.cls))
  | .new ix => ∀ k, me.lk ix = some k → (k.1 = 4 → ∃ C T N, cl[k.2.1]? = some (C, T, N) ∧ Cond.classLink y.cls ix C ∈ TT ∧ Cond.instantiable C N ∈ TT ∧ Cond.initialized C ∈ TT) ∧ (k.1 = 5 → ∃ is ic text names, mm_TH TT strs bytes y.cls (ex k.2.1) pc ix is ic text names)
  | .newarray t => Cond.arrayClass (newarray.typeOf t) ∈ TT
  | .anewarray ix => ∀ k, me.lk ix = some k → k.1 = 4 → ∃ C, ak (10 + k.2.1) = .object C ∧ Cond.classLink y.cls ix C ∈ TT ∧ Cond.arrayOver (.object C) ∈ TT
  | .invokevirtual ix => ∀ k, me.lk ix = some k → k.1 = 1 → ∃ bt mL rt, cw k.2.1 = .code (yj k.2.1) bt mL rt ∧ mm_CE TT (yj k.2.1) bt mL k.2.2.1 rt ∧ mm_ML TT cl y.cls ix k.2.2.2 (yj k.2.1)
  | .invokespecial ix => ∀ k, me.lk ix = some k → (k.1 = 10 → ∃ bt mL, cw k.2.1 = .code (yj k.2.1) bt mL none ∧ mm_CE TT (yj k.2.1) bt mL k.2.2.1 none ∧ Cond.methodLink y.cls ix (yj k.2.1) ∈ TT ∧ Cond.instanceMethod (yj k.2.1) ∈ TT ∧ (yj k.2.1).name = "<init>") ∧ (k.1 = 3 → Cond.methodLink y.cls ix Lib.objectInit ∈ TT ∧ Cond.instanceMethod Lib.objectInit ∈ TT ∧ Cond.code Lib.objectInit ⟨#[0xb1]⟩ 1 none ∈ TT)
  | .invokestatic ix => ∀ k, me.lk ix = some k → (k.1 = 2 → ∃ bt mL rt, cw k.2.1 = .code (yj k.2.1) bt mL rt ∧ mm_CE TT (yj k.2.1) bt mL k.2.2.1 rt ∧ Cond.methodLink y.cls ix (yj k.2.1) ∈ TT ∧ Cond.static (yj k.2.1) ∈ TT) ∧ (k.1 = 14 → ∃ bt mL rt hh, cw k.2.1 = .codeWith (yj k.2.1) bt mL rt hh ∧ mm_CEW TT (yj k.2.1) bt mL k.2.2.1 rt hh ∧ Cond.methodLink y.cls ix (yj k.2.1) ∈ TT ∧ Cond.static (yj k.2.1) ∈ TT)
  | .ireturn => ret = some (match me.rk with
    | 0 => .int
    | 1 => .char
    | _ => .boolean)
  | .lreturn => ret = some .long
  | .dreturn => ret = some .double
  | .areturn => ∃ rt, ret = some rt ∧ ((∃ n, rt = .object n) ∨ ∃ t, rt = .array t)
  | .return_ => ret = none
  | _ => True
/-- a method's code -/
def mm_MOK (cl : List vw_C) (ak : Nat → FieldType) (TT : List Cond) (strs : List (String × Nat × String)) (ex : Nat → String) (yj : Nat → MethodName) (cw : Nat → Cond) (y : MethodName) (bytes : ByteArray) (ret : Option FieldType) (me : mm_Me) : Prop :=
  ∀ pc i n, me.dec[pc]? = some (some (i, n)) → decode bytes pc = .ok (i, n) ∧ (mm_len i ≠ 0 → n = mm_len i) ∧ (∀ o ∈ mm_offs i, 0 ≤ (pc : Int) + o) ∧ mm_sti i ≤ me.nL ∧ mm_swok i = true ∧ mm_IOK cl ak TT strs ex yj cw y bytes ret me pc i
section STEP
variable {p : Program} {l : Launch} {e : Env} {R : Room} {s : State} {m : MethodId} {args : Array Value} {below : List Frame} {meth : Method} {c : Code} {Q : State → Prop} {H : Heap} {locs : List Loc} {cells slots : Nat} {ls : Array Slot}
variable {D : va_G} {cl : List vw_C} {tys : List (ClassId × FieldType)} {ck : Nat → List Nat} {ct : Nat → Nat → FieldType} {ak : Nat → FieldType} {dA : Nat → ClassId} {B b Ls pc : Nat} {xs : Nat → Int32} {TT : List Cond} {strs : List (String × Nat × String)} {nc : List (String × String)} {me : mm_Me} {L : mm_L} {st : List Value} {S S0 : mm_St} {z' : mm_Z} {ex : Nat → String} {mc ms : Nat}
variable {call : Nat → List Value → mm_St → Option mm_O} {yj : Nat → MethodName} {cw : Nat → Cond} {d : Nat} {y : MethodName} {bytes : ByteArray} {ret : Option FieldType}
/-- the tables and the start, as every frame has them -/
def mm_TB (cl : List vw_C) (ck : Nat → List Nat) (ct : Nat → Nat → FieldType) (ak : Nat → FieldType) (TT : List Cond) : Prop :=
  mm_CK cl ck ct TT ∧ mm_AO cl ak ∧ (∀ w ∈ TT, mm_wd w = true) ∧ ak 0 = .int ∧ ak 1 = .char ∧ ak 2 = .double ∧ ak 3 = .long ∧ ak 4 = .boolean
/-- a frame of method y -/
def mm_FR (p : Program) (l : Launch) (R : Room) (s : State) (m : MethodId) (args : Array Value) (meth : Method) (c : Code) (D : va_G) (cl : List vw_C) (tys : List (ClassId × FieldType)) (ak : Nat → FieldType) (dA : Nat → ClassId) (TT : List Cond) (strs : List (String × Nat × String)) (nc : List (String × String)) (B b Ls : Nat) (xs : Nat → Int32) (S0 : mm_St) (d : Nat) (y : MethodName) (bytes : ByteArray) (ret : Option FieldType) (nL : Nat) : Prop :=
  CallFix p m c bytes nL s args TT y.cls ∧ va_K D cl tys s ∧ mm_AT tys ak dA ∧ mm_Env D cl tys TT strs nc B b Ls xs s ∧ B ≤ s.heap.size ∧ (S0.2.2 = 0 → s.heap.size = B + S0.1.length) ∧ meth.sig.returnType = ret ∧ meth.locks = false ∧ meth.name = y.name ∧ (∀ x ∈ c.exceptionTable.toList, False) ∧ l.stackTraces = false ∧ d + 9 ≤ R.frames ∧ 40 * d + 240 ≤ R.locals ∧ R.slots ≤ 60000000
set_option maxHeartbeats 4000000 in
set_option maxRecDepth 100000 in
theorem mm_stepJ (hTB : mm_TB cl ck ct ak TT) (hM : mm_MOK cl ak TT strs ex yj cw y bytes ret me) (hF : mm_FR p l R s m args meth c D cl tys ak dA TT strs nc B b Ls xs S0 d y bytes ret me.nL) (hCt : mm_Ct l D cl tys TT strs nc B b Ls xs ck ak dA ex yj cw d call) (hh : me.hs = []) (hRc : mm_co z'.2.2.2 ≤ mm_co S0 + R.cells) (hRs : mm_sl ck z'.2.2.2 ≤ mm_sl ck S0 + R.slots)
    (h : mm_step call xs Ls ck ak me (pc, L, st, S) = some (.inl z')) (kJ : mm_J p l e R s m args below meth c Q B b me.nL (mm_Rz D cl ck ak dA B b s.heap S0) z') : mm_J p l e R s m args below meth c Q B b me.nL (mm_Rz D cl ck ak dA B b s.heap S0) (pc, L, st, S) := by
  obtain ⟨hCK, hO, hTT, a0, a1, a2, a3, a4⟩ := hTB
  obtain ⟨X, hK, hT, hE, hB, hex, hret, hlocks, hname, hexc, hl, hRf, hRl, hRb⟩ := hF
  have hX := X
  obtain ⟨hx, hb, hml, hown, hts⟩ := X
  unfold mm_step at h
  split at h
  next i hdec =>
    obtain ⟨i, n⟩ := i
    obtain ⟨hd0, hd1, ht, hsti, hsw, hI⟩ := hM pc i n hdec
    have hd : mm_len i ≠ 0 → decode bytes pc = .ok (i, mm_len i) := fun q => by rw [← hd1 q]; exact hd0
    have h : mm_do call xs Ls ck ak me pc L st S i = some (.inl z') := h
    by_cases hp : mm_isP i = true
    · exact mm_pure hx hb i ⟨n, hd0⟩ hd ht hsti hsw hp h kJ
    · cases i with
      | ldc ix =>
        obtain ⟨k, hk, h⟩ := mm_lk_inv h
        obtain ⟨hq, h⟩ := mm_cond_inv h
        cases h
        exact mm_k_ldc hX (hI k hk (Nat.eq_of_beq_eq_true hq)) (hd (by simp [mm_len])) kJ
      | ldc2_w ix =>
        obtain ⟨k, hk, h⟩ := mm_lk_inv h
        rcases mm_cond2_inv h with ⟨hq, h⟩ | ⟨-, h⟩
        · cases h
          exact mm_k_ldc2 hX ((hI k hk).1 (Nat.eq_of_beq_eq_true hq)) (hd (by simp [mm_len])) kJ
        · obtain ⟨hq, h⟩ := mm_cond_inv h
          cases h
          exact mm_k_ldc2d hX ((hI k hk).2 (Nat.eq_of_beq_eq_true hq)) (hd (by simp [mm_len])) kJ
      | getfield ix =>
        obtain ⟨k, hk, h⟩ := mm_lk_inv h
        obtain ⟨hq, h⟩ := mm_cond_inv h
        obtain ⟨C, T, N, hFL⟩ := hI k hk (Nat.eq_of_beq_eq_true hq)
        exact mm_k_getf hX hK hCK hFL (hd (by simp [mm_len])) h kJ
      | putfield ix =>
        obtain ⟨k, hk, h⟩ := mm_lk_inv h
        obtain ⟨hq, h⟩ := mm_cond_inv h
        obtain ⟨C, T, N, hFL, hfin⟩ := hI k hk (Nat.eq_of_beq_eq_true hq)
        exact mm_k_putf hX hK hCK hFL (hfin.elim Or.inl (fun q => Or.inr ⟨by rw [hname]; exact q.1, q.2⟩)) (hd (by simp [mm_len])) h kJ
      | arraylength => exact mm_k_alen hX hK hT hE (hd (by simp [mm_len])) h kJ
      | iaload => exact mm_k_iald0 hX hK hT hE (hd (by simp [mm_len])) h kJ
      | caload => exact mm_k_cald hX hK hT (hd (by simp [mm_len])) h kJ
      | baload => exact mm_k_zald hX hK hT (hd (by simp [mm_len])) h kJ
      | daload => exact mm_k_dald hX hK hT (hd (by simp [mm_len])) h kJ
      | laload => exact mm_k_lald hX hK hT (hd (by simp [mm_len])) h kJ
      | aaload => exact mm_k_aald hX hK hT (hd (by simp [mm_len])) h kJ
      | iastore => exact mm_k_iast hX hK hT (hd (by simp [mm_len])) h kJ
      | castore => exact mm_k_cast hX hK hT (hd (by simp [mm_len])) h kJ
      | bastore => exact mm_k_zast hX hK hT (hd (by simp [mm_len])) h kJ
      | dastore => exact mm_k_dast hX hK hT (hd (by simp [mm_len])) h kJ
      | lastore => exact mm_k_last hX hK hT (hd (by simp [mm_len])) h kJ
      | aastore => exact mm_k_aast hX hK hT hO (hd (by simp [mm_len])) h kJ
      | new ix =>
        obtain ⟨k, hk, h⟩ := mm_lk_inv h
        rcases mm_cond2_inv h with ⟨hq, h⟩ | ⟨-, h⟩
        · obtain ⟨C, T, N, hc1, w1, w2, w3⟩ := (hI k hk).1 (Nat.eq_of_beq_eq_true hq)
          obtain ⟨h0, h⟩ := mm_al_inv h
          cases h
          exact mm_k_new hX hK hCK hc1 w1 w2 w3 (hd (by simp [mm_len])) hB hex h0 hRc hRs kJ
        · obtain ⟨-, h⟩ := mm_cond_inv h
          rw [hh] at h
          cases h
      | newarray t =>
        obtain ⟨n9, r, rfl, h⟩ := mm_i_inv h
        obtain ⟨h0, h⟩ := mm_al_inv h
        by_cases hn : n9 < 0
        · have h : (if n9 < 0 then none else match t with
            | .int => mm_go (pc + 2) L (.ref S.1.length :: r) (mm_new S (.inr (0, n9.toNatClampNeg)))
            | .char => mm_go (pc + 2) L (.ref S.1.length :: r) (mm_new S (.inr (1, n9.toNatClampNeg)))
            | .double => mm_go (pc + 2) L (.ref S.1.length :: r) (mm_new S (.inr (2, n9.toNatClampNeg)))
            | .long => mm_go (pc + 2) L (.ref S.1.length :: r) (mm_new S (.inr (3, n9.toNatClampNeg)))
            | .boolean => mm_go (pc + 2) L (.ref S.1.length :: r) (mm_new S (.inr (4, n9.toNatClampNeg)))
            | _ => none) = some (.inl z') := h
          rw [if_pos hn] at h
          cases h
        · have h : (if n9 < 0 then none else match t with
            | .int => mm_go (pc + 2) L (.ref S.1.length :: r) (mm_new S (.inr (0, n9.toNatClampNeg)))
            | .char => mm_go (pc + 2) L (.ref S.1.length :: r) (mm_new S (.inr (1, n9.toNatClampNeg)))
            | .double => mm_go (pc + 2) L (.ref S.1.length :: r) (mm_new S (.inr (2, n9.toNatClampNeg)))
            | .long => mm_go (pc + 2) L (.ref S.1.length :: r) (mm_new S (.inr (3, n9.toNatClampNeg)))
            | .boolean => mm_go (pc + 2) L (.ref S.1.length :: r) (mm_new S (.inr (4, n9.toNatClampNeg)))
            | _ => none) = some (.inl z') := h
          rw [if_neg hn] at h
          cases t with
          | int => cases h; exact mm_k_newa (atype := .int) (t := 0) hX hK hT a0.symm (by rw [a0]; decide) (by rw [a0]; decide) hI (hd (by simp [mm_len])) hB hex h0 hn hRb hRc hRs kJ
          | char => cases h; exact mm_k_newa (atype := .char) (t := 1) hX hK hT a1.symm (by rw [a1]; decide) (by rw [a1]; decide) hI (hd (by simp [mm_len])) hB hex h0 hn hRb hRc hRs kJ
          | double => cases h; exact mm_k_newa (atype := .double) (t := 2) hX hK hT a2.symm (by rw [a2]; decide) (by rw [a2]; decide) hI (hd (by simp [mm_len])) hB hex h0 hn hRb hRc hRs kJ
          | long => cases h; exact mm_k_newa (atype := .long) (t := 3) hX hK hT a3.symm (by rw [a3]; decide) (by rw [a3]; decide) hI (hd (by simp [mm_len])) hB hex h0 hn hRb hRc hRs kJ
          | boolean => cases h; exact mm_k_newa (atype := .boolean) (t := 4) hX hK hT a4.symm (by rw [a4]; decide) (by rw [a4]; decide) hI (hd (by simp [mm_len])) hB hex h0 hn hRb hRc hRs kJ
          | _ => cases h
      | anewarray ix =>
        obtain ⟨n9, r, rfl, h⟩ := mm_i_inv h
        obtain ⟨k, hk, h⟩ := mm_lk_inv h
        obtain ⟨hq, h⟩ := mm_cond_inv h
        obtain ⟨C, hC, w1, w2⟩ := hI k hk (Nat.eq_of_beq_eq_true hq)
        obtain ⟨h0, h⟩ := mm_al_inv h
        have h : (if n9 < 0 then none else mm_go (pc + 3) L (.ref S.1.length :: r) (mm_new S (.inr (10 + k.2.1, n9.toNatClampNeg)))) = some (.inl z') := h
        by_cases hn : n9 < 0
        · rw [if_pos hn] at h; cases h
        · rw [if_neg hn] at h
          cases h
          exact mm_k_newq hX hK hT hC w1 (va_AO.of (hts _ w2)) (hd (by simp [mm_len])) hB hex h0 hn hRb hRc hRs kJ
      | invokevirtual ix =>
        obtain ⟨k, hk, h⟩ := mm_lk_inv h
        obtain ⟨hq, h⟩ := mm_cond_inv h
        obtain ⟨bt, mL, rt, e1, e2, e3⟩ := hI k hk (Nat.eq_of_beq_eq_true hq)
        exact mm_k_inv hX hK hTT hE hB hex hCt rfl e1 e2 e3 hRb hRf hRl hRc hRs (hd (by simp [mm_len])) hh h kJ
      | invokespecial ix =>
        obtain ⟨k, hk, h⟩ := mm_lk_inv h
        rcases mm_cond2_inv h with ⟨hq, h⟩ | ⟨-, h⟩
        · obtain ⟨bt, mL, e1, e2, e3, e4, e5⟩ := (hI k hk).1 (Nat.eq_of_beq_eq_true hq)
          exact mm_k_invI hX hK hTT hE hB hex hCt rfl e1 e2 ⟨e3, e4, e5⟩ hRb hRf hRl hRc hRs (hd (by simp [mm_len])) hh (mm_noT_inv h).1 kJ
        · obtain ⟨hq, h⟩ := mm_cond_inv h
          obtain ⟨e1, e2, e3⟩ := (hI k hk).2 (Nat.eq_of_beq_eq_true hq)
          obtain ⟨a, r, rfl, h⟩ := mm_r_inv h
          obtain ⟨hw, h⟩ := mm_cond_inv h
          cases h
          exact mm_k_obj hX e1 e2 e3 (by omega) (by omega) (Nat.le_of_ble_eq_true hw) (hd (by simp [mm_len])) kJ
      | invokestatic ix =>
        obtain ⟨k, hk, h⟩ := mm_lk_inv h
        rcases mm_cond2_inv h with ⟨hq, h⟩ | ⟨-, h⟩
        · obtain ⟨bt, mL, rt, e1, e2, e3, e4⟩ := (hI k hk).1 (Nat.eq_of_beq_eq_true hq)
          exact mm_k_invS hX hK hTT hE hB hex hCt rfl e1 e2 ⟨e3, e4⟩ hRb hRf hRl hRc hRs (hd (by simp [mm_len])) hh h kJ
        · obtain ⟨hq, h⟩ := mm_cond_inv h
          obtain ⟨bt, mL, rt, hh9, e1, e2, e3, e4⟩ := (hI k hk).2 (Nat.eq_of_beq_eq_true hq)
          exact mm_k_invSW hX hK hTT hE hB hex hCt rfl e1 e2 ⟨e3, e4⟩ hRb hRf hRl hRc hRs (hd (by simp [mm_len])) hh (mm_noT_inv h).1 kJ
      | ireturn =>
        have h : mm_rI me S st = some (.inl z') := h
        unfold mm_rI at h
        split at h
        · split at h
          · cases h
          · split at h
            · cases h
            · cases h
          · split at h
            · cases h
            · cases h
        · cases h
      | lreturn =>
        have h : mm_rJ S st = some (.inl z') := h
        unfold mm_rJ at h
        split at h <;> cases h
      | dreturn =>
        have h : mm_rD S st = some (.inl z') := h
        unfold mm_rD at h
        split at h <;> cases h
      | areturn =>
        have h : mm_rA S st = some (.inl z') := h
        unfold mm_rA at h
        split at h <;> cases h
      | return_ =>
        have h : mm_rV S st = some (.inl z') := h
        unfold mm_rV at h
        split at h <;> cases h
      | _ => first | (exact absurd rfl hp) | (cases h)
  next => cases h
end STEP
end
section
section SIMU
variable {p : Program} {l : Launch} {e : Env} {R : Room} {s : State} {m : MethodId} {args : Array Value} {below : List Frame} {meth : Method} {c : Code} {Q : State → Prop} {H : Heap} {locs : List Loc} {cells slots : Nat} {ls : Array Slot}
variable {D : va_G} {cl : List vw_C} {tys : List (ClassId × FieldType)} {ck : Nat → List Nat} {ct : Nat → Nat → FieldType} {ak : Nat → FieldType} {dA : Nat → ClassId} {B b Ls pc : Nat} {xs : Nat → Int32} {TT : List Cond} {strs : List (String × Nat × String)} {nc : List (String × String)} {me : mm_Me} {L : mm_L} {st : List Value} {S S0 : mm_St} {z' : mm_Z} {ex : Nat → String} {mc ms : Nat}
variable {call : Nat → List Value → mm_St → Option mm_O} {yj : Nat → MethodName} {cw : Nat → Cond} {d : Nat} {y : MethodName} {bytes : ByteArray} {ret : Option FieldType}
set_option maxHeartbeats 4000000 in
set_option maxRecDepth 100000 in
theorem mm_stepE {o : mm_O} (hTB : mm_TB cl ck ct ak TT) (hM : mm_MOK cl ak TT strs ex yj cw y bytes ret me) (hF : mm_FR p l R s m args meth c D cl tys ak dA TT strs nc B b Ls xs S0 d y bytes ret me.nL) (hCt : mm_Ct l D cl tys TT strs nc B b Ls xs ck ak dA ex yj cw d call) (hh : me.hs = []) (hRc : mc ≤ R.cells) (hRs : ms ≤ R.slots) (hmc : mm_co S0 + mc = mm_co o.2) (hms : mm_sl ck S0 + ms = mm_sl ck o.2)
    (h : mm_step call xs Ls ck ak me (pc, L, st, S) = some (.inr o)) : mm_J p l e R s m args below meth c (mm_E below args s D cl B b ck ak dA ex o mc ms) B b me.nL (mm_Rz D cl ck ak dA B b s.heap S0) (pc, L, st, S) := by
  obtain ⟨hCK, hO, hTT, a0, a1, a2, a3, a4⟩ := hTB
  obtain ⟨X, hK, hT, hE, hB, hex, hret, hlocks, hname, hexc, hl, hRf, hRl, hRb⟩ := hF
  have hX := X
  obtain ⟨hx, hb, hml, hown, hts⟩ := X
  unfold mm_step at h
  split at h
  next i hdec =>
    obtain ⟨i, n⟩ := i
    obtain ⟨hd0, hd1, ht, hsti, hsw, hI⟩ := hM pc i n hdec
    have hd : mm_len i ≠ 0 → decode bytes pc = .ok (i, mm_len i) := fun q => by rw [← hd1 q]; exact hd0
    have h : mm_do call xs Ls ck ak me pc L st S i = some (.inr o) := h
    by_cases hp : mm_isP i = true
    · obtain ⟨z9, hz9, -⟩ := mm_pure_S i hp h
      cases hz9
    · cases i with
      | ldc ix =>
        obtain ⟨k, hk, h⟩ := mm_lk_inv h
        obtain ⟨hq, h⟩ := mm_cond_inv h
        cases h
      | ldc2_w ix =>
        obtain ⟨k, hk, h⟩ := mm_lk_inv h
        rcases mm_cond2_inv h with ⟨hq, h⟩ | ⟨-, h⟩
        · cases h
        · obtain ⟨hq, h⟩ := mm_cond_inv h
          cases h
      | getfield ix =>
        obtain ⟨k, hk, h⟩ := mm_lk_inv h
        obtain ⟨hq, h⟩ := mm_cond_inv h
        unfold mm_getf at h
        split at h
        · split at h
          · obtain ⟨-, h⟩ := mm_cond_inv h
            split at h <;> cases h
          · cases h
        · cases h
      | putfield ix =>
        obtain ⟨k, hk, h⟩ := mm_lk_inv h
        obtain ⟨hq, h⟩ := mm_cond_inv h
        unfold mm_putf at h
        split at h
        · split at h
          · obtain ⟨-, h⟩ := mm_cond_inv h
            split at h
            · unfold mm_putv at h
              split at h
              · split at h <;> cases h
              · split at h <;> cases h
              · split at h <;> cases h
              · split at h <;> cases h
              · split at h
                · split at h <;> cases h
                · cases h
              · cases h
            · cases h
          · cases h
        · cases h
      | arraylength =>
        obtain ⟨v, r, rfl, h⟩ := mm_1_inv h
        cases v with
        | retAddr w => cases h
        | ref a =>
          have h : (match S.1[a]? with
            | some (.inr (_, n)) => mm_go (pc + 1) L (.int (Int32.ofNat n) :: r) S
            | _ => none) = some (.inr o) := h
          split at h <;> cases h
        | _ => cases h
      | iaload =>
        have h : mm_ial xs Ls ak pc L S st = some (.inr o) := h
        unfold mm_ial at h
        split at h
        · obtain ⟨-, h⟩ := mm_ix_inv h
          cases h
        · obtain ⟨i, a, r, t, n, -, -, -, -, h⟩ := mm_ai_inv h
          cases h
      | caload => obtain ⟨i, a, r, t, n, -, -, -, -, h⟩ := mm_ai_inv h; cases h
      | baload => obtain ⟨i, a, r, t, n, -, -, -, -, h⟩ := mm_ai_inv h; cases h
      | daload => obtain ⟨i, a, r, t, n, -, -, -, -, h⟩ := mm_ai_inv h; cases h
      | laload => obtain ⟨i, a, r, t, n, -, -, -, -, h⟩ := mm_ai_inv h; cases h
      | aaload => obtain ⟨i, a, r, t, n, -, -, -, -, h⟩ := mm_ai_inv h; cases h
      | iastore => obtain ⟨x, st, -, h⟩ := mm_i_inv h; obtain ⟨i, a, r, t, n, -, -, -, -, h⟩ := mm_ai_inv h; cases h
      | castore => obtain ⟨x, st, -, h⟩ := mm_i_inv h; obtain ⟨i, a, r, t, n, -, -, -, -, h⟩ := mm_ai_inv h; cases h
      | bastore => obtain ⟨x, st, -, h⟩ := mm_i_inv h; obtain ⟨i, a, r, t, n, -, -, -, -, h⟩ := mm_ai_inv h; cases h
      | dastore => obtain ⟨x, st, -, h⟩ := mm_d_inv h; obtain ⟨i, a, r, t, n, -, -, -, -, h⟩ := mm_ai_inv h; cases h
      | lastore => obtain ⟨x, st, -, h⟩ := mm_j_inv h; obtain ⟨i, a, r, t, n, -, -, -, -, h⟩ := mm_ai_inv h; cases h
      | aastore => obtain ⟨x, i, a, r, ci, n, -, -, -, -, h, -⟩ := mm_aas_inv h; cases h
      | new ix =>
        obtain ⟨k, hk, h⟩ := mm_lk_inv h
        rcases mm_cond2_inv h with ⟨hq, h⟩ | ⟨-, h⟩
        · obtain ⟨h0, h⟩ := mm_al_inv h
          cases h
        · obtain ⟨hq, h⟩ := mm_cond_inv h
          rw [hh] at h
          rw [Bool.and_eq_true] at hq
          obtain ⟨is, ic, text, names, hth⟩ := (hI k hk).2 (Nat.eq_of_beq_eq_true hq.1)
          cases h
          exact mm_k_throw hX hl hTT hE hth hexc hlocks (Nat.le_of_ble_eq_true hq.2) (by omega) (by omega) hRc hRs (by rw [hmc]; show S.1.length + (S.2.2 + 1) = S.1.length + S.2.2 + 1; omega) (by rw [hms]; show mm_sz ck S.1 + 6 * (S.2.2 + 1) = mm_sz ck S.1 + 6 * S.2.2 + 6; omega)
      | newarray t =>
        obtain ⟨n9, r, rfl, h⟩ := mm_i_inv h
        obtain ⟨h0, h⟩ := mm_al_inv h
        split at h
        · cases h
        · split at h <;> cases h
      | anewarray ix =>
        obtain ⟨n9, r, rfl, h⟩ := mm_i_inv h
        obtain ⟨k, hk, h⟩ := mm_lk_inv h
        obtain ⟨hq, h⟩ := mm_cond_inv h
        obtain ⟨h0, h⟩ := mm_al_inv h
        split at h <;> cases h
      | invokevirtual ix =>
        obtain ⟨k, hk, h⟩ := mm_lk_inv h
        obtain ⟨hq, h⟩ := mm_cond_inv h
        obtain ⟨bt, mL, rt, e1, e2, e3⟩ := hI k hk (Nat.eq_of_beq_eq_true hq)
        exact mm_k_invT hX hK hTT hE hB hex hCt rfl e1 e2 e3 hRb hRf hRl hRc hRs hmc hms hexc hlocks (hd (by simp [mm_len])) hh h
      | invokespecial ix =>
        obtain ⟨k, hk, h⟩ := mm_lk_inv h
        rcases mm_cond2_inv h with ⟨hq, h⟩ | ⟨-, h⟩
        · obtain ⟨-, z9, hz9⟩ := mm_noT_inv h
          cases hz9
        · obtain ⟨hq, h⟩ := mm_cond_inv h
          obtain ⟨a, r, rfl, h⟩ := mm_r_inv h
          obtain ⟨hw, h⟩ := mm_cond_inv h
          cases h
      | invokestatic ix =>
        obtain ⟨k, hk, h⟩ := mm_lk_inv h
        rcases mm_cond2_inv h with ⟨hq, h⟩ | ⟨-, h⟩
        · obtain ⟨bt, mL, rt, e1, e2, e3, e4⟩ := (hI k hk).1 (Nat.eq_of_beq_eq_true hq)
          exact mm_k_invST hX hK hTT hE hB hex hCt rfl e1 e2 ⟨e3, e4⟩ hRb hRf hRl hRc hRs hmc hms hexc hlocks (hd (by simp [mm_len])) hh h
        · obtain ⟨hq, h⟩ := mm_cond_inv h
          obtain ⟨-, z9, hz9⟩ := mm_noT_inv h
          cases hz9
      | ireturn =>
        have hI : ret = some (match me.rk with
          | 0 => .int
          | 1 => .char
          | _ => .boolean) := hI
        have h : mm_rI me S st = some (.inr o) := h
        unfold mm_rI at h
        split at h
        next x =>
          split at h
          next hk =>
            cases h
            rw [hk] at hI
            exact mm_k_ireturn hX (hret.trans hI) rfl hlocks hmc hms (hd (by simp [mm_len]))
          next hk =>
            split at h
            next hc =>
              cases h
              rw [hk] at hI
              refine mm_k_ireturn hX (hret.trans hI) ?_ hlocks hmc hms (hd (by simp [mm_len]))
              rw [← hc]
              exact pk_nc _
            next => cases h
          next hk1 hk2 =>
            split at h
            next hc =>
              cases h
              have hI2 : ret = some .boolean := by
                rw [hI]
                split
                · exact absurd ‹_› hk1
                · exact absurd ‹_› hk2
                · rfl
              refine mm_k_ireturn hX (hret.trans hI2) ?_ hlocks hmc hms (hd (by simp [mm_len]))
              rcases hc with rfl | rfl <;> rfl
            next => cases h
        next => cases h
      | lreturn =>
        have h : mm_rJ S st = some (.inr o) := h
        unfold mm_rJ at h
        split at h
        · cases h; exact mm_k_lreturn hX (hret.trans hI) hlocks hmc hms (hd (by simp [mm_len]))
        · cases h
      | dreturn =>
        have h : mm_rD S st = some (.inr o) := h
        unfold mm_rD at h
        split at h
        · cases h; exact mm_k_dreturn hX (hret.trans hI) hlocks hmc hms (hd (by simp [mm_len]))
        · cases h
      | areturn =>
        obtain ⟨rt, hrt, hrt2⟩ := hI
        have h : mm_rA S st = some (.inr o) := h
        unfold mm_rA at h
        split at h
        · cases h; exact mm_k_areturn (Or.inr ⟨_, rfl⟩) hX (hret.trans hrt) hrt2 hlocks hmc hms (hd (by simp [mm_len]))
        · cases h; exact mm_k_areturn (Or.inl rfl) hX (hret.trans hrt) hrt2 hlocks hmc hms (hd (by simp [mm_len]))
        · cases h
      | return_ =>
        have h : mm_rV S st = some (.inr o) := h
        unfold mm_rV at h
        split at h
        · cases h; exact mm_k_return hX (hret.trans hI) hlocks hmc hms (hd (by simp [mm_len]))
        · cases h
      | _ => first | (exact absurd rfl hp) | (cases h)
  next => cases h
/-- a whole method, from its entry -/
theorem mm_walk {o : mm_O} (hTB : mm_TB cl ck ct ak TT) (hM : mm_MOK cl ak TT strs ex yj cw y bytes ret me) (hF : mm_FR p l R s m args meth c D cl tys ak dA TT strs nc B b Ls xs S0 d y bytes ret me.nL) (hCt : mm_Ct l D cl tys TT strs nc B b Ls xs ck ak dA ex yj cw d call) (hh : me.hs = []) (hRc : mc ≤ R.cells) (hRs : ms ≤ R.slots) (hmc : mm_co S0 + mc = mm_co o.2) (hms : mm_sl ck S0 + ms = mm_sl ck o.2) :
    ∀ (n : Nat) (z : mm_Z), mm_ex (mm_step call xs Ls ck ak me) n z = some o → mm_mo ck z.2.2.2 o.2 ∧ mm_J p l e R s m args below meth c (mm_E below args s D cl B b ck ak dA ex o mc ms) B b me.nL (mm_Rz D cl ck ak dA B b s.heap S0) z := by
  have hcm : ∀ j as S o, call j as S = some o → mm_mo ck S o.2 := fun j as S o h => ⟨(hCt j as S o h).1, (hCt j as S o h).2.1, (hCt j as S o h).2.2.1⟩
  intro n
  induction n with
  | zero => intro z h; cases h
  | succ n ih =>
    intro z h
    obtain ⟨pc, L, st, S⟩ := z
    have hmo : ∀ r, mm_step call xs Ls ck ak me (pc, L, st, S) = some r → mm_mo ck S (mm_rS r) := by
      intro r hr
      unfold mm_step at hr
      split at hr
      · exact mm_do_mo hcm _ hr
      · cases hr
    cases hz : mm_step call xs Ls ck ak me (pc, L, st, S) with
    | none =>
      rw [show mm_ex (mm_step call xs Ls ck ak me) (n + 1) (pc, L, st, S) = none by
        show (match mm_step call xs Ls ck ak me (pc, L, st, S) with
          | some (.inl z') => mm_ex (mm_step call xs Ls ck ak me) n z'
          | some (.inr o) => some o
          | none => none) = _
        rw [hz]] at h
      cases h
    | some r =>
      cases r with
      | inl z' =>
        rw [mm_ex_go hz] at h
        obtain ⟨h1, h2⟩ := ih z' h
        have h3 := hmo _ hz
        refine ⟨h3.tr h1, mm_stepJ hTB hM hF hCt hh ?_ ?_ hz h2⟩
        · have := h1.1
          omega
        · have := h1.2.1
          omega
      | inr o' =>
        rw [mm_ex_end hz] at h
        cases h
        exact ⟨hmo _ hz, mm_stepE hTB hM hF hCt hh hRc hRs hmc hms hz⟩
end SIMU
end
section
/-! A METHOD WITHOUT HANDLERS MEETS ITS CONTRACT -/
theorem mm_pad_ld : ∀ (L : mm_L) (n i : Nat) (v : Value), mm_ld (mm_pad L n) i = some v → mm_ld L i = some v := by
  intro L n
  induction n generalizing L with
  | zero => intro i v h; cases L <;> exact h
  | succ n ih =>
    intro i v h
    cases L with
    | nil =>
      cases i with
      | zero => cases h
      | succ i => exact absurd (ih [] i v h) (by simp [mm_ld])
    | cons o L =>
      cases i with
      | zero => exact h
      | succ i => exact ih L i v h
theorem mm_in_args (B b : Nat) : ∀ (as : List Value) (k i : Nat) (v : Value), mm_ld (mm_in as) i = some v → (k + i, mm_v B b v) ∈ lv_args k (as.map (mm_v B b)) := by
  intro as
  induction as with
  | nil => intro k i v h; exact absurd h (by simp [mm_in, mm_ld])
  | cons w as ih =>
    intro k i v h
    simp only [List.map_cons, lv_args, mm_v_cat]
    cases hc : mm_c2 w with
    | true =>
      simp only [mm_in, hc] at h
      match i, h with
      | 0, h =>
        have h : some w = some v := h
        cases h
        exact List.mem_cons_self
      | 1, h => exact absurd h (by simp [mm_ld])
      | i + 2, h =>
        refine List.mem_cons_of_mem _ ?_
        have h9 := ih (k + 2) i v h
        rw [show k + 2 + i = k + (i + 2) by omega] at h9
        simpa using h9
    | false =>
      simp only [mm_in, hc] at h
      match i, h with
      | 0, h =>
        have h : some w = some v := h
        cases h
        exact List.mem_cons_self
      | i + 1, h =>
        refine List.mem_cons_of_mem _ ?_
        have h9 := ih (k + 1) i v h
        rw [show k + 1 + i = k + (i + 1) by omega] at h9
        simpa using h9
theorem mm_sl_len (B b : Nat) (as : List Value) : (lg_sl (as.map (mm_v B b))).length = mm_wt as := by
  induction as with
  | nil => rfl
  | cons v as ih =>
    simp only [lg_sl, List.map_cons, List.flatMap_cons, List.length_append, mm_wt] at ih ⊢
    rw [ih, mm_v_cat]
    cases mm_c2 v <;> rfl
section MET
variable {l : Launch} {D : va_G} {cl : List vw_C} {tys : List (ClassId × FieldType)} {ck : Nat → List Nat} {ct : Nat → Nat → FieldType} {ak : Nat → FieldType} {dA : Nat → ClassId} {B b Ls : Nat} {xs : Nat → Int32} {TT : List Cond} {strs : List (String × Nat × String)} {nc : List (String × String)} {me : mm_Me} {S : mm_St} {ex : Nat → String} {mc ms : Nat}
variable {call : Nat → List Value → mm_St → Option mm_O} {yj : Nat → MethodName} {cw : Nat → Cond} {d : Nat} {y : MethodName} {bytes : ByteArray} {ret : Option FieldType}
theorem mm_met {o : mm_O} {as : List Value} (hl : l.stackTraces = false) (hpl : plainFor y = true) (hTB : mm_TB cl ck ct ak TT) (hAT : mm_AT tys ak dA) (hM : mm_MOK cl ak TT strs ex yj cw y bytes ret me) (hCt : mm_Ct l D cl tys TT strs nc B b Ls xs ck ak dA ex yj cw d call) (hh : me.hs = []) (hw : mm_wt as ≤ me.nL) (hR : mm_R (mm_step call xs Ls ck ak me) (0, mm_pad (mm_in as) me.nL, [], S) o) (hb : ms ≤ 60000000) (hmc : mm_co S + mc = mm_co o.2) (hms : mm_sl ck S + ms = mm_sl ck o.2) :
    MetFree l y (headSpec [.code y bytes me.nL ret] (mm_rm (d + 1) mc ms)) (mm_Pc D cl tys TT strs nc B b Ls xs ck ak dA as S) (fun _ _ _ _ _ => True) (mm_QO D cl B b ck ak dA ex o mc ms) := by
  obtain ⟨n, hn⟩ := hR
  refine MetFree.of_bodySF (code := bytes) (maxLocals := me.nL) (ret := ret) hpl ?_ ?_
  · intro args s m h hn9
    obtain ⟨meth, c, h1, h2, h3, h4, h5, h6, -, -⟩ := Cond.code_spec hn9 (atoms_spec (ws := [.code y bytes me.nL ret]) h _ List.mem_cons_self)
    exact ⟨meth, c, h1, h2, h3, h4, h5, h6⟩
  · intro p e s m args below meth c s₁ B9 hml hP _
    obtain ⟨rfl, hE, hPP, hsz⟩ := hP
    have hcode := atoms_spec (ws := [.code y bytes me.nL ret]) B9.pre _ List.mem_cons_self
    have hexc : ∀ x ∈ c.exceptionTable.toList, False := by
      obtain ⟨meth9, c9, h1, h2, -, -, -, -, h7, -⟩ := Cond.code_spec B9.named hcode
      cases Option.some.inj (h1.symm.trans B9.method)
      cases Option.some.inj (h2.symm.trans (Stand.of_body B9).code)
      intro x hx
      rw [Array.isEmpty_iff.mp h7] at hx
      cases hx
    have hh0 : s₁.heap = s.heap := by rw [B9.state]; rfl
    have hFR : mm_FR p l (headSpec [.code y bytes me.nL ret] (mm_rm (d + 1) mc ms)).room s m (as.map (mm_v B b)).toArray meth c D cl tys ak dA TT strs nc B b Ls xs S d y bytes ret me.nL :=
      ⟨⟨B9.exec, B9.bytes, hml, findClass_of_methodNamed B9.named, fun w hw => mm_warm (State.WarmedH.refl s) (hTB.2.2.1 w hw) (hE.1 w hw)⟩, hE.2.1, hAT, hE, hE.2.2.2.2.2.2.2.2, hsz, B9.returns, B9.notSynchronized, (name_of_methodNamed B9.named B9.method).1, hexc, hl, by show d + 9 ≤ d + 1 + 8; omega, by show 40 * d + 240 ≤ 40 * (d + 1) + 200; omega, hb⟩
    have hJ := (mm_walk (e := e) (below := below) hTB hM hFR hCt hh (Nat.le_refl _) (Nat.le_refl _) hmc hms n _ hn).2
    have hlv := lv_entry (as.map (mm_v B b)) (n := me.nL) (by rw [mm_sl_len]; exact hw)
    have hLR : mm_LR B b ((lg_sl (as.map (mm_v B b)) ++ List.replicate (me.nL - (lg_sl (as.map (mm_v B b))).length) Slot.unset).toArray) me.nL (mm_pad (mm_in as) me.nL) :=
      ⟨hlv.1, hlv.2.1, fun i v hv => hlv.2.2 (i, mm_v B b v) (by have h9 := mm_in_args B b as 0 i v (mm_pad_ld _ _ _ _ hv); rw [Nat.zero_add] at h9; exact h9)⟩
    have hW := hJ _ s.heap [] 0 0 hLR ⟨hPP, va_S.rf, rfl, rfl, Nat.le_refl _⟩
    have K : W p l e (headSpec [.code y bytes me.nL ret] (mm_rm (d + 1) mc ms)).room s m (as.map (mm_v B b)).toArray below meth c s₁.heap [] 0 0 (mm_E below (as.map (mm_v B b)).toArray s D cl B b ck ak dA ex o mc ms) (entryFrame m (as.map (mm_v B b)).toArray me.nL) := by
      rw [hh0, lg_entry_eq]
      exact hW
    obtain ⟨t, a1, oc, b1, b2, b3⟩ := K s₁ rfl (Stand.of_body B9)
    exact ⟨t, oc, a1, b1, b2, b3⟩
end MET
end
section
/-! A THROWN OBJECT IS CAUGHT: the rows of a table, one after the other; a class that a row names may be linked only now -/
section CATCH
variable {e : Env} {f : JFrame} {a : Addr} {s : State} {cell : Cell}
/-- the rows lead to the handler at pc -/
def mm_Rw (pl : Platform) (s : State) (d : ClassId) (at9 : Nat) (thrown : ClassId) (pc : Nat) : List ExceptionTableEntry → Prop
  | [] => False
  | x :: t => (covers x at9 = false ∧ mm_Rw pl s d at9 thrown pc t) ∨ (covers x at9 = true ∧ x.catchType ≠ 0 ∧ ∃ c, s.vm.ClassLinks pl d x.catchType c ∧ ((s.vm.assignable thrown c = true ∧ x.handlerPc = pc) ∨ (s.vm.assignable thrown c = false ∧ mm_Rw pl s d at9 thrown pc t)))
theorem mm_find (hobj : ∀ k, cell.vm ≠ .statics k) (hk0 : ∃ k, s.vm.classes[cell.cls]? = some k) {pc : Nat} : ∀ (rows : List ExceptionTableEntry) (U : State), s.WarmedH U.vm → U.heap[a]? = some cell → mm_Rw e.platform s f.method.cls f.pc cell.cls pc rows →
    ∃ vm', s.WarmedH vm' ∧ ∀ (Q : Handler → Pre) (E : CtlPost) (d : Bool) (acts : List Action), wp (findHandler.go f a rows) Q E e d acts U ↔ Q (.found pc) d acts (U.setVm vm') := by
  obtain ⟨k0, hk0⟩ := hk0
  intro rows
  induction rows with
  | nil => intro U _ _ h; exact h.elim
  | cons x t ih =>
    intro U hW hcell h
    obtain ⟨k0', hk0', -⟩ := hW.alike.2.2 _ _ hk0
    rcases h with ⟨hx, h⟩ | ⟨hx, h0, c, hl, h⟩
    · obtain ⟨vm', h1, h2⟩ := ih U hW hcell h
      refine ⟨vm', h1, fun Q E d acts => ?_⟩
      rw [W.findHandler_go_skip hx]
      exact h2 Q E d acts
    · obtain ⟨dk, _, _, kt, hd, _, _, _, _, hkt, _, hopen⟩ := hl.here
      obtain ⟨kt', hkt', -⟩ := hW.alike.2.2 _ _ hkt
      have hlU := hW.classLinks hl
      have hW2 := hW.noted hd hopen (State.rightAt_cls hl)
      obtain ⟨ha9, ht9⟩ := (resolveClass_links e.toSetting hlU).op (op := VmOp.resolveClass f.method.cls x.catchType) rfl
      have hal : U.vm.Alike (U.vm.noted f.method.cls x.catchType (.cls c)) := (Vm.Alike.refl U.vm).noted _ _ _
      obtain ⟨k1, hk1, -⟩ := hal.2.2 _ _ hk0'
      obtain ⟨k2, hk2, -⟩ := hal.2.2 _ _ hkt'
      have hx2 := hx
      simp only [covers] at hx2
      rcases h with ⟨hfit, hpc⟩ | ⟨hno, h⟩
      · have hfit' : (U.vm.noted f.method.cls x.catchType (.cls c)).assignable cell.cls c = true := by rw [hal.assignable, hW.alike.assignable]; exact hfit
        refine ⟨_, hW2, fun Q E d acts => ?_⟩
        rw [← hpc]
        simp [findHandler.go, hx2, h0, ha9, ht9, hcell, hobj, hk1, hk2, hfit', VmOp.dirties, VmOp.acts]
      · have hno' : (U.vm.noted f.method.cls x.catchType (.cls c)).assignable cell.cls c = false := by rw [hal.assignable, hW.alike.assignable]; exact hno
        obtain ⟨vm', h1, h2⟩ := ih (U.setVm (U.vm.noted f.method.cls x.catchType (.cls c))) hW2 hcell h
        refine ⟨vm', h1, fun Q E d acts => ?_⟩
        refine Iff.trans ?_ (h2 Q E d acts)
        simp [findHandler.go, hx2, h0, ha9, ht9, hcell, hobj, hk1, hk2, hno', VmOp.dirties, VmOp.acts]
end CATCH
section CAUGHT
variable {p : Program} {l : Launch} {e : Env} {R : Room} {s : State} {m : MethodId} {args : Array Value} {below : List Frame} {meth : Method} {c : Code} {T : State} {locs : List Loc} {cells slots : Nat}
/-- the frame goes on at the handler, the thrown object alone on its stack -/
theorem mm_caught (X : Stand p l e R s m args below meth c T locs cells slots) {g : JFrame} (hg : g.method = m) {a : Addr} {cell : Cell} (hcell : T.heap[a]? = some cell) (hvm : cell.vm = .none) (hk0 : ∃ k, s.vm.classes[cell.cls]? = some k) {pc : Nat} (h : mm_Rw e.platform s m.cls g.pc cell.cls pc c.exceptionTable.toList) :
    ∃ vm', Stand p l e R s m args below meth c (T.setVm vm') locs cells slots ∧ ∀ tg, Steps p.tables e below ((T.setVm vm').setTop { g with pc := pc, stack := [.ref a] }) tg → Steps p.tables e below ((T.setTop g).pushFrame (.throwing a)) tg := by
  subst hg
  have hAt : At T g.method c below := X.here
  obtain ⟨g₀, hg0⟩ := Option.isSome_iff_exists.mp hAt.top
  obtain ⟨r, hr⟩ := State.topJava?_eq_some.mp hg0
  obtain ⟨vm', hW', hf⟩ := mm_find (e := e) (f := g) (a := a) (s := s) (cell := cell) (fun k q => by rw [hvm] at q; cases q) hk0 c.exceptionTable.toList ((T.setTop g).pushFrame (.throwing a)) X.warmed hcell h
  have hf2 : ∀ (Q : Handler → Pre) (E : CtlPost) (d : Bool) (acts : List Action), wp (findHandler g a) Q E e d acts ((T.setTop g).pushFrame (.throwing a)) ↔ Q (.found pc) d acts (((T.setTop g).pushFrame (.throwing a)).setVm vm') := by
    intro Q E d acts
    rw [W.findHandler_eq (s := (T.setTop g).pushFrame (.throwing a)) (meth := meth) (code := c) X.method' X.code]
    exact hf Q E d acts
  refine ⟨vm', X.noted hW', fun tg hrest => ?_⟩
  obtain ⟨hgo, hw⟩ := hAt.throwing a
  refine Steps.head hgo hw ?_
  rw [stepThread_throwing (frames_entered hAt.top _)]
  have hstep : (stepThrowing e ((T.setTop g).pushFrame (.throwing a)) a (.java g :: T.frames.tail)).1 = (((T.setTop g).pushFrame (.throwing a)).setVm vm').setFrames (.java { g with pc := pc, stack := [.ref a] } :: T.frames.tail) := by
    simp only [stepThrowing, searchFrame, vmDo]
    generalize hres : Sem.go _ e false [] _ = res
    obtain ⟨as, rfl, ha9⟩ := Sem.eq_ok_of hres (a := Handler.found pc) (s' := ((T.setTop g).pushFrame (.throwing a)).setVm vm') (acts' := []) (by simp [hf2 _ _ _ _])
    rfl
  rw [hstep]
  have hr' : (T.setVm vm').frames = .java g₀ :: r := hr
  rw [State.setTop_of_frames _ hr'] at hrest
  have e1 : (((T.setTop g).pushFrame (.throwing a)).setVm vm').setFrames (.java { g with pc := pc, stack := [.ref a] } :: T.frames.tail) = (T.setVm vm').setFrames (.java { g with pc := pc, stack := [.ref a] } :: r) := by
    rw [State.pushFrame, State.setTop_of_frames _ hr, hr, List.tail_cons]
    show (((T.setVm vm').setFrames _).setFrames _).setFrames _ = _
    rw [State.setFrames_setFrames, State.setFrames_setFrames]
  rw [e1]
  exact hrest
end CAUGHT
end
section
/-! METHODS WITH HANDLERS -/
theorem mm_clr_at (L : mm_L) : ∀ (j k i : Nat), (mm_clr L j i)[k]? = (L[k]?).map fun o => cond (Nat.beq (j + k) i || (Nat.beq (j + k + 1) i && mm_o2 o)) none o := by
  induction L with
  | nil => intro j k i; rfl
  | cons o L ih =>
    intro j k i
    cases k with
    | zero => rfl
    | succ k =>
      have h := ih (j + 1) k i
      rw [show j + 1 + k = j + (k + 1) by omega] at h
      exact h
theorem mm_clr_ld {L : mm_L} {i j : Nat} {w : Value} (h : mm_ld (mm_clr L 0 i) j = some w) : mm_ld L j = some w ∧ j ≠ i ∧ (mm_c2 w = true → j + 1 ≠ i) := by
  unfold mm_ld at h
  rw [mm_clr_at] at h
  cases ho : L[j]? with
  | none => rw [ho] at h; cases h
  | some o =>
    rw [ho] at h
    simp only [Option.map_some, Nat.zero_add] at h
    cases hq : (Nat.beq j i || (Nat.beq (j + 1) i && mm_o2 o)) with
    | true => rw [hq] at h; cases h
    | false =>
      rw [hq] at h
      have h : o = some w := h
      subst h
      rw [Bool.or_eq_false_iff] at hq
      refine ⟨by unfold mm_ld; rw [ho], fun e => ?_, fun hc e => ?_⟩
      · subst e
        rw [Nat.beq_refl] at hq
        cases hq.1
      · rw [e, Nat.beq_refl] at hq
        have h9 := hq.2
        simp only [mm_o2, hc, Bool.and_self] at h9
        cases h9
theorem mm_LR.clr {B b : Nat} {ls : Array Slot} {n i : Nat} {L : mm_L} {v : Value}
    (h : lv_has ls n ((i, v) :: (mm_as B b L).filter (fun q => !(q.1 == i) && !(q.1 + 1 == i && q.2.category == 2)))) : mm_LR B b ls n (mm_clr L 0 i) := by
  refine ⟨h.1, h.2.1, fun j w hw => ?_⟩
  obtain ⟨h1, h2, h4⟩ := mm_clr_ld hw
  refine h.2.2 (j, mm_v B b w) (List.mem_cons_of_mem _ (List.mem_filter.mpr ⟨mm_as_mem h1, ?_⟩))
  have e1 : (j == i) = false := by simp [h2]
  have e2 : (j + 1 == i && (mm_v B b w).category == 2) = false := by
    cases hw2 : mm_c2 w with
    | true => simp [h4 hw2]
    | false => simp [mm_v_cat, hw2]
  simp only [e1, e2]
  rfl
/-- what the rows of a table rest on, for every class that is thrown -/
def mm_HOK (TT : List Cond) (nc : List (String × String)) (ex : Nat → String) (own : String) (me : mm_Me) : Prop :=
  ∀ a b t ix, (a, b, t, ix) ∈ me.hs → ix ≠ 0 ∧ ∀ E', (∃ q, me.lk ix = some (5, E', q)) → Cond.classLink own ix (ex E') ∈ TT ∧ Cond.castable (ex E') (ex E') ∈ TT ∧ ∀ E, E < 5 → E ≠ E' → (ex E, ex E') ∈ nc
section HAND
variable {p : Program} {l : Launch} {e : Env} {R : Room} {s : State} {m : MethodId} {args : Array Value} {below : List Frame} {meth : Method} {c : Code} {Q : State → Prop} {H : Heap} {locs : List Loc} {cells slots : Nat} {ls : Array Slot}
variable {D : va_G} {cl : List vw_C} {tys : List (ClassId × FieldType)} {ck : Nat → List Nat} {ct : Nat → Nat → FieldType} {ak : Nat → FieldType} {dA : Nat → ClassId} {B b Ls nL pc : Nat} {xs : Nat → Int32} {TT : List Cond} {strs : List (String × Nat × String)} {nc : List (String × String)} {cc : ByteArray} {own : String} {me : mm_Me} {L : mm_L} {st : List Value} {S S0 : mm_St} {z' : mm_Z} {ex : Nat → String} {mc ms : Nat}
variable {call : Nat → List Value → mm_St → Option mm_O} {yj : Nat → MethodName} {cw : Nat → Cond} {d : Nat}
theorem mm_hs_spec {E : Nat} {thrown : ClassId} {pl : Platform} (hpl : pl.magicAccessors = ({} : Platform).magicAccessors) (hown : s.vm.findClass own = some m.cls) (hts : ∀ w ∈ TT, w.before args s = true) (hnc : ∀ q ∈ nc, va_Nc q.1 q.2 s) (hth : s.vm.findClass (ex E) = some thrown) (hE5 : E < 5) {r : mm_Z ⊕ mm_O} :
    ∀ (hs : List (Nat × Nat × Nat × Nat)) (rows : List ExceptionTableEntry), rows.map (fun h => (h.startPc, h.endPc, h.handlerPc, h.catchType)) = hs → (∀ a b t ix, (a, b, t, ix) ∈ hs → ix ≠ 0 ∧ ∀ E', (∃ q, me.lk ix = some (5, E', q)) → Cond.classLink own ix (ex E') ∈ TT ∧ Cond.castable (ex E') (ex E') ∈ TT ∧ ∀ E, E < 5 → E ≠ E' → (ex E, ex E') ∈ nc) → mm_hs me pc L E S hs = some r →
      ∃ t, mm_Rw pl s m.cls pc thrown t rows ∧ ((∃ (i : Fin 4) (n : Nat), me.dec[t]? = some (some (.astore_n i, n)) ∧ r = .inl (t + 1, mm_clr L 0 i, [], S)) ∨ (∃ (i n : Nat), me.dec[t]? = some (some (.astore i, n)) ∧ r = .inl (t + 2, mm_clr L 0 i, [], S))) := by
  intro hs
  induction hs with
  | nil => intro rows _ _ h; cases h
  | cons q hs ih =>
    intro rows hm hok h
    obtain ⟨a, b9, t, ix⟩ := q
    cases rows with
    | nil => cases hm
    | cons x rows =>
      rw [List.map_cons] at hm
      injection hm with hx hm
      have hok2 := fun a b t ix q => hok a b t ix (List.mem_cons_of_mem _ q)
      obtain rfl : x.startPc = a := congrArg (·.1) hx
      obtain rfl : x.endPc = b9 := congrArg (·.2.1) hx
      obtain rfl : x.handlerPc = t := congrArg (·.2.2.1) hx
      obtain rfl : x.catchType = ix := congrArg (·.2.2.2) hx
      unfold mm_hs at h
      rcases mm_cond2_inv h with ⟨hc, h9⟩ | ⟨hc, h9⟩
      · have hcov : covers x pc = true := by
          rw [Bool.and_eq_true] at hc
          have c1 := Nat.le_of_ble_eq_true hc.1
          have c2 := Nat.le_of_ble_eq_true hc.2
          simp only [covers, Bool.and_eq_true, decide_eq_true_eq]
          omega
        split at h9
        next E' q8 q9 hlk =>
          obtain ⟨h0, hw⟩ := hok _ _ _ _ List.mem_cons_self
          obtain ⟨w1, w2, w3⟩ := hw E' ⟨_, hlk⟩
          obtain ⟨c', hc', hcl⟩ := Cond.classLink_spec hown (hts _ w1) pl hpl
          rcases mm_cond2_inv h9 with ⟨hq, h8⟩ | ⟨hq, h8⟩
          · have hq := Nat.eq_of_beq_eq_true hq
            obtain ⟨c3, c4, hc3, hc4, hasg⟩ := Cond.castable_spec (hts _ w2)
            rw [← hq] at hc3
            cases hc3.symm.trans hth
            cases hc4.symm.trans hc'
            refine ⟨x.handlerPc, Or.inr ⟨hcov, h0, c', hcl, Or.inl ⟨hasg, rfl⟩⟩, ?_⟩
            split at h8
            next i n hd => cases h8; exact Or.inl ⟨i, n, hd, rfl⟩
            next i n hd => cases h8; exact Or.inr ⟨i, n, hd, rfl⟩
            next => cases h8
          · have hne : E ≠ E' := fun e => by rw [e, Nat.beq_refl] at hq; cases hq
            obtain ⟨a8, b8, n1, n2, n3⟩ := hnc _ (w3 E hE5 hne)
            cases n1.symm.trans hth
            cases n2.symm.trans hc'
            obtain ⟨t9, r1, r2⟩ := ih rows hm hok2 h8
            exact ⟨t9, Or.inr ⟨hcov, h0, c', hcl, Or.inr ⟨n3, r1⟩⟩, r2⟩
        next => cases h9
      · have hcov : covers x pc = false := by
          cases hv : covers x pc with
          | false => rfl
          | true =>
            simp only [covers, Bool.and_eq_true, decide_eq_true_eq] at hv
            rw [Nat.ble_eq_true_of_le hv.1, Nat.ble_eq_true_of_le (show pc + 1 ≤ x.endPc by omega)] at hc
            cases hc
        obtain ⟨t9, r1, r2⟩ := ih rows hm hok2 h9
        exact ⟨t9, Or.inl ⟨hcov, r1⟩, r2⟩
end HAND
end
section
section HANDJ
variable {p : Program} {l : Launch} {e : Env} {R : Room} {s : State} {m : MethodId} {args : Array Value} {below : List Frame} {meth : Method} {c : Code} {Q : State → Prop} {H : Heap} {locs : List Loc} {cells slots : Nat} {ls : Array Slot}
variable {D : va_G} {cl : List vw_C} {tys : List (ClassId × FieldType)} {ck : Nat → List Nat} {ct : Nat → Nat → FieldType} {ak : Nat → FieldType} {dA : Nat → ClassId} {B b Ls nL pc : Nat} {xs : Nat → Int32} {TT : List Cond} {strs : List (String × Nat × String)} {nc : List (String × String)} {cc : ByteArray} {own : String} {me : mm_Me} {L : mm_L} {st : List Value} {S S0 : mm_St} {z' : mm_Z} {ex : Nat → String} {mc ms : Nat}
variable {call : Nat → List Value → mm_St → Option mm_O} {yj : Nat → MethodName} {cw : Nat → Cond} {d : Nat}
/-- an instance method called where there are handlers -/
theorem mm_k_invH {ix ci j n maxL : Nat} {y : MethodName} {bytes : ByteArray} {ret : Option FieldType} (X : CallFix p m c cc me.nL s args TT own) (hK : va_K D cl tys s) (hTT : ∀ w ∈ TT, mm_wd w = true) (hE : mm_Env D cl tys TT strs nc B b Ls xs s) (hB : B ≤ s.heap.size) (hex : S0.2.2 = 0 → s.heap.size = B + S0.1.length) (hCt : mm_Ct l D cl tys TT strs nc B b Ls xs ck ak dA ex yj cw d call) (hy : yj j = y) (hcw : cw j = .code y bytes maxL ret)
    (hCE : mm_CE TT y bytes maxL n ret) (hML : mm_ML TT cl own ix ci y) (hRb : R.slots ≤ 60000000) (hRf : d + 9 ≤ R.frames) (hRl : 40 * d + 240 ≤ R.locals) (hRc : mm_co z'.2.2.2 ≤ mm_co S0 + R.cells) (hRs : mm_sl ck z'.2.2.2 ≤ mm_sl ck S0 + R.slots) (hd : decode cc pc = .ok (.invokevirtual ix, 3))
    (hdec : ∀ pc i n, me.dec[pc]? = some (some (i, n)) → decode cc pc = .ok (i, n) ∧ (mm_len i ≠ 0 → n = mm_len i) ∧ mm_sti i ≤ me.nL) (hne : me.hs ≠ []) (htab : c.exceptionTable.toList.map (fun h => (h.startPc, h.endPc, h.handlerPc, h.catchType)) = me.hs) (hok : mm_HOK TT nc ex own me)
    (h : mm_inv call me pc L st S j n ci = some (.inl z')) (kJ : mm_J p l e R s m args below meth c Q B b me.nL (mm_Rz D cl ck ak dA B b s.heap S0) z') : mm_J p l e R s m args below meth c Q B b me.nL (mm_Rz D cl ck ak dA B b s.heap S0) (pc, L, st, S) := by
  have h9 := h
  obtain ⟨as, a, rest, hst, hn, ha, hwt, h⟩ := mm_inv_inv h
  unfold mm_back at h
  split at h
  next => cases h
  next v S' hcall =>
    have hz : z' = (pc + 3, L, v.toList ++ rest, S') := by cases h; rfl
    -- as if there were no handlers
    have h2 : mm_inv call (me.dec, me.lk, [], me.nL, me.rk) pc L st S j n ci = some (.inl z') := by
      unfold mm_inv at h9 ⊢
      split at h9
      next as9 a9 rest9 hp =>
        obtain ⟨ys, e1, e2, e3⟩ := mm_pop_spec _ _ _ _ _ hp
        rw [List.append_nil] at e1
        subst e1
        have e4 : as9.reverse ++ Value.ref a9 :: rest9 = as.reverse ++ Value.ref a :: rest := e2.symm.trans hst
        obtain ⟨e5, e6⟩ := List.append_inj e4 (by rw [List.length_reverse, List.length_reverse, e3, hn])
        cases e6
        have e7 : as9 = as := by have e8 := congrArg List.reverse e5; simpa using e8
        subst e7
        split at h9
        next cj hcj =>
          obtain ⟨hq, h8⟩ := mm_cond_inv h9
          rw [hq]
          rw [cond_true, hcall, hz]
          rfl
        next => cases h9
      next => cases h9
    exact mm_k_inv (me := (me.dec, me.lk, [], me.nL, me.rk)) (nL := me.nL) X hK hTT hE hB hex hCt hy hcw hCE hML hRb hRf hRl hRc hRs hd rfl h2 kJ
  next E S' hcall =>
    split at h
    next hnil => exact absurd hnil hne
    next h0 hs0 heq =>
      obtain ⟨hE5, hh9⟩ := mm_cond_inv h
      rw [← heq] at hh9
      have hE5 : E < 5 := Nat.le_of_ble_eq_true hE5
      subst hst
      obtain ⟨m1, m2, m3, hM⟩ := hCt _ _ _ _ hcall
      obtain ⟨mc', hmc'⟩ := Nat.le.dest m1
      obtain ⟨ms', hms'⟩ := Nat.le.dest m2
      have hM0 := fun q => hM mc' ms' q hmc' hms'
      have hmc' : mm_co S + mc' = mm_co S' := hmc'
      have hms' : mm_sl ck S + ms' = mm_sl ck S' := hms'
      have hzS : mm_rS (.inl z') = S' := mm_hs_mo _ hh9
      have hzS : z'.2.2.2 = S' := hzS
      rw [hzS] at hRc hRs
      obtain ⟨l1, l2, ⟨C, T9, N9⟩, hc1, l3⟩ := hML
      obtain ⟨hx, hb, hml, hown, hts⟩ := X
      intro ls H locs cells slots hL hR T hT XT
      have hsz := mm_size XT hT hR hB hex
      obtain ⟨hP, hS, hco, hsl, hnx⟩ := id hR
      have hco : mm_co S0 + cells = mm_co S := hco
      have hsl : mm_sl ck S0 + slots = mm_sl ck S := hsl
      have hnx : S0.2.2 ≤ S.2.2 := hnx
      have m3 : S.2.2 ≤ S'.2.2 := m3
      have hM := hM0 (by omega)
      rw [hy, hcw] at hM
      obtain ⟨cellB, r1, r2, r3⟩ := va_recv hK hP hc1 (mm_ws_at ha)
      obtain ⟨q, st₀, t, T', L1, h0', hW, X', hL1, e1, e2, hq, hst⟩ := mm_thrV XT hx (C := C) hown (hts _ l1) (hts _ l2) (hts _ l3) hCE.2.2.2.1 hM (mm_QO.thr (n := E) rfl) (mm_Pc.blind hTT _ _) (hCE.toR hTT hts hRf hRl) (by rw [hT]; exact r1) r2 r3
        (g := F0 m pc ls ((as.reverse ++ .ref a :: rest).map (mm_v B b))) rfl (hL.1.trans hml.symm) (argsL := as.map (mm_v B b)) (rest := rest.map (mm_v B b)) (fun sig hsig => by have h5 := hCE.2.2.2.2.1; rw [hsig] at h5; rw [List.length_map, hn]; exact (Option.some.inj h5).symm) (mm_map_args _ _ _) (lv_room (by rw [mm_wt_eq]; exact hwt)) (by rw [hb]; exact hd)
        ⟨by omega, by omega⟩ (fun U hU hW => mm_pre (T := T) (as := .ref a :: as) hTT hE hR hsz U (hU.trans hT) hW)
      obtain ⟨ho1, hP1, hF, -⟩ := hq
      obtain ⟨q2, ce, hq2, hce, hcv, hcl⟩ := ho1
      cases hq2
      have hS' := mm_after (h0'.trans hT) e1 hS hL1 hF
      have hcl9 : s.vm.findClass (ex E) = some ce.cls := by rw [← hcl, hW.alike.findClass]
      have hpl : e.platform.magicAccessors = ({} : Platform).magicAccessors := by rw [XT.admits.platform]
      obtain ⟨t9, hRw, hrow⟩ := mm_hs_spec hpl hown hts hE.2.2.2.2.2.1 hcl9 hE5 me.hs c.exceptionTable.toList htab hok hh9
      obtain ⟨vm', X2, hst2⟩ := mm_caught X' (g := F0 m pc ls (rest.map (mm_v B b))) rfl (a := q) (by rw [e1]; exact hce) hcv (by obtain ⟨k9, h9, -⟩ := Vm.findClass_spec hcl9; exact ⟨k9, h9⟩) hRw
      have hRz : mm_Rz D cl ck ak dA B b s.heap S0 S' T'.heap (locs ++ L1) (cells + mc') (slots + ms') := ⟨by rw [e1]; exact hP1, hS', by omega, by omega, by omega⟩
      have K : W p l e R s m args below meth c T'.heap (locs ++ L1) (cells + mc') (slots + ms') Q (F0 m t9 ls [.ref q]) := by
        rcases hrow with ⟨i, n9, hdi, hz⟩ | ⟨i, n9, hdi, hz⟩
        · obtain ⟨d1, d2, d3⟩ := hdec t9 _ _ hdi
          cases hz
          rw [d2 (by simp [mm_len])] at d1
          simp only [mm_sti] at d3
          exact lv_astore_n hx hb d1 rfl hL.has (by omega) rfl (fun ls' hl' => kJ ls' T'.heap _ _ _ (mm_LR.clr hl') hRz)
        · obtain ⟨d1, d2, d3⟩ := hdec t9 _ _ hdi
          cases hz
          rw [d2 (by simp [mm_len])] at d1
          simp only [mm_sti] at d3
          exact lv_astore hx hb d1 hL.has (by omega) rfl (fun ls' hl' => kJ ls' T'.heap _ _ _ (mm_LR.clr hl') hRz)
      obtain ⟨t2, a1, b1⟩ := K (T'.setVm vm') rfl X2
      exact ⟨t2, hst.trans (hst2 _ a1), b1⟩
end HANDJ
end
section
/-! A METHOD WITH HANDLERS MEETS ITS CONTRACT -/
/-- the instructions of such a method -/
def mm_isH (i : Instr) : Bool := mm_isP i || (match i with
  | .lastore | .dastore | .ireturn => true
  | .invokevirtual _ => true
  | _ => false)
theorem mm_hs_inl {me : mm_Me} {pc E : Nat} {L : mm_L} {S : mm_St} {o : mm_O} (hs : List (Nat × Nat × Nat × Nat)) : mm_hs me pc L E S hs ≠ some (.inr o) := by
  induction hs with
  | nil => intro h; cases h
  | cons q hs ih =>
    intro h
    obtain ⟨a, b, t, ix⟩ := q
    unfold mm_hs at h
    rcases mm_cond2_inv h with ⟨-, h⟩ | ⟨-, h⟩
    · split at h
      · rcases mm_cond2_inv h with ⟨-, h⟩ | ⟨-, h⟩
        · split at h <;> cases h
        · exact ih h
      · cases h
    · exact ih h
section HANDM
variable {p : Program} {l : Launch} {e : Env} {R : Room} {s : State} {m : MethodId} {args : Array Value} {below : List Frame} {meth : Method} {c : Code} {Q : State → Prop} {H : Heap} {locs : List Loc} {cells slots : Nat} {ls : Array Slot}
variable {D : va_G} {cl : List vw_C} {tys : List (ClassId × FieldType)} {ck : Nat → List Nat} {ct : Nat → Nat → FieldType} {ak : Nat → FieldType} {dA : Nat → ClassId} {B b Ls pc : Nat} {xs : Nat → Int32} {TT : List Cond} {strs : List (String × Nat × String)} {nc : List (String × String)} {me : mm_Me} {L : mm_L} {st : List Value} {S S0 : mm_St} {z' : mm_Z} {ex : Nat → String} {mc ms : Nat}
variable {call : Nat → List Value → mm_St → Option mm_O} {yj : Nat → MethodName} {cw : Nat → Cond} {d : Nat} {y : MethodName} {bytes : ByteArray} {ret : Option FieldType}
def mm_FRH (p : Program) (l : Launch) (R : Room) (s : State) (m : MethodId) (args : Array Value) (meth : Method) (c : Code) (D : va_G) (cl : List vw_C) (tys : List (ClassId × FieldType)) (ak : Nat → FieldType) (dA : Nat → ClassId) (TT : List Cond) (strs : List (String × Nat × String)) (nc : List (String × String)) (B b Ls : Nat) (xs : Nat → Int32) (S0 : mm_St) (d : Nat) (y : MethodName) (bytes : ByteArray) (ret : Option FieldType) (me : mm_Me) : Prop :=
  CallFix p m c bytes me.nL s args TT y.cls ∧ va_K D cl tys s ∧ mm_AT tys ak dA ∧ mm_Env D cl tys TT strs nc B b Ls xs s ∧ B ≤ s.heap.size ∧ (S0.2.2 = 0 → s.heap.size = B + S0.1.length) ∧ meth.sig.returnType = ret ∧ meth.locks = false ∧ c.exceptionTable.toList.map (fun h => (h.startPc, h.endPc, h.handlerPc, h.catchType)) = me.hs ∧ d + 9 ≤ R.frames ∧ 40 * d + 240 ≤ R.locals ∧ R.slots ≤ 60000000
theorem mm_walkH {o : mm_O} (hTB : mm_TB cl ck ct ak TT) (hM : mm_MOK cl ak TT strs ex yj cw y bytes ret me) (hall : ∀ (pc : Nat) (i : Instr) (n : Nat), me.dec[pc]? = some (some (i, n)) → mm_isH i = true) (hne : me.hs ≠ []) (hrk : me.rk = 0) (hok : mm_HOK TT nc ex y.cls me) (hF : mm_FRH p l R s m args meth c D cl tys ak dA TT strs nc B b Ls xs S0 d y bytes ret me) (hCt : mm_Ct l D cl tys TT strs nc B b Ls xs ck ak dA ex yj cw d call) (hRc : mc ≤ R.cells) (hRs : ms ≤ R.slots) (hmc : mm_co S0 + mc = mm_co o.2) (hms : mm_sl ck S0 + ms = mm_sl ck o.2) :
    ∀ (n : Nat) (z : mm_Z), mm_ex (mm_step call xs Ls ck ak me) n z = some o → mm_mo ck z.2.2.2 o.2 ∧ mm_J p l e R s m args below meth c (mm_E below args s D cl B b ck ak dA ex o mc ms) B b me.nL (mm_Rz D cl ck ak dA B b s.heap S0) z := by
  have hcm : ∀ j as S o, call j as S = some o → mm_mo ck S o.2 := fun j as S o h => ⟨(hCt j as S o h).1, (hCt j as S o h).2.1, (hCt j as S o h).2.2.1⟩
  obtain ⟨hCK, hO, hTT, a0, a1, a2, a3, a4⟩ := hTB
  obtain ⟨X, hK, hT, hE, hB, hex, hret, hlocks, htab, hRf, hRl, hRb⟩ := hF
  have hX := X
  obtain ⟨hx, hb, hml, hown, hts⟩ := X
  intro n
  induction n with
  | zero => intro z h; cases h
  | succ n ih =>
    intro z h
    obtain ⟨pc, L, st, S⟩ := z
    have hmo : ∀ r, mm_step call xs Ls ck ak me (pc, L, st, S) = some r → mm_mo ck S (mm_rS r) := by
      intro r hr
      unfold mm_step at hr
      split at hr
      · exact mm_do_mo hcm _ hr
      · cases hr
    cases hz : mm_step call xs Ls ck ak me (pc, L, st, S) with
    | none =>
      rw [show mm_ex (mm_step call xs Ls ck ak me) (n + 1) (pc, L, st, S) = none by
        show (match mm_step call xs Ls ck ak me (pc, L, st, S) with
          | some (.inl z') => mm_ex (mm_step call xs Ls ck ak me) n z'
          | some (.inr o) => some o
          | none => none) = _
        rw [hz]] at h
      cases h
    | some r =>
      have h3 := hmo _ hz
      unfold mm_step at hz
      split at hz
      next i hdec =>
        obtain ⟨i, n9⟩ := i
        obtain ⟨hd0, hd1, ht, hsti, hsw, hI⟩ := hM pc i n9 hdec
        have hd : mm_len i ≠ 0 → decode bytes pc = .ok (i, mm_len i) := fun q => by rw [← hd1 q]; exact hd0
        have hH := hall pc i n9 hdec
        have hz : mm_do call xs Ls ck ak me pc L st S i = some r := hz
        have hstep : mm_step call xs Ls ck ak me (pc, L, st, S) = some r := by
          unfold mm_step
          rw [show me.dec[(pc, L, st, S).1]? = some (some (i, n9)) from hdec]
          exact hz
        cases r with
        | inl z' =>
          rw [mm_ex_go hstep] at h
          obtain ⟨h1, h2⟩ := ih z' h
          refine ⟨h3.tr h1, ?_⟩
          have b1 : mm_co z'.2.2.2 ≤ mm_co S0 + R.cells := by have := h1.1; omega
          have b2 : mm_sl ck z'.2.2.2 ≤ mm_sl ck S0 + R.slots := by have := h1.2.1; omega
          by_cases hp : mm_isP i = true
          · exact mm_pure hx hb i ⟨n9, hd0⟩ hd ht hsti hsw hp hz h2
          · cases i with
            | lastore => exact mm_k_last hX hK hT (hd (by simp [mm_len])) hz h2
            | dastore => exact mm_k_dast hX hK hT (hd (by simp [mm_len])) hz h2
            | invokevirtual ix =>
              obtain ⟨k, hk, hz⟩ := mm_lk_inv hz
              obtain ⟨hq, hz⟩ := mm_cond_inv hz
              obtain ⟨bt, mL, rt, e1, e2, e3⟩ := hI k hk (Nat.eq_of_beq_eq_true hq)
              exact mm_k_invH hX hK hTT hE hB hex hCt rfl e1 e2 e3 hRb hRf hRl b1 b2 (hd (by simp [mm_len])) (fun pc i n q => by obtain ⟨q1, q2, -, q3, -⟩ := hM pc i n q; exact ⟨q1, q2, q3⟩) hne htab hok hz h2
            | ireturn =>
              have hz : mm_rI me S st = some (.inl z') := hz
              unfold mm_rI at hz
              rw [hrk] at hz
              split at hz <;> cases hz
            | _ => first | (exact absurd rfl hp) | (cases hH)
        | inr o' =>
          rw [mm_ex_end hstep] at h
          cases h
          refine ⟨h3, ?_⟩
          by_cases hp : mm_isP i = true
          · obtain ⟨z9, hz9, -⟩ := mm_pure_S i hp hz
            cases hz9
          · cases i with
            | lastore => obtain ⟨x, st, -, hz⟩ := mm_j_inv hz; obtain ⟨i, a, r, t, n, -, -, -, -, hz⟩ := mm_ai_inv hz; cases hz
            | dastore => obtain ⟨x, st, -, hz⟩ := mm_d_inv hz; obtain ⟨i, a, r, t, n, -, -, -, -, hz⟩ := mm_ai_inv hz; cases hz
            | invokevirtual ix =>
              obtain ⟨k, hk, hz⟩ := mm_lk_inv hz
              obtain ⟨hq, hz⟩ := mm_cond_inv hz
              obtain ⟨as, a, rest, -, -, -, -, hz⟩ := mm_inv_inv hz
              unfold mm_back at hz
              split at hz
              next => cases hz
              next => cases hz
              next E S' hcall =>
                split at hz
                next hnil => exact absurd hnil hne
                next h0 hs0 heq =>
                  obtain ⟨-, hz⟩ := mm_cond_inv hz
                  exact absurd hz (mm_hs_inl _)
            | ireturn =>
              have hI : ret = some (match me.rk with
                | 0 => .int
                | 1 => .char
                | _ => .boolean) := hI
              have hz : mm_rI me S st = some (.inr o) := hz
              unfold mm_rI at hz
              rw [hrk] at hz hI
              split at hz
              · cases hz
                exact mm_k_ireturn hX (hret.trans hI) rfl hlocks hmc hms (hd (by simp [mm_len]))
              · cases hz
            | _ => first | (exact absurd rfl hp) | (cases hH)
      next => cases hz
end HANDM
end
section
section METW
variable {l : Launch} {D : va_G} {cl : List vw_C} {tys : List (ClassId × FieldType)} {ck : Nat → List Nat} {ct : Nat → Nat → FieldType} {ak : Nat → FieldType} {dA : Nat → ClassId} {B b Ls : Nat} {xs : Nat → Int32} {TT : List Cond} {strs : List (String × Nat × String)} {nc : List (String × String)} {me : mm_Me} {S : mm_St} {ex : Nat → String} {mc ms : Nat}
variable {call : Nat → List Value → mm_St → Option mm_O} {yj : Nat → MethodName} {cw : Nat → Cond} {d : Nat} {y : MethodName} {bytes : ByteArray} {ret : Option FieldType}
theorem mm_metW {o : mm_O} {as : List Value} (hpl : plainFor y = true) (hTB : mm_TB cl ck ct ak TT) (hAT : mm_AT tys ak dA) (hM : mm_MOK cl ak TT strs ex yj cw y bytes ret me) (hall : ∀ (pc : Nat) (i : Instr) (n : Nat), me.dec[pc]? = some (some (i, n)) → mm_isH i = true) (hne : me.hs ≠ []) (hrk : me.rk = 0) (hok : mm_HOK TT nc ex y.cls me) (hCt : mm_Ct l D cl tys TT strs nc B b Ls xs ck ak dA ex yj cw d call) (hw : mm_wt as ≤ me.nL) (hR : mm_R (mm_step call xs Ls ck ak me) (0, mm_pad (mm_in as) me.nL, [], S) o) (hb : ms ≤ 60000000) (hmc : mm_co S + mc = mm_co o.2) (hms : mm_sl ck S + ms = mm_sl ck o.2) :
    MetFree l y (headSpec [.codeWith y bytes me.nL ret me.hs] (mm_rm (d + 1) mc ms)) (mm_Pc D cl tys TT strs nc B b Ls xs ck ak dA as S) (fun _ _ _ _ _ => True) (mm_QO D cl B b ck ak dA ex o mc ms) := by
  obtain ⟨n, hn⟩ := hR
  refine MetFree.of_bodySF (code := bytes) (maxLocals := me.nL) (ret := ret) hpl ?_ ?_
  · intro args s m h hn9
    obtain ⟨m9, meth, c, hn8, h1, h2, h3, h4, -, h5, h6, -⟩ := Cond.codeWith_spec (atoms_spec (ws := [.codeWith y bytes me.nL ret me.hs]) h _ List.mem_cons_self)
    cases hn9.symm.trans hn8
    exact ⟨meth, c, h1, h2, h3, h4, h5, h6⟩
  · intro p e s m args below meth c s₁ B9 hml hP _
    obtain ⟨rfl, hE, hPP, hsz⟩ := hP
    have hcode := atoms_spec (ws := [.codeWith y bytes me.nL ret me.hs]) B9.pre _ List.mem_cons_self
    have htab : c.exceptionTable.toList.map (fun h => (h.startPc, h.endPc, h.handlerPc, h.catchType)) = me.hs := by
      obtain ⟨m9, meth9, c9, hn8, h1, h2, -, -, h7, -⟩ := Cond.codeWith_spec hcode
      cases B9.named.symm.trans hn8
      cases Option.some.inj (h1.symm.trans B9.method)
      cases Option.some.inj (h2.symm.trans (Stand.of_body B9).code)
      exact h7
    have hh0 : s₁.heap = s.heap := by rw [B9.state]; rfl
    have hFR : mm_FRH p l (headSpec [.codeWith y bytes me.nL ret me.hs] (mm_rm (d + 1) mc ms)).room s m (as.map (mm_v B b)).toArray meth c D cl tys ak dA TT strs nc B b Ls xs S d y bytes ret me :=
      ⟨⟨B9.exec, B9.bytes, hml, findClass_of_methodNamed B9.named, fun w hw => mm_warm (State.WarmedH.refl s) (hTB.2.2.1 w hw) (hE.1 w hw)⟩, hE.2.1, hAT, hE, hE.2.2.2.2.2.2.2.2, hsz, B9.returns, B9.notSynchronized, htab, by show d + 9 ≤ d + 1 + 8; omega, by show 40 * d + 240 ≤ 40 * (d + 1) + 200; omega, hb⟩
    have hJ := (mm_walkH (e := e) (below := below) hTB hM hall hne hrk hok hFR hCt (Nat.le_refl _) (Nat.le_refl _) hmc hms n _ hn).2
    have hlv := lv_entry (as.map (mm_v B b)) (n := me.nL) (by rw [mm_sl_len]; exact hw)
    have hLR : mm_LR B b ((lg_sl (as.map (mm_v B b)) ++ List.replicate (me.nL - (lg_sl (as.map (mm_v B b))).length) Slot.unset).toArray) me.nL (mm_pad (mm_in as) me.nL) :=
      ⟨hlv.1, hlv.2.1, fun i v hv => hlv.2.2 (i, mm_v B b v) (by have h9 := mm_in_args B b as 0 i v (mm_pad_ld _ _ _ _ hv); rw [Nat.zero_add] at h9; exact h9)⟩
    have hW := hJ _ s.heap [] 0 0 hLR ⟨hPP, va_S.rf, rfl, rfl, Nat.le_refl _⟩
    have K : W p l e (headSpec [.codeWith y bytes me.nL ret me.hs] (mm_rm (d + 1) mc ms)).room s m (as.map (mm_v B b)).toArray below meth c s₁.heap [] 0 0 (mm_E below (as.map (mm_v B b)).toArray s D cl B b ck ak dA ex o mc ms) (entryFrame m (as.map (mm_v B b)).toArray me.nL) := by
      rw [hh0, lg_entry_eq]
      exact hW
    obtain ⟨t, a1, oc, b1, b2, b3⟩ := K s₁ rfl (Stand.of_body B9)
    exact ⟨t, oc, a1, b1, b2, b3⟩
/-- what is checked of a method, once for all -/
def mm_ok (cl : List vw_C) (ak : Nat → FieldType) (TT : List Cond) (strs : List (String × Nat × String)) (nc : List (String × String)) (ex : Nat → String) (yj : Nat → MethodName) (cw : Nat → Cond) (bj : Nat → ByteArray) (rj : Nat → Option FieldType) (mj : Nat → mm_Me) (j : Nat) : Prop :=
  plainFor (yj j) = true ∧ mm_MOK cl ak TT strs ex yj cw (yj j) (bj j) (rj j) (mj j) ∧
  (((mj j).hs = [] ∧ cw j = .code (yj j) (bj j) (mj j).nL (rj j)) ∨ ((mj j).hs ≠ [] ∧ cw j = .codeWith (yj j) (bj j) (mj j).nL (rj j) (mj j).hs ∧ (∀ (pc : Nat) (i : Instr) (n : Nat), (mj j).dec[pc]? = some (some (i, n)) → mm_isH i = true) ∧ (mj j).rk = 0 ∧ mm_HOK TT nc ex (yj j).cls (mj j)))
theorem mm_mono {xs : Nat → Int32} {mj : Nat → mm_Me} : ∀ (d j : Nat) (as : List Value) (S : mm_St) (o : mm_O), mm_ev xs Ls ck ak mj d j as S = some o → mm_mo ck S o.2 := by
  intro d
  induction d with
  | zero => intro j as S o h; cases h
  | succ d ih =>
    intro j as S o h
    obtain ⟨-, n, hn⟩ := (mm_ev_iff xs Ls ck ak mj).mp h
    have key : ∀ (n : Nat) (z : mm_Z), mm_ex (mm_step (mm_ev xs Ls ck ak mj d) xs Ls ck ak (mj j)) n z = some o → mm_mo ck z.2.2.2 o.2 := by
      intro n
      induction n with
      | zero => intro z h; cases h
      | succ n ih2 =>
        intro z h
        rcases (mm_R.cs ⟨n + 1, h⟩ : _ ∨ _) with ⟨z', hz, hr⟩ | hz
        · have h1 : mm_mo ck z.2.2.2 z'.2.2.2 := by
            unfold mm_step at hz
            split at hz
            · exact mm_do_mo ih _ hz
            · cases hz
          rw [mm_ex_go hz] at h
          exact h1.tr (ih2 z' h)
        · unfold mm_step at hz
          split at hz
          · exact mm_do_mo ih _ hz
          · cases hz
    exact key n _ hn
/-- THE SMALL MACHINE TELLS WHAT THE JVM DOES -/
theorem mm_sim {mj : Nat → mm_Me} {bj : Nat → ByteArray} {rj : Nat → Option FieldType} (hl : l.stackTraces = false) (hTB : mm_TB cl ck ct ak TT) (hAT : mm_AT tys ak dA) (hok : ∀ j, mm_ok cl ak TT strs nc ex yj cw bj rj mj j) : ∀ d, mm_Ct l D cl tys TT strs nc B b Ls xs ck ak dA ex yj cw d (mm_ev xs Ls ck ak mj d) := by
  intro d
  induction d with
  | zero => intro j as S o h; cases h
  | succ d ih =>
    intro j as S o h
    obtain ⟨m1, m2, m3⟩ := mm_mono _ _ _ _ _ h
    refine ⟨m1, m2, m3, fun mc ms hb hmc hms => ?_⟩
    obtain ⟨hw, hR⟩ := (mm_ev_iff xs Ls ck ak mj).mp h
    obtain ⟨hpl, hM, ⟨hh, hcw⟩ | ⟨hh, hcw, hall, hrk, hHO⟩⟩ := hok j
    · rw [hcw]
      exact mm_met hl hpl hTB hAT hM ih hh hw hR hb hmc hms
    · rw [hcw]
      exact mm_metW hpl hTB hAT hM hall hh hrk hHO ih hw hR hb hmc hms
end METW
end
section
/-! THE PROGRAM AS DATA (printed by wip/whole/gen/gen_data.py) -/
def pd_T0 : u_T := fun k => match k with
  | 0 => ("PascalDesk", "reader", "LPascalDesk$Reader;", true)
  | 1 => ("PascalDesk", "runner", "LPascalDesk$Runner;", true)
  | _ => ("PascalDesk", "place", "I", false)
def pd_T1 : u_T := fun k => match k with
  | 0 => ("PascalDesk$Code", "orders", "[I", true)
  | 1 => ("PascalDesk$Code", "numbers", "[I", true)
  | 2 => ("PascalDesk$Code", "length", "I", false)
  | 3 => ("PascalDesk$Code", "statements", "I", false)
  | _ => ("PascalDesk$Code", "there", "Z", false)
def pd_T2 : u_T := fun k => match k with
  | 0 => ("PascalDesk$Reader", "text", "[C", true)
  | 1 => ("PascalDesk$Reader", "length", "I", false)
  | 2 => ("PascalDesk$Reader", "code", "LPascalDesk$Code;", false)
  | 3 => ("PascalDesk$Reader", "at", "I", false)
  | 4 => ("PascalDesk$Reader", "refused", "Z", false)
  | _ => ("PascalDesk$Reader", "typesWrong", "Z", false)
def pd_T3 : u_T := fun k => match k with
  | 0 => ("PascalDesk$Runner", "procedures", "[LPascalDesk$Code;", true)
  | 1 => ("PascalDesk$Runner", "calculator", "LPascalDesk$Calculator;", true)
  | 2 => ("PascalDesk$Runner", "tape", "LPascalDesk$Tape;", true)
  | 3 => ("PascalDesk$Runner", "semaphores", "[I", true)
  | 4 => ("PascalDesk$Runner", "written", "[D", true)
  | 5 => ("PascalDesk$Runner", "writings", "I", false)
  | 6 => ("PascalDesk$Runner", "steps", "I", false)
  | 7 => ("PascalDesk$Runner", "born", "I", false)
  | 8 => ("PascalDesk$Runner", "most", "I", false)
  | 9 => ("PascalDesk$Runner", "waits", "I", false)
  | 10 => ("PascalDesk$Runner", "processes", "[LPascalDesk$Strand;", true)
  | _ => ("PascalDesk$Runner", "living", "I", false)
def pd_T4 : u_T := fun k => match k with
  | 0 => ("PascalDesk$Calculator", "values", "[D", true)
  | 1 => ("PascalDesk$Calculator", "stack", "[D", true)
  | _ => ("PascalDesk$Calculator", "height", "I", false)
def pd_T5 : u_T := fun k => match k with
  | 0 => ("PascalDesk$Tape", "numbers", "[I", true)
  | 1 => ("PascalDesk$Tape", "length", "I", false)
  | _ => ("PascalDesk$Tape", "at", "I", false)
def pd_T6 : u_T := fun k => match k with
  | 0 => ("PascalDesk$Strand", "state", "I", false)
  | 1 => ("PascalDesk$Strand", "parent", "I", false)
  | 2 => ("PascalDesk$Strand", "children", "I", false)
  | 3 => ("PascalDesk$Strand", "procedure", "I", false)
  | 4 => ("PascalDesk$Strand", "at", "I", false)
  | 5 => ("PascalDesk$Strand", "semaphore", "I", false)
  | 6 => ("PascalDesk$Strand", "ticket", "I", false)
  | 7 => ("PascalDesk$Strand", "calls", "I", false)
  | 8 => ("PascalDesk$Strand", "callsBefore", "I", false)
  | 9 => ("PascalDesk$Strand", "callers", "[I", true)
  | _ => ("PascalDesk$Strand", "returns", "[I", true)
def pd_T7 : u_T := fun k => match k with
  | 0 => ("PascalDeskModel", "text", "[I", true)
  | 1 => ("PascalDeskModel", "code", "[I", true)
  | 2 => ("PascalDeskModel", "arg", "[I", true)
  | 3 => ("PascalDeskModel", "other", "[I", true)
  | 4 => ("PascalDeskModel", "there", "[Z", true)
  | 5 => ("PascalDeskModel", "open", "[I", true)
  | 6 => ("PascalDeskModel", "from", "[I", true)
  | 7 => ("PascalDeskModel", "real", "[Z", true)
  | 8 => ("PascalDeskModel", "length", "I", false)
  | 9 => ("PascalDeskModel", "place", "I", false)
  | 10 => ("PascalDeskModel", "height", "I", false)
  | 11 => ("PascalDeskModel", "top", "I", false)
  | 12 => ("PascalDeskModel", "size", "I", false)
  | 13 => ("PascalDeskModel", "target", "I", false)
  | 14 => ("PascalDeskModel", "statements", "I", false)
  | 15 => ("PascalDeskModel", "depth", "I", false)
  | 16 => ("PascalDeskModel", "mistyped", "Z", false)
  | 17 => ("PascalDeskModel", "taped", "[I", true)
  | 18 => ("PascalDeskModel", "tapeSize", "I", false)
  | 19 => ("PascalDeskModel", "tapeAt", "I", false)
  | 20 => ("PascalDeskModel", "variable", "[D", true)
  | 21 => ("PascalDeskModel", "out", "[D", true)
  | 22 => ("PascalDeskModel", "stack", "[D", true)
  | 23 => ("PascalDeskModel", "semaphore", "[I", true)
  | 24 => ("PascalDeskModel", "state", "[I", true)
  | 25 => ("PascalDeskModel", "at", "[I", true)
  | 26 => ("PascalDeskModel", "parent", "[I", true)
  | 27 => ("PascalDeskModel", "parts", "[I", true)
  | 28 => ("PascalDeskModel", "inherited", "[I", true)
  | 29 => ("PascalDeskModel", "calls", "[I", true)
  | 30 => ("PascalDeskModel", "back", "[I", true)
  | 31 => ("PascalDeskModel", "row", "[I", true)
  | 32 => ("PascalDeskModel", "waitsFor", "[I", true)
  | 33 => ("PascalDeskModel", "rowSize", "I", false)
  | 34 => ("PascalDeskModel", "steps", "I", false)
  | 35 => ("PascalDeskModel", "written", "I", false)
  | 36 => ("PascalDeskModel", "born", "I", false)
  | 37 => ("PascalDeskModel", "most", "I", false)
  | 38 => ("PascalDeskModel", "waited", "I", false)
  | _ => ("PascalDeskModel", "thrown", "I", false)
def pd_cl : List vw_C := [("PascalDesk", pd_T0, 3), ("PascalDesk$Code", pd_T1, 5), ("PascalDesk$Reader", pd_T2, 6), ("PascalDesk$Runner", pd_T3, 12), ("PascalDesk$Calculator", pd_T4, 3), ("PascalDesk$Tape", pd_T5, 3), ("PascalDesk$Strand", pd_T6, 11), ("PascalDeskModel", pd_T7, 40)]
def pd_ckl : List (List Nat) := [[2, 2, 0], [2, 2, 0, 0, 4], [2, 0, 2, 0, 4, 4], [2, 2, 2, 2, 2, 0, 0, 0, 0, 0, 2, 0], [2, 2, 0], [2, 0, 0], [0, 0, 0, 0, 0, 0, 0, 0, 0, 2, 2], [2, 2, 2, 2, 2, 2, 2, 2, 0, 0, 0, 0, 0, 0, 0, 0, 4, 2, 0, 0, 2, 2, 2, 2, 2, 2, 2, 2, 2, 2, 2, 2, 2, 0, 0, 0, 0, 0, 0, 0]]
def pd_ck (ci : Nat) : List Nat := pd_ckl.getD ci []
def pd_ctl : List (List FieldType) := [[(.object "PascalDesk$Reader"), (.object "PascalDesk$Runner"), .int], [(.array .int), (.array .int), .int, .int, .boolean], [(.array .char), .int, (.object "PascalDesk$Code"), .int, .boolean, .boolean], [(.array (.object "PascalDesk$Code")), (.object "PascalDesk$Calculator"), (.object "PascalDesk$Tape"), (.array .int), (.array .double), .int, .int, .int, .int, .int, (.array (.object "PascalDesk$Strand")), .int], [(.array .double), (.array .double), .int], [(.array .int), .int, .int], [.int, .int, .int, .int, .int, .int, .int, .int, .int, (.array .int), (.array .int)], [(.array .int), (.array .int), (.array .int), (.array .int), (.array .boolean), (.array .int), (.array .int), (.array .boolean), .int, .int, .int, .int, .int, .int, .int, .int, .boolean, (.array .int), .int, .int, (.array .double), (.array .double), (.array .double), (.array .int), (.array .int), (.array .int), (.array .int), (.array .int), (.array .int), (.array .int), (.array .int), (.array .int), (.array .int), .int, .int, .int, .int, .int, .int, .int]]
def pd_ct (ci k : Nat) : FieldType := (pd_ctl.getD ci []).getD k .int
def pd_akl : List FieldType := [.int, .char, .double, .long, .boolean, .int, .int, .int, .int, .int, .int, .object "PascalDesk$Code", .int, .int, .int, .int, .object "PascalDesk$Strand", .int]
def pd_ak (t : Nat) : FieldType := pd_akl.getD t .int
def pd_exl : List String := ["java/lang/IllegalArgumentException", "java/lang/IllegalStateException", "java/util/NoSuchElementException", "java/lang/ArithmeticException", "java/lang/IndexOutOfBoundsException"]
def pd_ex (n : Nat) : String := pd_exl.getD n "java/lang/IllegalArgumentException"
def pd_strs : List (String × Nat × String) := [("PascalDesk", 33, "a byte is not 33 .. 126"), ("PascalDesk", 44, "the text would be too long"), ("PascalDesk", 58, "no such procedure"), ("PascalDesk", 63, "the text can't be read"), ("PascalDesk", 82, "a tape has 1 .. 16 numbers"), ("PascalDesk", 97, "a number is out of range"), ("PascalDesk", 105, "the procedure is none"), ("PascalDesk", 117, "no such variable"), ("PascalDesk", 134, "an integer takes a whole number"), ("PascalDesk", 139, "no such number was written"), ("PascalDesk$Calculator", 52, "the row has 0 .. 3"), ("PascalDesk$Calculator", 71, "/ by 0"), ("PascalDesk$Calculator", 74, "% by 0"), ("PascalDesk$Calculator", 80, "a real is too large"), ("PascalDesk$Runner", 72, "too many steps"), ("PascalDesk$Runner", 101, "stuck"), ("PascalDesk$Runner", 159, "too much is written"), ("PascalDesk$Runner", 172, "the called procedure is none"), ("PascalDesk$Runner", 179, "too many calls in one another"), ("PascalDesk$Runner", 181, "too many processes")]
def pd_nc : List (String × String) := [("java/lang/IllegalArgumentException", "java/lang/IllegalStateException"), ("java/lang/IllegalArgumentException", "java/util/NoSuchElementException"), ("java/lang/IllegalArgumentException", "java/lang/ArithmeticException"), ("java/lang/IllegalArgumentException", "java/lang/IndexOutOfBoundsException"), ("java/lang/IllegalStateException", "java/lang/IllegalArgumentException"), ("java/lang/IllegalStateException", "java/util/NoSuchElementException"), ("java/lang/IllegalStateException", "java/lang/ArithmeticException"), ("java/lang/IllegalStateException", "java/lang/IndexOutOfBoundsException"), ("java/util/NoSuchElementException", "java/lang/IllegalArgumentException"), ("java/util/NoSuchElementException", "java/lang/IllegalStateException"), ("java/util/NoSuchElementException", "java/lang/ArithmeticException"), ("java/util/NoSuchElementException", "java/lang/IndexOutOfBoundsException"), ("java/lang/ArithmeticException", "java/lang/IllegalArgumentException"), ("java/lang/ArithmeticException", "java/lang/IllegalStateException"), ("java/lang/ArithmeticException", "java/util/NoSuchElementException"), ("java/lang/ArithmeticException", "java/lang/IndexOutOfBoundsException"), ("java/lang/IndexOutOfBoundsException", "java/lang/IllegalArgumentException"), ("java/lang/IndexOutOfBoundsException", "java/lang/IllegalStateException"), ("java/lang/IndexOutOfBoundsException", "java/util/NoSuchElementException"), ("java/lang/IndexOutOfBoundsException", "java/lang/ArithmeticException")]
def pd_TT : List Cond := lw_tbl.filter mm_wd
theorem pd_mem {w : Cond} (i : Nat) (h : lw_tbl[i]? = some w) (h2 : mm_wd w = true) : w ∈ pd_TT := List.mem_filter.mpr ⟨List.mem_of_getElem? h, h2⟩
def pd_lkl0 : List (Nat × mm_K) := [(1, 3, 0, 0, 0), (7, 4, 2, 0, 0), (9, 10, 19, 0, 2), (10, 0, 0, 0, 0), (16, 4, 3, 0, 0), (18, 10, 47, 0, 3), (19, 0, 0, 1, 0), (23, 0, 0, 2, 0), (27, 2, 3, 2, 0), (31, 5, 0, 0, 0), (38, 1, 20, 0, 2), (42, 5, 1, 0, 0), (47, 1, 21, 1, 2), (51, 0, 2, 1, 0), (54, 2, 5, 1, 0), (60, 1, 22, 0, 2), (65, 0, 2, 2, 0), (69, 1, 49, 2, 3), (73, 0, 3, 0, 0), (77, 0, 1, 3, 0), (84, 0, 3, 2, 0), (88, 1, 82, 2, 5), (94, 2, 8, 1, 0), (99, 0, 1, 4, 0), (103, 5, 2, 0, 0), (108, 1, 50, 3, 3), (112, 2, 71, 1, 0), (119, 0, 3, 1, 0), (123, 0, 4, 0, 0), (127, 8, 13875379345695965184, 0, 0), (129, 8, 4652007308841189376, 0, 0), (131, 2, 67, 1, 0), (136, 0, 3, 5, 0), (141, 0, 3, 4, 0), (144, 1, 48, 0, 3), (147, 0, 3, 6, 0), (150, 0, 3, 3, 0), (154, 0, 3, 7, 0), (157, 0, 3, 8, 0), (160, 0, 3, 9, 0)]
def pd_lkl1 : List (Nat × mm_K) := [(3, 3, 0, 0, 0), (11, 0, 1, 0, 0), (15, 0, 1, 1, 0), (18, 0, 1, 2, 0), (22, 0, 1, 3, 0), (25, 0, 1, 4, 0)]
def pd_lkl2 : List (Nat × mm_K) := [(1, 3, 0, 0, 0), (9, 0, 2, 0, 0), (13, 4, 1, 0, 0), (15, 10, 12, 0, 1), (16, 0, 2, 2, 0), (20, 0, 2, 1, 0), (24, 1, 13, 0, 1), (27, 0, 2, 3, 0), (30, 0, 2, 4, 0), (34, 0, 2, 5, 0), (37, 1, 23, 1, 2), (43, 1, 14, 2, 1), (47, 0, 1, 4, 0), (50, 1, 25, 0, 2), (54, 1, 29, 1, 2), (58, 1, 28, 1, 2), (61, 1, 24, 1, 2), (64, 2, 26, 1, 0), (68, 0, 1, 3, 0), (71, 1, 27, 2, 2), (75, 1, 42, 1, 2), (78, 1, 43, 1, 2), (81, 1, 45, 1, 2), (84, 1, 30, 1, 2), (88, 1, 36, 1, 2), (91, 1, 46, 1, 2), (94, 2, 67, 1, 0), (99, 1, 39, 1, 2), (103, 1, 37, 1, 2), (106, 1, 44, 1, 2), (109, 1, 15, 1, 1), (112, 1, 16, 0, 1), (116, 1, 38, 2, 2), (120, 1, 31, 1, 2), (123, 1, 32, 1, 2), (126, 1, 33, 1, 2), (129, 2, 34, 1, 0), (132, 1, 35, 0, 2), (135, 1, 40, 1, 2), (138, 1, 41, 1, 2)]
def pd_lkl3 : List (Nat × mm_K) := [(3, 3, 0, 0, 0), (9, 4, 1, 0, 0), (11, 0, 3, 0, 0), (17, 10, 12, 0, 1), (18, 4, 4, 0, 0), (20, 10, 66, 0, 4), (21, 0, 3, 1, 0), (25, 4, 5, 0, 0), (27, 10, 81, 0, 5), (28, 0, 3, 2, 0), (32, 0, 3, 3, 0), (36, 0, 3, 4, 0), (40, 4, 6, 0, 0), (42, 0, 3, 10, 0), (46, 10, 85, 0, 6), (47, 0, 1, 4, 0), (51, 1, 51, 3, 3), (55, 0, 3, 11, 0), (59, 1, 52, 0, 3), (63, 1, 53, 1, 3), (67, 1, 62, 0, 3), (70, 5, 1, 0, 0), (77, 0, 3, 6, 0), (80, 0, 3, 5, 0), (83, 0, 3, 9, 0), (86, 1, 83, 0, 5), (89, 0, 6, 0, 0), (92, 1, 86, 1, 6), (95, 0, 3, 7, 0), (98, 0, 3, 8, 0), (103, 1, 84, 0, 5), (106, 0, 6, 3, 0), (109, 1, 68, 0, 4), (112, 0, 6, 4, 0), (115, 1, 17, 1, 1), (119, 1, 18, 1, 1), (124, 1, 54, 3, 3), (127, 1, 73, 2, 4), (131, 1, 69, 0, 4), (135, 1, 70, 2, 4), (139, 1, 72, 0, 4), (142, 1, 55, 1, 3), (146, 1, 56, 2, 3), (150, 1, 57, 1, 3), (153, 1, 59, 2, 3), (156, 1, 60, 2, 3), (161, 0, 6, 5, 0), (164, 0, 6, 6, 0), (167, 1, 58, 1, 3), (170, 5, 2, 0, 0), (175, 1, 88, 1, 6), (183, 0, 6, 2, 0), (186, 1, 61, 0, 3), (189, 1, 89, 3, 6), (193, 2, 135, 2, 0), (199, 1, 63, 1, 3), (202, 1, 64, 1, 3), (206, 1, 65, 1, 3), (210, 1, 90, 0, 6), (214, 0, 6, 1, 0)]
def pd_lkl4 : List (Nat × mm_K) := [(3, 3, 0, 0, 0), (9, 0, 4, 0, 0), (15, 0, 4, 1, 0), (18, 0, 4, 2, 0), (22, 2, 71, 1, 0), (26, 1, 69, 0, 4), (30, 1, 70, 2, 4), (34, 1, 74, 1, 4), (38, 1, 75, 1, 4), (42, 2, 76, 1, 0), (46, 2, 77, 3, 0), (50, 5, 4, 0, 0), (57, 2, 78, 1, 0), (61, 2, 79, 2, 0), (65, 2, 80, 2, 0), (69, 5, 3, 0, 0), (76, 8, 4741671816366391296, 0, 0), (78, 8, 13965043853221167104, 0, 0)]
def pd_lkl5 : List (Nat × mm_K) := [(3, 3, 0, 0, 0), (9, 0, 5, 0, 0), (15, 0, 5, 1, 0), (19, 0, 5, 2, 0)]
def pd_lkl6 : List (Nat × mm_K) := [(1, 3, 0, 0, 0), (9, 0, 6, 9, 0), (13, 0, 6, 10, 0), (16, 1, 87, 4, 6), (20, 0, 6, 3, 0), (24, 0, 6, 7, 0), (27, 0, 6, 0, 0), (30, 0, 6, 1, 0), (33, 0, 6, 2, 0), (36, 0, 6, 4, 0), (39, 0, 6, 8, 0)]
def pd_lkl7 : List (Nat × mm_K) := [(1, 3, 0, 0, 0), (7, 0, 7, 0, 0), (13, 0, 7, 1, 0), (16, 0, 7, 2, 0), (19, 0, 7, 3, 0), (22, 0, 7, 4, 0), (26, 0, 7, 5, 0), (29, 0, 7, 6, 0), (32, 0, 7, 7, 0), (35, 0, 7, 9, 0), (39, 0, 7, 17, 0), (42, 0, 7, 18, 0), (45, 0, 7, 20, 0), (49, 0, 7, 21, 0), (52, 0, 7, 22, 0), (55, 0, 7, 23, 0), (58, 0, 7, 24, 0), (61, 0, 7, 25, 0), (64, 0, 7, 26, 0), (67, 0, 7, 27, 0), (70, 0, 7, 28, 0), (73, 0, 7, 29, 0), (76, 0, 7, 30, 0), (79, 0, 7, 31, 0), (82, 0, 7, 32, 0), (85, 0, 7, 39, 0), (88, 0, 7, 8, 0), (91, 0, 7, 12, 0), (94, 0, 7, 10, 0), (97, 0, 7, 11, 0), (100, 1, 99, 0, 7), (104, 1, 106, 1, 7), (108, 0, 7, 16, 0), (112, 1, 96, 2, 7), (116, 0, 7, 15, 0), (119, 1, 103, 1, 7), (123, 0, 7, 14, 0), (126, 1, 101, 1, 7), (130, 1, 102, 1, 7), (133, 0, 7, 13, 0), (136, 1, 97, 1, 7), (140, 1, 98, 0, 7), (143, 1, 105, 1, 7), (146, 1, 108, 1, 7), (149, 1, 110, 0, 7), (152, 1, 111, 1, 7), (155, 1, 100, 1, 7), (158, 1, 104, 1, 7), (161, 1, 107, 1, 7), (164, 1, 109, 1, 7), (167, 1, 112, 2, 7), (171, 1, 95, 0, 7), (174, 8, 4741671816366391296, 0, 0), (176, 8, 13965043853221167104, 0, 0), (178, 8, 4613937818241073152, 0, 0), (180, 1, 120, 4, 7), (184, 0, 7, 36, 0), (187, 1, 116, 0, 7), (190, 0, 7, 37, 0), (193, 0, 7, 33, 0), (196, 1, 123, 1, 7), (199, 1, 119, 1, 7), (202, 1, 121, 3, 7), (206, 0, 7, 35, 0), (209, 1, 122, 1, 7), (212, 1, 115, 2, 7), (215, 0, 7, 38, 0), (218, 0, 7, 34, 0), (221, 0, 7, 19, 0), (224, 1, 117, 1, 7), (227, 1, 118, 1, 7), (230, 8, 13875379345695965184, 0, 0), (232, 8, 4652007308841189376, 0, 0)]
def pd_lkl8 : List (Nat × mm_K) := [(7, 1, 2, 1, 0), (8, 4, 0, 0, 0), (13, 5, 0, 0, 0), (15, 5, 1, 0, 0), (17, 1, 4, 1, 0), (21, 1, 6, 2, 0), (25, 1, 7, 3, 0), (29, 5, 2, 0, 0), (31, 5, 3, 0, 0), (33, 5, 4, 0, 0), (35, 1, 9, 1, 0), (39, 1, 10, 2, 0), (43, 1, 11, 1, 0), (46, 10, 0, 0, 0), (47, 4, 7, 0, 0), (49, 10, 91, 0, 7), (50, 7, 4294967295, 0, 0), (52, 14, 128, 3, 0), (57, 1, 93, 1, 7), (58, 1, 92, 0, 7), (62, 14, 129, 3, 0), (65, 1, 94, 1, 7), (66, 14, 130, 3, 0), (69, 1, 113, 2, 7), (70, 14, 131, 5, 0), (73, 1, 114, 3, 7), (74, 14, 132, 3, 0), (77, 1, 124, 1, 7), (78, 8, 4593671619917905920, 0, 0), (80, 14, 133, 3, 0), (83, 1, 125, 2, 7), (84, 14, 134, 3, 0), (86, 1, 126, 1, 7), (87, 1, 1, 1, 0), (90, 1, 127, 1, 7)]
def pd_lkl9 : List (Nat × mm_K) := []
def pd_lk (l : List (Nat × mm_K)) (ix : Nat) : Option mm_K := match l with
  | [] => none
  | q :: r => cond (Nat.beq q.1 ix) (some q.2) (pd_lk r ix)
def pd_lk0 : Nat → Option mm_K := pd_lk pd_lkl0
def pd_lk1 : Nat → Option mm_K := pd_lk pd_lkl1
def pd_lk2 : Nat → Option mm_K := pd_lk pd_lkl2
def pd_lk3 : Nat → Option mm_K := pd_lk pd_lkl3
def pd_lk4 : Nat → Option mm_K := pd_lk pd_lkl4
def pd_lk5 : Nat → Option mm_K := pd_lk pd_lkl5
def pd_lk6 : Nat → Option mm_K := pd_lk pd_lkl6
def pd_lk7 : Nat → Option mm_K := pd_lk pd_lkl7
def pd_lk8 : Nat → Option mm_K := pd_lk pd_lkl8
def pd_lk9 : Nat → Option mm_K := pd_lk pd_lkl9
def pd_y0 : MethodName := ⟨"PascalDesk", "<init>", "()V"⟩
def pd_d0 : List (Option (Instr × Nat)) := [some (.aload_n 0, 1), some (.invokespecial 1, 3), none, none, some (.aload_n 0, 1), some (.new 7, 3), none, none, some (.dup, 1), some (.invokespecial 9, 3), none, none, some (.putfield 10, 3), none, none, some (.aload_n 0, 1), some (.new 16, 3), none, none, some (.dup, 1), some (.invokespecial 18, 3), none, none, some (.putfield 19, 3), none, none, some (.aload_n 0, 1), some (.iconst (-1), 1), some (.putfield 23, 3), none, none, some (.return_, 1)]
def pd_m0 : mm_Me := (pd_d0, pd_lk0, [], 1, 0)
def pd_y1 : MethodName := ⟨"PascalDesk", "count", "(I)I"⟩
def pd_d1 : List (Option (Instr × Nat)) := [some (.iload_n 1, 1), some (.tableswitch 136 0 9 #[55, 60, 68, 76, 84, 92, 102, 112, 120, 128], 55), none, none, none, none, none, none, none, none, none, none, none, none, none, none, none, none, none, none, none, none, none, none, none, none, none, none, none, none, none, none, none, none, none, none, none, none, none, none, none, none, none, none, none, none, none, none, none, none, none, none, none, none, none, none, some (.aload_n 0, 1), some (.getfield 23, 3), none, none, some (.ireturn, 1), some (.aload_n 0, 1), some (.getfield 10, 3), none, none, some (.getfield 51, 3), none, none, some (.ireturn, 1), some (.aload_n 0, 1), some (.getfield 19, 3), none, none, some (.invokevirtual 144, 3), none, none, some (.ireturn, 1), some (.aload_n 0, 1), some (.getfield 19, 3), none, none, some (.getfield 147, 3), none, none, some (.ireturn, 1), some (.aload_n 0, 1), some (.getfield 19, 3), none, none, some (.getfield 136, 3), none, none, some (.ireturn, 1), some (.aload_n 0, 1), some (.getfield 19, 3), none, none, some (.getfield 150, 3), none, none, some (.iconst 0, 1), some (.iaload, 1), some (.ireturn, 1), some (.aload_n 0, 1), some (.getfield 19, 3), none, none, some (.getfield 150, 3), none, none, some (.iconst 1, 1), some (.iaload, 1), some (.ireturn, 1), some (.aload_n 0, 1), some (.getfield 19, 3), none, none, some (.getfield 154, 3), none, none, some (.ireturn, 1), some (.aload_n 0, 1), some (.getfield 19, 3), none, none, some (.getfield 157, 3), none, none, some (.ireturn, 1), some (.aload_n 0, 1), some (.getfield 19, 3), none, none, some (.getfield 160, 3), none, none, some (.ireturn, 1), some (.iconst (-1), 1), some (.ireturn, 1)]
def pd_m1 : mm_Me := (pd_d1, pd_lk0, [], 2, 0)
def pd_y2 : MethodName := ⟨"PascalDesk", "type", "(J)I"⟩
def pd_d2 : List (Option (Instr × Nat)) := [some (.iconst 0, 1), some (.istore_n 3, 1), some (.bipush 56, 2), none, some (.istore 4, 2), none, some (.iload 4, 2), none, some (.ifCond .lt 54, 3), none, none, some (.lload_n 1, 1), some (.iload 4, 2), none, some (.invokestatic 27, 3), none, none, some (.istore 5, 2), none, some (.iload 5, 2), none, some (.ifCond .eq 27, 3), none, none, some (.iload 5, 2), none, some (.bipush 33, 2), none, some (.if_icmp .lt 10, 3), none, none, some (.iload 5, 2), none, some (.bipush 126, 2), none, some (.if_icmp .le 13, 3), none, none, some (.new 31, 3), none, none, some (.dup, 1), some (.ldc 33, 2), none, some (.invokespecial 35, 3), none, none, some (.athrow, 1), some (.iload 5, 2), none, some (.ifCond .eq 6, 3), none, none, some (.iinc 3 1, 3), none, none, some (.iinc 4 (-8), 3), none, none, some (.goto (-53), 3), none, none, some (.iload_n 3, 1), some (.aload_n 0, 1), some (.getfield 10, 3), none, none, some (.invokevirtual 38, 3), none, none, some (.if_icmp .le 13, 3), none, none, some (.new 42, 3), none, none, some (.dup, 1), some (.ldc 44, 2), none, some (.invokespecial 46, 3), none, none, some (.athrow, 1), some (.bipush 56, 2), none, some (.istore 4, 2), none, some (.iload 4, 2), none, some (.ifCond .lt 32, 3), none, none, some (.lload_n 1, 1), some (.iload 4, 2), none, some (.invokestatic 27, 3), none, none, some (.istore 5, 2), none, some (.iload 5, 2), none, some (.ifCond .eq 13, 3), none, none, some (.aload_n 0, 1), some (.getfield 10, 3), none, none, some (.iload 5, 2), none, some (.i2c, 1), some (.invokevirtual 47, 3), none, none, some (.iinc 4 (-8), 3), none, none, some (.goto (-31), 3), none, none, some (.aload_n 0, 1), some (.getfield 10, 3), none, none, some (.getfield 51, 3), none, none, some (.ireturn, 1)]
def pd_m2 : mm_Me := (pd_d2, pd_lk0, [], 6, 0)
def pd_y3 : MethodName := ⟨"PascalDesk", "byteAt", "(JI)I"⟩
def pd_d3 : List (Option (Instr × Nat)) := [some (.lload_n 0, 1), some (.iload_n 2, 1), some (.lushr, 1), some (.l2i, 1), some (.sipush 255, 3), none, none, some (.iand, 1), some (.ireturn, 1)]
def pd_m3 : mm_Me := (pd_d3, pd_lk0, [], 3, 0)
def pd_y4 : MethodName := ⟨"PascalDesk", "compile", "(I)I"⟩
def pd_d4 : List (Option (Instr × Nat)) := [some (.iload_n 1, 1), some (.invokestatic 54, 3), none, none, some (.ifCond .ne 13, 3), none, none, some (.new 31, 3), none, none, some (.dup, 1), some (.ldc 58, 2), none, some (.invokespecial 35, 3), none, none, some (.athrow, 1), some (.aload_n 0, 1), some (.getfield 10, 3), none, none, some (.invokevirtual 60, 3), none, none, some (.istore_n 2, 1), some (.iload_n 2, 1), some (.ifCond .lt 18, 3), none, none, some (.aload_n 0, 1), some (.iload_n 2, 1), some (.putfield 23, 3), none, none, some (.new 31, 3), none, none, some (.dup, 1), some (.ldc 63, 2), none, some (.invokespecial 35, 3), none, none, some (.athrow, 1), some (.aload_n 0, 1), some (.getfield 10, 3), none, none, some (.aload_n 0, 1), some (.getfield 19, 3), none, none, some (.iload_n 1, 1), some (.aload_n 0, 1), some (.getfield 10, 3), none, none, some (.getfield 65, 3), none, none, some (.invokevirtual 69, 3), none, none, some (.putfield 65, 3), none, none, some (.aload_n 0, 1), some (.getfield 19, 3), none, none, some (.getfield 73, 3), none, none, some (.iload_n 1, 1), some (.aaload, 1), some (.getfield 77, 3), none, none, some (.ireturn, 1)]
def pd_m4 : mm_Me := (pd_d4, pd_lk0, [], 3, 0)
def pd_y5 : MethodName := ⟨"PascalDesk", "isProcedure", "(I)Z"⟩
def pd_d5 : List (Option (Instr × Nat)) := [some (.iload_n 0, 1), some (.ifCond .lt 12, 3), none, none, some (.iload_n 0, 1), some (.iconst 4, 1), some (.if_icmp .ge 7, 3), none, none, some (.iconst 1, 1), some (.goto 4, 3), none, none, some (.iconst 0, 1), some (.ireturn, 1)]
def pd_m5 : mm_Me := (pd_d5, pd_lk0, [], 1, 4)
def pd_y6 : MethodName := ⟨"PascalDesk", "tape", "(JI)V"⟩
def pd_d6 : List (Option (Instr × Nat)) := [some (.iload_n 3, 1), some (.iconst 1, 1), some (.if_icmp .lt 9, 3), none, none, some (.iload_n 3, 1), some (.bipush 16, 2), none, some (.if_icmp .le 13, 3), none, none, some (.new 31, 3), none, none, some (.dup, 1), some (.ldc 82, 2), none, some (.invokespecial 35, 3), none, none, some (.athrow, 1), some (.aload_n 0, 1), some (.getfield 19, 3), none, none, some (.getfield 84, 3), none, none, some (.lload_n 1, 1), some (.iload_n 3, 1), some (.invokevirtual 88, 3), none, none, some (.return_, 1)]
def pd_m6 : mm_Me := (pd_d6, pd_lk0, [], 4, 0)
def pd_y7 : MethodName := ⟨"PascalDesk", "run", "(III)I"⟩
def pd_d7 : List (Option (Instr × Nat)) := [some (.iload_n 1, 1), some (.invokestatic 54, 3), none, none, some (.ifCond .eq 17, 3), none, none, some (.iload_n 2, 1), some (.invokestatic 94, 3), none, none, some (.ifCond .eq 10, 3), none, none, some (.iload_n 3, 1), some (.invokestatic 94, 3), none, none, some (.ifCond .ne 13, 3), none, none, some (.new 31, 3), none, none, some (.dup, 1), some (.ldc 97, 2), none, some (.invokespecial 35, 3), none, none, some (.athrow, 1), some (.aload_n 0, 1), some (.getfield 19, 3), none, none, some (.getfield 73, 3), none, none, some (.iload_n 1, 1), some (.aaload, 1), some (.getfield 99, 3), none, none, some (.ifCond .ne 13, 3), none, none, some (.new 103, 3), none, none, some (.dup, 1), some (.ldc 105, 2), none, some (.invokespecial 107, 3), none, none, some (.athrow, 1), some (.aload_n 0, 1), some (.getfield 19, 3), none, none, some (.iload_n 1, 1), some (.iload_n 2, 1), some (.iload_n 3, 1), some (.invokevirtual 108, 3), none, none, some (.ireturn, 1)]
def pd_m7 : mm_Me := (pd_d7, pd_lk0, [], 4, 0)
def pd_y8 : MethodName := ⟨"PascalDesk", "isSemaphore", "(I)Z"⟩
def pd_d8 : List (Option (Instr × Nat)) := [some (.iload_n 0, 1), some (.ifCond .lt 13, 3), none, none, some (.iload_n 0, 1), some (.bipush 9, 2), none, some (.if_icmp .gt 7, 3), none, none, some (.iconst 1, 1), some (.goto 4, 3), none, none, some (.iconst 0, 1), some (.ireturn, 1)]
def pd_m8 : mm_Me := (pd_d8, pd_lk0, [], 1, 4)
def pd_y9 : MethodName := ⟨"PascalDesk", "variable", "(I)D"⟩
def pd_d9 : List (Option (Instr × Nat)) := [some (.iload_n 1, 1), some (.invokestatic 112, 3), none, none, some (.ifCond .ne 13, 3), none, none, some (.new 31, 3), none, none, some (.dup, 1), some (.ldc 117, 2), none, some (.invokespecial 35, 3), none, none, some (.athrow, 1), some (.aload_n 0, 1), some (.getfield 19, 3), none, none, some (.getfield 119, 3), none, none, some (.getfield 123, 3), none, none, some (.iload_n 1, 1), some (.daload, 1), some (.dreturn, 1)]
def pd_m9 : mm_Me := (pd_d9, pd_lk0, [], 2, 0)
def pd_y10 : MethodName := ⟨"PascalDesk", "set", "(ID)V"⟩
def pd_d10 : List (Option (Instr × Nat)) := [some (.dload_n 2, 1), some (.ldc2_w 127, 3), none, none, some (.dcmp .l, 1), some (.ifCond .lt 15, 3), none, none, some (.dload_n 2, 1), some (.ldc2_w 129, 3), none, none, some (.dcmp .g, 1), some (.ifCond .gt 7, 3), none, none, some (.iconst 1, 1), some (.goto 4, 3), none, none, some (.iconst 0, 1), some (.istore 4, 2), none, some (.iload_n 1, 1), some (.invokestatic 112, 3), none, none, some (.ifCond .eq 8, 3), none, none, some (.iload 4, 2), none, some (.ifCond .ne 13, 3), none, none, some (.new 31, 3), none, none, some (.dup, 1), some (.ldc 97, 2), none, some (.invokespecial 35, 3), none, none, some (.athrow, 1), some (.iload_n 1, 1), some (.invokestatic 131, 3), none, none, some (.ifCond .eq 17, 3), none, none, some (.aload_n 0, 1), some (.getfield 19, 3), none, none, some (.getfield 119, 3), none, none, some (.getfield 123, 3), none, none, some (.iload_n 1, 1), some (.dload_n 2, 1), some (.dastore, 1), some (.return_, 1), some (.dload_n 2, 1), some (.d2i, 1), some (.istore 5, 2), none, some (.iload 5, 2), none, some (.i2d, 1), some (.dload_n 2, 1), some (.dcmp .l, 1), some (.ifCond .eq 13, 3), none, none, some (.new 31, 3), none, none, some (.dup, 1), some (.ldc 134, 2), none, some (.invokespecial 35, 3), none, none, some (.athrow, 1), some (.aload_n 0, 1), some (.getfield 19, 3), none, none, some (.getfield 119, 3), none, none, some (.getfield 123, 3), none, none, some (.iload_n 1, 1), some (.iload 5, 2), none, some (.i2d, 1), some (.dastore, 1), some (.return_, 1)]
def pd_m10 : mm_Me := (pd_d10, pd_lk0, [], 6, 0)
def pd_y11 : MethodName := ⟨"PascalDesk", "written", "(I)D"⟩
def pd_d11 : List (Option (Instr × Nat)) := [some (.iload_n 1, 1), some (.ifCond .lt 14, 3), none, none, some (.iload_n 1, 1), some (.aload_n 0, 1), some (.getfield 19, 3), none, none, some (.getfield 136, 3), none, none, some (.if_icmp .lt 13, 3), none, none, some (.new 103, 3), none, none, some (.dup, 1), some (.ldc 139, 2), none, some (.invokespecial 107, 3), none, none, some (.athrow, 1), some (.aload_n 0, 1), some (.getfield 19, 3), none, none, some (.getfield 141, 3), none, none, some (.iload_n 1, 1), some (.daload, 1), some (.dreturn, 1)]
def pd_m11 : mm_Me := (pd_d11, pd_lk0, [], 2, 0)
def pd_y12 : MethodName := ⟨"PascalDesk$Code", "<init>", "()V"⟩
def pd_d12 : List (Option (Instr × Nat)) := [some (.aload_n 0, 1), some (.invokespecial 3, 3), none, none, some (.aload_n 0, 1), some (.bipush 49, 2), none, some (.newarray .int, 2), none, some (.putfield 11, 3), none, none, some (.aload_n 0, 1), some (.bipush 49, 2), none, some (.newarray .int, 2), none, some (.putfield 15, 3), none, none, some (.return_, 1)]
def pd_m12 : mm_Me := (pd_d12, pd_lk1, [], 1, 0)
def pd_y13 : MethodName := ⟨"PascalDesk$Code", "clear", "()V"⟩
def pd_d13 : List (Option (Instr × Nat)) := [some (.aload_n 0, 1), some (.iconst 0, 1), some (.putfield 18, 3), none, none, some (.aload_n 0, 1), some (.iconst 0, 1), some (.putfield 22, 3), none, none, some (.aload_n 0, 1), some (.iconst 0, 1), some (.putfield 25, 3), none, none, some (.return_, 1)]
def pd_m13 : mm_Me := (pd_d13, pd_lk1, [], 1, 0)
def pd_y14 : MethodName := ⟨"PascalDesk$Code", "add", "(II)I"⟩
def pd_d14 : List (Option (Instr × Nat)) := [some (.aload_n 0, 1), some (.getfield 18, 3), none, none, some (.istore_n 3, 1), some (.iload_n 3, 1), some (.bipush 49, 2), none, some (.if_icmp .ge 27, 3), none, none, some (.aload_n 0, 1), some (.getfield 11, 3), none, none, some (.iload_n 3, 1), some (.iload_n 1, 1), some (.iastore, 1), some (.aload_n 0, 1), some (.getfield 15, 3), none, none, some (.iload_n 3, 1), some (.iload_n 2, 1), some (.iastore, 1), some (.aload_n 0, 1), some (.dup, 1), some (.getfield 18, 3), none, none, some (.iconst 1, 1), some (.iadd, 1), some (.putfield 18, 3), none, none, some (.iload_n 3, 1), some (.ireturn, 1)]
def pd_m14 : mm_Me := (pd_d14, pd_lk1, [], 4, 0)
def pd_y15 : MethodName := ⟨"PascalDesk$Code", "pointHere", "(I)V"⟩
def pd_d15 : List (Option (Instr × Nat)) := [some (.iload_n 1, 1), some (.ifCond .lt 19, 3), none, none, some (.iload_n 1, 1), some (.bipush 49, 2), none, some (.if_icmp .ge 13, 3), none, none, some (.aload_n 0, 1), some (.getfield 15, 3), none, none, some (.iload_n 1, 1), some (.aload_n 0, 1), some (.getfield 18, 3), none, none, some (.iastore, 1), some (.return_, 1)]
def pd_m15 : mm_Me := (pd_d15, pd_lk1, [], 2, 0)
def pd_y16 : MethodName := ⟨"PascalDesk$Code", "next", "()I"⟩
def pd_d16 : List (Option (Instr × Nat)) := [some (.aload_n 0, 1), some (.getfield 18, 3), none, none, some (.ireturn, 1)]
def pd_m16 : mm_Me := (pd_d16, pd_lk1, [], 1, 0)
def pd_y17 : MethodName := ⟨"PascalDesk$Code", "orderAt", "(I)I"⟩
def pd_d17 : List (Option (Instr × Nat)) := [some (.iload_n 1, 1), some (.ifCond .lt 20, 3), none, none, some (.iload_n 1, 1), some (.aload_n 0, 1), some (.getfield 18, 3), none, none, some (.if_icmp .ge 12, 3), none, none, some (.aload_n 0, 1), some (.getfield 11, 3), none, none, some (.iload_n 1, 1), some (.iaload, 1), some (.goto 4, 3), none, none, some (.iconst 0, 1), some (.ireturn, 1)]
def pd_m17 : mm_Me := (pd_d17, pd_lk1, [], 2, 0)
def pd_y18 : MethodName := ⟨"PascalDesk$Code", "numberAt", "(I)I"⟩
def pd_d18 : List (Option (Instr × Nat)) := [some (.iload_n 1, 1), some (.ifCond .lt 20, 3), none, none, some (.iload_n 1, 1), some (.aload_n 0, 1), some (.getfield 18, 3), none, none, some (.if_icmp .ge 12, 3), none, none, some (.aload_n 0, 1), some (.getfield 15, 3), none, none, some (.iload_n 1, 1), some (.iaload, 1), some (.goto 4, 3), none, none, some (.iconst 0, 1), some (.ireturn, 1)]
def pd_m18 : mm_Me := (pd_d18, pd_lk1, [], 2, 0)
def pd_y19 : MethodName := ⟨"PascalDesk$Reader", "<init>", "()V"⟩
def pd_d19 : List (Option (Instr × Nat)) := [some (.aload_n 0, 1), some (.invokespecial 1, 3), none, none, some (.aload_n 0, 1), some (.bipush 48, 2), none, some (.newarray .char, 2), none, some (.putfield 9, 3), none, none, some (.aload_n 0, 1), some (.new 13, 3), none, none, some (.dup, 1), some (.invokespecial 15, 3), none, none, some (.putfield 16, 3), none, none, some (.return_, 1)]
def pd_m19 : mm_Me := (pd_d19, pd_lk2, [], 1, 0)
def pd_y20 : MethodName := ⟨"PascalDesk$Reader", "space", "()I"⟩
def pd_d20 : List (Option (Instr × Nat)) := [some (.bipush 48, 2), none, some (.aload_n 0, 1), some (.getfield 20, 3), none, none, some (.isub, 1), some (.ireturn, 1)]
def pd_m20 : mm_Me := (pd_d20, pd_lk2, [], 1, 0)
def pd_y21 : MethodName := ⟨"PascalDesk$Reader", "append", "(C)V"⟩
def pd_d21 : List (Option (Instr × Nat)) := [some (.aload_n 0, 1), some (.getfield 20, 3), none, none, some (.bipush 48, 2), none, some (.if_icmp .ge 23, 3), none, none, some (.aload_n 0, 1), some (.getfield 9, 3), none, none, some (.aload_n 0, 1), some (.getfield 20, 3), none, none, some (.iload_n 1, 1), some (.castore, 1), some (.aload_n 0, 1), some (.dup, 1), some (.getfield 20, 3), none, none, some (.iconst 1, 1), some (.iadd, 1), some (.putfield 20, 3), none, none, some (.return_, 1)]
def pd_m21 : mm_Me := (pd_d21, pd_lk2, [], 2, 0)
def pd_y22 : MethodName := ⟨"PascalDesk$Reader", "read", "()I"⟩
def pd_d22 : List (Option (Instr × Nat)) := [some (.aload_n 0, 1), some (.getfield 16, 3), none, none, some (.invokevirtual 24, 3), none, none, some (.aload_n 0, 1), some (.iconst 0, 1), some (.putfield 27, 3), none, none, some (.aload_n 0, 1), some (.iconst 0, 1), some (.putfield 30, 3), none, none, some (.aload_n 0, 1), some (.iconst 0, 1), some (.putfield 34, 3), none, none, some (.aload_n 0, 1), some (.iconst 0, 1), some (.invokevirtual 37, 3), none, none, some (.aload_n 0, 1), some (.getfield 27, 3), none, none, some (.aload_n 0, 1), some (.getfield 20, 3), none, none, some (.if_icmp .ge 8, 3), none, none, some (.aload_n 0, 1), some (.iconst 1, 1), some (.putfield 30, 3), none, none, some (.aload_n 0, 1), some (.getfield 16, 3), none, none, some (.iconst 0, 1), some (.iconst 0, 1), some (.invokevirtual 43, 3), none, none, some (.pop, 1), some (.aload_n 0, 1), some (.getfield 20, 3), none, none, some (.istore_n 1, 1), some (.aload_n 0, 1), some (.iconst 0, 1), some (.putfield 20, 3), none, none, some (.aload_n 0, 1), some (.getfield 30, 3), none, none, some (.ifCond .eq 8, 3), none, none, some (.aload_n 0, 1), some (.getfield 27, 3), none, none, some (.ireturn, 1), some (.aload_n 0, 1), some (.getfield 34, 3), none, none, some (.ifCond .eq 5, 3), none, none, some (.iload_n 1, 1), some (.ireturn, 1), some (.aload_n 0, 1), some (.getfield 16, 3), none, none, some (.iconst 1, 1), some (.putfield 47, 3), none, none, some (.iconst (-1), 1), some (.ireturn, 1)]
def pd_m22 : mm_Me := (pd_d22, pd_lk2, [], 2, 0)
def pd_y23 : MethodName := ⟨"PascalDesk$Reader", "body", "(I)V"⟩
def pd_d23 : List (Option (Instr × Nat)) := [some (.aload_n 0, 1), some (.iload_n 1, 1), some (.invokevirtual 61, 3), none, none, some (.iconst 0, 1), some (.istore_n 2, 1), some (.iload_n 2, 1), some (.bipush 48, 2), none, some (.if_icmp .ge 23, 3), none, none, some (.aload_n 0, 1), some (.bipush 59, 2), none, some (.invokevirtual 54, 3), none, none, some (.ifCond .eq 14, 3), none, none, some (.aload_n 0, 1), some (.iload_n 1, 1), some (.invokevirtual 61, 3), none, none, some (.iinc 2 1, 3), none, none, some (.goto (-23), 3), none, none, some (.return_, 1)]
def pd_m23 : mm_Me := (pd_d23, pd_lk2, [], 3, 0)
def pd_y24 : MethodName := ⟨"PascalDesk$Reader", "statement", "(I)V"⟩
def pd_d24 : List (Option (Instr × Nat)) := [some (.aload_n 0, 1), some (.invokevirtual 50, 3), none, none, some (.invokestatic 64, 3), none, none, some (.istore_n 2, 1), some (.aload_n 0, 1), some (.getfield 16, 3), none, none, some (.dup, 1), some (.getfield 68, 3), none, none, some (.iconst 1, 1), some (.iadd, 1), some (.putfield 68, 3), none, none, some (.iload_n 2, 1), some (.ifCond .lt 12, 3), none, none, some (.aload_n 0, 1), some (.iload_n 2, 1), some (.iload_n 1, 1), some (.invokevirtual 71, 3), none, none, some (.goto 189, 3), none, none, some (.aload_n 0, 1), some (.bipush 118, 2), none, some (.invokevirtual 54, 3), none, none, some (.ifCond .eq 11, 3), none, none, some (.aload_n 0, 1), some (.iload_n 1, 1), some (.invokevirtual 75, 3), none, none, some (.goto 172, 3), none, none, some (.aload_n 0, 1), some (.bipush 63, 2), none, some (.invokevirtual 54, 3), none, none, some (.ifCond .eq 11, 3), none, none, some (.aload_n 0, 1), some (.iload_n 1, 1), some (.invokevirtual 78, 3), none, none, some (.goto 155, 3), none, none, some (.aload_n 0, 1), some (.bipush 64, 2), none, some (.invokevirtual 54, 3), none, none, some (.ifCond .eq 11, 3), none, none, some (.aload_n 0, 1), some (.iload_n 1, 1), some (.invokevirtual 81, 3), none, none, some (.goto 138, 3), none, none, some (.aload_n 0, 1), some (.bipush 33, 2), none, some (.invokevirtual 54, 3), none, none, some (.ifCond .eq 23, 3), none, none, some (.aload_n 0, 1), some (.iload_n 1, 1), some (.invokevirtual 84, 3), none, none, some (.pop, 1), some (.aload_n 0, 1), some (.getfield 16, 3), none, none, some (.bipush 20, 2), none, some (.iconst 0, 1), some (.invokevirtual 43, 3), none, none, some (.pop, 1), some (.goto 109, 3), none, none, some (.aload_n 0, 1), some (.bipush 87, 2), none, some (.invokevirtual 54, 3), none, none, some (.ifCond .eq 22, 3), none, none, some (.aload_n 0, 1), some (.getfield 16, 3), none, none, some (.bipush 21, 2), none, some (.aload_n 0, 1), some (.bipush 49, 2), none, some (.invokevirtual 88, 3), none, none, some (.invokevirtual 43, 3), none, none, some (.pop, 1), some (.goto 81, 3), none, none, some (.aload_n 0, 1), some (.bipush 83, 2), none, some (.invokevirtual 54, 3), none, none, some (.ifCond .eq 22, 3), none, none, some (.aload_n 0, 1), some (.getfield 16, 3), none, none, some (.bipush 22, 2), none, some (.aload_n 0, 1), some (.bipush 49, 2), none, some (.invokevirtual 88, 3), none, none, some (.invokevirtual 43, 3), none, none, some (.pop, 1), some (.goto 53, 3), none, none, some (.aload_n 0, 1), some (.bipush 80, 2), none, some (.invokevirtual 54, 3), none, none, some (.ifCond .eq 22, 3), none, none, some (.aload_n 0, 1), some (.getfield 16, 3), none, none, some (.bipush 23, 2), none, some (.aload_n 0, 1), some (.bipush 51, 2), none, some (.invokevirtual 88, 3), none, none, some (.invokevirtual 43, 3), none, none, some (.pop, 1), some (.goto 25, 3), none, none, some (.aload_n 0, 1), some (.bipush 38, 2), none, some (.invokevirtual 54, 3), none, none, some (.ifCond .eq 11, 3), none, none, some (.aload_n 0, 1), some (.iload_n 1, 1), some (.invokevirtual 91, 3), none, none, some (.goto 8, 3), none, none, some (.aload_n 0, 1), some (.iconst 1, 1), some (.putfield 30, 3), none, none, some (.return_, 1)]
def pd_m24 : mm_Me := (pd_d24, pd_lk2, [], 3, 0)
def pd_y25 : MethodName := ⟨"PascalDesk$Reader", "peek", "()C"⟩
def pd_d25 : List (Option (Instr × Nat)) := [some (.aload_n 0, 1), some (.getfield 30, 3), none, none, some (.ifCond .ne 26, 3), none, none, some (.aload_n 0, 1), some (.getfield 27, 3), none, none, some (.aload_n 0, 1), some (.getfield 20, 3), none, none, some (.if_icmp .ge 15, 3), none, none, some (.aload_n 0, 1), some (.getfield 9, 3), none, none, some (.aload_n 0, 1), some (.getfield 27, 3), none, none, some (.caload, 1), some (.goto 4, 3), none, none, some (.iconst 0, 1), some (.ireturn, 1)]
def pd_m25 : mm_Me := (pd_d25, pd_lk2, [], 1, 1)
def pd_y26 : MethodName := ⟨"PascalDesk$Reader", "simpleVariable", "(C)I"⟩
def pd_d26 : List (Option (Instr × Nat)) := [some (.iload_n 0, 1), some (.bipush 97, 2), none, some (.if_icmp .lt 14, 3), none, none, some (.iload_n 0, 1), some (.bipush 100, 2), none, some (.if_icmp .gt 8, 3), none, none, some (.iload_n 0, 1), some (.bipush 97, 2), none, some (.isub, 1), some (.ireturn, 1), some (.iload_n 0, 1), some (.bipush 114, 2), none, some (.if_icmp .lt 16, 3), none, none, some (.iload_n 0, 1), some (.bipush 116, 2), none, some (.if_icmp .gt 10, 3), none, none, some (.iload_n 0, 1), some (.bipush 114, 2), none, some (.isub, 1), some (.iconst 4, 1), some (.iadd, 1), some (.ireturn, 1), some (.iconst (-1), 1), some (.ireturn, 1)]
def pd_m26 : mm_Me := (pd_d26, pd_lk2, [], 1, 0)
def pd_y27 : MethodName := ⟨"PascalDesk$Reader", "setting", "(II)V"⟩
def pd_d27 : List (Option (Instr × Nat)) := [some (.aload_n 0, 1), some (.dup, 1), some (.getfield 27, 3), none, none, some (.iconst 1, 1), some (.iadd, 1), some (.putfield 27, 3), none, none, some (.aload_n 0, 1), some (.bipush 61, 2), none, some (.invokevirtual 58, 3), none, none, some (.ifCond .ne 4, 3), none, none, some (.return_, 1), some (.aload_n 0, 1), some (.iload_n 2, 1), some (.invokevirtual 84, 3), none, none, some (.istore_n 3, 1), some (.iload_n 1, 1), some (.invokestatic 94, 3), none, none, some (.ifCond .ne 8, 3), none, none, some (.aload_n 0, 1), some (.iload_n 3, 1), some (.invokevirtual 99, 3), none, none, some (.aload_n 0, 1), some (.getfield 16, 3), none, none, some (.bipush 17, 2), none, some (.iload_n 1, 1), some (.invokevirtual 43, 3), none, none, some (.pop, 1), some (.return_, 1)]
def pd_m27 : mm_Me := (pd_d27, pd_lk2, [], 4, 0)
def pd_y28 : MethodName := ⟨"PascalDesk$Reader", "needs", "(C)Z"⟩
def pd_d28 : List (Option (Instr × Nat)) := [some (.aload_n 0, 1), some (.iload_n 1, 1), some (.invokevirtual 54, 3), none, none, some (.ifCond .ne 8, 3), none, none, some (.aload_n 0, 1), some (.iconst 1, 1), some (.putfield 30, 3), none, none, some (.aload_n 0, 1), some (.getfield 30, 3), none, none, some (.ifCond .ne 7, 3), none, none, some (.iconst 1, 1), some (.goto 4, 3), none, none, some (.iconst 0, 1), some (.ireturn, 1)]
def pd_m28 : mm_Me := (pd_d28, pd_lk2, [], 2, 4)
def pd_y29 : MethodName := ⟨"PascalDesk$Reader", "takes", "(C)Z"⟩
def pd_d29 : List (Option (Instr × Nat)) := [some (.aload_n 0, 1), some (.invokevirtual 50, 3), none, none, some (.iload_n 1, 1), some (.if_icmp .eq 5, 3), none, none, some (.iconst 0, 1), some (.ireturn, 1), some (.aload_n 0, 1), some (.dup, 1), some (.getfield 27, 3), none, none, some (.iconst 1, 1), some (.iadd, 1), some (.putfield 27, 3), none, none, some (.iconst 1, 1), some (.ireturn, 1)]
def pd_m29 : mm_Me := (pd_d29, pd_lk2, [], 2, 4)
def pd_y30 : MethodName := ⟨"PascalDesk$Reader", "expression", "(I)Z"⟩
def pd_d30 : List (Option (Instr × Nat)) := [some (.aload_n 0, 1), some (.iload_n 1, 1), some (.invokevirtual 120, 3), none, none, some (.istore_n 2, 1), some (.aload_n 0, 1), some (.bipush 60, 2), none, some (.invokevirtual 54, 3), none, none, some (.ifCond .eq 22, 3), none, none, some (.aload_n 0, 1), some (.iload_n 1, 1), some (.invokevirtual 120, 3), none, none, some (.pop, 1), some (.aload_n 0, 1), some (.getfield 16, 3), none, none, some (.bipush 15, 2), none, some (.iconst 0, 1), some (.invokevirtual 43, 3), none, none, some (.pop, 1), some (.iconst 0, 1), some (.ireturn, 1), some (.aload_n 0, 1), some (.bipush 61, 2), none, some (.invokevirtual 54, 3), none, none, some (.ifCond .eq 22, 3), none, none, some (.aload_n 0, 1), some (.iload_n 1, 1), some (.invokevirtual 120, 3), none, none, some (.pop, 1), some (.aload_n 0, 1), some (.getfield 16, 3), none, none, some (.bipush 16, 2), none, some (.iconst 0, 1), some (.invokevirtual 43, 3), none, none, some (.pop, 1), some (.iconst 0, 1), some (.ireturn, 1), some (.iload_n 2, 1), some (.ireturn, 1)]
def pd_m30 : mm_Me := (pd_d30, pd_lk2, [], 3, 4)
def pd_y31 : MethodName := ⟨"PascalDesk$Reader", "sum", "(I)Z"⟩
def pd_d31 : List (Option (Instr × Nat)) := [some (.aload_n 0, 1), some (.iload_n 1, 1), some (.invokevirtual 123, 3), none, none, some (.istore_n 2, 1), some (.iconst 0, 1), some (.istore_n 3, 1), some (.iload_n 3, 1), some (.bipush 48, 2), none, some (.if_icmp .ge 91, 3), none, none, some (.aload_n 0, 1), some (.bipush 43, 2), none, some (.invokevirtual 54, 3), none, none, some (.ifCond .eq 34, 3), none, none, some (.iload_n 2, 1), some (.aload_n 0, 1), some (.iload_n 1, 1), some (.invokevirtual 123, 3), none, none, some (.ior, 1), some (.istore_n 2, 1), some (.aload_n 0, 1), some (.getfield 16, 3), none, none, some (.iload_n 2, 1), some (.ifCond .eq 8, 3), none, none, some (.bipush 10, 2), none, some (.goto 5, 3), none, none, some (.bipush 7, 2), none, some (.iconst 0, 1), some (.invokevirtual 43, 3), none, none, some (.pop, 1), some (.goto 45, 3), none, none, some (.aload_n 0, 1), some (.bipush 45, 2), none, some (.invokevirtual 54, 3), none, none, some (.ifCond .eq 34, 3), none, none, some (.iload_n 2, 1), some (.aload_n 0, 1), some (.iload_n 1, 1), some (.invokevirtual 123, 3), none, none, some (.ior, 1), some (.istore_n 2, 1), some (.aload_n 0, 1), some (.getfield 16, 3), none, none, some (.iload_n 2, 1), some (.ifCond .eq 8, 3), none, none, some (.bipush 11, 2), none, some (.goto 5, 3), none, none, some (.bipush 8, 2), none, some (.iconst 0, 1), some (.invokevirtual 43, 3), none, none, some (.pop, 1), some (.goto 5, 3), none, none, some (.iload_n 2, 1), some (.ireturn, 1), some (.iinc 3 1, 3), none, none, some (.goto (-91), 3), none, none, some (.iload_n 2, 1), some (.ireturn, 1)]
def pd_m31 : mm_Me := (pd_d31, pd_lk2, [], 4, 4)
def pd_y32 : MethodName := ⟨"PascalDesk$Reader", "term", "(I)Z"⟩
def pd_d32 : List (Option (Instr × Nat)) := [some (.aload_n 0, 1), some (.iload_n 1, 1), some (.invokevirtual 126, 3), none, none, some (.istore_n 2, 1), some (.iconst 0, 1), some (.istore_n 3, 1), some (.iload_n 3, 1), some (.bipush 48, 2), none, some (.if_icmp .ge 128, 3), none, none, some (.aload_n 0, 1), some (.bipush 42, 2), none, some (.invokevirtual 54, 3), none, none, some (.ifCond .eq 34, 3), none, none, some (.iload_n 2, 1), some (.aload_n 0, 1), some (.iload_n 1, 1), some (.invokevirtual 126, 3), none, none, some (.ior, 1), some (.istore_n 2, 1), some (.aload_n 0, 1), some (.getfield 16, 3), none, none, some (.iload_n 2, 1), some (.ifCond .eq 8, 3), none, none, some (.bipush 12, 2), none, some (.goto 5, 3), none, none, some (.bipush 9, 2), none, some (.iconst 0, 1), some (.invokevirtual 43, 3), none, none, some (.pop, 1), some (.goto 82, 3), none, none, some (.aload_n 0, 1), some (.bipush 47, 2), none, some (.invokevirtual 54, 3), none, none, some (.ifCond .eq 25, 3), none, none, some (.aload_n 0, 1), some (.iload_n 1, 1), some (.invokevirtual 126, 3), none, none, some (.pop, 1), some (.aload_n 0, 1), some (.getfield 16, 3), none, none, some (.bipush 13, 2), none, some (.iconst 0, 1), some (.invokevirtual 43, 3), none, none, some (.pop, 1), some (.iconst 1, 1), some (.istore_n 2, 1), some (.goto 51, 3), none, none, some (.aload_n 0, 1), some (.bipush 37, 2), none, some (.invokevirtual 54, 3), none, none, some (.ifCond .eq 40, 3), none, none, some (.aload_n 0, 1), some (.aload_n 0, 1), some (.iload_n 1, 1), some (.invokevirtual 126, 3), none, none, some (.ifCond .ne 7, 3), none, none, some (.iload_n 2, 1), some (.ifCond .eq 7, 3), none, none, some (.iconst 1, 1), some (.goto 4, 3), none, none, some (.iconst 0, 1), some (.invokevirtual 99, 3), none, none, some (.aload_n 0, 1), some (.getfield 16, 3), none, none, some (.bipush 14, 2), none, some (.iconst 0, 1), some (.invokevirtual 43, 3), none, none, some (.pop, 1), some (.iconst 0, 1), some (.istore_n 2, 1), some (.goto 5, 3), none, none, some (.iload_n 2, 1), some (.ireturn, 1), some (.iinc 3 1, 3), none, none, some (.goto (-128), 3), none, none, some (.iload_n 2, 1), some (.ireturn, 1)]
def pd_m32 : mm_Me := (pd_d32, pd_lk2, [], 4, 4)
def pd_y33 : MethodName := ⟨"PascalDesk$Reader", "unit", "(I)Z"⟩
def pd_d33 : List (Option (Instr × Nat)) := [some (.aload_n 0, 1), some (.invokevirtual 50, 3), none, none, some (.istore_n 2, 1), some (.iload_n 2, 1), some (.invokestatic 64, 3), none, none, some (.istore_n 3, 1), some (.iload_n 3, 1), some (.ifCond .lt 28, 3), none, none, some (.aload_n 0, 1), some (.dup, 1), some (.getfield 27, 3), none, none, some (.iconst 1, 1), some (.iadd, 1), some (.putfield 27, 3), none, none, some (.aload_n 0, 1), some (.getfield 16, 3), none, none, some (.iconst 3, 1), some (.iload_n 3, 1), some (.invokevirtual 43, 3), none, none, some (.pop, 1), some (.iload_n 3, 1), some (.invokestatic 94, 3), none, none, some (.ireturn, 1), some (.iload_n 2, 1), some (.invokestatic 129, 3), none, none, some (.ifCond .eq 9, 3), none, none, some (.aload_n 0, 1), some (.invokevirtual 132, 3), none, none, some (.iconst 0, 1), some (.ireturn, 1), some (.aload_n 0, 1), some (.bipush 118, 2), none, some (.invokevirtual 54, 3), none, none, some (.ifCond .eq 20, 3), none, none, some (.aload_n 0, 1), some (.iload_n 1, 1), some (.invokevirtual 103, 3), none, none, some (.aload_n 0, 1), some (.getfield 16, 3), none, none, some (.iconst 5, 1), some (.iconst 0, 1), some (.invokevirtual 43, 3), none, none, some (.pop, 1), some (.iconst 0, 1), some (.ireturn, 1), some (.iload_n 2, 1), some (.bipush 40, 2), none, some (.if_icmp .ne 9, 3), none, none, some (.aload_n 0, 1), some (.iload_n 1, 1), some (.invokevirtual 135, 3), none, none, some (.ireturn, 1), some (.iload_n 2, 1), some (.bipush 35, 2), none, some (.if_icmp .ne 10, 3), none, none, some (.aload_n 0, 1), some (.iload_n 1, 1), some (.invokevirtual 138, 3), none, none, some (.iconst 0, 1), some (.ireturn, 1), some (.aload_n 0, 1), some (.iconst 1, 1), some (.putfield 30, 3), none, none, some (.iconst 0, 1), some (.ireturn, 1)]
def pd_m33 : mm_Me := (pd_d33, pd_lk2, [], 4, 4)
def pd_y34 : MethodName := ⟨"PascalDesk$Reader", "isDigit", "(C)Z"⟩
def pd_d34 : List (Option (Instr × Nat)) := [some (.iload_n 0, 1), some (.bipush 48, 2), none, some (.if_icmp .lt 13, 3), none, none, some (.iload_n 0, 1), some (.bipush 57, 2), none, some (.if_icmp .gt 7, 3), none, none, some (.iconst 1, 1), some (.goto 4, 3), none, none, some (.iconst 0, 1), some (.ireturn, 1)]
def pd_m34 : mm_Me := (pd_d34, pd_lk2, [], 1, 4)
def pd_y35 : MethodName := ⟨"PascalDesk$Reader", "number", "()V"⟩
def pd_d35 : List (Option (Instr × Nat)) := [some (.iconst 0, 1), some (.istore_n 1, 1), some (.iconst 0, 1), some (.istore_n 2, 1), some (.iload_n 2, 1), some (.iconst 3, 1), some (.if_icmp .ge 31, 3), none, none, some (.aload_n 0, 1), some (.invokevirtual 50, 3), none, none, some (.invokestatic 129, 3), none, none, some (.ifCond .eq 21, 3), none, none, some (.iload_n 1, 1), some (.bipush 10, 2), none, some (.imul, 1), some (.aload_n 0, 1), some (.bipush 57, 2), none, some (.invokevirtual 88, 3), none, none, some (.iadd, 1), some (.istore_n 1, 1), some (.iinc 2 1, 3), none, none, some (.goto (-30), 3), none, none, some (.aload_n 0, 1), some (.getfield 16, 3), none, none, some (.iconst 2, 1), some (.iload_n 1, 1), some (.invokevirtual 43, 3), none, none, some (.pop, 1), some (.return_, 1)]
def pd_m35 : mm_Me := (pd_d35, pd_lk2, [], 3, 0)
def pd_y36 : MethodName := ⟨"PascalDesk$Reader", "digit", "(C)I"⟩
def pd_d36 : List (Option (Instr × Nat)) := [some (.aload_n 0, 1), some (.invokevirtual 50, 3), none, none, some (.istore_n 2, 1), some (.iload_n 2, 1), some (.bipush 48, 2), none, some (.if_icmp .lt 8, 3), none, none, some (.iload_n 2, 1), some (.iload_n 1, 1), some (.if_icmp .le 10, 3), none, none, some (.aload_n 0, 1), some (.iconst 1, 1), some (.putfield 30, 3), none, none, some (.iconst 0, 1), some (.ireturn, 1), some (.aload_n 0, 1), some (.dup, 1), some (.getfield 27, 3), none, none, some (.iconst 1, 1), some (.iadd, 1), some (.putfield 27, 3), none, none, some (.iload_n 2, 1), some (.bipush 48, 2), none, some (.isub, 1), some (.ireturn, 1)]
def pd_m36 : mm_Me := (pd_d36, pd_lk2, [], 3, 0)
def pd_y37 : MethodName := ⟨"PascalDesk$Reader", "rowPlace", "(I)V"⟩
def pd_d37 : List (Option (Instr × Nat)) := [some (.aload_n 0, 1), some (.bipush 91, 2), none, some (.iload_n 1, 1), some (.invokevirtual 116, 3), none, none, some (.ifCond .eq 31, 3), none, none, some (.aload_n 0, 1), some (.aload_n 0, 1), some (.iload_n 1, 1), some (.iconst 1, 1), some (.iadd, 1), some (.invokevirtual 84, 3), none, none, some (.invokevirtual 99, 3), none, none, some (.aload_n 0, 1), some (.getfield 16, 3), none, none, some (.iconst 4, 1), some (.iconst 0, 1), some (.invokevirtual 43, 3), none, none, some (.pop, 1), some (.aload_n 0, 1), some (.bipush 93, 2), none, some (.invokevirtual 58, 3), none, none, some (.pop, 1), some (.return_, 1)]
def pd_m37 : mm_Me := (pd_d37, pd_lk2, [], 2, 0)
def pd_y38 : MethodName := ⟨"PascalDesk$Reader", "opens", "(CI)Z"⟩
def pd_d38 : List (Option (Instr × Nat)) := [some (.iload_n 2, 1), some (.iconst 5, 1), some (.if_icmp .lt 8, 3), none, none, some (.aload_n 0, 1), some (.iconst 1, 1), some (.putfield 30, 3), none, none, some (.aload_n 0, 1), some (.iload_n 1, 1), some (.invokevirtual 58, 3), none, none, some (.ireturn, 1)]
def pd_m38 : mm_Me := (pd_d38, pd_lk2, [], 3, 4)
def pd_y39 : MethodName := ⟨"PascalDesk$Reader", "needInteger", "(Z)V"⟩
def pd_d39 : List (Option (Instr × Nat)) := [some (.iload_n 1, 1), some (.ifCond .eq 8, 3), none, none, some (.aload_n 0, 1), some (.iconst 1, 1), some (.putfield 34, 3), none, none, some (.return_, 1)]
def pd_m39 : mm_Me := (pd_d39, pd_lk2, [], 2, 0)
def pd_y40 : MethodName := ⟨"PascalDesk$Reader", "inParentheses", "(I)Z"⟩
def pd_d40 : List (Option (Instr × Nat)) := [some (.aload_n 0, 1), some (.bipush 40, 2), none, some (.iload_n 1, 1), some (.invokevirtual 116, 3), none, none, some (.ifCond .ne 5, 3), none, none, some (.iconst 0, 1), some (.ireturn, 1), some (.aload_n 0, 1), some (.iload_n 1, 1), some (.iconst 1, 1), some (.iadd, 1), some (.invokevirtual 84, 3), none, none, some (.istore_n 2, 1), some (.aload_n 0, 1), some (.bipush 41, 2), none, some (.invokevirtual 58, 3), none, none, some (.pop, 1), some (.iload_n 2, 1), some (.ireturn, 1)]
def pd_m40 : mm_Me := (pd_d40, pd_lk2, [], 3, 4)
def pd_y41 : MethodName := ⟨"PascalDesk$Reader", "whole", "(I)V"⟩
def pd_d41 : List (Option (Instr × Nat)) := [some (.aload_n 0, 1), some (.bipush 35, 2), none, some (.iload_n 1, 1), some (.invokevirtual 116, 3), none, none, some (.ifCond .eq 24, 3), none, none, some (.aload_n 0, 1), some (.iload_n 1, 1), some (.iconst 1, 1), some (.iadd, 1), some (.invokevirtual 126, 3), none, none, some (.ifCond .eq 14, 3), none, none, some (.aload_n 0, 1), some (.getfield 16, 3), none, none, some (.bipush 6, 2), none, some (.iconst 0, 1), some (.invokevirtual 43, 3), none, none, some (.pop, 1), some (.return_, 1)]
def pd_m41 : mm_Me := (pd_d41, pd_lk2, [], 2, 0)
def pd_y42 : MethodName := ⟨"PascalDesk$Reader", "rowSetting", "(I)V"⟩
def pd_d42 : List (Option (Instr × Nat)) := [some (.aload_n 0, 1), some (.iload_n 1, 1), some (.invokevirtual 103, 3), none, none, some (.aload_n 0, 1), some (.bipush 61, 2), none, some (.invokevirtual 58, 3), none, none, some (.ifCond .ne 4, 3), none, none, some (.return_, 1), some (.aload_n 0, 1), some (.aload_n 0, 1), some (.iload_n 1, 1), some (.invokevirtual 84, 3), none, none, some (.invokevirtual 99, 3), none, none, some (.aload_n 0, 1), some (.getfield 16, 3), none, none, some (.bipush 18, 2), none, some (.iconst 0, 1), some (.invokevirtual 43, 3), none, none, some (.pop, 1), some (.return_, 1)]
def pd_m42 : mm_Me := (pd_d42, pd_lk2, [], 2, 0)
def pd_y43 : MethodName := ⟨"PascalDesk$Reader", "ifBody", "(I)V"⟩
def pd_d43 : List (Option (Instr × Nat)) := [some (.aload_n 0, 1), some (.aload_n 0, 1), some (.iload_n 1, 1), some (.invokevirtual 84, 3), none, none, some (.invokevirtual 99, 3), none, none, some (.aload_n 0, 1), some (.getfield 16, 3), none, none, some (.bipush 19, 2), none, some (.iconst 0, 1), some (.invokevirtual 43, 3), none, none, some (.istore_n 2, 1), some (.aload_n 0, 1), some (.iload_n 1, 1), some (.invokevirtual 106, 3), none, none, some (.aload_n 0, 1), some (.getfield 16, 3), none, none, some (.iload_n 2, 1), some (.invokevirtual 109, 3), none, none, some (.return_, 1)]
def pd_m43 : mm_Me := (pd_d43, pd_lk2, [], 3, 0)
def pd_y44 : MethodName := ⟨"PascalDesk$Reader", "block", "(I)V"⟩
def pd_d44 : List (Option (Instr × Nat)) := [some (.aload_n 0, 1), some (.bipush 123, 2), none, some (.iload_n 1, 1), some (.invokevirtual 116, 3), none, none, some (.ifCond .eq 17, 3), none, none, some (.aload_n 0, 1), some (.iload_n 1, 1), some (.iconst 1, 1), some (.iadd, 1), some (.invokevirtual 37, 3), none, none, some (.aload_n 0, 1), some (.bipush 125, 2), none, some (.invokevirtual 58, 3), none, none, some (.pop, 1), some (.return_, 1)]
def pd_m44 : mm_Me := (pd_d44, pd_lk2, [], 2, 0)
def pd_y45 : MethodName := ⟨"PascalDesk$Reader", "loop", "(I)V"⟩
def pd_d45 : List (Option (Instr × Nat)) := [some (.aload_n 0, 1), some (.getfield 16, 3), none, none, some (.invokevirtual 112, 3), none, none, some (.istore_n 2, 1), some (.aload_n 0, 1), some (.aload_n 0, 1), some (.iload_n 1, 1), some (.invokevirtual 84, 3), none, none, some (.invokevirtual 99, 3), none, none, some (.aload_n 0, 1), some (.getfield 16, 3), none, none, some (.bipush 19, 2), none, some (.iconst 0, 1), some (.invokevirtual 43, 3), none, none, some (.istore_n 3, 1), some (.aload_n 0, 1), some (.iload_n 1, 1), some (.invokevirtual 106, 3), none, none, some (.aload_n 0, 1), some (.getfield 16, 3), none, none, some (.iconst 1, 1), some (.iload_n 2, 1), some (.invokevirtual 43, 3), none, none, some (.pop, 1), some (.aload_n 0, 1), some (.getfield 16, 3), none, none, some (.iload_n 3, 1), some (.invokevirtual 109, 3), none, none, some (.return_, 1)]
def pd_m45 : mm_Me := (pd_d45, pd_lk2, [], 4, 0)
def pd_y46 : MethodName := ⟨"PascalDesk$Reader", "both", "(I)V"⟩
def pd_d46 : List (Option (Instr × Nat)) := [some (.aload_n 0, 1), some (.bipush 123, 2), none, some (.iload_n 1, 1), some (.invokevirtual 116, 3), none, none, some (.ifCond .ne 4, 3), none, none, some (.return_, 1), some (.aload_n 0, 1), some (.getfield 16, 3), none, none, some (.bipush 24, 2), none, some (.iconst 0, 1), some (.invokevirtual 43, 3), none, none, some (.istore_n 2, 1), some (.aload_n 0, 1), some (.getfield 16, 3), none, none, some (.iconst 1, 1), some (.iconst 0, 1), some (.invokevirtual 43, 3), none, none, some (.istore_n 3, 1), some (.aload_n 0, 1), some (.iload_n 1, 1), some (.iconst 1, 1), some (.iadd, 1), some (.invokevirtual 37, 3), none, none, some (.aload_n 0, 1), some (.getfield 16, 3), none, none, some (.iconst 0, 1), some (.iconst 0, 1), some (.invokevirtual 43, 3), none, none, some (.pop, 1), some (.aload_n 0, 1), some (.bipush 124, 2), none, some (.invokevirtual 58, 3), none, none, some (.ifCond .ne 4, 3), none, none, some (.return_, 1), some (.aload_n 0, 1), some (.getfield 16, 3), none, none, some (.iload_n 2, 1), some (.invokevirtual 109, 3), none, none, some (.aload_n 0, 1), some (.iload_n 1, 1), some (.iconst 1, 1), some (.iadd, 1), some (.invokevirtual 37, 3), none, none, some (.aload_n 0, 1), some (.getfield 16, 3), none, none, some (.iconst 0, 1), some (.iconst 0, 1), some (.invokevirtual 43, 3), none, none, some (.pop, 1), some (.aload_n 0, 1), some (.getfield 16, 3), none, none, some (.iload_n 3, 1), some (.invokevirtual 109, 3), none, none, some (.aload_n 0, 1), some (.bipush 125, 2), none, some (.invokevirtual 58, 3), none, none, some (.pop, 1), some (.return_, 1)]
def pd_m46 : mm_Me := (pd_d46, pd_lk2, [], 4, 0)
def pd_y47 : MethodName := ⟨"PascalDesk$Runner", "<init>", "()V"⟩
def pd_d47 : List (Option (Instr × Nat)) := [some (.aload_n 0, 1), some (.invokespecial 3, 3), none, none, some (.aload_n 0, 1), some (.iconst 4, 1), some (.anewarray 9, 3), none, none, some (.putfield 11, 3), none, none, some (.iconst 0, 1), some (.istore_n 1, 1), some (.iload_n 1, 1), some (.iconst 4, 1), some (.if_icmp .ge 22, 3), none, none, some (.aload_n 0, 1), some (.getfield 11, 3), none, none, some (.iload_n 1, 1), some (.new 9, 3), none, none, some (.dup, 1), some (.invokespecial 17, 3), none, none, some (.aastore, 1), some (.iinc 1 1, 3), none, none, some (.goto (-21), 3), none, none, some (.aload_n 0, 1), some (.new 18, 3), none, none, some (.dup, 1), some (.invokespecial 20, 3), none, none, some (.putfield 21, 3), none, none, some (.aload_n 0, 1), some (.new 25, 3), none, none, some (.dup, 1), some (.invokespecial 27, 3), none, none, some (.putfield 28, 3), none, none, some (.aload_n 0, 1), some (.iconst 2, 1), some (.newarray .int, 2), none, some (.putfield 32, 3), none, none, some (.aload_n 0, 1), some (.bipush 12, 2), none, some (.newarray .double, 2), none, some (.putfield 36, 3), none, none, some (.aload_n 0, 1), some (.iconst 5, 1), some (.anewarray 40, 3), none, none, some (.putfield 42, 3), none, none, some (.iconst 0, 1), some (.istore_n 1, 1), some (.iload_n 1, 1), some (.iconst 5, 1), some (.if_icmp .ge 22, 3), none, none, some (.aload_n 0, 1), some (.getfield 42, 3), none, none, some (.iload_n 1, 1), some (.new 40, 3), none, none, some (.dup, 1), some (.invokespecial 46, 3), none, none, some (.aastore, 1), some (.iinc 1 1, 3), none, none, some (.goto (-21), 3), none, none, some (.return_, 1)]
def pd_m47 : mm_Me := (pd_d47, pd_lk3, [], 2, 0)
def pd_y48 : MethodName := ⟨"PascalDesk$Runner", "procedureCount", "()I"⟩
def pd_d48 : List (Option (Instr × Nat)) := [some (.iconst 0, 1), some (.istore_n 1, 1), some (.iconst 0, 1), some (.istore_n 2, 1), some (.iload_n 2, 1), some (.iconst 4, 1), some (.if_icmp .ge 24, 3), none, none, some (.aload_n 0, 1), some (.getfield 11, 3), none, none, some (.iload_n 2, 1), some (.aaload, 1), some (.getfield 47, 3), none, none, some (.ifCond .eq 6, 3), none, none, some (.iinc 1 1, 3), none, none, some (.iinc 2 1, 3), none, none, some (.goto (-23), 3), none, none, some (.iload_n 1, 1), some (.ireturn, 1)]
def pd_m48 : mm_Me := (pd_d48, pd_lk3, [], 3, 0)
def pd_y49 : MethodName := ⟨"PascalDesk$Runner", "exchange", "(ILPascalDesk$Code;)LPascalDesk$Code;"⟩
def pd_d49 : List (Option (Instr × Nat)) := [some (.aload_n 0, 1), some (.getfield 11, 3), none, none, some (.iload_n 1, 1), some (.aaload, 1), some (.astore_n 3, 1), some (.aload_n 0, 1), some (.getfield 11, 3), none, none, some (.iload_n 1, 1), some (.aload_n 2, 1), some (.aastore, 1), some (.aload_n 3, 1), some (.areturn, 1)]
def pd_m49 : mm_Me := (pd_d49, pd_lk3, [], 4, 0)
def pd_y50 : MethodName := ⟨"PascalDesk$Runner", "perform", "(III)I"⟩
def pd_d50 : List (Option (Instr × Nat)) := [some (.aload_n 0, 1), some (.iload_n 1, 1), some (.iload_n 2, 1), some (.iload_n 3, 1), some (.invokevirtual 51, 3), none, none, some (.iconst 0, 1), some (.istore 4, 2), none, some (.iload 4, 2), none, some (.sipush 200, 3), none, none, some (.if_icmp .ge 28, 3), none, none, some (.aload_n 0, 1), some (.getfield 55, 3), none, none, some (.ifCond .le 21, 3), none, none, some (.aload_n 0, 1), some (.aload_n 0, 1), some (.invokevirtual 59, 3), none, none, some (.invokevirtual 63, 3), none, none, some (.aload_n 0, 1), some (.invokevirtual 67, 3), none, none, some (.iinc 4 1, 3), none, none, some (.goto (-30), 3), none, none, some (.aload_n 0, 1), some (.getfield 55, 3), none, none, some (.ifCond .le 13, 3), none, none, some (.new 70, 3), none, none, some (.dup, 1), some (.ldc 72, 2), none, some (.invokespecial 74, 3), none, none, some (.athrow, 1), some (.aload_n 0, 1), some (.getfield 77, 3), none, none, some (.ireturn, 1)]
def pd_m50 : mm_Me := (pd_d50, pd_lk3, [], 5, 0)
def pd_y51 : MethodName := ⟨"PascalDesk$Runner", "prepare", "(III)V"⟩
def pd_d51 : List (Option (Instr × Nat)) := [some (.aload_n 0, 1), some (.getfield 32, 3), none, none, some (.iconst 0, 1), some (.iload_n 2, 1), some (.iastore, 1), some (.aload_n 0, 1), some (.getfield 32, 3), none, none, some (.iconst 1, 1), some (.iload_n 3, 1), some (.iastore, 1), some (.aload_n 0, 1), some (.iconst 0, 1), some (.putfield 80, 3), none, none, some (.aload_n 0, 1), some (.iconst 0, 1), some (.putfield 77, 3), none, none, some (.aload_n 0, 1), some (.iconst 0, 1), some (.putfield 83, 3), none, none, some (.aload_n 0, 1), some (.getfield 28, 3), none, none, some (.invokevirtual 86, 3), none, none, some (.iconst 0, 1), some (.istore 4, 2), none, some (.iload 4, 2), none, some (.iconst 5, 1), some (.if_icmp .ge 20, 3), none, none, some (.aload_n 0, 1), some (.getfield 42, 3), none, none, some (.iload 4, 2), none, some (.aaload, 1), some (.iconst 0, 1), some (.putfield 89, 3), none, none, some (.iinc 4 1, 3), none, none, some (.goto (-20), 3), none, none, some (.aload_n 0, 1), some (.getfield 42, 3), none, none, some (.iconst 0, 1), some (.aaload, 1), some (.iload_n 1, 1), some (.invokevirtual 92, 3), none, none, some (.aload_n 0, 1), some (.iconst 1, 1), some (.putfield 95, 3), none, none, some (.aload_n 0, 1), some (.iconst 1, 1), some (.putfield 55, 3), none, none, some (.aload_n 0, 1), some (.iconst 1, 1), some (.putfield 98, 3), none, none, some (.return_, 1)]
def pd_m51 : mm_Me := (pd_d51, pd_lk3, [], 5, 0)
def pd_y52 : MethodName := ⟨"PascalDesk$Runner", "whoseTurn", "()I"⟩
def pd_d52 : List (Option (Instr × Nat)) := [some (.iconst 0, 1), some (.istore_n 1, 1), some (.iconst 0, 1), some (.istore_n 2, 1), some (.iload_n 2, 1), some (.iconst 5, 1), some (.if_icmp .ge 25, 3), none, none, some (.aload_n 0, 1), some (.getfield 42, 3), none, none, some (.iload_n 2, 1), some (.aaload, 1), some (.getfield 89, 3), none, none, some (.iconst 1, 1), some (.if_icmp .ne 6, 3), none, none, some (.iinc 1 1, 3), none, none, some (.iinc 2 1, 3), none, none, some (.goto (-24), 3), none, none, some (.iload_n 1, 1), some (.ifCond .ne 13, 3), none, none, some (.new 70, 3), none, none, some (.dup, 1), some (.ldc 101, 2), none, some (.invokespecial 74, 3), none, none, some (.athrow, 1), some (.aload_n 0, 1), some (.getfield 28, 3), none, none, some (.invokevirtual 103, 3), none, none, some (.iload_n 1, 1), some (.irem, 1), some (.istore_n 2, 1), some (.iconst 0, 1), some (.istore_n 3, 1), some (.iconst 0, 1), some (.istore 4, 2), none, some (.iload 4, 2), none, some (.iconst 5, 1), some (.if_icmp .ge 33, 3), none, none, some (.aload_n 0, 1), some (.getfield 42, 3), none, none, some (.iload 4, 2), none, some (.aaload, 1), some (.getfield 89, 3), none, none, some (.iconst 1, 1), some (.if_icmp .ne 13, 3), none, none, some (.iload_n 2, 1), some (.ifCond .ne 6, 3), none, none, some (.iload 4, 2), none, some (.istore_n 3, 1), some (.iinc 2 (-1), 3), none, none, some (.iinc 4 1, 3), none, none, some (.goto (-33), 3), none, none, some (.iload_n 3, 1), some (.ireturn, 1)]
def pd_m52 : mm_Me := (pd_d52, pd_lk3, [], 5, 0)
def pd_y53 : MethodName := ⟨"PascalDesk$Runner", "step", "(I)V"⟩
def pd_d53 : List (Option (Instr × Nat)) := [some (.aload_n 0, 1), some (.getfield 42, 3), none, none, some (.iload_n 1, 1), some (.aaload, 1), some (.astore_n 2, 1), some (.aload_n 0, 1), some (.getfield 11, 3), none, none, some (.aload_n 2, 1), some (.getfield 106, 3), none, none, some (.aaload, 1), some (.astore_n 3, 1), some (.aload_n 0, 1), some (.dup, 1), some (.getfield 77, 3), none, none, some (.iconst 1, 1), some (.iadd, 1), some (.putfield 77, 3), none, none, some (.aload_n 0, 1), some (.getfield 21, 3), none, none, some (.invokevirtual 109, 3), none, none, some (.iconst 0, 1), some (.istore 4, 2), none, some (.iload 4, 2), none, some (.bipush 49, 2), none, some (.if_icmp .ge 67, 3), none, none, some (.aload_n 3, 1), some (.aload_n 2, 1), some (.getfield 112, 3), none, none, some (.invokevirtual 115, 3), none, none, some (.istore 5, 2), none, some (.aload_n 3, 1), some (.aload_n 2, 1), some (.getfield 112, 3), none, none, some (.invokevirtual 119, 3), none, none, some (.istore 6, 2), none, some (.aload_n 2, 1), some (.dup, 1), some (.getfield 112, 3), none, none, some (.iconst 1, 1), some (.iadd, 1), some (.putfield 112, 3), none, none, some (.iload 5, 2), none, some (.bipush 17, 2), none, some (.if_icmp .lt 13, 3), none, none, some (.aload_n 0, 1), some (.iload_n 1, 1), some (.iload 5, 2), none, some (.iload 6, 2), none, some (.invokevirtual 124, 3), none, none, some (.return_, 1), some (.aload_n 0, 1), some (.getfield 21, 3), none, none, some (.iload 5, 2), none, some (.iload 6, 2), none, some (.invokevirtual 127, 3), none, none, some (.iinc 4 1, 3), none, none, some (.goto (-68), 3), none, none, some (.return_, 1)]
def pd_m53 : mm_Me := (pd_d53, pd_lk3, [], 7, 0)
def pd_y54 : MethodName := ⟨"PascalDesk$Runner", "finish", "(III)V"⟩
def pd_d54 : List (Option (Instr × Nat)) := [some (.aload_n 0, 1), some (.getfield 42, 3), none, none, some (.iload_n 1, 1), some (.aaload, 1), some (.astore 4, 2), none, some (.iload_n 2, 1), some (.tableswitch 134 17 23 #[43, 61, 71, 92, 106, 116, 124], 43), none, none, none, none, none, none, none, none, none, none, none, none, none, none, none, none, none, none, none, none, none, none, none, none, none, none, none, none, none, none, none, none, none, none, none, none, none, none, none, none, none, none, some (.aload_n 0, 1), some (.getfield 21, 3), none, none, some (.iload_n 3, 1), some (.aload_n 0, 1), some (.getfield 21, 3), none, none, some (.invokevirtual 131, 3), none, none, some (.invokevirtual 135, 3), none, none, some (.goto 82, 3), none, none, some (.aload_n 0, 1), some (.getfield 21, 3), none, none, some (.invokevirtual 139, 3), none, none, some (.goto 72, 3), none, none, some (.aload_n 0, 1), some (.getfield 21, 3), none, none, some (.invokevirtual 131, 3), none, none, some (.dconst 0, 1), some (.dcmp .l, 1), some (.ifCond .ne 60, 3), none, none, some (.aload 4, 2), none, some (.iload_n 3, 1), some (.putfield 112, 3), none, none, some (.goto 51, 3), none, none, some (.aload_n 0, 1), some (.aload_n 0, 1), some (.getfield 21, 3), none, none, some (.invokevirtual 131, 3), none, none, some (.invokevirtual 142, 3), none, none, some (.goto 37, 3), none, none, some (.aload_n 0, 1), some (.aload 4, 2), none, some (.iload_n 3, 1), some (.invokevirtual 146, 3), none, none, some (.goto 27, 3), none, none, some (.aload_n 0, 1), some (.iload_n 3, 1), some (.invokevirtual 150, 3), none, none, some (.goto 19, 3), none, none, some (.aload_n 0, 1), some (.aload 4, 2), none, some (.iload_n 3, 1), some (.invokevirtual 153, 3), none, none, some (.goto 9, 3), none, none, some (.aload_n 0, 1), some (.iload_n 1, 1), some (.iload_n 3, 1), some (.invokevirtual 156, 3), none, none, some (.return_, 1)]
def pd_m54 : mm_Me := (pd_d54, pd_lk3, [], 5, 0)
def pd_y55 : MethodName := ⟨"PascalDesk$Runner", "write", "(D)V"⟩
def pd_d55 : List (Option (Instr × Nat)) := [some (.aload_n 0, 1), some (.getfield 80, 3), none, none, some (.bipush 12, 2), none, some (.if_icmp .lt 13, 3), none, none, some (.new 70, 3), none, none, some (.dup, 1), some (.ldc 159, 2), none, some (.invokespecial 74, 3), none, none, some (.athrow, 1), some (.aload_n 0, 1), some (.getfield 36, 3), none, none, some (.aload_n 0, 1), some (.getfield 80, 3), none, none, some (.dload_n 1, 1), some (.dastore, 1), some (.aload_n 0, 1), some (.dup, 1), some (.getfield 80, 3), none, none, some (.iconst 1, 1), some (.iadd, 1), some (.putfield 80, 3), none, none, some (.return_, 1)]
def pd_m55 : mm_Me := (pd_d55, pd_lk3, [], 3, 0)
def pd_y56 : MethodName := ⟨"PascalDesk$Runner", "await", "(LPascalDesk$Strand;I)V"⟩
def pd_d56 : List (Option (Instr × Nat)) := [some (.aload_n 0, 1), some (.getfield 32, 3), none, none, some (.iload_n 2, 1), some (.iaload, 1), some (.ifCond .le 14, 3), none, none, some (.aload_n 0, 1), some (.getfield 32, 3), none, none, some (.iload_n 2, 1), some (.dup2, 1), some (.iaload, 1), some (.iconst 1, 1), some (.isub, 1), some (.iastore, 1), some (.return_, 1), some (.aload_n 0, 1), some (.dup, 1), some (.getfield 83, 3), none, none, some (.iconst 1, 1), some (.iadd, 1), some (.putfield 83, 3), none, none, some (.aload_n 1, 1), some (.iconst 3, 1), some (.putfield 89, 3), none, none, some (.aload_n 1, 1), some (.iload_n 2, 1), some (.putfield 161, 3), none, none, some (.aload_n 1, 1), some (.aload_n 0, 1), some (.getfield 83, 3), none, none, some (.putfield 164, 3), none, none, some (.return_, 1)]
def pd_m56 : mm_Me := (pd_d56, pd_lk3, [], 3, 0)
def pd_y57 : MethodName := ⟨"PascalDesk$Runner", "signal", "(I)V"⟩
def pd_d57 : List (Option (Instr × Nat)) := [some (.aload_n 0, 1), some (.iload_n 1, 1), some (.invokevirtual 167, 3), none, none, some (.istore_n 2, 1), some (.iload_n 2, 1), some (.iconst (-1), 1), some (.if_icmp .ne 14, 3), none, none, some (.aload_n 0, 1), some (.getfield 32, 3), none, none, some (.iload_n 1, 1), some (.dup2, 1), some (.iaload, 1), some (.iconst 1, 1), some (.iadd, 1), some (.iastore, 1), some (.return_, 1), some (.aload_n 0, 1), some (.getfield 42, 3), none, none, some (.iload_n 2, 1), some (.aaload, 1), some (.iconst 1, 1), some (.putfield 89, 3), none, none, some (.return_, 1)]
def pd_m57 : mm_Me := (pd_d57, pd_lk3, [], 3, 0)
def pd_y58 : MethodName := ⟨"PascalDesk$Runner", "firstWaiting", "(I)I"⟩
def pd_d58 : List (Option (Instr × Nat)) := [some (.iconst (-1), 1), some (.istore_n 2, 1), some (.iconst 0, 1), some (.istore_n 3, 1), some (.iload_n 3, 1), some (.iconst 5, 1), some (.if_icmp .ge 71, 3), none, none, some (.aload_n 0, 1), some (.getfield 42, 3), none, none, some (.iload_n 3, 1), some (.aaload, 1), some (.astore 4, 2), none, some (.aload 4, 2), none, some (.getfield 89, 3), none, none, some (.iconst 3, 1), some (.if_icmp .ne 16, 3), none, none, some (.aload 4, 2), none, some (.getfield 161, 3), none, none, some (.iload_n 1, 1), some (.if_icmp .ne 7, 3), none, none, some (.iconst 1, 1), some (.goto 4, 3), none, none, some (.iconst 0, 1), some (.istore 5, 2), none, some (.iload 5, 2), none, some (.ifCond .eq 27, 3), none, none, some (.iload_n 2, 1), some (.iconst (-1), 1), some (.if_icmp .eq 20, 3), none, none, some (.aload 4, 2), none, some (.getfield 164, 3), none, none, some (.aload_n 0, 1), some (.getfield 42, 3), none, none, some (.iload_n 2, 1), some (.aaload, 1), some (.getfield 164, 3), none, none, some (.if_icmp .ge 5, 3), none, none, some (.iload_n 3, 1), some (.istore_n 2, 1), some (.iinc 3 1, 3), none, none, some (.goto (-70), 3), none, none, some (.iload_n 2, 1), some (.ireturn, 1)]
def pd_m58 : mm_Me := (pd_d58, pd_lk3, [], 6, 0)
def pd_y59 : MethodName := ⟨"PascalDesk$Runner", "call", "(LPascalDesk$Strand;I)V"⟩
def pd_d59 : List (Option (Instr × Nat)) := [some (.aload_n 0, 1), some (.getfield 11, 3), none, none, some (.iload_n 2, 1), some (.aaload, 1), some (.getfield 47, 3), none, none, some (.ifCond .ne 13, 3), none, none, some (.new 170, 3), none, none, some (.dup, 1), some (.ldc 172, 2), none, some (.invokespecial 174, 3), none, none, some (.athrow, 1), some (.aload_n 1, 1), some (.iload_n 2, 1), some (.invokevirtual 175, 3), none, none, some (.ifCond .ne 13, 3), none, none, some (.new 70, 3), none, none, some (.dup, 1), some (.ldc 179, 2), none, some (.invokespecial 74, 3), none, none, some (.athrow, 1), some (.return_, 1)]
def pd_m59 : mm_Me := (pd_d59, pd_lk3, [], 3, 0)
def pd_y60 : MethodName := ⟨"PascalDesk$Runner", "part", "(II)V"⟩
def pd_d60 : List (Option (Instr × Nat)) := [some (.aload_n 0, 1), some (.getfield 55, 3), none, none, some (.iconst 2, 1), some (.iadd, 1), some (.iconst 5, 1), some (.if_icmp .le 13, 3), none, none, some (.new 70, 3), none, none, some (.dup, 1), some (.ldc 181, 2), none, some (.invokespecial 74, 3), none, none, some (.athrow, 1), some (.aload_n 0, 1), some (.getfield 42, 3), none, none, some (.iload_n 1, 1), some (.aaload, 1), some (.astore_n 3, 1), some (.aload_n 3, 1), some (.iconst 2, 1), some (.putfield 89, 3), none, none, some (.aload_n 3, 1), some (.iconst 2, 1), some (.putfield 183, 3), none, none, some (.aload_n 0, 1), some (.getfield 42, 3), none, none, some (.aload_n 0, 1), some (.invokevirtual 186, 3), none, none, some (.aaload, 1), some (.aload_n 3, 1), some (.iload_n 1, 1), some (.aload_n 3, 1), some (.getfield 112, 3), none, none, some (.iconst 1, 1), some (.iadd, 1), some (.invokevirtual 189, 3), none, none, some (.aload_n 0, 1), some (.getfield 42, 3), none, none, some (.aload_n 0, 1), some (.invokevirtual 186, 3), none, none, some (.aaload, 1), some (.aload_n 3, 1), some (.iload_n 1, 1), some (.iload_n 2, 1), some (.invokevirtual 189, 3), none, none, some (.aload_n 0, 1), some (.dup, 1), some (.getfield 95, 3), none, none, some (.iconst 2, 1), some (.iadd, 1), some (.putfield 95, 3), none, none, some (.aload_n 0, 1), some (.dup, 1), some (.getfield 55, 3), none, none, some (.iconst 2, 1), some (.iadd, 1), some (.putfield 55, 3), none, none, some (.aload_n 0, 1), some (.aload_n 0, 1), some (.getfield 98, 3), none, none, some (.aload_n 0, 1), some (.getfield 55, 3), none, none, some (.invokestatic 193, 3), none, none, some (.putfield 98, 3), none, none, some (.return_, 1)]
def pd_m60 : mm_Me := (pd_d60, pd_lk3, [], 4, 0)
def pd_y61 : MethodName := ⟨"PascalDesk$Runner", "leastFree", "()I"⟩
def pd_d61 : List (Option (Instr × Nat)) := [some (.iconst 0, 1), some (.istore_n 1, 1), some (.iconst 4, 1), some (.istore_n 2, 1), some (.iload_n 2, 1), some (.ifCond .lt 23, 3), none, none, some (.aload_n 0, 1), some (.getfield 42, 3), none, none, some (.iload_n 2, 1), some (.aaload, 1), some (.getfield 89, 3), none, none, some (.ifCond .ne 5, 3), none, none, some (.iload_n 2, 1), some (.istore_n 1, 1), some (.iinc 2 (-1), 3), none, none, some (.goto (-21), 3), none, none, some (.iload_n 1, 1), some (.ireturn, 1)]
def pd_m61 : mm_Me := (pd_d61, pd_lk3, [], 3, 0)
def pd_y62 : MethodName := ⟨"PascalDesk$Runner", "leaveWhatIsOver", "()V"⟩
def pd_d62 : List (Option (Instr × Nat)) := [some (.iconst 0, 1), some (.istore_n 1, 1), some (.iload_n 1, 1), some (.iconst 5, 1), some (.if_icmp .ge 14, 3), none, none, some (.aload_n 0, 1), some (.iload_n 1, 1), some (.invokevirtual 199, 3), none, none, some (.iinc 1 1, 3), none, none, some (.goto (-13), 3), none, none, some (.return_, 1)]
def pd_m62 : mm_Me := (pd_d62, pd_lk3, [], 2, 0)
def pd_y63 : MethodName := ⟨"PascalDesk$Runner", "goOn", "(I)V"⟩
def pd_d63 : List (Option (Instr × Nat)) := [some (.iload_n 1, 1), some (.istore_n 2, 1), some (.iconst 0, 1), some (.istore_n 3, 1), some (.iload_n 3, 1), some (.iconst 5, 1), some (.if_icmp .ge 48, 3), none, none, some (.iload_n 2, 1), some (.iconst (-1), 1), some (.if_icmp .eq 43, 3), none, none, some (.aload_n 0, 1), some (.getfield 42, 3), none, none, some (.iload_n 2, 1), some (.aaload, 1), some (.astore 4, 2), none, some (.aload 4, 2), none, some (.getfield 89, 3), none, none, some (.iconst 1, 1), some (.if_icmp .ne 12, 3), none, none, some (.aload_n 0, 1), some (.aload 4, 2), none, some (.invokevirtual 202, 3), none, none, some (.ifCond .eq 4, 3), none, none, some (.return_, 1), some (.aload_n 0, 1), some (.aload 4, 2), none, some (.invokevirtual 206, 3), none, none, some (.istore_n 2, 1), some (.iinc 3 1, 3), none, none, some (.goto (-47), 3), none, none, some (.return_, 1)]
def pd_m63 : mm_Me := (pd_d63, pd_lk3, [], 5, 0)
def pd_y64 : MethodName := ⟨"PascalDesk$Runner", "findsNext", "(LPascalDesk$Strand;)Z"⟩
def pd_d64 : List (Option (Instr × Nat)) := [some (.iconst 0, 1), some (.istore_n 2, 1), some (.iload_n 2, 1), some (.bipush 49, 2), none, some (.if_icmp .ge 66, 3), none, none, some (.aload_n 0, 1), some (.getfield 11, 3), none, none, some (.aload_n 1, 1), some (.getfield 106, 3), none, none, some (.aaload, 1), some (.astore_n 3, 1), some (.aload_n 3, 1), some (.aload_n 1, 1), some (.getfield 112, 3), none, none, some (.invokevirtual 115, 3), none, none, some (.istore 4, 2), none, some (.iload 4, 2), none, some (.iconst 1, 1), some (.if_icmp .ne 18, 3), none, none, some (.aload_n 1, 1), some (.aload_n 3, 1), some (.aload_n 1, 1), some (.getfield 112, 3), none, none, some (.invokevirtual 119, 3), none, none, some (.putfield 112, 3), none, none, some (.goto 19, 3), none, none, some (.iload 4, 2), none, some (.ifCond .eq 5, 3), none, none, some (.iconst 1, 1), some (.ireturn, 1), some (.aload_n 1, 1), some (.invokevirtual 210, 3), none, none, some (.ifCond .ne 5, 3), none, none, some (.iconst 0, 1), some (.ireturn, 1), some (.iinc 2 1, 3), none, none, some (.goto (-66), 3), none, none, some (.iconst 0, 1), some (.ireturn, 1)]
def pd_m64 : mm_Me := (pd_d64, pd_lk3, [], 5, 4)
def pd_y65 : MethodName := ⟨"PascalDesk$Runner", "leave", "(LPascalDesk$Strand;)I"⟩
def pd_d65 : List (Option (Instr × Nat)) := [some (.aload_n 1, 1), some (.iconst 0, 1), some (.putfield 89, 3), none, none, some (.aload_n 0, 1), some (.dup, 1), some (.getfield 55, 3), none, none, some (.iconst 1, 1), some (.isub, 1), some (.putfield 55, 3), none, none, some (.aload_n 1, 1), some (.getfield 214, 3), none, none, some (.iconst (-1), 1), some (.if_icmp .ne 5, 3), none, none, some (.iconst (-1), 1), some (.ireturn, 1), some (.aload_n 0, 1), some (.getfield 42, 3), none, none, some (.aload_n 1, 1), some (.getfield 214, 3), none, none, some (.aaload, 1), some (.astore_n 2, 1), some (.aload_n 2, 1), some (.dup, 1), some (.getfield 183, 3), none, none, some (.iconst 1, 1), some (.isub, 1), some (.putfield 183, 3), none, none, some (.aload_n 2, 1), some (.getfield 183, 3), none, none, some (.ifCond .le 5, 3), none, none, some (.iconst (-1), 1), some (.ireturn, 1), some (.aload_n 2, 1), some (.iconst 1, 1), some (.putfield 89, 3), none, none, some (.aload_n 1, 1), some (.getfield 214, 3), none, none, some (.ireturn, 1)]
def pd_m65 : mm_Me := (pd_d65, pd_lk3, [], 3, 0)
def pd_y66 : MethodName := ⟨"PascalDesk$Calculator", "<init>", "()V"⟩
def pd_d66 : List (Option (Instr × Nat)) := [some (.aload_n 0, 1), some (.invokespecial 3, 3), none, none, some (.aload_n 0, 1), some (.bipush 11, 2), none, some (.newarray .double, 2), none, some (.putfield 9, 3), none, none, some (.aload_n 0, 1), some (.bipush 49, 2), none, some (.newarray .double, 2), none, some (.putfield 15, 3), none, none, some (.return_, 1)]
def pd_m66 : mm_Me := (pd_d66, pd_lk4, [], 1, 0)
def pd_y67 : MethodName := ⟨"PascalDesk$Calculator", "isReal", "(I)Z"⟩
def pd_d67 : List (Option (Instr × Nat)) := [some (.iload_n 0, 1), some (.iconst 4, 1), some (.if_icmp .lt 13, 3), none, none, some (.iload_n 0, 1), some (.bipush 7, 2), none, some (.if_icmp .ge 7, 3), none, none, some (.iconst 1, 1), some (.goto 4, 3), none, none, some (.iconst 0, 1), some (.ireturn, 1)]
def pd_m67 : mm_Me := (pd_d67, pd_lk4, [], 1, 4)
def pd_y68 : MethodName := ⟨"PascalDesk$Calculator", "clear", "()V"⟩
def pd_d68 : List (Option (Instr × Nat)) := [some (.aload_n 0, 1), some (.iconst 0, 1), some (.putfield 18, 3), none, none, some (.return_, 1)]
def pd_m68 : mm_Me := (pd_d68, pd_lk4, [], 1, 0)
def pd_y69 : MethodName := ⟨"PascalDesk$Calculator", "pop", "()D"⟩
def pd_d69 : List (Option (Instr × Nat)) := [some (.aload_n 0, 1), some (.getfield 18, 3), none, none, some (.ifCond .gt 5, 3), none, none, some (.dconst 0, 1), some (.dreturn, 1), some (.aload_n 0, 1), some (.dup, 1), some (.getfield 18, 3), none, none, some (.iconst 1, 1), some (.isub, 1), some (.putfield 18, 3), none, none, some (.aload_n 0, 1), some (.getfield 15, 3), none, none, some (.aload_n 0, 1), some (.getfield 18, 3), none, none, some (.daload, 1), some (.dreturn, 1)]
def pd_m69 : mm_Me := (pd_d69, pd_lk4, [], 1, 0)
def pd_y70 : MethodName := ⟨"PascalDesk$Calculator", "store", "(ID)V"⟩
def pd_d70 : List (Option (Instr × Nat)) := [some (.iload_n 1, 1), some (.invokestatic 22, 3), none, none, some (.ifCond .eq 10, 3), none, none, some (.aload_n 0, 1), some (.getfield 9, 3), none, none, some (.iload_n 1, 1), some (.dload_n 2, 1), some (.dastore, 1), some (.return_, 1)]
def pd_m70 : mm_Me := (pd_d70, pd_lk4, [], 4, 0)
def pd_y71 : MethodName := ⟨"PascalDesk$Calculator", "isVariable", "(I)Z"⟩
def pd_d71 : List (Option (Instr × Nat)) := [some (.iload_n 0, 1), some (.ifCond .lt 13, 3), none, none, some (.iload_n 0, 1), some (.bipush 11, 2), none, some (.if_icmp .ge 7, 3), none, none, some (.iconst 1, 1), some (.goto 4, 3), none, none, some (.iconst 0, 1), some (.ireturn, 1)]
def pd_m71 : mm_Me := (pd_d71, pd_lk4, [], 1, 4)
def pd_y72 : MethodName := ⟨"PascalDesk$Calculator", "storeInRow", "()V"⟩
def pd_d72 : List (Option (Instr × Nat)) := [some (.aload_n 0, 1), some (.invokevirtual 26, 3), none, none, some (.dstore_n 1, 1), some (.aload_n 0, 1), some (.aload_n 0, 1), some (.invokevirtual 26, 3), none, none, some (.d2i, 1), some (.dload_n 1, 1), some (.invokevirtual 30, 3), none, none, some (.return_, 1)]
def pd_m72 : mm_Me := (pd_d72, pd_lk4, [], 3, 0)
def pd_y73 : MethodName := ⟨"PascalDesk$Calculator", "work", "(II)V"⟩
def pd_d73 : List (Option (Instr × Nat)) := [some (.iload_n 1, 1), some (.tableswitch 93 2 6 #[35, 44, 52, 68, 80], 35), none, none, none, none, none, none, none, none, none, none, none, none, none, none, none, none, none, none, none, none, none, none, none, none, none, none, none, none, none, none, none, none, none, none, some (.aload_n 0, 1), some (.iload_n 2, 1), some (.i2d, 1), some (.invokevirtual 34, 3), none, none, some (.goto 74, 3), none, none, some (.aload_n 0, 1), some (.iload_n 2, 1), some (.invokevirtual 38, 3), none, none, some (.goto 66, 3), none, none, some (.aload_n 0, 1), some (.aload_n 0, 1), some (.invokevirtual 26, 3), none, none, some (.d2i, 1), some (.invokestatic 42, 3), none, none, some (.i2d, 1), some (.invokevirtual 34, 3), none, none, some (.goto 50, 3), none, none, some (.aload_n 0, 1), some (.aload_n 0, 1), some (.invokevirtual 26, 3), none, none, some (.d2i, 1), some (.invokevirtual 38, 3), none, none, some (.goto 38, 3), none, none, some (.aload_n 0, 1), some (.aload_n 0, 1), some (.invokevirtual 26, 3), none, none, some (.d2i, 1), some (.i2d, 1), some (.invokevirtual 34, 3), none, none, some (.goto 25, 3), none, none, some (.aload_n 0, 1), some (.invokevirtual 26, 3), none, none, some (.dstore_n 3, 1), some (.aload_n 0, 1), some (.invokevirtual 26, 3), none, none, some (.dstore 5, 2), none, some (.aload_n 0, 1), some (.iload_n 1, 1), some (.dload 5, 2), none, some (.dload_n 3, 1), some (.invokestatic 46, 3), none, none, some (.invokevirtual 34, 3), none, none, some (.return_, 1)]
def pd_m73 : mm_Me := (pd_d73, pd_lk4, [], 7, 0)
def pd_y74 : MethodName := ⟨"PascalDesk$Calculator", "push", "(D)V"⟩
def pd_d74 : List (Option (Instr × Nat)) := [some (.aload_n 0, 1), some (.getfield 18, 3), none, none, some (.aload_n 0, 1), some (.getfield 15, 3), none, none, some (.arraylength, 1), some (.if_icmp .ge 23, 3), none, none, some (.aload_n 0, 1), some (.getfield 15, 3), none, none, some (.aload_n 0, 1), some (.getfield 18, 3), none, none, some (.dload_n 1, 1), some (.dastore, 1), some (.aload_n 0, 1), some (.dup, 1), some (.getfield 18, 3), none, none, some (.iconst 1, 1), some (.iadd, 1), some (.putfield 18, 3), none, none, some (.return_, 1)]
def pd_m74 : mm_Me := (pd_d74, pd_lk4, [], 3, 0)
def pd_y75 : MethodName := ⟨"PascalDesk$Calculator", "load", "(I)V"⟩
def pd_d75 : List (Option (Instr × Nat)) := [some (.aload_n 0, 1), some (.iload_n 1, 1), some (.invokestatic 22, 3), none, none, some (.ifCond .eq 12, 3), none, none, some (.aload_n 0, 1), some (.getfield 9, 3), none, none, some (.iload_n 1, 1), some (.daload, 1), some (.goto 4, 3), none, none, some (.dconst 0, 1), some (.invokevirtual 34, 3), none, none, some (.return_, 1)]
def pd_m75 : mm_Me := (pd_d75, pd_lk4, [], 2, 0)
def pd_y76 : MethodName := ⟨"PascalDesk$Calculator", "rowPlace", "(I)I"⟩
def pd_d76 : List (Option (Instr × Nat)) := [some (.iload_n 0, 1), some (.ifCond .lt 8, 3), none, none, some (.iload_n 0, 1), some (.iconst 4, 1), some (.if_icmp .lt 13, 3), none, none, some (.new 50, 3), none, none, some (.dup, 1), some (.ldc 52, 2), none, some (.invokespecial 54, 3), none, none, some (.athrow, 1), some (.bipush 7, 2), none, some (.iload_n 0, 1), some (.iadd, 1), some (.ireturn, 1)]
def pd_m76 : mm_Me := (pd_d76, pd_lk4, [], 1, 0)
def pd_y77 : MethodName := ⟨"PascalDesk$Calculator", "combined", "(IDD)D"⟩
def pd_d77 : List (Option (Instr × Nat)) := [some (.iload_n 0, 1), some (.tableswitch 120 7 15 #[51, 58, 65, 72, 79, 86, 93, 99, 108], 51), none, none, none, none, none, none, none, none, none, none, none, none, none, none, none, none, none, none, none, none, none, none, none, none, none, none, none, none, none, none, none, none, none, none, none, none, none, none, none, none, none, none, none, none, none, none, none, none, none, none, some (.dload_n 1, 1), some (.d2i, 1), some (.dload_n 3, 1), some (.d2i, 1), some (.iadd, 1), some (.i2d, 1), some (.dreturn, 1), some (.dload_n 1, 1), some (.d2i, 1), some (.dload_n 3, 1), some (.d2i, 1), some (.isub, 1), some (.i2d, 1), some (.dreturn, 1), some (.dload_n 1, 1), some (.d2i, 1), some (.dload_n 3, 1), some (.d2i, 1), some (.imul, 1), some (.i2d, 1), some (.dreturn, 1), some (.dload_n 1, 1), some (.dload_n 3, 1), some (.dadd, 1), some (.invokestatic 57, 3), none, none, some (.dreturn, 1), some (.dload_n 1, 1), some (.dload_n 3, 1), some (.dsub, 1), some (.invokestatic 57, 3), none, none, some (.dreturn, 1), some (.dload_n 1, 1), some (.dload_n 3, 1), some (.dmul, 1), some (.invokestatic 57, 3), none, none, some (.dreturn, 1), some (.dload_n 1, 1), some (.dload_n 3, 1), some (.invokestatic 61, 3), none, none, some (.dreturn, 1), some (.dload_n 1, 1), some (.d2i, 1), some (.dload_n 3, 1), some (.d2i, 1), some (.invokestatic 65, 3), none, none, some (.i2d, 1), some (.dreturn, 1), some (.dload_n 1, 1), some (.dload_n 3, 1), some (.dcmp .g, 1), some (.ifCond .ge 7, 3), none, none, some (.dconst 1, 1), some (.goto 4, 3), none, none, some (.dconst 0, 1), some (.dreturn, 1), some (.dload_n 1, 1), some (.dload_n 3, 1), some (.dcmp .l, 1), some (.ifCond .ne 7, 3), none, none, some (.dconst 1, 1), some (.goto 4, 3), none, none, some (.dconst 0, 1), some (.dreturn, 1)]
def pd_m77 : mm_Me := (pd_d77, pd_lk4, [], 5, 0)
def pd_y78 : MethodName := ⟨"PascalDesk$Calculator", "bounded", "(D)D"⟩
def pd_d78 : List (Option (Instr × Nat)) := [some (.dload_n 0, 1), some (.ldc2_w 76, 3), none, none, some (.dcmp .l, 1), some (.ifCond .gt 11, 3), none, none, some (.dload_n 0, 1), some (.ldc2_w 78, 3), none, none, some (.dcmp .g, 1), some (.ifCond .ge 13, 3), none, none, some (.new 69, 3), none, none, some (.dup, 1), some (.ldc 80, 2), none, some (.invokespecial 73, 3), none, none, some (.athrow, 1), some (.dload_n 0, 1), some (.dreturn, 1)]
def pd_m78 : mm_Me := (pd_d78, pd_lk4, [], 2, 0)
def pd_y79 : MethodName := ⟨"PascalDesk$Calculator", "quotient", "(DD)D"⟩
def pd_d79 : List (Option (Instr × Nat)) := [some (.dload_n 2, 1), some (.dconst 0, 1), some (.dcmp .l, 1), some (.ifCond .ne 13, 3), none, none, some (.new 69, 3), none, none, some (.dup, 1), some (.ldc 71, 2), none, some (.invokespecial 73, 3), none, none, some (.athrow, 1), some (.dload_n 0, 1), some (.dload_n 2, 1), some (.ddiv, 1), some (.invokestatic 57, 3), none, none, some (.dreturn, 1)]
def pd_m79 : mm_Me := (pd_d79, pd_lk4, [], 4, 0)
def pd_y80 : MethodName := ⟨"PascalDesk$Calculator", "remainder", "(II)I"⟩
def pd_d80 : List (Option (Instr × Nat)) := [some (.iload_n 1, 1), some (.ifCond .ne 13, 3), none, none, some (.new 69, 3), none, none, some (.dup, 1), some (.ldc 74, 2), none, some (.invokespecial 73, 3), none, none, some (.athrow, 1), some (.iload_n 0, 1), some (.iload_n 1, 1), some (.irem, 1), some (.ireturn, 1)]
def pd_m80 : mm_Me := (pd_d80, pd_lk4, [], 2, 0)
def pd_y81 : MethodName := ⟨"PascalDesk$Tape", "<init>", "()V"⟩
def pd_d81 : List (Option (Instr × Nat)) := [some (.aload_n 0, 1), some (.invokespecial 3, 3), none, none, some (.aload_n 0, 1), some (.bipush 16, 2), none, some (.newarray .int, 2), none, some (.putfield 9, 3), none, none, some (.aload_n 0, 1), some (.iconst 1, 1), some (.putfield 15, 3), none, none, some (.return_, 1)]
def pd_m81 : mm_Me := (pd_d81, pd_lk5, [], 1, 0)
def pd_y82 : MethodName := ⟨"PascalDesk$Tape", "become", "(JI)V"⟩
def pd_d82 : List (Option (Instr × Nat)) := [some (.iconst 0, 1), some (.istore 4, 2), none, some (.iload 4, 2), none, some (.iload_n 3, 1), some (.if_icmp .ge 33, 3), none, none, some (.iload 4, 2), none, some (.bipush 16, 2), none, some (.if_icmp .ge 26, 3), none, none, some (.aload_n 0, 1), some (.getfield 9, 3), none, none, some (.iload 4, 2), none, some (.lload_n 1, 1), some (.iconst 4, 1), some (.iload 4, 2), none, some (.imul, 1), some (.lushr, 1), some (.l2i, 1), some (.bipush 15, 2), none, some (.iand, 1), some (.iastore, 1), some (.iinc 4 1, 3), none, none, some (.goto (-33), 3), none, none, some (.aload_n 0, 1), some (.iload_n 3, 1), some (.putfield 15, 3), none, none, some (.return_, 1)]
def pd_m82 : mm_Me := (pd_d82, pd_lk5, [], 5, 0)
def pd_y83 : MethodName := ⟨"PascalDesk$Tape", "rewind", "()V"⟩
def pd_d83 : List (Option (Instr × Nat)) := [some (.aload_n 0, 1), some (.iconst 0, 1), some (.putfield 19, 3), none, none, some (.return_, 1)]
def pd_m83 : mm_Me := (pd_d83, pd_lk5, [], 1, 0)
def pd_y84 : MethodName := ⟨"PascalDesk$Tape", "next", "()I"⟩
def pd_d84 : List (Option (Instr × Nat)) := [some (.aload_n 0, 1), some (.getfield 19, 3), none, none, some (.aload_n 0, 1), some (.getfield 15, 3), none, none, some (.if_icmp .ge 12, 3), none, none, some (.aload_n 0, 1), some (.getfield 19, 3), none, none, some (.bipush 16, 2), none, some (.if_icmp .lt 8, 3), none, none, some (.aload_n 0, 1), some (.iconst 0, 1), some (.putfield 19, 3), none, none, some (.aload_n 0, 1), some (.getfield 9, 3), none, none, some (.aload_n 0, 1), some (.getfield 19, 3), none, none, some (.iaload, 1), some (.istore_n 1, 1), some (.aload_n 0, 1), some (.dup, 1), some (.getfield 19, 3), none, none, some (.iconst 1, 1), some (.iadd, 1), some (.putfield 19, 3), none, none, some (.iload_n 1, 1), some (.ireturn, 1)]
def pd_m84 : mm_Me := (pd_d84, pd_lk5, [], 2, 0)
def pd_y85 : MethodName := ⟨"PascalDesk$Strand", "<init>", "()V"⟩
def pd_d85 : List (Option (Instr × Nat)) := [some (.aload_n 0, 1), some (.invokespecial 1, 3), none, none, some (.aload_n 0, 1), some (.bipush 6, 2), none, some (.newarray .int, 2), none, some (.putfield 9, 3), none, none, some (.aload_n 0, 1), some (.bipush 6, 2), none, some (.newarray .int, 2), none, some (.putfield 13, 3), none, none, some (.return_, 1)]
def pd_m85 : mm_Me := (pd_d85, pd_lk6, [], 1, 0)
def pd_y86 : MethodName := ⟨"PascalDesk$Strand", "begin", "(I)V"⟩
def pd_d86 : List (Option (Instr × Nat)) := [some (.aload_n 0, 1), some (.iconst (-1), 1), some (.iload_n 1, 1), some (.iconst 0, 1), some (.iconst 0, 1), some (.invokevirtual 16, 3), none, none, some (.return_, 1)]
def pd_m86 : mm_Me := (pd_d86, pd_lk6, [], 2, 0)
def pd_y87 : MethodName := ⟨"PascalDesk$Strand", "start", "(IIII)V"⟩
def pd_d87 : List (Option (Instr × Nat)) := [some (.aload_n 0, 1), some (.iconst 1, 1), some (.putfield 27, 3), none, none, some (.aload_n 0, 1), some (.iload_n 1, 1), some (.putfield 30, 3), none, none, some (.aload_n 0, 1), some (.iconst 0, 1), some (.putfield 33, 3), none, none, some (.aload_n 0, 1), some (.iload_n 2, 1), some (.putfield 20, 3), none, none, some (.aload_n 0, 1), some (.iload_n 3, 1), some (.putfield 36, 3), none, none, some (.aload_n 0, 1), some (.iload 4, 2), none, some (.putfield 24, 3), none, none, some (.aload_n 0, 1), some (.iload 4, 2), none, some (.putfield 39, 3), none, none, some (.return_, 1)]
def pd_m87 : mm_Me := (pd_d87, pd_lk6, [], 5, 0)
def pd_y88 : MethodName := ⟨"PascalDesk$Strand", "enters", "(I)Z"⟩
def pd_d88 : List (Option (Instr × Nat)) := [some (.aload_n 0, 1), some (.getfield 24, 3), none, none, some (.ifCond .lt 12, 3), none, none, some (.aload_n 0, 1), some (.getfield 24, 3), none, none, some (.bipush 6, 2), none, some (.if_icmp .lt 5, 3), none, none, some (.iconst 0, 1), some (.ireturn, 1), some (.aload_n 0, 1), some (.getfield 9, 3), none, none, some (.aload_n 0, 1), some (.getfield 24, 3), none, none, some (.aload_n 0, 1), some (.getfield 20, 3), none, none, some (.iastore, 1), some (.aload_n 0, 1), some (.getfield 13, 3), none, none, some (.aload_n 0, 1), some (.getfield 24, 3), none, none, some (.aload_n 0, 1), some (.getfield 36, 3), none, none, some (.iastore, 1), some (.aload_n 0, 1), some (.dup, 1), some (.getfield 24, 3), none, none, some (.iconst 1, 1), some (.iadd, 1), some (.putfield 24, 3), none, none, some (.aload_n 0, 1), some (.iload_n 1, 1), some (.putfield 20, 3), none, none, some (.aload_n 0, 1), some (.iconst 0, 1), some (.putfield 36, 3), none, none, some (.iconst 1, 1), some (.ireturn, 1)]
def pd_m88 : mm_Me := (pd_d88, pd_lk6, [], 2, 4)
def pd_y89 : MethodName := ⟨"PascalDesk$Strand", "beginPart", "(LPascalDesk$Strand;II)V"⟩
def pd_d89 : List (Option (Instr × Nat)) := [some (.aload_n 0, 1), some (.iload_n 2, 1), some (.aload_n 1, 1), some (.getfield 20, 3), none, none, some (.iload_n 3, 1), some (.aload_n 1, 1), some (.getfield 24, 3), none, none, some (.invokevirtual 16, 3), none, none, some (.return_, 1)]
def pd_m89 : mm_Me := (pd_d89, pd_lk6, [], 4, 0)
def pd_y90 : MethodName := ⟨"PascalDesk$Strand", "goesBack", "()Z"⟩
def pd_d90 : List (Option (Instr × Nat)) := [some (.aload_n 0, 1), some (.getfield 24, 3), none, none, some (.aload_n 0, 1), some (.getfield 39, 3), none, none, some (.if_icmp .le 12, 3), none, none, some (.aload_n 0, 1), some (.getfield 24, 3), none, none, some (.bipush 6, 2), none, some (.if_icmp .le 5, 3), none, none, some (.iconst 0, 1), some (.ireturn, 1), some (.aload_n 0, 1), some (.dup, 1), some (.getfield 24, 3), none, none, some (.iconst 1, 1), some (.isub, 1), some (.putfield 24, 3), none, none, some (.aload_n 0, 1), some (.aload_n 0, 1), some (.getfield 9, 3), none, none, some (.aload_n 0, 1), some (.getfield 24, 3), none, none, some (.iaload, 1), some (.putfield 20, 3), none, none, some (.aload_n 0, 1), some (.aload_n 0, 1), some (.getfield 13, 3), none, none, some (.aload_n 0, 1), some (.getfield 24, 3), none, none, some (.iaload, 1), some (.putfield 36, 3), none, none, some (.iconst 1, 1), some (.ireturn, 1)]
def pd_m90 : mm_Me := (pd_d90, pd_lk6, [], 1, 4)
def pd_y91 : MethodName := ⟨"PascalDeskModel", "<init>", "()V"⟩
def pd_d91 : List (Option (Instr × Nat)) := [some (.aload_n 0, 1), some (.invokespecial 1, 3), none, none, some (.aload_n 0, 1), some (.bipush 48, 2), none, some (.newarray .int, 2), none, some (.putfield 7, 3), none, none, some (.aload_n 0, 1), some (.sipush 640, 3), none, none, some (.newarray .int, 2), none, some (.putfield 13, 3), none, none, some (.aload_n 0, 1), some (.sipush 640, 3), none, none, some (.newarray .int, 2), none, some (.putfield 16, 3), none, none, some (.aload_n 0, 1), some (.sipush 640, 3), none, none, some (.newarray .int, 2), none, some (.putfield 19, 3), none, none, some (.aload_n 0, 1), some (.iconst 4, 1), some (.newarray .boolean, 2), none, some (.putfield 22, 3), none, none, some (.aload_n 0, 1), some (.bipush 64, 2), none, some (.newarray .int, 2), none, some (.putfield 26, 3), none, none, some (.aload_n 0, 1), some (.bipush 64, 2), none, some (.newarray .int, 2), none, some (.putfield 29, 3), none, none, some (.aload_n 0, 1), some (.bipush 64, 2), none, some (.newarray .boolean, 2), none, some (.putfield 32, 3), none, none, some (.aload_n 0, 1), some (.iconst (-1), 1), some (.putfield 35, 3), none, none, some (.aload_n 0, 1), some (.bipush 16, 2), none, some (.newarray .int, 2), none, some (.putfield 39, 3), none, none, some (.aload_n 0, 1), some (.iconst 1, 1), some (.putfield 42, 3), none, none, some (.aload_n 0, 1), some (.bipush 11, 2), none, some (.newarray .double, 2), none, some (.putfield 45, 3), none, none, some (.aload_n 0, 1), some (.bipush 12, 2), none, some (.newarray .double, 2), none, some (.putfield 49, 3), none, none, some (.aload_n 0, 1), some (.bipush 64, 2), none, some (.newarray .double, 2), none, some (.putfield 52, 3), none, none, some (.aload_n 0, 1), some (.iconst 2, 1), some (.newarray .int, 2), none, some (.putfield 55, 3), none, none, some (.aload_n 0, 1), some (.iconst 5, 1), some (.newarray .int, 2), none, some (.putfield 58, 3), none, none, some (.aload_n 0, 1), some (.iconst 5, 1), some (.newarray .int, 2), none, some (.putfield 61, 3), none, none, some (.aload_n 0, 1), some (.iconst 5, 1), some (.newarray .int, 2), none, some (.putfield 64, 3), none, none, some (.aload_n 0, 1), some (.iconst 5, 1), some (.newarray .int, 2), none, some (.putfield 67, 3), none, none, some (.aload_n 0, 1), some (.iconst 5, 1), some (.newarray .int, 2), none, some (.putfield 70, 3), none, none, some (.aload_n 0, 1), some (.iconst 5, 1), some (.newarray .int, 2), none, some (.putfield 73, 3), none, none, some (.aload_n 0, 1), some (.bipush 40, 2), none, some (.newarray .int, 2), none, some (.putfield 76, 3), none, none, some (.aload_n 0, 1), some (.iconst 5, 1), some (.newarray .int, 2), none, some (.putfield 79, 3), none, none, some (.aload_n 0, 1), some (.iconst 5, 1), some (.newarray .int, 2), none, some (.putfield 82, 3), none, none, some (.return_, 1)]
def pd_m91 : mm_Me := (pd_d91, pd_lk7, [], 1, 0)
def pd_y92 : MethodName := ⟨"PascalDeskModel", "thrown", "()I"⟩
def pd_d92 : List (Option (Instr × Nat)) := [some (.aload_n 0, 1), some (.getfield 85, 3), none, none, some (.ireturn, 1)]
def pd_m92 : mm_Me := (pd_d92, pd_lk7, [], 1, 0)
def pd_y93 : MethodName := ⟨"PascalDeskModel", "type", "(J)I"⟩
def pd_d93 : List (Option (Instr × Nat)) := [some (.aload_n 0, 1), some (.iconst 0, 1), some (.putfield 85, 3), none, none, some (.iconst 0, 1), some (.istore_n 3, 1), some (.bipush 56, 2), none, some (.istore 4, 2), none, some (.iload 4, 2), none, some (.ifCond .lt 52, 3), none, none, some (.lload_n 1, 1), some (.iload 4, 2), none, some (.lushr, 1), some (.l2i, 1), some (.sipush 255, 3), none, none, some (.iand, 1), some (.istore 5, 2), none, some (.iload 5, 2), none, some (.ifCond .eq 6, 3), none, none, some (.iinc 3 1, 3), none, none, some (.iload 5, 2), none, some (.ifCond .eq 22, 3), none, none, some (.iload 5, 2), none, some (.bipush 33, 2), none, some (.if_icmp .lt 10, 3), none, none, some (.iload 5, 2), none, some (.bipush 126, 2), none, some (.if_icmp .le 8, 3), none, none, some (.aload_n 0, 1), some (.iconst 1, 1), some (.putfield 85, 3), none, none, some (.iinc 4 (-8), 3), none, none, some (.goto (-51), 3), none, none, some (.aload_n 0, 1), some (.getfield 85, 3), none, none, some (.ifCond .ne 19, 3), none, none, some (.aload_n 0, 1), some (.getfield 88, 3), none, none, some (.iload_n 3, 1), some (.iadd, 1), some (.bipush 48, 2), none, some (.if_icmp .le 8, 3), none, none, some (.aload_n 0, 1), some (.iconst 2, 1), some (.putfield 85, 3), none, none, some (.bipush 56, 2), none, some (.istore 4, 2), none, some (.iload 4, 2), none, some (.ifCond .lt 50, 3), none, none, some (.aload_n 0, 1), some (.getfield 85, 3), none, none, some (.ifCond .ne 43, 3), none, none, some (.lload_n 1, 1), some (.iload 4, 2), none, some (.lushr, 1), some (.l2i, 1), some (.sipush 255, 3), none, none, some (.iand, 1), some (.istore 5, 2), none, some (.iload 5, 2), none, some (.ifCond .eq 21, 3), none, none, some (.aload_n 0, 1), some (.getfield 7, 3), none, none, some (.aload_n 0, 1), some (.dup, 1), some (.getfield 88, 3), none, none, some (.dup_x1, 1), some (.iconst 1, 1), some (.iadd, 1), some (.putfield 88, 3), none, none, some (.iload 5, 2), none, some (.iastore, 1), some (.iinc 4 (-8), 3), none, none, some (.goto (-49), 3), none, none, some (.aload_n 0, 1), some (.getfield 85, 3), none, none, some (.ifCond .ne 10, 3), none, none, some (.aload_n 0, 1), some (.getfield 88, 3), none, none, some (.goto 4, 3), none, none, some (.iconst 0, 1), some (.ireturn, 1)]
def pd_m93 : mm_Me := (pd_d93, pd_lk7, [], 6, 0)
def pd_y94 : MethodName := ⟨"PascalDeskModel", "compile", "(I)I"⟩
def pd_d94 : List (Option (Instr × Nat)) := [some (.aload_n 0, 1), some (.iload_n 1, 1), some (.ifCond .lt 8, 3), none, none, some (.iload_n 1, 1), some (.iconst 3, 1), some (.if_icmp .le 7, 3), none, none, some (.iconst 1, 1), some (.goto 4, 3), none, none, some (.iconst 0, 1), some (.putfield 85, 3), none, none, some (.aload_n 0, 1), some (.getfield 85, 3), none, none, some (.ifCond .eq 5, 3), none, none, some (.iconst 0, 1), some (.ireturn, 1), some (.aload_n 0, 1), some (.invokevirtual 171, 3), none, none, some (.istore_n 2, 1), some (.aload_n 0, 1), some (.iconst 0, 1), some (.putfield 88, 3), none, none, some (.iload_n 2, 1), some (.ifCond .lt 15, 3), none, none, some (.aload_n 0, 1), some (.iload_n 2, 1), some (.putfield 35, 3), none, none, some (.aload_n 0, 1), some (.iconst 1, 1), some (.putfield 85, 3), none, none, some (.iconst 0, 1), some (.ireturn, 1), some (.iconst 0, 1), some (.istore_n 3, 1), some (.iload_n 3, 1), some (.aload_n 0, 1), some (.getfield 91, 3), none, none, some (.if_icmp .ge 75, 3), none, none, some (.aload_n 0, 1), some (.getfield 13, 3), none, none, some (.iload_n 1, 1), some (.sipush 128, 3), none, none, some (.imul, 1), some (.iload_n 3, 1), some (.iadd, 1), some (.aload_n 0, 1), some (.getfield 13, 3), none, none, some (.sipush 512, 3), none, none, some (.iload_n 3, 1), some (.iadd, 1), some (.iaload, 1), some (.iastore, 1), some (.aload_n 0, 1), some (.getfield 16, 3), none, none, some (.iload_n 1, 1), some (.sipush 128, 3), none, none, some (.imul, 1), some (.iload_n 3, 1), some (.iadd, 1), some (.aload_n 0, 1), some (.getfield 16, 3), none, none, some (.sipush 512, 3), none, none, some (.iload_n 3, 1), some (.iadd, 1), some (.iaload, 1), some (.iastore, 1), some (.aload_n 0, 1), some (.getfield 19, 3), none, none, some (.iload_n 1, 1), some (.sipush 128, 3), none, none, some (.imul, 1), some (.iload_n 3, 1), some (.iadd, 1), some (.aload_n 0, 1), some (.getfield 19, 3), none, none, some (.sipush 512, 3), none, none, some (.iload_n 3, 1), some (.iadd, 1), some (.iaload, 1), some (.iastore, 1), some (.iinc 3 1, 3), none, none, some (.goto (-77), 3), none, none, some (.aload_n 0, 1), some (.getfield 22, 3), none, none, some (.iload_n 1, 1), some (.iconst 1, 1), some (.bastore, 1), some (.aload_n 0, 1), some (.getfield 123, 3), none, none, some (.ireturn, 1)]
def pd_m94 : mm_Me := (pd_d94, pd_lk7, [], 4, 0)
def pd_y95 : MethodName := ⟨"PascalDeskModel", "read", "()I"⟩
def pd_d95 : List (Option (Instr × Nat)) := [some (.aload_n 0, 1), some (.iconst 0, 1), some (.putfield 94, 3), none, none, some (.aload_n 0, 1), some (.iconst 0, 1), some (.putfield 97, 3), none, none, some (.aload_n 0, 1), some (.iconst 0, 1), some (.putfield 91, 3), none, none, some (.aload_n 0, 1), some (.iconst 0, 1), some (.putfield 123, 3), none, none, some (.aload_n 0, 1), some (.iconst 0, 1), some (.putfield 116, 3), none, none, some (.aload_n 0, 1), some (.iconst 0, 1), some (.putfield 108, 3), none, none, some (.iconst 0, 1), some (.istore_n 1, 1), some (.iconst 0, 1), some (.istore_n 2, 1), some (.iload_n 2, 1), some (.aload_n 0, 1), some (.getfield 88, 3), none, none, some (.if_icmp .gt 255, 3), none, none, some (.iload_n 2, 1), some (.aload_n 0, 1), some (.getfield 88, 3), none, none, some (.if_icmp .ge 12, 3), none, none, some (.aload_n 0, 1), some (.getfield 7, 3), none, none, some (.iload_n 2, 1), some (.iaload, 1), some (.goto 4, 3), none, none, some (.iconst 0, 1), some (.istore_n 3, 1), some (.iconst (-1), 1), some (.istore 4, 2), none, some (.iload_n 1, 1), some (.iconst 1, 1), some (.if_icmp .ne 107, 3), none, none, some (.iload_n 3, 1), some (.bipush 48, 2), none, some (.if_icmp .lt 101, 3), none, none, some (.iload_n 3, 1), some (.bipush 57, 2), none, some (.if_icmp .gt 95, 3), none, none, some (.iconst 0, 1), some (.istore 5, 2), none, some (.iconst 0, 1), some (.istore 6, 2), none, some (.iload 6, 2), none, some (.iconst 3, 1), some (.if_icmp .ge 59, 3), none, none, some (.iload_n 2, 1), some (.aload_n 0, 1), some (.getfield 88, 3), none, none, some (.if_icmp .ge 51, 3), none, none, some (.aload_n 0, 1), some (.getfield 7, 3), none, none, some (.iload_n 2, 1), some (.iaload, 1), some (.bipush 48, 2), none, some (.if_icmp .lt 40, 3), none, none, some (.aload_n 0, 1), some (.getfield 7, 3), none, none, some (.iload_n 2, 1), some (.iaload, 1), some (.bipush 57, 2), none, some (.if_icmp .gt 29, 3), none, none, some (.iload 5, 2), none, some (.bipush 10, 2), none, some (.imul, 1), some (.aload_n 0, 1), some (.getfield 7, 3), none, none, some (.iload_n 2, 1), some (.iaload, 1), some (.iadd, 1), some (.bipush 48, 2), none, some (.isub, 1), some (.istore 5, 2), none, some (.iinc 2 1, 3), none, none, some (.iinc 6 1, 3), none, none, some (.goto (-59), 3), none, none, some (.aload_n 0, 1), some (.iconst 1, 1), some (.iload 5, 2), none, some (.invokevirtual 112, 3), none, none, some (.aload_n 0, 1), some (.iconst 0, 1), some (.invokevirtual 136, 3), none, none, some (.aload_n 0, 1), some (.invokevirtual 140, 3), none, none, some (.istore 4, 2), none, some (.iinc 2 (-1), 3), none, none, some (.goto 98, 3), none, none, some (.iload_n 3, 1), some (.ifCond .eq 17, 3), none, none, some (.iload_n 1, 1), some (.ifCond .ne 13, 3), none, none, some (.aload_n 0, 1), some (.iload_n 3, 1), some (.invokevirtual 155, 3), none, none, some (.istore 4, 2), none, some (.goto 80, 3), none, none, some (.iload_n 3, 1), some (.ifCond .eq 18, 3), none, none, some (.iload_n 1, 1), some (.iconst 1, 1), some (.if_icmp .ne 13, 3), none, none, some (.aload_n 0, 1), some (.iload_n 3, 1), some (.invokevirtual 158, 3), none, none, some (.istore 4, 2), none, some (.goto 61, 3), none, none, some (.iload_n 1, 1), some (.iconst 2, 1), some (.if_icmp .ne 29, 3), none, none, some (.aload_n 0, 1), some (.iload_n 3, 1), some (.invokevirtual 104, 3), none, none, some (.ifCond .le 11, 3), none, none, some (.aload_n 0, 1), some (.iload_n 3, 1), some (.invokevirtual 161, 3), none, none, some (.goto 8, 3), none, none, some (.aload_n 0, 1), some (.iload_n 3, 1), some (.invokevirtual 164, 3), none, none, some (.istore 4, 2), none, some (.goto 30, 3), none, none, some (.iload_n 1, 1), some (.iconst 3, 1), some (.if_icmp .ne 13, 3), none, none, some (.aload_n 0, 1), some (.iload_n 3, 1), some (.invokevirtual 152, 3), none, none, some (.istore 4, 2), none, some (.goto 15, 3), none, none, some (.iload_n 3, 1), some (.ifCond .eq 11, 3), none, none, some (.aload_n 0, 1), some (.iload_n 1, 1), some (.iload_n 3, 1), some (.invokevirtual 167, 3), none, none, some (.istore 4, 2), none, some (.iload 4, 2), none, some (.ifCond .ge 5, 3), none, none, some (.iload_n 2, 1), some (.ireturn, 1), some (.iload 4, 2), none, some (.bipush 10, 2), none, some (.if_icmp .ne 6, 3), none, none, some (.goto 12, 3), none, none, some (.iload 4, 2), none, some (.istore_n 1, 1), some (.iinc 2 1, 3), none, none, some (.goto (-257), 3), none, none, some (.aload_n 0, 1), some (.bipush 30, 2), none, some (.iconst 0, 1), some (.invokevirtual 112, 3), none, none, some (.aload_n 0, 1), some (.getfield 108, 3), none, none, some (.ifCond .eq 10, 3), none, none, some (.aload_n 0, 1), some (.getfield 88, 3), none, none, some (.goto 4, 3), none, none, some (.iconst (-1), 1), some (.ireturn, 1)]
def pd_m95 : mm_Me := (pd_d95, pd_lk7, [], 7, 0)
def pd_y96 : MethodName := ⟨"PascalDeskModel", "emit", "(II)V"⟩
def pd_d96 : List (Option (Instr × Nat)) := [some (.aload_n 0, 1), some (.getfield 13, 3), none, none, some (.sipush 512, 3), none, none, some (.aload_n 0, 1), some (.getfield 91, 3), none, none, some (.iadd, 1), some (.iload_n 1, 1), some (.iastore, 1), some (.aload_n 0, 1), some (.getfield 16, 3), none, none, some (.sipush 512, 3), none, none, some (.aload_n 0, 1), some (.getfield 91, 3), none, none, some (.iadd, 1), some (.iload_n 2, 1), some (.iastore, 1), some (.aload_n 0, 1), some (.dup, 1), some (.getfield 91, 3), none, none, some (.iconst 1, 1), some (.iadd, 1), some (.putfield 91, 3), none, none, some (.return_, 1)]
def pd_m96 : mm_Me := (pd_d96, pd_lk7, [], 3, 0)
def pd_y97 : MethodName := ⟨"PascalDeskModel", "operand", "(Z)V"⟩
def pd_d97 : List (Option (Instr × Nat)) := [some (.aload_n 0, 1), some (.getfield 32, 3), none, none, some (.aload_n 0, 1), some (.dup, 1), some (.getfield 97, 3), none, none, some (.dup_x1, 1), some (.iconst 1, 1), some (.iadd, 1), some (.putfield 97, 3), none, none, some (.iload_n 1, 1), some (.bastore, 1), some (.return_, 1)]
def pd_m97 : mm_Me := (pd_d97, pd_lk7, [], 2, 0)
def pd_y98 : MethodName := ⟨"PascalDeskModel", "over", "()I"⟩
def pd_d98 : List (Option (Instr × Nat)) := [some (.aload_n 0, 1), some (.invokevirtual 100, 3), none, none, some (.bipush 8, 2), none, some (.if_icmp .ne 44, 3), none, none, some (.aload_n 0, 1), some (.dup, 1), some (.getfield 94, 3), none, none, some (.iconst 1, 1), some (.isub, 1), some (.putfield 94, 3), none, none, some (.aload_n 0, 1), some (.dup, 1), some (.getfield 116, 3), none, none, some (.iconst 1, 1), some (.isub, 1), some (.putfield 116, 3), none, none, some (.aload_n 0, 1), some (.iconst 5, 1), some (.iconst 0, 1), some (.invokevirtual 112, 3), none, none, some (.aload_n 0, 1), some (.getfield 32, 3), none, none, some (.aload_n 0, 1), some (.getfield 97, 3), none, none, some (.iconst 1, 1), some (.isub, 1), some (.iconst 0, 1), some (.bastore, 1), some (.goto (-47), 3), none, none, some (.iconst 2, 1), some (.ireturn, 1)]
def pd_m98 : mm_Me := (pd_d98, pd_lk7, [], 1, 0)
def pd_y99 : MethodName := ⟨"PascalDeskModel", "above", "()I"⟩
def pd_d99 : List (Option (Instr × Nat)) := [some (.aload_n 0, 1), some (.getfield 94, 3), none, none, some (.ifCond .ne 7, 3), none, none, some (.iconst 0, 1), some (.goto 14, 3), none, none, some (.aload_n 0, 1), some (.getfield 26, 3), none, none, some (.aload_n 0, 1), some (.getfield 94, 3), none, none, some (.iconst 1, 1), some (.isub, 1), some (.iaload, 1), some (.ireturn, 1)]
def pd_m99 : mm_Me := (pd_d99, pd_lk7, [], 1, 0)
def pd_y100 : MethodName := ⟨"PascalDeskModel", "statement", "(I)I"⟩
def pd_d100 : List (Option (Instr × Nat)) := [some (.aload_n 0, 1), some (.dup, 1), some (.getfield 123, 3), none, none, some (.iconst 1, 1), some (.iadd, 1), some (.putfield 123, 3), none, none, some (.aload_n 0, 1), some (.iload_n 1, 1), some (.invokevirtual 126, 3), none, none, some (.ifCond .ne 11, 3), none, none, some (.aload_n 0, 1), some (.iload_n 1, 1), some (.invokevirtual 130, 3), none, none, some (.ifCond .eq 31, 3), none, none, some (.aload_n 0, 1), some (.aload_n 0, 1), some (.iload_n 1, 1), some (.invokevirtual 126, 3), none, none, some (.ifCond .eq 10, 3), none, none, some (.iload_n 1, 1), some (.bipush 97, 2), none, some (.isub, 1), some (.goto 9, 3), none, none, some (.iconst 4, 1), some (.iload_n 1, 1), some (.iadd, 1), some (.bipush 114, 2), none, some (.isub, 1), some (.putfield 133, 3), none, none, some (.bipush 7, 2), none, some (.ireturn, 1), some (.iload_n 1, 1), some (.bipush 118, 2), none, some (.if_icmp .ne 5, 3), none, none, some (.iconst 5, 1), some (.ireturn, 1), some (.iload_n 1, 1), some (.bipush 33, 2), none, some (.if_icmp .eq 15, 3), none, none, some (.iload_n 1, 1), some (.bipush 63, 2), none, some (.if_icmp .eq 9, 3), none, none, some (.iload_n 1, 1), some (.bipush 64, 2), none, some (.if_icmp .ne 30, 3), none, none, some (.aload_n 0, 1), some (.iload_n 1, 1), some (.bipush 33, 2), none, some (.if_icmp .ne 7, 3), none, none, some (.iconst 4, 1), some (.goto 14, 3), none, none, some (.iload_n 1, 1), some (.bipush 63, 2), none, some (.if_icmp .ne 7, 3), none, none, some (.iconst 2, 1), some (.goto 4, 3), none, none, some (.iconst 3, 1), some (.invokevirtual 119, 3), none, none, some (.iconst 1, 1), some (.ireturn, 1), some (.iload_n 1, 1), some (.bipush 38, 2), none, some (.if_icmp .ne 5, 3), none, none, some (.iconst 4, 1), some (.ireturn, 1), some (.iload_n 1, 1), some (.bipush 87, 2), none, some (.if_icmp .eq 15, 3), none, none, some (.iload_n 1, 1), some (.bipush 83, 2), none, some (.if_icmp .eq 9, 3), none, none, some (.iload_n 1, 1), some (.bipush 80, 2), none, some (.if_icmp .ne 22, 3), none, none, some (.aload_n 0, 1), some (.iload_n 1, 1), some (.putfield 133, 3), none, none, some (.iload_n 1, 1), some (.bipush 80, 2), none, some (.if_icmp .ne 8, 3), none, none, some (.bipush 9, 2), none, some (.goto 5, 3), none, none, some (.bipush 8, 2), none, some (.ireturn, 1), some (.iconst (-1), 1), some (.ireturn, 1)]
def pd_m100 : mm_Me := (pd_d100, pd_lk7, [], 2, 0)
def pd_y101 : MethodName := ⟨"PascalDeskModel", "isWhole", "(I)Z"⟩
def pd_d101 : List (Option (Instr × Nat)) := [some (.iload_n 1, 1), some (.bipush 97, 2), none, some (.if_icmp .lt 13, 3), none, none, some (.iload_n 1, 1), some (.bipush 100, 2), none, some (.if_icmp .gt 7, 3), none, none, some (.iconst 1, 1), some (.goto 4, 3), none, none, some (.iconst 0, 1), some (.ireturn, 1)]
def pd_m101 : mm_Me := (pd_d101, pd_lk7, [], 2, 4)
def pd_y102 : MethodName := ⟨"PascalDeskModel", "isReal", "(I)Z"⟩
def pd_d102 : List (Option (Instr × Nat)) := [some (.iload_n 1, 1), some (.bipush 114, 2), none, some (.if_icmp .lt 13, 3), none, none, some (.iload_n 1, 1), some (.bipush 116, 2), none, some (.if_icmp .gt 7, 3), none, none, some (.iconst 1, 1), some (.goto 4, 3), none, none, some (.iconst 0, 1), some (.ireturn, 1)]
def pd_m102 : mm_Me := (pd_d102, pd_lk7, [], 2, 4)
def pd_y103 : MethodName := ⟨"PascalDeskModel", "push", "(I)V"⟩
def pd_d103 : List (Option (Instr × Nat)) := [some (.aload_n 0, 1), some (.getfield 26, 3), none, none, some (.aload_n 0, 1), some (.getfield 94, 3), none, none, some (.iload_n 1, 1), some (.iastore, 1), some (.aload_n 0, 1), some (.getfield 29, 3), none, none, some (.aload_n 0, 1), some (.getfield 94, 3), none, none, some (.aload_n 0, 1), some (.getfield 91, 3), none, none, some (.iastore, 1), some (.aload_n 0, 1), some (.dup, 1), some (.getfield 94, 3), none, none, some (.iconst 1, 1), some (.iadd, 1), some (.putfield 94, 3), none, none, some (.return_, 1)]
def pd_m103 : mm_Me := (pd_d103, pd_lk7, [], 2, 0)
def pd_y104 : MethodName := ⟨"PascalDeskModel", "unit", "(I)I"⟩
def pd_d104 : List (Option (Instr × Nat)) := [some (.aload_n 0, 1), some (.iload_n 1, 1), some (.invokevirtual 126, 3), none, none, some (.ifCond .ne 11, 3), none, none, some (.aload_n 0, 1), some (.iload_n 1, 1), some (.invokevirtual 130, 3), none, none, some (.ifCond .eq 43, 3), none, none, some (.aload_n 0, 1), some (.iconst 2, 1), some (.aload_n 0, 1), some (.iload_n 1, 1), some (.invokevirtual 126, 3), none, none, some (.ifCond .eq 10, 3), none, none, some (.iload_n 1, 1), some (.bipush 97, 2), none, some (.isub, 1), some (.goto 9, 3), none, none, some (.iconst 4, 1), some (.iload_n 1, 1), some (.iadd, 1), some (.bipush 114, 2), none, some (.isub, 1), some (.invokevirtual 112, 3), none, none, some (.aload_n 0, 1), some (.aload_n 0, 1), some (.iload_n 1, 1), some (.invokevirtual 130, 3), none, none, some (.invokevirtual 136, 3), none, none, some (.aload_n 0, 1), some (.invokevirtual 140, 3), none, none, some (.ireturn, 1), some (.iload_n 1, 1), some (.bipush 118, 2), none, some (.if_icmp .ne 6, 3), none, none, some (.bipush 6, 2), none, some (.ireturn, 1), some (.iload_n 1, 1), some (.bipush 40, 2), none, some (.if_icmp .ne 10, 3), none, none, some (.aload_n 0, 1), some (.bipush 6, 2), none, some (.invokevirtual 143, 3), none, none, some (.ireturn, 1), some (.iload_n 1, 1), some (.bipush 35, 2), none, some (.if_icmp .ne 12, 3), none, none, some (.aload_n 0, 1), some (.bipush 8, 2), none, some (.invokevirtual 143, 3), none, none, some (.goto 4, 3), none, none, some (.iconst (-1), 1), some (.ireturn, 1)]
def pd_m104 : mm_Me := (pd_d104, pd_lk7, [], 2, 0)
def pd_y105 : MethodName := ⟨"PascalDeskModel", "opened", "(I)I"⟩
def pd_d105 : List (Option (Instr × Nat)) := [some (.aload_n 0, 1), some (.getfield 116, 3), none, none, some (.iconst 5, 1), some (.if_icmp .ne 5, 3), none, none, some (.iconst (-1), 1), some (.ireturn, 1), some (.aload_n 0, 1), some (.dup, 1), some (.getfield 116, 3), none, none, some (.iconst 1, 1), some (.iadd, 1), some (.putfield 116, 3), none, none, some (.aload_n 0, 1), some (.iload_n 1, 1), some (.invokevirtual 119, 3), none, none, some (.iload_n 1, 1), some (.bipush 10, 2), none, some (.if_icmp .lt 7, 3), none, none, some (.iconst 0, 1), some (.goto 4, 3), none, none, some (.iconst 1, 1), some (.ireturn, 1)]
def pd_m105 : mm_Me := (pd_d105, pd_lk7, [], 2, 0)
def pd_y106 : MethodName := ⟨"PascalDeskModel", "rank", "(I)I"⟩
def pd_d106 : List (Option (Instr × Nat)) := [some (.iload_n 1, 1), some (.bipush 42, 2), none, some (.if_icmp .eq 15, 3), none, none, some (.iload_n 1, 1), some (.bipush 47, 2), none, some (.if_icmp .eq 9, 3), none, none, some (.iload_n 1, 1), some (.bipush 37, 2), none, some (.if_icmp .ne 7, 3), none, none, some (.iconst 3, 1), some (.goto 36, 3), none, none, some (.iload_n 1, 1), some (.bipush 43, 2), none, some (.if_icmp .eq 9, 3), none, none, some (.iload_n 1, 1), some (.bipush 45, 2), none, some (.if_icmp .ne 7, 3), none, none, some (.iconst 2, 1), some (.goto 20, 3), none, none, some (.iload_n 1, 1), some (.bipush 60, 2), none, some (.if_icmp .eq 9, 3), none, none, some (.iload_n 1, 1), some (.bipush 61, 2), none, some (.if_icmp .ne 7, 3), none, none, some (.iconst 1, 1), some (.goto 4, 3), none, none, some (.iconst 0, 1), some (.ireturn, 1)]
def pd_m106 : mm_Me := (pd_d106, pd_lk7, [], 2, 0)
def pd_y107 : MethodName := ⟨"PascalDeskModel", "binary", "(I)I"⟩
def pd_d107 : List (Option (Instr × Nat)) := [some (.aload_n 0, 1), some (.iload_n 1, 1), some (.invokevirtual 104, 3), none, none, some (.istore_n 2, 1), some (.aload_n 0, 1), some (.iload_n 2, 1), some (.iconst 1, 1), some (.if_icmp .ne 7, 3), none, none, some (.iconst 2, 1), some (.goto 4, 3), none, none, some (.iload_n 2, 1), some (.invokevirtual 146, 3), none, none, some (.iload_n 2, 1), some (.iconst 1, 1), some (.if_icmp .ne 17, 3), none, none, some (.aload_n 0, 1), some (.aload_n 0, 1), some (.invokevirtual 100, 3), none, none, some (.invokevirtual 104, 3), none, none, some (.iconst 1, 1), some (.if_icmp .ne 5, 3), none, none, some (.iconst (-1), 1), some (.ireturn, 1), some (.aload_n 0, 1), some (.iload_n 1, 1), some (.invokevirtual 119, 3), none, none, some (.iconst 1, 1), some (.ireturn, 1)]
def pd_m107 : mm_Me := (pd_d107, pd_lk7, [], 3, 0)
def pd_y108 : MethodName := ⟨"PascalDeskModel", "reduce", "(I)V"⟩
def pd_d108 : List (Option (Instr × Nat)) := [some (.aload_n 0, 1), some (.aload_n 0, 1), some (.invokevirtual 100, 3), none, none, some (.invokevirtual 104, 3), none, none, some (.iload_n 1, 1), some (.if_icmp .lt 143, 3), none, none, some (.aload_n 0, 1), some (.getfield 26, 3), none, none, some (.aload_n 0, 1), some (.dup, 1), some (.getfield 94, 3), none, none, some (.iconst 1, 1), some (.isub, 1), some (.dup_x1, 1), some (.putfield 94, 3), none, none, some (.iaload, 1), some (.istore_n 2, 1), some (.aload_n 0, 1), some (.getfield 32, 3), none, none, some (.aload_n 0, 1), some (.getfield 97, 3), none, none, some (.iconst 2, 1), some (.isub, 1), some (.baload, 1), some (.ifCond .ne 17, 3), none, none, some (.aload_n 0, 1), some (.getfield 32, 3), none, none, some (.aload_n 0, 1), some (.getfield 97, 3), none, none, some (.iconst 1, 1), some (.isub, 1), some (.baload, 1), some (.ifCond .eq 7, 3), none, none, some (.iconst 1, 1), some (.goto 4, 3), none, none, some (.iconst 0, 1), some (.istore_n 3, 1), some (.aload_n 0, 1), some (.dup, 1), some (.getfield 97, 3), none, none, some (.iconst 1, 1), some (.isub, 1), some (.putfield 97, 3), none, none, some (.iload_n 2, 1), some (.bipush 37, 2), none, some (.if_icmp .ne 12, 3), none, none, some (.iload_n 3, 1), some (.ifCond .eq 8, 3), none, none, some (.aload_n 0, 1), some (.iconst 1, 1), some (.putfield 108, 3), none, none, some (.aload_n 0, 1), some (.iload_n 2, 1), some (.iload_n 2, 1), some (.bipush 47, 2), none, some (.if_icmp .eq 7, 3), none, none, some (.iload_n 3, 1), some (.ifCond .eq 7, 3), none, none, some (.iconst 1, 1), some (.goto 4, 3), none, none, some (.iconst 0, 1), some (.invokevirtual 112, 3), none, none, some (.aload_n 0, 1), some (.getfield 32, 3), none, none, some (.aload_n 0, 1), some (.getfield 97, 3), none, none, some (.iconst 1, 1), some (.isub, 1), some (.iload_n 2, 1), some (.bipush 47, 2), none, some (.if_icmp .eq 22, 3), none, none, some (.aload_n 0, 1), some (.iload_n 2, 1), some (.invokevirtual 104, 3), none, none, some (.iconst 1, 1), some (.if_icmp .le 17, 3), none, none, some (.iload_n 2, 1), some (.bipush 37, 2), none, some (.if_icmp .eq 11, 3), none, none, some (.iload_n 3, 1), some (.ifCond .eq 7, 3), none, none, some (.iconst 1, 1), some (.goto 4, 3), none, none, some (.iconst 0, 1), some (.bastore, 1), some (.goto (-149), 3), none, none, some (.return_, 1)]
def pd_m108 : mm_Me := (pd_d108, pd_lk7, [], 4, 0)
def pd_y109 : MethodName := ⟨"PascalDeskModel", "closed", "(I)I"⟩
def pd_d109 : List (Option (Instr × Nat)) := [some (.aload_n 0, 1), some (.iconst 1, 1), some (.invokevirtual 146, 3), none, none, some (.aload_n 0, 1), some (.invokevirtual 100, 3), none, none, some (.istore_n 2, 1), some (.iload_n 1, 1), some (.bipush 93, 2), none, some (.if_icmp .ne 78, 3), none, none, some (.iload_n 2, 1), some (.iconst 5, 1), some (.if_icmp .eq 9, 3), none, none, some (.iload_n 2, 1), some (.bipush 7, 2), none, some (.if_icmp .ne 67, 3), none, none, some (.aload_n 0, 1), some (.dup, 1), some (.getfield 94, 3), none, none, some (.iconst 1, 1), some (.isub, 1), some (.putfield 94, 3), none, none, some (.aload_n 0, 1), some (.dup, 1), some (.getfield 116, 3), none, none, some (.iconst 1, 1), some (.isub, 1), some (.putfield 116, 3), none, none, some (.aload_n 0, 1), some (.invokevirtual 149, 3), none, none, some (.aload_n 0, 1), some (.iload_n 2, 1), some (.iconst 5, 1), some (.if_icmp .ne 7, 3), none, none, some (.iconst 3, 1), some (.goto 4, 3), none, none, some (.iconst 4, 1), some (.iconst 0, 1), some (.invokevirtual 112, 3), none, none, some (.iload_n 2, 1), some (.bipush 7, 2), none, some (.if_icmp .ne 12, 3), none, none, some (.aload_n 0, 1), some (.bipush 7, 2), none, some (.putfield 133, 3), none, none, some (.bipush 7, 2), none, some (.ireturn, 1), some (.aload_n 0, 1), some (.iconst 0, 1), some (.invokevirtual 136, 3), none, none, some (.aload_n 0, 1), some (.invokevirtual 140, 3), none, none, some (.ireturn, 1), some (.iload_n 1, 1), some (.bipush 41, 2), none, some (.if_icmp .ne 34, 3), none, none, some (.iload_n 2, 1), some (.bipush 6, 2), none, some (.if_icmp .ne 28, 3), none, none, some (.aload_n 0, 1), some (.dup, 1), some (.getfield 94, 3), none, none, some (.iconst 1, 1), some (.isub, 1), some (.putfield 94, 3), none, none, some (.aload_n 0, 1), some (.dup, 1), some (.getfield 116, 3), none, none, some (.iconst 1, 1), some (.isub, 1), some (.putfield 116, 3), none, none, some (.aload_n 0, 1), some (.invokevirtual 140, 3), none, none, some (.ireturn, 1), some (.iload_n 1, 1), some (.bipush 123, 2), none, some (.if_icmp .ne 61, 3), none, none, some (.iload_n 2, 1), some (.iconst 2, 1), some (.if_icmp .eq 8, 3), none, none, some (.iload_n 2, 1), some (.iconst 3, 1), some (.if_icmp .ne 51, 3), none, none, some (.aload_n 0, 1), some (.getfield 116, 3), none, none, some (.iconst 5, 1), some (.if_icmp .ne 5, 3), none, none, some (.iconst (-1), 1), some (.ireturn, 1), some (.aload_n 0, 1), some (.dup, 1), some (.getfield 116, 3), none, none, some (.iconst 1, 1), some (.iadd, 1), some (.putfield 116, 3), none, none, some (.aload_n 0, 1), some (.invokevirtual 149, 3), none, none, some (.aload_n 0, 1), some (.getfield 26, 3), none, none, some (.aload_n 0, 1), some (.getfield 94, 3), none, none, some (.iconst 1, 1), some (.isub, 1), some (.iload_n 2, 1), some (.bipush 8, 2), none, some (.iadd, 1), some (.iastore, 1), some (.aload_n 0, 1), some (.bipush 28, 2), none, some (.iconst 0, 1), some (.invokevirtual 112, 3), none, none, some (.iconst 0, 1), some (.ireturn, 1), some (.iload_n 1, 1), some (.bipush 59, 2), none, some (.if_icmp .eq 19, 3), none, none, some (.iload_n 1, 1), some (.bipush 125, 2), none, some (.if_icmp .eq 13, 3), none, none, some (.iload_n 1, 1), some (.bipush 124, 2), none, some (.if_icmp .eq 7, 3), none, none, some (.iload_n 1, 1), some (.ifCond .ne 7, 3), none, none, some (.iconst 1, 1), some (.goto 4, 3), none, none, some (.iconst 0, 1), some (.istore_n 3, 1), some (.iload_n 3, 1), some (.ifCond .eq 13, 3), none, none, some (.iload_n 2, 1), some (.iconst 1, 1), some (.if_icmp .eq 10, 3), none, none, some (.iload_n 2, 1), some (.iconst 4, 1), some (.if_icmp .eq 5, 3), none, none, some (.iconst (-1), 1), some (.ireturn, 1), some (.iload_n 2, 1), some (.iconst 1, 1), some (.if_icmp .ne 27, 3), none, none, some (.aload_n 0, 1), some (.getfield 133, 3), none, none, some (.iconst 4, 1), some (.if_icmp .lt 12, 3), none, none, some (.aload_n 0, 1), some (.getfield 133, 3), none, none, some (.bipush 7, 2), none, some (.if_icmp .ne 10, 3), none, none, some (.aload_n 0, 1), some (.invokevirtual 149, 3), none, none, some (.goto 13, 3), none, none, some (.aload_n 0, 1), some (.dup, 1), some (.getfield 97, 3), none, none, some (.iconst 1, 1), some (.isub, 1), some (.putfield 97, 3), none, none, some (.aload_n 0, 1), some (.iload_n 2, 1), some (.iconst 4, 1), some (.if_icmp .ne 8, 3), none, none, some (.bipush 22, 2), none, some (.goto 19, 3), none, none, some (.aload_n 0, 1), some (.getfield 133, 3), none, none, some (.bipush 7, 2), none, some (.if_icmp .ne 8, 3), none, none, some (.bipush 21, 2), none, some (.goto 5, 3), none, none, some (.bipush 20, 2), none, some (.aload_n 0, 1), some (.getfield 133, 3), none, none, some (.invokevirtual 112, 3), none, none, some (.aload_n 0, 1), some (.dup, 1), some (.getfield 94, 3), none, none, some (.iconst 1, 1), some (.isub, 1), some (.putfield 94, 3), none, none, some (.aload_n 0, 1), some (.iload_n 1, 1), some (.invokevirtual 152, 3), none, none, some (.ireturn, 1)]
def pd_m109 : mm_Me := (pd_d109, pd_lk7, [], 4, 0)
def pd_y110 : MethodName := ⟨"PascalDeskModel", "whole", "()V"⟩
def pd_d110 : List (Option (Instr × Nat)) := [some (.aload_n 0, 1), some (.getfield 32, 3), none, none, some (.aload_n 0, 1), some (.dup, 1), some (.getfield 97, 3), none, none, some (.iconst 1, 1), some (.isub, 1), some (.dup_x1, 1), some (.putfield 97, 3), none, none, some (.baload, 1), some (.ifCond .eq 8, 3), none, none, some (.aload_n 0, 1), some (.iconst 1, 1), some (.putfield 108, 3), none, none, some (.return_, 1)]
def pd_m110 : mm_Me := (pd_d110, pd_lk7, [], 1, 0)
def pd_y111 : MethodName := ⟨"PascalDeskModel", "ended", "(I)I"⟩
def pd_d111 : List (Option (Instr × Nat)) := [some (.aload_n 0, 1), some (.invokevirtual 100, 3), none, none, some (.istore_n 2, 1), some (.iload_n 1, 1), some (.bipush 59, 2), none, some (.if_icmp .ne 5, 3), none, none, some (.iconst 0, 1), some (.ireturn, 1), some (.iload_n 1, 1), some (.ifCond .ne 17, 3), none, none, some (.aload_n 0, 1), some (.getfield 94, 3), none, none, some (.ifCond .ne 8, 3), none, none, some (.bipush 10, 2), none, some (.goto 4, 3), none, none, some (.iconst (-1), 1), some (.ireturn, 1), some (.iload_n 1, 1), some (.bipush 124, 2), none, some (.if_icmp .ne 55, 3), none, none, some (.iload_n 2, 1), some (.bipush 12, 2), none, some (.if_icmp .ne 49, 3), none, none, some (.aload_n 0, 1), some (.bipush 30, 2), none, some (.iconst 0, 1), some (.invokevirtual 112, 3), none, none, some (.aload_n 0, 1), some (.getfield 16, 3), none, none, some (.sipush 512, 3), none, none, some (.aload_n 0, 1), some (.getfield 29, 3), none, none, some (.aload_n 0, 1), some (.getfield 94, 3), none, none, some (.iconst 1, 1), some (.isub, 1), some (.iaload, 1), some (.iadd, 1), some (.aload_n 0, 1), some (.getfield 91, 3), none, none, some (.iastore, 1), some (.aload_n 0, 1), some (.getfield 26, 3), none, none, some (.aload_n 0, 1), some (.getfield 94, 3), none, none, some (.iconst 1, 1), some (.isub, 1), some (.bipush 13, 2), none, some (.iastore, 1), some (.iconst 0, 1), some (.ireturn, 1), some (.iload_n 1, 1), some (.bipush 125, 2), none, some (.if_icmp .ne 21, 3), none, none, some (.iload_n 2, 1), some (.bipush 10, 2), none, some (.if_icmp .eq 17, 3), none, none, some (.iload_n 2, 1), some (.bipush 11, 2), none, some (.if_icmp .eq 11, 3), none, none, some (.iload_n 2, 1), some (.bipush 13, 2), none, some (.if_icmp .eq 5, 3), none, none, some (.iconst (-1), 1), some (.ireturn, 1), some (.aload_n 0, 1), some (.dup, 1), some (.getfield 94, 3), none, none, some (.iconst 1, 1), some (.isub, 1), some (.putfield 94, 3), none, none, some (.aload_n 0, 1), some (.dup, 1), some (.getfield 116, 3), none, none, some (.iconst 1, 1), some (.isub, 1), some (.putfield 116, 3), none, none, some (.aload_n 0, 1), some (.getfield 29, 3), none, none, some (.aload_n 0, 1), some (.getfield 94, 3), none, none, some (.iaload, 1), some (.istore_n 3, 1), some (.iload_n 2, 1), some (.bipush 13, 2), none, some (.if_icmp .ne 27, 3), none, none, some (.aload_n 0, 1), some (.bipush 30, 2), none, some (.iconst 0, 1), some (.invokevirtual 112, 3), none, none, some (.aload_n 0, 1), some (.getfield 19, 3), none, none, some (.sipush 512, 3), none, none, some (.iload_n 3, 1), some (.iadd, 1), some (.aload_n 0, 1), some (.getfield 91, 3), none, none, some (.iastore, 1), some (.goto 56, 3), none, none, some (.iload_n 2, 1), some (.bipush 11, 2), none, some (.if_icmp .ne 10, 3), none, none, some (.aload_n 0, 1), some (.bipush 29, 2), none, some (.iload_n 3, 1), some (.invokevirtual 112, 3), none, none, some (.iload_n 3, 1), some (.istore 4, 2), none, some (.aload_n 0, 1), some (.getfield 13, 3), none, none, some (.sipush 512, 3), none, none, some (.iload 4, 2), none, some (.iadd, 1), some (.iaload, 1), some (.bipush 28, 2), none, some (.if_icmp .eq 9, 3), none, none, some (.iinc 4 1, 3), none, none, some (.goto (-19), 3), none, none, some (.aload_n 0, 1), some (.getfield 16, 3), none, none, some (.sipush 512, 3), none, none, some (.iload 4, 2), none, some (.iadd, 1), some (.aload_n 0, 1), some (.getfield 91, 3), none, none, some (.iastore, 1), some (.iconst 3, 1), some (.ireturn, 1)]
def pd_m111 : mm_Me := (pd_d111, pd_lk7, [], 5, 0)
def pd_y112 : MethodName := ⟨"PascalDeskModel", "single", "(II)I"⟩
def pd_d112 : List (Option (Instr × Nat)) := [some (.iload_n 1, 1), some (.iconst 4, 1), some (.if_icmp .ne 44, 3), none, none, some (.iload_n 2, 1), some (.bipush 123, 2), none, some (.if_icmp .ne 11, 3), none, none, some (.aload_n 0, 1), some (.getfield 116, 3), none, none, some (.iconst 5, 1), some (.if_icmp .ne 5, 3), none, none, some (.iconst (-1), 1), some (.ireturn, 1), some (.aload_n 0, 1), some (.dup, 1), some (.getfield 116, 3), none, none, some (.iconst 1, 1), some (.iadd, 1), some (.putfield 116, 3), none, none, some (.aload_n 0, 1), some (.bipush 12, 2), none, some (.invokevirtual 119, 3), none, none, some (.aload_n 0, 1), some (.bipush 26, 2), none, some (.iconst 0, 1), some (.invokevirtual 112, 3), none, none, some (.iconst 0, 1), some (.ireturn, 1), some (.iload_n 1, 1), some (.iconst 5, 1), some (.if_icmp .eq 9, 3), none, none, some (.iload_n 1, 1), some (.bipush 6, 2), none, some (.if_icmp .ne 29, 3), none, none, some (.iload_n 2, 1), some (.bipush 91, 2), none, some (.if_icmp .ne 21, 3), none, none, some (.aload_n 0, 1), some (.iload_n 1, 1), some (.iconst 5, 1), some (.if_icmp .ne 8, 3), none, none, some (.bipush 7, 2), none, some (.goto 4, 3), none, none, some (.iconst 5, 1), some (.invokevirtual 143, 3), none, none, some (.goto 4, 3), none, none, some (.iconst (-1), 1), some (.ireturn, 1), some (.iload_n 1, 1), some (.bipush 7, 2), none, some (.if_icmp .ne 18, 3), none, none, some (.iload_n 2, 1), some (.bipush 61, 2), none, some (.if_icmp .eq 5, 3), none, none, some (.iconst (-1), 1), some (.ireturn, 1), some (.aload_n 0, 1), some (.iconst 1, 1), some (.invokevirtual 119, 3), none, none, some (.iconst 1, 1), some (.ireturn, 1), some (.iload_n 2, 1), some (.bipush 48, 2), none, some (.if_icmp .lt 20, 3), none, none, some (.iload_n 2, 1), some (.iload_n 1, 1), some (.bipush 8, 2), none, some (.if_icmp .ne 8, 3), none, none, some (.bipush 49, 2), none, some (.goto 5, 3), none, none, some (.bipush 51, 2), none, some (.if_icmp .le 5, 3), none, none, some (.iconst (-1), 1), some (.ireturn, 1), some (.aload_n 0, 1), some (.aload_n 0, 1), some (.getfield 133, 3), none, none, some (.bipush 87, 2), none, some (.if_icmp .ne 8, 3), none, none, some (.bipush 23, 2), none, some (.goto 19, 3), none, none, some (.aload_n 0, 1), some (.getfield 133, 3), none, none, some (.bipush 83, 2), none, some (.if_icmp .ne 8, 3), none, none, some (.bipush 24, 2), none, some (.goto 5, 3), none, none, some (.bipush 25, 2), none, some (.iload_n 2, 1), some (.bipush 48, 2), none, some (.isub, 1), some (.invokevirtual 112, 3), none, none, some (.iconst 3, 1), some (.ireturn, 1)]
def pd_m112 : mm_Me := (pd_d112, pd_lk7, [], 3, 0)
def pd_y113 : MethodName := ⟨"PascalDeskModel", "tape", "(JI)V"⟩
def pd_d113 : List (Option (Instr × Nat)) := [some (.aload_n 0, 1), some (.iload_n 3, 1), some (.iconst 1, 1), some (.if_icmp .lt 9, 3), none, none, some (.iload_n 3, 1), some (.bipush 16, 2), none, some (.if_icmp .le 7, 3), none, none, some (.iconst 1, 1), some (.goto 4, 3), none, none, some (.iconst 0, 1), some (.putfield 85, 3), none, none, some (.aload_n 0, 1), some (.getfield 85, 3), none, none, some (.ifCond .eq 4, 3), none, none, some (.return_, 1), some (.iconst 0, 1), some (.istore 4, 2), none, some (.iload 4, 2), none, some (.iload_n 3, 1), some (.if_icmp .ge 26, 3), none, none, some (.aload_n 0, 1), some (.getfield 39, 3), none, none, some (.iload 4, 2), none, some (.lload_n 1, 1), some (.iconst 4, 1), some (.iload 4, 2), none, some (.imul, 1), some (.lushr, 1), some (.l2i, 1), some (.bipush 15, 2), none, some (.iand, 1), some (.iastore, 1), some (.iinc 4 1, 3), none, none, some (.goto (-26), 3), none, none, some (.aload_n 0, 1), some (.iload_n 3, 1), some (.putfield 42, 3), none, none, some (.return_, 1)]
def pd_m113 : mm_Me := (pd_d113, pd_lk7, [], 5, 0)
def pd_y114 : MethodName := ⟨"PascalDeskModel", "run", "(III)I"⟩
def pd_d114 : List (Option (Instr × Nat)) := [some (.aload_n 0, 1), some (.iload_n 1, 1), some (.ifCond .lt 28, 3), none, none, some (.iload_n 1, 1), some (.iconst 3, 1), some (.if_icmp .gt 23, 3), none, none, some (.iload_n 2, 1), some (.ifCond .lt 19, 3), none, none, some (.iload_n 2, 1), some (.bipush 9, 2), none, some (.if_icmp .gt 13, 3), none, none, some (.iload_n 3, 1), some (.ifCond .lt 9, 3), none, none, some (.iload_n 3, 1), some (.bipush 9, 2), none, some (.if_icmp .le 7, 3), none, none, some (.iconst 1, 1), some (.goto 17, 3), none, none, some (.aload_n 0, 1), some (.getfield 22, 3), none, none, some (.iload_n 1, 1), some (.baload, 1), some (.ifCond .ne 7, 3), none, none, some (.iconst 2, 1), some (.goto 4, 3), none, none, some (.iconst 0, 1), some (.putfield 85, 3), none, none, some (.aload_n 0, 1), some (.getfield 85, 3), none, none, some (.ifCond .eq 5, 3), none, none, some (.iconst 0, 1), some (.ireturn, 1), some (.aload_n 0, 1), some (.getfield 55, 3), none, none, some (.iconst 0, 1), some (.iload_n 2, 1), some (.iastore, 1), some (.aload_n 0, 1), some (.getfield 55, 3), none, none, some (.iconst 1, 1), some (.iload_n 3, 1), some (.iastore, 1), some (.iconst 0, 1), some (.istore 4, 2), none, some (.iload 4, 2), none, some (.iconst 5, 1), some (.if_icmp .ge 17, 3), none, none, some (.aload_n 0, 1), some (.getfield 58, 3), none, none, some (.iload 4, 2), none, some (.iconst 0, 1), some (.iastore, 1), some (.iinc 4 1, 3), none, none, some (.goto (-17), 3), none, none, some (.aload_n 0, 1), some (.iconst 0, 1), some (.putfield 193, 3), none, none, some (.aload_n 0, 1), some (.iconst 0, 1), some (.putfield 218, 3), none, none, some (.aload_n 0, 1), some (.iconst 0, 1), some (.putfield 206, 3), none, none, some (.aload_n 0, 1), some (.iconst 0, 1), some (.putfield 184, 3), none, none, some (.aload_n 0, 1), some (.iconst 0, 1), some (.putfield 190, 3), none, none, some (.aload_n 0, 1), some (.iconst 0, 1), some (.putfield 215, 3), none, none, some (.aload_n 0, 1), some (.iconst 0, 1), some (.putfield 221, 3), none, none, some (.aload_n 0, 1), some (.iconst (-1), 1), some (.iload_n 1, 1), some (.sipush 128, 3), none, none, some (.imul, 1), some (.invokevirtual 212, 3), none, none, some (.aload_n 0, 1), some (.getfield 85, 3), none, none, some (.ifCond .ne 82, 3), none, none, some (.aload_n 0, 1), some (.invokevirtual 187, 3), none, none, some (.ifCond .le 75, 3), none, none, some (.aload_n 0, 1), some (.aload_n 0, 1), some (.getfield 39, 3), none, none, some (.aload_n 0, 1), some (.getfield 221, 3), none, none, some (.iaload, 1), some (.invokevirtual 224, 3), none, none, some (.istore 4, 2), none, some (.iload 4, 2), none, some (.ifCond .lt 13, 3), none, none, some (.aload_n 0, 1), some (.getfield 218, 3), none, none, some (.sipush 200, 3), none, none, some (.if_icmp .ne 11, 3), none, none, some (.aload_n 0, 1), some (.iconst 3, 1), some (.putfield 85, 3), none, none, some (.goto 34, 3), none, none, some (.aload_n 0, 1), some (.aload_n 0, 1), some (.getfield 221, 3), none, none, some (.iconst 1, 1), some (.iadd, 1), some (.aload_n 0, 1), some (.getfield 42, 3), none, none, some (.irem, 1), some (.putfield 221, 3), none, none, some (.aload_n 0, 1), some (.dup, 1), some (.getfield 218, 3), none, none, some (.iconst 1, 1), some (.iadd, 1), some (.putfield 218, 3), none, none, some (.aload_n 0, 1), some (.iload 4, 2), none, some (.invokevirtual 227, 3), none, none, some (.goto (-83), 3), none, none, some (.aload_n 0, 1), some (.getfield 85, 3), none, none, some (.ifCond .ne 10, 3), none, none, some (.aload_n 0, 1), some (.getfield 218, 3), none, none, some (.goto 4, 3), none, none, some (.iconst 0, 1), some (.ireturn, 1)]
def pd_m114 : mm_Me := (pd_d114, pd_lk7, [], 5, 0)
def pd_y115 : MethodName := ⟨"PascalDeskModel", "begin", "(II)V"⟩
def pd_d115 : List (Option (Instr × Nat)) := [some (.iconst 0, 1), some (.istore_n 3, 1), some (.aload_n 0, 1), some (.getfield 58, 3), none, none, some (.iload_n 3, 1), some (.iaload, 1), some (.ifCond .eq 9, 3), none, none, some (.iinc 3 1, 3), none, none, some (.goto (-12), 3), none, none, some (.aload_n 0, 1), some (.getfield 58, 3), none, none, some (.iload_n 3, 1), some (.iconst 1, 1), some (.iastore, 1), some (.aload_n 0, 1), some (.getfield 61, 3), none, none, some (.iload_n 3, 1), some (.iload_n 2, 1), some (.iastore, 1), some (.aload_n 0, 1), some (.getfield 64, 3), none, none, some (.iload_n 3, 1), some (.iload_n 1, 1), some (.iastore, 1), some (.aload_n 0, 1), some (.getfield 70, 3), none, none, some (.iload_n 3, 1), some (.iload_n 1, 1), some (.ifCond .ge 7, 3), none, none, some (.iconst 0, 1), some (.goto 16, 3), none, none, some (.aload_n 0, 1), some (.getfield 70, 3), none, none, some (.iload_n 1, 1), some (.iaload, 1), some (.aload_n 0, 1), some (.getfield 73, 3), none, none, some (.iload_n 1, 1), some (.iaload, 1), some (.iadd, 1), some (.iastore, 1), some (.aload_n 0, 1), some (.getfield 73, 3), none, none, some (.iload_n 3, 1), some (.iconst 0, 1), some (.iastore, 1), some (.aload_n 0, 1), some (.dup, 1), some (.getfield 184, 3), none, none, some (.iconst 1, 1), some (.iadd, 1), some (.putfield 184, 3), none, none, some (.aload_n 0, 1), some (.invokevirtual 187, 3), none, none, some (.aload_n 0, 1), some (.getfield 190, 3), none, none, some (.if_icmp .le 11, 3), none, none, some (.aload_n 0, 1), some (.aload_n 0, 1), some (.invokevirtual 187, 3), none, none, some (.putfield 190, 3), none, none, some (.return_, 1)]
def pd_m115 : mm_Me := (pd_d115, pd_lk7, [], 4, 0)
def pd_y116 : MethodName := ⟨"PascalDeskModel", "processes", "()I"⟩
def pd_d116 : List (Option (Instr × Nat)) := [some (.iconst 0, 1), some (.istore_n 1, 1), some (.iconst 0, 1), some (.istore_n 2, 1), some (.iload_n 2, 1), some (.iconst 5, 1), some (.if_icmp .ge 21, 3), none, none, some (.aload_n 0, 1), some (.getfield 58, 3), none, none, some (.iload_n 2, 1), some (.iaload, 1), some (.ifCond .eq 6, 3), none, none, some (.iinc 1 1, 3), none, none, some (.iinc 2 1, 3), none, none, some (.goto (-20), 3), none, none, some (.iload_n 1, 1), some (.ireturn, 1)]
def pd_m116 : mm_Me := (pd_d116, pd_lk7, [], 3, 0)
def pd_y117 : MethodName := ⟨"PascalDeskModel", "chosen", "(I)I"⟩
def pd_d117 : List (Option (Instr × Nat)) := [some (.iconst 0, 1), some (.istore_n 2, 1), some (.iconst 0, 1), some (.istore_n 3, 1), some (.iload_n 3, 1), some (.iconst 5, 1), some (.if_icmp .ge 22, 3), none, none, some (.aload_n 0, 1), some (.getfield 58, 3), none, none, some (.iload_n 3, 1), some (.iaload, 1), some (.iconst 1, 1), some (.if_icmp .ne 6, 3), none, none, some (.iinc 2 1, 3), none, none, some (.iinc 3 1, 3), none, none, some (.goto (-21), 3), none, none, some (.iload_n 2, 1), some (.ifCond .ne 5, 3), none, none, some (.iconst (-1), 1), some (.ireturn, 1), some (.iload_n 1, 1), some (.iload_n 2, 1), some (.irem, 1), some (.istore_n 3, 1), some (.iconst 0, 1), some (.istore 4, 2), none, some (.aload_n 0, 1), some (.getfield 58, 3), none, none, some (.iload 4, 2), none, some (.iaload, 1), some (.iconst 1, 1), some (.if_icmp .ne 7, 3), none, none, some (.iload_n 3, 1), some (.ifCond .le 23, 3), none, none, some (.aload_n 0, 1), some (.getfield 58, 3), none, none, some (.iload 4, 2), none, some (.iaload, 1), some (.iconst 1, 1), some (.if_icmp .ne 6, 3), none, none, some (.iinc 3 (-1), 3), none, none, some (.iinc 4 1, 3), none, none, some (.goto (-32), 3), none, none, some (.iload 4, 2), none, some (.ireturn, 1)]
def pd_m117 : mm_Me := (pd_d117, pd_lk7, [], 5, 0)
def pd_y118 : MethodName := ⟨"PascalDeskModel", "step", "(I)V"⟩
def pd_d118 : List (Option (Instr × Nat)) := [some (.aload_n 0, 1), some (.aload_n 0, 1), some (.getfield 61, 3), none, none, some (.iload_n 1, 1), some (.iaload, 1), some (.invokevirtual 199, 3), none, none, some (.istore_n 2, 1), some (.aload_n 0, 1), some (.getfield 85, 3), none, none, some (.ifCond .eq 4, 3), none, none, some (.return_, 1), some (.aload_n 0, 1), some (.getfield 16, 3), none, none, some (.iload_n 2, 1), some (.iaload, 1), some (.istore_n 3, 1), some (.aload_n 0, 1), some (.getfield 13, 3), none, none, some (.iload_n 2, 1), some (.iaload, 1), some (.istore 4, 2), none, some (.iload 4, 2), none, some (.bipush 25, 2), none, some (.if_icmp .ne 11, 3), none, none, some (.aload_n 0, 1), some (.iload_n 1, 1), some (.iload_n 2, 1), some (.iload_n 3, 1), some (.invokevirtual 202, 3), none, none, some (.return_, 1), some (.iload 4, 2), none, some (.bipush 22, 2), none, some (.if_icmp .ne 12, 3), none, none, some (.aload_n 0, 1), some (.getfield 206, 3), none, none, some (.bipush 12, 2), none, some (.if_icmp .eq 18, 3), none, none, some (.iload 4, 2), none, some (.bipush 26, 2), none, some (.if_icmp .ne 17, 3), none, none, some (.aload_n 0, 1), some (.invokevirtual 187, 3), none, none, some (.iconst 3, 1), some (.if_icmp .le 9, 3), none, none, some (.aload_n 0, 1), some (.iconst 3, 1), some (.putfield 85, 3), none, none, some (.return_, 1), some (.aload_n 0, 1), some (.getfield 61, 3), none, none, some (.iload_n 1, 1), some (.iload 4, 2), none, some (.bipush 26, 2), none, some (.if_icmp .ne 22, 3), none, none, some (.iload_n 2, 1), some (.sipush 128, 3), none, none, some (.idiv, 1), some (.sipush 128, 3), none, none, some (.imul, 1), some (.aload_n 0, 1), some (.getfield 19, 3), none, none, some (.iload_n 2, 1), some (.iaload, 1), some (.iadd, 1), some (.goto 38, 3), none, none, some (.iload 4, 2), none, some (.bipush 28, 2), none, some (.if_icmp .ne 28, 3), none, none, some (.aload_n 0, 1), some (.getfield 52, 3), none, none, some (.iconst 0, 1), some (.daload, 1), some (.dconst 0, 1), some (.dcmp .l, 1), some (.ifCond .ne 17, 3), none, none, some (.iload_n 2, 1), some (.sipush 128, 3), none, none, some (.idiv, 1), some (.sipush 128, 3), none, none, some (.imul, 1), some (.iload_n 3, 1), some (.iadd, 1), some (.goto 6, 3), none, none, some (.iload_n 2, 1), some (.iconst 1, 1), some (.iadd, 1), some (.iastore, 1), some (.iload 4, 2), none, some (.bipush 20, 2), none, some (.if_icmp .ne 18, 3), none, none, some (.aload_n 0, 1), some (.getfield 45, 3), none, none, some (.iload_n 3, 1), some (.aload_n 0, 1), some (.getfield 52, 3), none, none, some (.iconst 0, 1), some (.daload, 1), some (.dastore, 1), some (.goto 198, 3), none, none, some (.iload 4, 2), none, some (.bipush 21, 2), none, some (.if_icmp .ne 27, 3), none, none, some (.aload_n 0, 1), some (.getfield 45, 3), none, none, some (.bipush 7, 2), none, some (.aload_n 0, 1), some (.getfield 52, 3), none, none, some (.iconst 0, 1), some (.daload, 1), some (.d2i, 1), some (.iadd, 1), some (.aload_n 0, 1), some (.getfield 52, 3), none, none, some (.iconst 1, 1), some (.daload, 1), some (.dastore, 1), some (.goto 167, 3), none, none, some (.iload 4, 2), none, some (.bipush 22, 2), none, some (.if_icmp .ne 28, 3), none, none, some (.aload_n 0, 1), some (.getfield 49, 3), none, none, some (.aload_n 0, 1), some (.dup, 1), some (.getfield 206, 3), none, none, some (.dup_x1, 1), some (.iconst 1, 1), some (.iadd, 1), some (.putfield 206, 3), none, none, some (.aload_n 0, 1), some (.getfield 52, 3), none, none, some (.iconst 0, 1), some (.daload, 1), some (.dastore, 1), some (.goto 135, 3), none, none, some (.iload 4, 2), none, some (.bipush 24, 2), none, some (.if_icmp .ne 11, 3), none, none, some (.aload_n 0, 1), some (.iload_n 3, 1), some (.invokevirtual 209, 3), none, none, some (.goto 120, 3), none, none, some (.iload 4, 2), none, some (.bipush 26, 2), none, some (.if_icmp .ne 42, 3), none, none, some (.aload_n 0, 1), some (.getfield 58, 3), none, none, some (.iload_n 1, 1), some (.iconst 3, 1), some (.iastore, 1), some (.aload_n 0, 1), some (.getfield 67, 3), none, none, some (.iload_n 1, 1), some (.iconst 2, 1), some (.iastore, 1), some (.aload_n 0, 1), some (.iload_n 1, 1), some (.iload_n 2, 1), some (.iconst 1, 1), some (.iadd, 1), some (.invokevirtual 212, 3), none, none, some (.aload_n 0, 1), some (.iload_n 1, 1), some (.iload_n 2, 1), some (.sipush 128, 3), none, none, some (.idiv, 1), some (.sipush 128, 3), none, none, some (.imul, 1), some (.iload_n 3, 1), some (.iadd, 1), some (.invokevirtual 212, 3), none, none, some (.return_, 1), some (.iload 4, 2), none, some (.bipush 23, 2), none, some (.if_icmp .ne 67, 3), none, none, some (.aload_n 0, 1), some (.getfield 55, 3), none, none, some (.iload_n 3, 1), some (.iaload, 1), some (.ifCond .le 16, 3), none, none, some (.aload_n 0, 1), some (.getfield 55, 3), none, none, some (.iload_n 3, 1), some (.dup2, 1), some (.iaload, 1), some (.iconst 1, 1), some (.isub, 1), some (.iastore, 1), some (.goto 45, 3), none, none, some (.aload_n 0, 1), some (.getfield 58, 3), none, none, some (.iload_n 1, 1), some (.iconst 2, 1), some (.iastore, 1), some (.aload_n 0, 1), some (.getfield 82, 3), none, none, some (.iload_n 1, 1), some (.iload_n 3, 1), some (.iastore, 1), some (.aload_n 0, 1), some (.getfield 79, 3), none, none, some (.aload_n 0, 1), some (.dup, 1), some (.getfield 193, 3), none, none, some (.dup_x1, 1), some (.iconst 1, 1), some (.iadd, 1), some (.putfield 193, 3), none, none, some (.iload_n 1, 1), some (.iastore, 1), some (.aload_n 0, 1), some (.dup, 1), some (.getfield 215, 3), none, none, some (.iconst 1, 1), some (.iadd, 1), some (.putfield 215, 3), none, none, some (.return_, 1), some (.aload_n 0, 1), some (.iload_n 1, 1), some (.invokevirtual 196, 3), none, none, some (.return_, 1)]
def pd_m118 : mm_Me := (pd_d118, pd_lk7, [], 5, 0)
def pd_y119 : MethodName := ⟨"PascalDeskModel", "work", "(I)I"⟩
def pd_d119 : List (Option (Instr × Nat)) := [some (.iload_n 1, 1), some (.istore_n 2, 1), some (.aload_n 0, 1), some (.iconst 0, 1), some (.putfield 97, 3), none, none, some (.aload_n 0, 1), some (.getfield 85, 3), none, none, some (.ifCond .ne 269, 3), none, none, some (.aload_n 0, 1), some (.getfield 13, 3), none, none, some (.iload_n 2, 1), some (.iaload, 1), some (.bipush 20, 2), none, some (.if_icmp .lt 14, 3), none, none, some (.aload_n 0, 1), some (.getfield 13, 3), none, none, some (.iload_n 2, 1), some (.iaload, 1), some (.bipush 30, 2), none, some (.if_icmp .le 247, 3), none, none, some (.aload_n 0, 1), some (.getfield 13, 3), none, none, some (.iload_n 2, 1), some (.iaload, 1), some (.istore_n 3, 1), some (.iload_n 3, 1), some (.iconst 1, 1), some (.if_icmp .ne 29, 3), none, none, some (.aload_n 0, 1), some (.getfield 52, 3), none, none, some (.aload_n 0, 1), some (.dup, 1), some (.getfield 97, 3), none, none, some (.dup_x1, 1), some (.iconst 1, 1), some (.iadd, 1), some (.putfield 97, 3), none, none, some (.aload_n 0, 1), some (.getfield 16, 3), none, none, some (.iload_n 2, 1), some (.iaload, 1), some (.i2d, 1), some (.dastore, 1), some (.goto 203, 3), none, none, some (.iload_n 3, 1), some (.iconst 2, 1), some (.if_icmp .ne 33, 3), none, none, some (.aload_n 0, 1), some (.getfield 52, 3), none, none, some (.aload_n 0, 1), some (.dup, 1), some (.getfield 97, 3), none, none, some (.dup_x1, 1), some (.iconst 1, 1), some (.iadd, 1), some (.putfield 97, 3), none, none, some (.aload_n 0, 1), some (.getfield 45, 3), none, none, some (.aload_n 0, 1), some (.getfield 16, 3), none, none, some (.iload_n 2, 1), some (.iaload, 1), some (.daload, 1), some (.dastore, 1), some (.goto 168, 3), none, none, some (.iload_n 3, 1), some (.iconst 5, 1), some (.if_icmp .ne 30, 3), none, none, some (.aload_n 0, 1), some (.getfield 52, 3), none, none, some (.aload_n 0, 1), some (.getfield 97, 3), none, none, some (.iconst 1, 1), some (.isub, 1), some (.aload_n 0, 1), some (.getfield 52, 3), none, none, some (.aload_n 0, 1), some (.getfield 97, 3), none, none, some (.iconst 1, 1), some (.isub, 1), some (.daload, 1), some (.d2i, 1), some (.i2d, 1), some (.dastore, 1), some (.goto 136, 3), none, none, some (.iload_n 3, 1), some (.iconst 5, 1), some (.if_icmp .ge 70, 3), none, none, some (.aload_n 0, 1), some (.getfield 52, 3), none, none, some (.aload_n 0, 1), some (.getfield 97, 3), none, none, some (.iconst 1, 1), some (.isub, 1), some (.daload, 1), some (.dstore 4, 2), none, some (.dload 4, 2), none, some (.dconst 0, 1), some (.dcmp .g, 1), some (.ifCond .lt 12, 3), none, none, some (.dload 4, 2), none, some (.ldc2_w 178, 3), none, none, some (.dcmp .l, 1), some (.ifCond .le 11, 3), none, none, some (.aload_n 0, 1), some (.iconst 5, 1), some (.putfield 85, 3), none, none, some (.goto 30, 3), none, none, some (.iload_n 3, 1), some (.iconst 3, 1), some (.if_icmp .ne 25, 3), none, none, some (.aload_n 0, 1), some (.getfield 52, 3), none, none, some (.aload_n 0, 1), some (.getfield 97, 3), none, none, some (.iconst 1, 1), some (.isub, 1), some (.aload_n 0, 1), some (.getfield 45, 3), none, none, some (.bipush 7, 2), none, some (.dload 4, 2), none, some (.d2i, 1), some (.iadd, 1), some (.daload, 1), some (.dastore, 1), some (.goto 64, 3), none, none, some (.aload_n 0, 1), some (.dup, 1), some (.getfield 97, 3), none, none, some (.iconst 1, 1), some (.isub, 1), some (.putfield 97, 3), none, none, some (.aload_n 0, 1), some (.getfield 52, 3), none, none, some (.aload_n 0, 1), some (.getfield 97, 3), none, none, some (.iconst 1, 1), some (.isub, 1), some (.aload_n 0, 1), some (.iload_n 3, 1), some (.aload_n 0, 1), some (.getfield 16, 3), none, none, some (.iload_n 2, 1), some (.iaload, 1), some (.iconst 1, 1), some (.if_icmp .ne 7, 3), none, none, some (.iconst 1, 1), some (.goto 4, 3), none, none, some (.iconst 0, 1), some (.aload_n 0, 1), some (.getfield 52, 3), none, none, some (.aload_n 0, 1), some (.getfield 97, 3), none, none, some (.iconst 1, 1), some (.isub, 1), some (.daload, 1), some (.aload_n 0, 1), some (.getfield 52, 3), none, none, some (.aload_n 0, 1), some (.getfield 97, 3), none, none, some (.daload, 1), some (.invokevirtual 180, 3), none, none, some (.dastore, 1), some (.iinc 2 1, 3), none, none, some (.goto (-270), 3), none, none, some (.iload_n 2, 1), some (.ireturn, 1)]
def pd_m119 : mm_Me := (pd_d119, pd_lk7, [], 6, 0)
def pd_y120 : MethodName := ⟨"PascalDeskModel", "number", "(IZDD)D"⟩
def pd_d120 : List (Option (Instr × Nat)) := [some (.iload_n 1, 1), some (.bipush 60, 2), none, some (.if_icmp .ne 16, 3), none, none, some (.dload_n 3, 1), some (.dload 5, 2), none, some (.dcmp .g, 1), some (.ifCond .ge 7, 3), none, none, some (.dconst 1, 1), some (.goto 4, 3), none, none, some (.dconst 0, 1), some (.dreturn, 1), some (.iload_n 1, 1), some (.bipush 61, 2), none, some (.if_icmp .ne 16, 3), none, none, some (.dload_n 3, 1), some (.dload 5, 2), none, some (.dcmp .l, 1), some (.ifCond .ne 7, 3), none, none, some (.dconst 1, 1), some (.goto 4, 3), none, none, some (.dconst 0, 1), some (.dreturn, 1), some (.iload_n 1, 1), some (.bipush 47, 2), none, some (.if_icmp .eq 9, 3), none, none, some (.iload_n 1, 1), some (.bipush 37, 2), none, some (.if_icmp .ne 15, 3), none, none, some (.dload 5, 2), none, some (.dconst 0, 1), some (.dcmp .l, 1), some (.ifCond .ne 8, 3), none, none, some (.aload_n 0, 1), some (.iconst 4, 1), some (.putfield 85, 3), none, none, some (.aload_n 0, 1), some (.getfield 85, 3), none, none, some (.ifCond .eq 5, 3), none, none, some (.dconst 0, 1), some (.dreturn, 1), some (.iload_n 1, 1), some (.bipush 37, 2), none, some (.if_icmp .ne 11, 3), none, none, some (.dload_n 3, 1), some (.d2i, 1), some (.dload 5, 2), none, some (.d2i, 1), some (.irem, 1), some (.i2d, 1), some (.dreturn, 1), some (.iload_n 2, 1), some (.ifCond .ne 43, 3), none, none, some (.iload_n 1, 1), some (.bipush 43, 2), none, some (.if_icmp .ne 13, 3), none, none, some (.dload_n 3, 1), some (.d2i, 1), some (.dload 5, 2), none, some (.d2i, 1), some (.iadd, 1), some (.i2d, 1), some (.goto 26, 3), none, none, some (.iload_n 1, 1), some (.bipush 45, 2), none, some (.if_icmp .ne 13, 3), none, none, some (.dload_n 3, 1), some (.d2i, 1), some (.dload 5, 2), none, some (.d2i, 1), some (.isub, 1), some (.i2d, 1), some (.goto 10, 3), none, none, some (.dload_n 3, 1), some (.d2i, 1), some (.dload 5, 2), none, some (.d2i, 1), some (.imul, 1), some (.i2d, 1), some (.dreturn, 1), some (.iload_n 1, 1), some (.bipush 43, 2), none, some (.if_icmp .ne 10, 3), none, none, some (.dload_n 3, 1), some (.dload 5, 2), none, some (.dadd, 1), some (.goto 33, 3), none, none, some (.iload_n 1, 1), some (.bipush 45, 2), none, some (.if_icmp .ne 10, 3), none, none, some (.dload_n 3, 1), some (.dload 5, 2), none, some (.dsub, 1), some (.goto 20, 3), none, none, some (.iload_n 1, 1), some (.bipush 42, 2), none, some (.if_icmp .ne 10, 3), none, none, some (.dload_n 3, 1), some (.dload 5, 2), none, some (.dmul, 1), some (.goto 7, 3), none, none, some (.dload_n 3, 1), some (.dload 5, 2), none, some (.ddiv, 1), some (.dstore 7, 2), none, some (.dload 7, 2), none, some (.ldc2_w 174, 3), none, none, some (.dcmp .l, 1), some (.ifCond .gt 12, 3), none, none, some (.dload 7, 2), none, some (.ldc2_w 176, 3), none, none, some (.dcmp .g, 1), some (.ifCond .ge 8, 3), none, none, some (.aload_n 0, 1), some (.iconst 4, 1), some (.putfield 85, 3), none, none, some (.dload 7, 2), none, some (.dreturn, 1)]
def pd_m120 : mm_Me := (pd_d120, pd_lk7, [], 9, 0)
def pd_y121 : MethodName := ⟨"PascalDeskModel", "call", "(III)V"⟩
def pd_d121 : List (Option (Instr × Nat)) := [some (.aload_n 0, 1), some (.getfield 22, 3), none, none, some (.iload_n 3, 1), some (.baload, 1), some (.ifCond .ne 11, 3), none, none, some (.aload_n 0, 1), some (.iconst 2, 1), some (.putfield 85, 3), none, none, some (.goto 26, 3), none, none, some (.aload_n 0, 1), some (.getfield 70, 3), none, none, some (.iload_n 1, 1), some (.iaload, 1), some (.aload_n 0, 1), some (.getfield 73, 3), none, none, some (.iload_n 1, 1), some (.iaload, 1), some (.iadd, 1), some (.bipush 6, 2), none, some (.if_icmp .ne 8, 3), none, none, some (.aload_n 0, 1), some (.iconst 3, 1), some (.putfield 85, 3), none, none, some (.aload_n 0, 1), some (.getfield 85, 3), none, none, some (.ifCond .eq 4, 3), none, none, some (.return_, 1), some (.aload_n 0, 1), some (.getfield 76, 3), none, none, some (.iload_n 1, 1), some (.bipush 8, 2), none, some (.imul, 1), some (.aload_n 0, 1), some (.getfield 73, 3), none, none, some (.iload_n 1, 1), some (.iaload, 1), some (.iadd, 1), some (.iload_n 2, 1), some (.iconst 1, 1), some (.iadd, 1), some (.iastore, 1), some (.aload_n 0, 1), some (.getfield 73, 3), none, none, some (.iload_n 1, 1), some (.dup2, 1), some (.iaload, 1), some (.iconst 1, 1), some (.iadd, 1), some (.iastore, 1), some (.aload_n 0, 1), some (.getfield 61, 3), none, none, some (.iload_n 1, 1), some (.iload_n 3, 1), some (.sipush 128, 3), none, none, some (.imul, 1), some (.iastore, 1), some (.return_, 1)]
def pd_m121 : mm_Me := (pd_d121, pd_lk7, [], 4, 0)
def pd_y122 : MethodName := ⟨"PascalDeskModel", "signal", "(I)V"⟩
def pd_d122 : List (Option (Instr × Nat)) := [some (.iconst 0, 1), some (.istore_n 2, 1), some (.iload_n 2, 1), some (.aload_n 0, 1), some (.getfield 193, 3), none, none, some (.if_icmp .ge 24, 3), none, none, some (.aload_n 0, 1), some (.getfield 82, 3), none, none, some (.aload_n 0, 1), some (.getfield 79, 3), none, none, some (.iload_n 2, 1), some (.iaload, 1), some (.iaload, 1), some (.iload_n 1, 1), some (.if_icmp .eq 9, 3), none, none, some (.iinc 2 1, 3), none, none, some (.goto (-26), 3), none, none, some (.iload_n 2, 1), some (.aload_n 0, 1), some (.getfield 193, 3), none, none, some (.if_icmp .ne 14, 3), none, none, some (.aload_n 0, 1), some (.getfield 55, 3), none, none, some (.iload_n 1, 1), some (.dup2, 1), some (.iaload, 1), some (.iconst 1, 1), some (.iadd, 1), some (.iastore, 1), some (.return_, 1), some (.aload_n 0, 1), some (.getfield 79, 3), none, none, some (.iload_n 2, 1), some (.iaload, 1), some (.istore_n 3, 1), some (.aload_n 0, 1), some (.dup, 1), some (.getfield 193, 3), none, none, some (.iconst 1, 1), some (.isub, 1), some (.putfield 193, 3), none, none, some (.iload_n 2, 1), some (.istore 4, 2), none, some (.iload 4, 2), none, some (.aload_n 0, 1), some (.getfield 193, 3), none, none, some (.if_icmp .ge 25, 3), none, none, some (.aload_n 0, 1), some (.getfield 79, 3), none, none, some (.iload 4, 2), none, some (.aload_n 0, 1), some (.getfield 79, 3), none, none, some (.iload 4, 2), none, some (.iconst 1, 1), some (.iadd, 1), some (.iaload, 1), some (.iastore, 1), some (.iinc 4 1, 3), none, none, some (.goto (-28), 3), none, none, some (.aload_n 0, 1), some (.getfield 58, 3), none, none, some (.iload_n 3, 1), some (.iconst 1, 1), some (.iastore, 1), some (.aload_n 0, 1), some (.iload_n 3, 1), some (.invokevirtual 196, 3), none, none, some (.return_, 1)]
def pd_m122 : mm_Me := (pd_d122, pd_lk7, [], 5, 0)
def pd_y123 : MethodName := ⟨"PascalDeskModel", "settle", "(I)V"⟩
def pd_d123 : List (Option (Instr × Nat)) := [some (.iload_n 1, 1), some (.istore_n 2, 1), some (.iload_n 2, 1), some (.ifCond .lt 163, 3), none, none, some (.aload_n 0, 1), some (.getfield 13, 3), none, none, some (.aload_n 0, 1), some (.getfield 61, 3), none, none, some (.iload_n 2, 1), some (.iaload, 1), some (.iaload, 1), some (.istore_n 3, 1), some (.iload_n 3, 1), some (.bipush 29, 2), none, some (.if_icmp .ne 38, 3), none, none, some (.aload_n 0, 1), some (.getfield 61, 3), none, none, some (.iload_n 2, 1), some (.aload_n 0, 1), some (.getfield 61, 3), none, none, some (.iload_n 2, 1), some (.iaload, 1), some (.sipush 128, 3), none, none, some (.idiv, 1), some (.sipush 128, 3), none, none, some (.imul, 1), some (.aload_n 0, 1), some (.getfield 16, 3), none, none, some (.aload_n 0, 1), some (.getfield 61, 3), none, none, some (.iload_n 2, 1), some (.iaload, 1), some (.iaload, 1), some (.iadd, 1), some (.iastore, 1), some (.goto 107, 3), none, none, some (.iload_n 3, 1), some (.bipush 30, 2), none, some (.if_icmp .eq 8, 3), none, none, some (.iconst (-1), 1), some (.istore_n 2, 1), some (.goto 96, 3), none, none, some (.aload_n 0, 1), some (.getfield 73, 3), none, none, some (.iload_n 2, 1), some (.iaload, 1), some (.ifCond .le 38, 3), none, none, some (.aload_n 0, 1), some (.getfield 73, 3), none, none, some (.iload_n 2, 1), some (.dup2, 1), some (.iaload, 1), some (.iconst 1, 1), some (.isub, 1), some (.iastore, 1), some (.aload_n 0, 1), some (.getfield 61, 3), none, none, some (.iload_n 2, 1), some (.aload_n 0, 1), some (.getfield 76, 3), none, none, some (.iload_n 2, 1), some (.bipush 8, 2), none, some (.imul, 1), some (.aload_n 0, 1), some (.getfield 73, 3), none, none, some (.iload_n 2, 1), some (.iaload, 1), some (.iadd, 1), some (.iaload, 1), some (.iastore, 1), some (.goto 52, 3), none, none, some (.aload_n 0, 1), some (.getfield 58, 3), none, none, some (.iload_n 2, 1), some (.iconst 0, 1), some (.iastore, 1), some (.aload_n 0, 1), some (.getfield 64, 3), none, none, some (.iload_n 2, 1), some (.iaload, 1), some (.istore_n 2, 1), some (.iload_n 2, 1), some (.ifCond .lt 34, 3), none, none, some (.aload_n 0, 1), some (.getfield 67, 3), none, none, some (.iload_n 2, 1), some (.dup2, 1), some (.iaload, 1), some (.iconst 1, 1), some (.isub, 1), some (.iastore, 1), some (.aload_n 0, 1), some (.getfield 67, 3), none, none, some (.iload_n 2, 1), some (.iaload, 1), some (.ifCond .le 8, 3), none, none, some (.iconst (-1), 1), some (.istore_n 2, 1), some (.goto 10, 3), none, none, some (.aload_n 0, 1), some (.getfield 58, 3), none, none, some (.iload_n 2, 1), some (.iconst 1, 1), some (.iastore, 1), some (.goto (-161), 3), none, none, some (.return_, 1)]
def pd_m123 : mm_Me := (pd_d123, pd_lk7, [], 4, 0)
def pd_y124 : MethodName := ⟨"PascalDeskModel", "variable", "(I)D"⟩
def pd_d124 : List (Option (Instr × Nat)) := [some (.aload_n 0, 1), some (.iload_n 1, 1), some (.ifCond .lt 9, 3), none, none, some (.iload_n 1, 1), some (.bipush 10, 2), none, some (.if_icmp .le 7, 3), none, none, some (.iconst 1, 1), some (.goto 4, 3), none, none, some (.iconst 0, 1), some (.putfield 85, 3), none, none, some (.aload_n 0, 1), some (.getfield 85, 3), none, none, some (.ifCond .ne 12, 3), none, none, some (.aload_n 0, 1), some (.getfield 45, 3), none, none, some (.iload_n 1, 1), some (.daload, 1), some (.goto 4, 3), none, none, some (.dconst 0, 1), some (.dreturn, 1)]
def pd_m124 : mm_Me := (pd_d124, pd_lk7, [], 2, 0)
def pd_y125 : MethodName := ⟨"PascalDeskModel", "set", "(ID)V"⟩
def pd_d125 : List (Option (Instr × Nat)) := [some (.iload_n 1, 1), some (.ifCond .lt 25, 3), none, none, some (.iload_n 1, 1), some (.bipush 10, 2), none, some (.if_icmp .gt 19, 3), none, none, some (.dload_n 2, 1), some (.ldc2_w 230, 3), none, none, some (.dcmp .l, 1), some (.ifCond .lt 11, 3), none, none, some (.dload_n 2, 1), some (.ldc2_w 232, 3), none, none, some (.dcmp .g, 1), some (.ifCond .le 7, 3), none, none, some (.iconst 1, 1), some (.goto 4, 3), none, none, some (.iconst 0, 1), some (.istore 4, 2), none, some (.aload_n 0, 1), some (.iload 4, 2), none, some (.ifCond .ne 22, 3), none, none, some (.iload_n 1, 1), some (.iconst 4, 1), some (.if_icmp .lt 9, 3), none, none, some (.iload_n 1, 1), some (.bipush 6, 2), none, some (.if_icmp .le 15, 3), none, none, some (.dload_n 2, 1), some (.dload_n 2, 1), some (.d2i, 1), some (.i2d, 1), some (.dcmp .l, 1), some (.ifCond .eq 7, 3), none, none, some (.iconst 1, 1), some (.goto 4, 3), none, none, some (.iconst 0, 1), some (.putfield 85, 3), none, none, some (.aload_n 0, 1), some (.getfield 85, 3), none, none, some (.ifCond .ne 27, 3), none, none, some (.aload_n 0, 1), some (.getfield 45, 3), none, none, some (.iload_n 1, 1), some (.iload_n 1, 1), some (.iconst 4, 1), some (.if_icmp .lt 9, 3), none, none, some (.iload_n 1, 1), some (.bipush 6, 2), none, some (.if_icmp .le 9, 3), none, none, some (.dload_n 2, 1), some (.d2i, 1), some (.i2d, 1), some (.goto 4, 3), none, none, some (.dload_n 2, 1), some (.dastore, 1), some (.return_, 1)]
def pd_m125 : mm_Me := (pd_d125, pd_lk7, [], 5, 0)
def pd_y126 : MethodName := ⟨"PascalDeskModel", "written", "(I)D"⟩
def pd_d126 : List (Option (Instr × Nat)) := [some (.aload_n 0, 1), some (.iload_n 1, 1), some (.ifCond .lt 11, 3), none, none, some (.iload_n 1, 1), some (.aload_n 0, 1), some (.getfield 206, 3), none, none, some (.if_icmp .lt 7, 3), none, none, some (.iconst 1, 1), some (.goto 4, 3), none, none, some (.iconst 0, 1), some (.putfield 85, 3), none, none, some (.aload_n 0, 1), some (.getfield 85, 3), none, none, some (.ifCond .ne 12, 3), none, none, some (.aload_n 0, 1), some (.getfield 49, 3), none, none, some (.iload_n 1, 1), some (.daload, 1), some (.goto 4, 3), none, none, some (.dconst 0, 1), some (.dreturn, 1)]
def pd_m126 : mm_Me := (pd_d126, pd_lk7, [], 2, 0)
def pd_y127 : MethodName := ⟨"PascalDeskModel", "count", "(I)I"⟩
def pd_d127 : List (Option (Instr × Nat)) := [some (.aload_n 0, 1), some (.iconst 0, 1), some (.putfield 85, 3), none, none, some (.iconst 0, 1), some (.istore_n 2, 1), some (.iconst 0, 1), some (.istore_n 3, 1), some (.iload_n 3, 1), some (.iconst 4, 1), some (.if_icmp .ge 21, 3), none, none, some (.aload_n 0, 1), some (.getfield 22, 3), none, none, some (.iload_n 3, 1), some (.baload, 1), some (.ifCond .eq 6, 3), none, none, some (.iinc 2 1, 3), none, none, some (.iinc 3 1, 3), none, none, some (.goto (-20), 3), none, none, some (.iload_n 1, 1), some (.tableswitch 101 0 9 #[55, 60, 65, 67, 72, 77, 77, 86, 91, 96], 55), none, none, none, none, none, none, none, none, none, none, none, none, none, none, none, none, none, none, none, none, none, none, none, none, none, none, none, none, none, none, none, none, none, none, none, none, none, none, none, none, none, none, none, none, none, none, none, none, none, none, none, none, none, none, some (.aload_n 0, 1), some (.getfield 35, 3), none, none, some (.ireturn, 1), some (.aload_n 0, 1), some (.getfield 88, 3), none, none, some (.ireturn, 1), some (.iload_n 2, 1), some (.ireturn, 1), some (.aload_n 0, 1), some (.getfield 218, 3), none, none, some (.ireturn, 1), some (.aload_n 0, 1), some (.getfield 206, 3), none, none, some (.ireturn, 1), some (.aload_n 0, 1), some (.getfield 55, 3), none, none, some (.iload_n 1, 1), some (.iconst 5, 1), some (.isub, 1), some (.iaload, 1), some (.ireturn, 1), some (.aload_n 0, 1), some (.getfield 184, 3), none, none, some (.ireturn, 1), some (.aload_n 0, 1), some (.getfield 190, 3), none, none, some (.ireturn, 1), some (.aload_n 0, 1), some (.getfield 215, 3), none, none, some (.ireturn, 1), some (.iconst (-1), 1), some (.ireturn, 1)]
def pd_m127 : mm_Me := (pd_d127, pd_lk7, [], 4, 0)
def pd_y128 : MethodName := ⟨"PascalDeskLaw", "type", "(LPascalDesk;J[J)I"⟩
def pd_d128 : List (Option (Instr × Nat)) := [some (.aload_n 3, 1), some (.iconst 0, 1), some (.aload_n 0, 1), some (.lload_n 1, 1), some (.invokevirtual 7, 3), none, none, some (.i2l, 1), some (.lastore, 1), some (.goto 11, 3), none, none, some (.astore 4, 2), none, some (.iconst 1, 1), some (.ireturn, 1), some (.astore 4, 2), none, some (.iconst 2, 1), some (.ireturn, 1), some (.iconst 0, 1), some (.ireturn, 1)]
def pd_m128 : mm_Me := (pd_d128, pd_lk8, [(0, 9, 12, 13), (0, 9, 16, 15)], 5, 0)
def pd_y129 : MethodName := ⟨"PascalDeskLaw", "compile", "(LPascalDesk;I[J)I"⟩
def pd_d129 : List (Option (Instr × Nat)) := [some (.aload_n 2, 1), some (.iconst 0, 1), some (.aload_n 0, 1), some (.iload_n 1, 1), some (.invokevirtual 17, 3), none, none, some (.i2l, 1), some (.lastore, 1), some (.goto 6, 3), none, none, some (.astore_n 3, 1), some (.iconst 1, 1), some (.ireturn, 1), some (.iconst 0, 1), some (.ireturn, 1)]
def pd_m129 : mm_Me := (pd_d129, pd_lk8, [(0, 9, 12, 13)], 4, 0)
def pd_y130 : MethodName := ⟨"PascalDeskLaw", "tape", "(LPascalDesk;JI)I"⟩
def pd_d130 : List (Option (Instr × Nat)) := [some (.aload_n 0, 1), some (.lload_n 1, 1), some (.iload_n 3, 1), some (.invokevirtual 21, 3), none, none, some (.goto 7, 3), none, none, some (.astore 4, 2), none, some (.iconst 1, 1), some (.ireturn, 1), some (.iconst 0, 1), some (.ireturn, 1)]
def pd_m130 : mm_Me := (pd_d130, pd_lk8, [(0, 6, 9, 13)], 5, 0)
def pd_y131 : MethodName := ⟨"PascalDeskLaw", "run", "(LPascalDesk;III[J)I"⟩
def pd_d131 : List (Option (Instr × Nat)) := [some (.aload 4, 2), none, some (.iconst 0, 1), some (.aload_n 0, 1), some (.iload_n 1, 1), some (.iload_n 2, 1), some (.iload_n 3, 1), some (.invokevirtual 25, 3), none, none, some (.i2l, 1), some (.lastore, 1), some (.goto 23, 3), none, none, some (.astore 5, 2), none, some (.iconst 1, 1), some (.ireturn, 1), some (.astore 5, 2), none, some (.iconst 2, 1), some (.ireturn, 1), some (.astore 5, 2), none, some (.iconst 3, 1), some (.ireturn, 1), some (.astore 5, 2), none, some (.iconst 4, 1), some (.ireturn, 1), some (.astore 5, 2), none, some (.iconst 5, 1), some (.ireturn, 1), some (.iconst 0, 1), some (.ireturn, 1)]
def pd_m131 : mm_Me := (pd_d131, pd_lk8, [(0, 12, 15, 13), (0, 12, 19, 29), (0, 12, 23, 15), (0, 12, 27, 31), (0, 12, 31, 33)], 6, 0)
def pd_y132 : MethodName := ⟨"PascalDeskLaw", "variable", "(LPascalDesk;I[D)I"⟩
def pd_d132 : List (Option (Instr × Nat)) := [some (.aload_n 2, 1), some (.iconst 0, 1), some (.aload_n 0, 1), some (.iload_n 1, 1), some (.invokevirtual 35, 3), none, none, some (.dastore, 1), some (.goto 6, 3), none, none, some (.astore_n 3, 1), some (.iconst 1, 1), some (.ireturn, 1), some (.iconst 0, 1), some (.ireturn, 1)]
def pd_m132 : mm_Me := (pd_d132, pd_lk8, [(0, 8, 11, 13)], 4, 0)
def pd_y133 : MethodName := ⟨"PascalDeskLaw", "set", "(LPascalDesk;ID)I"⟩
def pd_d133 : List (Option (Instr × Nat)) := [some (.aload_n 0, 1), some (.iload_n 1, 1), some (.dload_n 2, 1), some (.invokevirtual 39, 3), none, none, some (.goto 7, 3), none, none, some (.astore 4, 2), none, some (.iconst 1, 1), some (.ireturn, 1), some (.iconst 0, 1), some (.ireturn, 1)]
def pd_m133 : mm_Me := (pd_d133, pd_lk8, [(0, 6, 9, 13)], 5, 0)
def pd_y134 : MethodName := ⟨"PascalDeskLaw", "written", "(LPascalDesk;I[D)I"⟩
def pd_d134 : List (Option (Instr × Nat)) := [some (.aload_n 2, 1), some (.iconst 0, 1), some (.aload_n 0, 1), some (.iload_n 1, 1), some (.invokevirtual 43, 3), none, none, some (.dastore, 1), some (.goto 6, 3), none, none, some (.astore_n 3, 1), some (.iconst 1, 1), some (.ireturn, 1), some (.iconst 0, 1), some (.ireturn, 1)]
def pd_m134 : mm_Me := (pd_d134, pd_lk8, [(0, 8, 11, 29)], 4, 0)
def pd_y135 : MethodName := ⟨"java/lang/Math", "max", "(II)I"⟩
def pd_d135 : List (Option (Instr × Nat)) := [some (.iload_n 0, 1), some (.iload_n 1, 1), some (.if_icmp .lt 7, 3), none, none, some (.iload_n 0, 1), some (.goto 4, 3), none, none, some (.iload_n 1, 1), some (.ireturn, 1)]
def pd_m135 : mm_Me := (pd_d135, pd_lk9, [], 2, 0)
def pd_yL : MethodName := ⟨"PascalDeskLaw", "law", "([I)Z"⟩
def pd_dL : List (Option (Instr × Nat)) := [some (.new 8, 3), none, none, some (.dup, 1), some (.invokespecial 46, 3), none, none, some (.astore_n 1, 1), some (.new 47, 3), none, none, some (.dup, 1), some (.invokespecial 49, 3), none, none, some (.astore_n 2, 1), some (.iconst 1, 1), some (.newarray .long, 2), none, some (.astore_n 3, 1), some (.iconst 1, 1), some (.newarray .double, 2), none, some (.astore 4, 2), none, some (.iconst 0, 1), some (.istore 5, 2), none, some (.iload 5, 2), none, some (.aload_n 0, 1), some (.arraylength, 1), some (.iconst 4, 1), some (.isub, 1), some (.if_icmp .gt 605, 3), none, none, some (.aload_n 0, 1), some (.iload 5, 2), none, some (.iaload, 1), some (.bipush 7, 2), none, some (.iand, 1), some (.tableswitch 589 0 7 #[48, 136, 192, 272, 352, 429, 487, 564], 48), none, none, none, none, none, none, none, none, none, none, none, none, none, none, none, none, none, none, none, none, none, none, none, none, none, none, none, none, none, none, none, none, none, none, none, none, none, none, none, none, none, none, none, none, none, none, none, some (.aload_n 1, 1), some (.aload_n 0, 1), some (.iload 5, 2), none, some (.iconst 1, 1), some (.iadd, 1), some (.iaload, 1), some (.i2l, 1), some (.bipush 32, 2), none, some (.lshl, 1), some (.aload_n 0, 1), some (.iload 5, 2), none, some (.iconst 2, 1), some (.iadd, 1), some (.iaload, 1), some (.i2l, 1), some (.ldc2_w 50, 3), none, none, some (.land, 1), some (.lor, 1), some (.aload_n 3, 1), some (.invokestatic 52, 3), none, none, some (.istore 6, 2), none, some (.aload_n 2, 1), some (.aload_n 0, 1), some (.iload 5, 2), none, some (.iconst 1, 1), some (.iadd, 1), some (.iaload, 1), some (.i2l, 1), some (.bipush 32, 2), none, some (.lshl, 1), some (.aload_n 0, 1), some (.iload 5, 2), none, some (.iconst 2, 1), some (.iadd, 1), some (.iaload, 1), some (.i2l, 1), some (.ldc2_w 50, 3), none, none, some (.land, 1), some (.lor, 1), some (.invokevirtual 57, 3), none, none, some (.istore 7, 2), none, some (.aload_n 2, 1), some (.invokevirtual 58, 3), none, none, some (.iload 6, 2), none, some (.if_icmp .eq 5, 3), none, none, some (.iconst 0, 1), some (.ireturn, 1), some (.iload 6, 2), none, some (.ifCond .ne 15, 3), none, none, some (.aload_n 3, 1), some (.iconst 0, 1), some (.laload, 1), some (.iload 7, 2), none, some (.i2l, 1), some (.lcmp, 1), some (.ifCond .eq 5, 3), none, none, some (.iconst 0, 1), some (.ireturn, 1), some (.goto 456, 3), none, none, some (.aload_n 1, 1), some (.aload_n 0, 1), some (.iload 5, 2), none, some (.iconst 1, 1), some (.iadd, 1), some (.iaload, 1), some (.aload_n 3, 1), some (.invokestatic 62, 3), none, none, some (.istore 6, 2), none, some (.aload_n 2, 1), some (.aload_n 0, 1), some (.iload 5, 2), none, some (.iconst 1, 1), some (.iadd, 1), some (.iaload, 1), some (.invokevirtual 65, 3), none, none, some (.istore 7, 2), none, some (.aload_n 2, 1), some (.invokevirtual 58, 3), none, none, some (.iload 6, 2), none, some (.if_icmp .eq 5, 3), none, none, some (.iconst 0, 1), some (.ireturn, 1), some (.iload 6, 2), none, some (.ifCond .ne 15, 3), none, none, some (.aload_n 3, 1), some (.iconst 0, 1), some (.laload, 1), some (.iload 7, 2), none, some (.i2l, 1), some (.lcmp, 1), some (.ifCond .eq 5, 3), none, none, some (.iconst 0, 1), some (.ireturn, 1), some (.goto 400, 3), none, none, some (.aload_n 1, 1), some (.aload_n 0, 1), some (.iload 5, 2), none, some (.iconst 1, 1), some (.iadd, 1), some (.iaload, 1), some (.i2l, 1), some (.bipush 32, 2), none, some (.lshl, 1), some (.aload_n 0, 1), some (.iload 5, 2), none, some (.iconst 2, 1), some (.iadd, 1), some (.iaload, 1), some (.i2l, 1), some (.ldc2_w 50, 3), none, none, some (.land, 1), some (.lor, 1), some (.aload_n 0, 1), some (.iload 5, 2), none, some (.iconst 3, 1), some (.iadd, 1), some (.iaload, 1), some (.invokestatic 66, 3), none, none, some (.istore 6, 2), none, some (.aload_n 2, 1), some (.aload_n 0, 1), some (.iload 5, 2), none, some (.iconst 1, 1), some (.iadd, 1), some (.iaload, 1), some (.i2l, 1), some (.bipush 32, 2), none, some (.lshl, 1), some (.aload_n 0, 1), some (.iload 5, 2), none, some (.iconst 2, 1), some (.iadd, 1), some (.iaload, 1), some (.i2l, 1), some (.ldc2_w 50, 3), none, none, some (.land, 1), some (.lor, 1), some (.aload_n 0, 1), some (.iload 5, 2), none, some (.iconst 3, 1), some (.iadd, 1), some (.iaload, 1), some (.invokevirtual 69, 3), none, none, some (.aload_n 2, 1), some (.invokevirtual 58, 3), none, none, some (.iload 6, 2), none, some (.if_icmp .eq 5, 3), none, none, some (.iconst 0, 1), some (.ireturn, 1), some (.goto 320, 3), none, none, some (.aload_n 1, 1), some (.aload_n 0, 1), some (.iload 5, 2), none, some (.iconst 1, 1), some (.iadd, 1), some (.iaload, 1), some (.aload_n 0, 1), some (.iload 5, 2), none, some (.iconst 2, 1), some (.iadd, 1), some (.iaload, 1), some (.aload_n 0, 1), some (.iload 5, 2), none, some (.iconst 3, 1), some (.iadd, 1), some (.iaload, 1), some (.aload_n 3, 1), some (.invokestatic 70, 3), none, none, some (.istore 6, 2), none, some (.aload_n 2, 1), some (.aload_n 0, 1), some (.iload 5, 2), none, some (.iconst 1, 1), some (.iadd, 1), some (.iaload, 1), some (.aload_n 0, 1), some (.iload 5, 2), none, some (.iconst 2, 1), some (.iadd, 1), some (.iaload, 1), some (.aload_n 0, 1), some (.iload 5, 2), none, some (.iconst 3, 1), some (.iadd, 1), some (.iaload, 1), some (.invokevirtual 73, 3), none, none, some (.istore 7, 2), none, some (.aload_n 2, 1), some (.invokevirtual 58, 3), none, none, some (.iload 6, 2), none, some (.if_icmp .eq 5, 3), none, none, some (.iconst 0, 1), some (.ireturn, 1), some (.iload 6, 2), none, some (.ifCond .ne 15, 3), none, none, some (.aload_n 3, 1), some (.iconst 0, 1), some (.laload, 1), some (.iload 7, 2), none, some (.i2l, 1), some (.lcmp, 1), some (.ifCond .eq 5, 3), none, none, some (.iconst 0, 1), some (.ireturn, 1), some (.goto 240, 3), none, none, some (.aload_n 1, 1), some (.aload_n 0, 1), some (.iload 5, 2), none, some (.iconst 1, 1), some (.iadd, 1), some (.iaload, 1), some (.aload 4, 2), none, some (.invokestatic 74, 3), none, none, some (.istore 6, 2), none, some (.aload_n 2, 1), some (.aload_n 0, 1), some (.iload 5, 2), none, some (.iconst 1, 1), some (.iadd, 1), some (.iaload, 1), some (.invokevirtual 77, 3), none, none, some (.dstore 7, 2), none, some (.aload_n 2, 1), some (.invokevirtual 58, 3), none, none, some (.iload 6, 2), none, some (.if_icmp .eq 5, 3), none, none, some (.iconst 0, 1), some (.ireturn, 1), some (.iload 6, 2), none, some (.ifCond .ne 35, 3), none, none, some (.aload 4, 2), none, some (.iconst 0, 1), some (.daload, 1), some (.dload 7, 2), none, some (.dcmp .l, 1), some (.ifCond .eq 25, 3), none, none, some (.aload 4, 2), none, some (.iconst 0, 1), some (.daload, 1), some (.aload 4, 2), none, some (.iconst 0, 1), some (.daload, 1), some (.dcmp .l, 1), some (.ifCond .eq 11, 3), none, none, some (.dload 7, 2), none, some (.dload 7, 2), none, some (.dcmp .l, 1), some (.ifCond .ne 5, 3), none, none, some (.iconst 0, 1), some (.ireturn, 1), some (.goto 163, 3), none, none, some (.aload_n 1, 1), some (.aload_n 0, 1), some (.iload 5, 2), none, some (.iconst 1, 1), some (.iadd, 1), some (.iaload, 1), some (.aload_n 0, 1), some (.iload 5, 2), none, some (.iconst 2, 1), some (.iadd, 1), some (.iaload, 1), some (.i2d, 1), some (.ldc2_w 78, 3), none, none, some (.dmul, 1), some (.invokestatic 80, 3), none, none, some (.istore 6, 2), none, some (.aload_n 2, 1), some (.aload_n 0, 1), some (.iload 5, 2), none, some (.iconst 1, 1), some (.iadd, 1), some (.iaload, 1), some (.aload_n 0, 1), some (.iload 5, 2), none, some (.iconst 2, 1), some (.iadd, 1), some (.iaload, 1), some (.i2d, 1), some (.ldc2_w 78, 3), none, none, some (.dmul, 1), some (.invokevirtual 83, 3), none, none, some (.aload_n 2, 1), some (.invokevirtual 58, 3), none, none, some (.iload 6, 2), none, some (.if_icmp .eq 5, 3), none, none, some (.iconst 0, 1), some (.ireturn, 1), some (.goto 105, 3), none, none, some (.aload_n 1, 1), some (.aload_n 0, 1), some (.iload 5, 2), none, some (.iconst 1, 1), some (.iadd, 1), some (.iaload, 1), some (.aload 4, 2), none, some (.invokestatic 84, 3), none, none, some (.istore 6, 2), none, some (.aload_n 2, 1), some (.aload_n 0, 1), some (.iload 5, 2), none, some (.iconst 1, 1), some (.iadd, 1), some (.iaload, 1), some (.invokevirtual 86, 3), none, none, some (.dstore 7, 2), none, some (.aload_n 2, 1), some (.invokevirtual 58, 3), none, none, some (.iload 6, 2), none, some (.if_icmp .eq 5, 3), none, none, some (.iconst 0, 1), some (.ireturn, 1), some (.iload 6, 2), none, some (.ifCond .ne 35, 3), none, none, some (.aload 4, 2), none, some (.iconst 0, 1), some (.daload, 1), some (.dload 7, 2), none, some (.dcmp .l, 1), some (.ifCond .eq 25, 3), none, none, some (.aload 4, 2), none, some (.iconst 0, 1), some (.daload, 1), some (.aload 4, 2), none, some (.iconst 0, 1), some (.daload, 1), some (.dcmp .l, 1), some (.ifCond .eq 11, 3), none, none, some (.dload 7, 2), none, some (.dload 7, 2), none, some (.dcmp .l, 1), some (.ifCond .ne 5, 3), none, none, some (.iconst 0, 1), some (.ireturn, 1), some (.goto 28, 3), none, none, some (.aload_n 1, 1), some (.aload_n 0, 1), some (.iload 5, 2), none, some (.iconst 1, 1), some (.iadd, 1), some (.iaload, 1), some (.invokevirtual 87, 3), none, none, some (.aload_n 2, 1), some (.aload_n 0, 1), some (.iload 5, 2), none, some (.iconst 1, 1), some (.iadd, 1), some (.iaload, 1), some (.invokevirtual 90, 3), none, none, some (.if_icmp .eq 5, 3), none, none, some (.iconst 0, 1), some (.ireturn, 1), some (.iinc 5 4, 3), none, none, some (.goto (-608), 3), none, none, some (.iconst 1, 1), some (.ireturn, 1)]
def pd_mL : mm_Me := (pd_dL, pd_lk8, [], 9, 4)
abbrev pd_R : Type := MethodName × ByteArray × Option FieldType × Cond × mm_Me
def pd_q0 : pd_R := (pd_y0, prog_1_method_1_code, none, .code pd_y0 prog_1_method_1_code 1 none, pd_m0)
def pd_q1 : pd_R := (pd_y1, prog_1_method_9_code, (some .int), .code pd_y1 prog_1_method_9_code 2 (some .int), pd_m1)
def pd_q2 : pd_R := (pd_y2, prog_1_method_2_code, (some .int), .code pd_y2 prog_1_method_2_code 6 (some .int), pd_m2)
def pd_q3 : pd_R := (pd_y3, prog_1_method_10_code, (some .int), .code pd_y3 prog_1_method_10_code 3 (some .int), pd_m3)
def pd_q4 : pd_R := (pd_y4, prog_1_method_3_code, (some .int), .code pd_y4 prog_1_method_3_code 3 (some .int), pd_m4)
def pd_q5 : pd_R := (pd_y5, prog_1_method_11_code, (some .boolean), .code pd_y5 prog_1_method_11_code 1 (some .boolean), pd_m5)
def pd_q6 : pd_R := (pd_y6, prog_1_method_4_code, none, .code pd_y6 prog_1_method_4_code 4 none, pd_m6)
def pd_q7 : pd_R := (pd_y7, prog_1_method_5_code, (some .int), .code pd_y7 prog_1_method_5_code 4 (some .int), pd_m7)
def pd_q8 : pd_R := (pd_y8, prog_1_method_12_code, (some .boolean), .code pd_y8 prog_1_method_12_code 1 (some .boolean), pd_m8)
def pd_q9 : pd_R := (pd_y9, prog_1_method_6_code, (some .double), .code pd_y9 prog_1_method_6_code 2 (some .double), pd_m9)
def pd_q10 : pd_R := (pd_y10, prog_1_method_7_code, none, .code pd_y10 prog_1_method_7_code 6 none, pd_m10)
def pd_q11 : pd_R := (pd_y11, prog_1_method_8_code, (some .double), .code pd_y11 prog_1_method_8_code 2 (some .double), pd_m11)
def pd_q12 : pd_R := (pd_y12, prog_3_method_1_code, none, .code pd_y12 prog_3_method_1_code 1 none, pd_m12)
def pd_q13 : pd_R := (pd_y13, prog_3_method_2_code, none, .code pd_y13 prog_3_method_2_code 1 none, pd_m13)
def pd_q14 : pd_R := (pd_y14, prog_3_method_4_code, (some .int), .code pd_y14 prog_3_method_4_code 4 (some .int), pd_m14)
def pd_q15 : pd_R := (pd_y15, prog_3_method_5_code, none, .code pd_y15 prog_3_method_5_code 2 none, pd_m15)
def pd_q16 : pd_R := (pd_y16, prog_3_method_3_code, (some .int), .code pd_y16 prog_3_method_3_code 1 (some .int), pd_m16)
def pd_q17 : pd_R := (pd_y17, prog_3_method_6_code, (some .int), .code pd_y17 prog_3_method_6_code 2 (some .int), pd_m17)
def pd_q18 : pd_R := (pd_y18, prog_3_method_7_code, (some .int), .code pd_y18 prog_3_method_7_code 2 (some .int), pd_m18)
def pd_q19 : pd_R := (pd_y19, prog_5_method_1_code, none, .code pd_y19 prog_5_method_1_code 1 none, pd_m19)
def pd_q20 : pd_R := (pd_y20, prog_5_method_2_code, (some .int), .code pd_y20 prog_5_method_2_code 1 (some .int), pd_m20)
def pd_q21 : pd_R := (pd_y21, prog_5_method_3_code, none, .code pd_y21 prog_5_method_3_code 2 none, pd_m21)
def pd_q22 : pd_R := (pd_y22, prog_5_method_4_code, (some .int), .code pd_y22 prog_5_method_4_code 2 (some .int), pd_m22)
def pd_q23 : pd_R := (pd_y23, prog_5_method_11_code, none, .code pd_y23 prog_5_method_11_code 3 none, pd_m23)
def pd_q24 : pd_R := (pd_y24, prog_5_method_12_code, none, .code pd_y24 prog_5_method_12_code 3 none, pd_m24)
def pd_q25 : pd_R := (pd_y25, prog_5_method_5_code, (some .char), .code pd_y25 prog_5_method_5_code 1 (some .char), pd_m25)
def pd_q26 : pd_R := (pd_y26, prog_5_method_28_code, (some .int), .code pd_y26 prog_5_method_28_code 1 (some .int), pd_m26)
def pd_q27 : pd_R := (pd_y27, prog_5_method_13_code, none, .code pd_y27 prog_5_method_13_code 4 none, pd_m27)
def pd_q28 : pd_R := (pd_y28, prog_5_method_7_code, (some .boolean), .code pd_y28 prog_5_method_7_code 2 (some .boolean), pd_m28)
def pd_q29 : pd_R := (pd_y29, prog_5_method_6_code, (some .boolean), .code pd_y29 prog_5_method_6_code 2 (some .boolean), pd_m29)
def pd_q30 : pd_R := (pd_y30, prog_5_method_19_code, (some .boolean), .code pd_y30 prog_5_method_19_code 3 (some .boolean), pd_m30)
def pd_q31 : pd_R := (pd_y31, prog_5_method_20_code, (some .boolean), .code pd_y31 prog_5_method_20_code 4 (some .boolean), pd_m31)
def pd_q32 : pd_R := (pd_y32, prog_5_method_21_code, (some .boolean), .code pd_y32 prog_5_method_21_code 4 (some .boolean), pd_m32)
def pd_q33 : pd_R := (pd_y33, prog_5_method_22_code, (some .boolean), .code pd_y33 prog_5_method_22_code 4 (some .boolean), pd_m33)
def pd_q34 : pd_R := (pd_y34, prog_5_method_27_code, (some .boolean), .code pd_y34 prog_5_method_27_code 1 (some .boolean), pd_m34)
def pd_q35 : pd_R := (pd_y35, prog_5_method_23_code, none, .code pd_y35 prog_5_method_23_code 3 none, pd_m35)
def pd_q36 : pd_R := (pd_y36, prog_5_method_9_code, (some .int), .code pd_y36 prog_5_method_9_code 3 (some .int), pd_m36)
def pd_q37 : pd_R := (pd_y37, prog_5_method_24_code, none, .code pd_y37 prog_5_method_24_code 2 none, pd_m37)
def pd_q38 : pd_R := (pd_y38, prog_5_method_8_code, (some .boolean), .code pd_y38 prog_5_method_8_code 3 (some .boolean), pd_m38)
def pd_q39 : pd_R := (pd_y39, prog_5_method_10_code, none, .code pd_y39 prog_5_method_10_code 2 none, pd_m39)
def pd_q40 : pd_R := (pd_y40, prog_5_method_25_code, (some .boolean), .code pd_y40 prog_5_method_25_code 3 (some .boolean), pd_m40)
def pd_q41 : pd_R := (pd_y41, prog_5_method_26_code, none, .code pd_y41 prog_5_method_26_code 2 none, pd_m41)
def pd_q42 : pd_R := (pd_y42, prog_5_method_14_code, none, .code pd_y42 prog_5_method_14_code 2 none, pd_m42)
def pd_q43 : pd_R := (pd_y43, prog_5_method_15_code, none, .code pd_y43 prog_5_method_15_code 3 none, pd_m43)
def pd_q44 : pd_R := (pd_y44, prog_5_method_17_code, none, .code pd_y44 prog_5_method_17_code 2 none, pd_m44)
def pd_q45 : pd_R := (pd_y45, prog_5_method_16_code, none, .code pd_y45 prog_5_method_16_code 4 none, pd_m45)
def pd_q46 : pd_R := (pd_y46, prog_5_method_18_code, none, .code pd_y46 prog_5_method_18_code 4 none, pd_m46)
def pd_q47 : pd_R := (pd_y47, prog_6_method_1_code, none, .code pd_y47 prog_6_method_1_code 2 none, pd_m47)
def pd_q48 : pd_R := (pd_y48, prog_6_method_3_code, (some .int), .code pd_y48 prog_6_method_3_code 3 (some .int), pd_m48)
def pd_q49 : pd_R := (pd_y49, prog_6_method_2_code, (some (.object "PascalDesk$Code")), .code pd_y49 prog_6_method_2_code 4 (some (.object "PascalDesk$Code")), pd_m49)
def pd_q50 : pd_R := (pd_y50, prog_6_method_4_code, (some .int), .code pd_y50 prog_6_method_4_code 5 (some .int), pd_m50)
def pd_q51 : pd_R := (pd_y51, prog_6_method_5_code, none, .code pd_y51 prog_6_method_5_code 5 none, pd_m51)
def pd_q52 : pd_R := (pd_y52, prog_6_method_6_code, (some .int), .code pd_y52 prog_6_method_6_code 5 (some .int), pd_m52)
def pd_q53 : pd_R := (pd_y53, prog_6_method_7_code, none, .code pd_y53 prog_6_method_7_code 7 none, pd_m53)
def pd_q54 : pd_R := (pd_y54, prog_6_method_8_code, none, .code pd_y54 prog_6_method_8_code 5 none, pd_m54)
def pd_q55 : pd_R := (pd_y55, prog_6_method_9_code, none, .code pd_y55 prog_6_method_9_code 3 none, pd_m55)
def pd_q56 : pd_R := (pd_y56, prog_6_method_10_code, none, .code pd_y56 prog_6_method_10_code 3 none, pd_m56)
def pd_q57 : pd_R := (pd_y57, prog_6_method_11_code, none, .code pd_y57 prog_6_method_11_code 3 none, pd_m57)
def pd_q58 : pd_R := (pd_y58, prog_6_method_12_code, (some .int), .code pd_y58 prog_6_method_12_code 6 (some .int), pd_m58)
def pd_q59 : pd_R := (pd_y59, prog_6_method_13_code, none, .code pd_y59 prog_6_method_13_code 3 none, pd_m59)
def pd_q60 : pd_R := (pd_y60, prog_6_method_14_code, none, .code pd_y60 prog_6_method_14_code 4 none, pd_m60)
def pd_q61 : pd_R := (pd_y61, prog_6_method_15_code, (some .int), .code pd_y61 prog_6_method_15_code 3 (some .int), pd_m61)
def pd_q62 : pd_R := (pd_y62, prog_6_method_16_code, none, .code pd_y62 prog_6_method_16_code 2 none, pd_m62)
def pd_q63 : pd_R := (pd_y63, prog_6_method_17_code, none, .code pd_y63 prog_6_method_17_code 5 none, pd_m63)
def pd_q64 : pd_R := (pd_y64, prog_6_method_18_code, (some .boolean), .code pd_y64 prog_6_method_18_code 5 (some .boolean), pd_m64)
def pd_q65 : pd_R := (pd_y65, prog_6_method_19_code, (some .int), .code pd_y65 prog_6_method_19_code 3 (some .int), pd_m65)
def pd_q66 : pd_R := (pd_y66, prog_2_method_1_code, none, .code pd_y66 prog_2_method_1_code 1 none, pd_m66)
def pd_q67 : pd_R := (pd_y67, prog_2_method_3_code, (some .boolean), .code pd_y67 prog_2_method_3_code 1 (some .boolean), pd_m67)
def pd_q68 : pd_R := (pd_y68, prog_2_method_4_code, none, .code pd_y68 prog_2_method_4_code 1 none, pd_m68)
def pd_q69 : pd_R := (pd_y69, prog_2_method_5_code, (some .double), .code pd_y69 prog_2_method_5_code 1 (some .double), pd_m69)
def pd_q70 : pd_R := (pd_y70, prog_2_method_6_code, none, .code pd_y70 prog_2_method_6_code 4 none, pd_m70)
def pd_q71 : pd_R := (pd_y71, prog_2_method_2_code, (some .boolean), .code pd_y71 prog_2_method_2_code 1 (some .boolean), pd_m71)
def pd_q72 : pd_R := (pd_y72, prog_2_method_7_code, none, .code pd_y72 prog_2_method_7_code 3 none, pd_m72)
def pd_q73 : pd_R := (pd_y73, prog_2_method_8_code, none, .code pd_y73 prog_2_method_8_code 7 none, pd_m73)
def pd_q74 : pd_R := (pd_y74, prog_2_method_9_code, none, .code pd_y74 prog_2_method_9_code 3 none, pd_m74)
def pd_q75 : pd_R := (pd_y75, prog_2_method_10_code, none, .code pd_y75 prog_2_method_10_code 2 none, pd_m75)
def pd_q76 : pd_R := (pd_y76, prog_2_method_11_code, (some .int), .code pd_y76 prog_2_method_11_code 1 (some .int), pd_m76)
def pd_q77 : pd_R := (pd_y77, prog_2_method_12_code, (some .double), .code pd_y77 prog_2_method_12_code 5 (some .double), pd_m77)
def pd_q78 : pd_R := (pd_y78, prog_2_method_15_code, (some .double), .code pd_y78 prog_2_method_15_code 2 (some .double), pd_m78)
def pd_q79 : pd_R := (pd_y79, prog_2_method_13_code, (some .double), .code pd_y79 prog_2_method_13_code 4 (some .double), pd_m79)
def pd_q80 : pd_R := (pd_y80, prog_2_method_14_code, (some .int), .code pd_y80 prog_2_method_14_code 2 (some .int), pd_m80)
def pd_q81 : pd_R := (pd_y81, prog_8_method_1_code, none, .code pd_y81 prog_8_method_1_code 1 none, pd_m81)
def pd_q82 : pd_R := (pd_y82, prog_8_method_2_code, none, .code pd_y82 prog_8_method_2_code 5 none, pd_m82)
def pd_q83 : pd_R := (pd_y83, prog_8_method_3_code, none, .code pd_y83 prog_8_method_3_code 1 none, pd_m83)
def pd_q84 : pd_R := (pd_y84, prog_8_method_4_code, (some .int), .code pd_y84 prog_8_method_4_code 2 (some .int), pd_m84)
def pd_q85 : pd_R := (pd_y85, prog_7_method_1_code, none, .code pd_y85 prog_7_method_1_code 1 none, pd_m85)
def pd_q86 : pd_R := (pd_y86, prog_7_method_2_code, none, .code pd_y86 prog_7_method_2_code 2 none, pd_m86)
def pd_q87 : pd_R := (pd_y87, prog_7_method_4_code, none, .code pd_y87 prog_7_method_4_code 5 none, pd_m87)
def pd_q88 : pd_R := (pd_y88, prog_7_method_5_code, (some .boolean), .code pd_y88 prog_7_method_5_code 2 (some .boolean), pd_m88)
def pd_q89 : pd_R := (pd_y89, prog_7_method_3_code, none, .code pd_y89 prog_7_method_3_code 4 none, pd_m89)
def pd_q90 : pd_R := (pd_y90, prog_7_method_6_code, (some .boolean), .code pd_y90 prog_7_method_6_code 1 (some .boolean), pd_m90)
def pd_q91 : pd_R := (pd_y91, prog_10_method_1_code, none, .code pd_y91 prog_10_method_1_code 1 none, pd_m91)
def pd_q92 : pd_R := (pd_y92, prog_10_method_2_code, (some .int), .code pd_y92 prog_10_method_2_code 1 (some .int), pd_m92)
def pd_q93 : pd_R := (pd_y93, prog_10_method_3_code, (some .int), .code pd_y93 prog_10_method_3_code 6 (some .int), pd_m93)
def pd_q94 : pd_R := (pd_y94, prog_10_method_22_code, (some .int), .code pd_y94 prog_10_method_22_code 4 (some .int), pd_m94)
def pd_q95 : pd_R := (pd_y95, prog_10_method_21_code, (some .int), .code pd_y95 prog_10_method_21_code 7 (some .int), pd_m95)
def pd_q96 : pd_R := (pd_y96, prog_10_method_4_code, none, .code pd_y96 prog_10_method_4_code 3 none, pd_m96)
def pd_q97 : pd_R := (pd_y97, prog_10_method_8_code, none, .code pd_y97 prog_10_method_8_code 2 none, pd_m97)
def pd_q98 : pd_R := (pd_y98, prog_10_method_10_code, (some .int), .code pd_y98 prog_10_method_10_code 1 (some .int), pd_m98)
def pd_q99 : pd_R := (pd_y99, prog_10_method_6_code, (some .int), .code pd_y99 prog_10_method_6_code 1 (some .int), pd_m99)
def pd_q100 : pd_R := (pd_y100, prog_10_method_15_code, (some .int), .code pd_y100 prog_10_method_15_code 2 (some .int), pd_m100)
def pd_q101 : pd_R := (pd_y101, prog_10_method_13_code, (some .boolean), .code pd_y101 prog_10_method_13_code 2 (some .boolean), pd_m101)
def pd_q102 : pd_R := (pd_y102, prog_10_method_14_code, (some .boolean), .code pd_y102 prog_10_method_14_code 2 (some .boolean), pd_m102)
def pd_q103 : pd_R := (pd_y103, prog_10_method_5_code, none, .code pd_y103 prog_10_method_5_code 2 none, pd_m103)
def pd_q104 : pd_R := (pd_y104, prog_10_method_16_code, (some .int), .code pd_y104 prog_10_method_16_code 2 (some .int), pd_m104)
def pd_q105 : pd_R := (pd_y105, prog_10_method_12_code, (some .int), .code pd_y105 prog_10_method_12_code 2 (some .int), pd_m105)
def pd_q106 : pd_R := (pd_y106, prog_10_method_7_code, (some .int), .code pd_y106 prog_10_method_7_code 2 (some .int), pd_m106)
def pd_q107 : pd_R := (pd_y107, prog_10_method_20_code, (some .int), .code pd_y107 prog_10_method_20_code 3 (some .int), pd_m107)
def pd_q108 : pd_R := (pd_y108, prog_10_method_9_code, none, .code pd_y108 prog_10_method_9_code 4 none, pd_m108)
def pd_q109 : pd_R := (pd_y109, prog_10_method_17_code, (some .int), .code pd_y109 prog_10_method_17_code 4 (some .int), pd_m109)
def pd_q110 : pd_R := (pd_y110, prog_10_method_11_code, none, .code pd_y110 prog_10_method_11_code 1 none, pd_m110)
def pd_q111 : pd_R := (pd_y111, prog_10_method_18_code, (some .int), .code pd_y111 prog_10_method_18_code 5 (some .int), pd_m111)
def pd_q112 : pd_R := (pd_y112, prog_10_method_19_code, (some .int), .code pd_y112 prog_10_method_19_code 3 (some .int), pd_m112)
def pd_q113 : pd_R := (pd_y113, prog_10_method_23_code, none, .code pd_y113 prog_10_method_23_code 5 none, pd_m113)
def pd_q114 : pd_R := (pd_y114, prog_10_method_33_code, (some .int), .code pd_y114 prog_10_method_33_code 5 (some .int), pd_m114)
def pd_q115 : pd_R := (pd_y115, prog_10_method_28_code, none, .code pd_y115 prog_10_method_28_code 4 none, pd_m115)
def pd_q116 : pd_R := (pd_y116, prog_10_method_26_code, (some .int), .code pd_y116 prog_10_method_26_code 3 (some .int), pd_m116)
def pd_q117 : pd_R := (pd_y117, prog_10_method_32_code, (some .int), .code pd_y117 prog_10_method_32_code 5 (some .int), pd_m117)
def pd_q118 : pd_R := (pd_y118, prog_10_method_31_code, none, .code pd_y118 prog_10_method_31_code 5 none, pd_m118)
def pd_q119 : pd_R := (pd_y119, prog_10_method_25_code, (some .int), .code pd_y119 prog_10_method_25_code 6 (some .int), pd_m119)
def pd_q120 : pd_R := (pd_y120, prog_10_method_24_code, (some .double), .code pd_y120 prog_10_method_24_code 9 (some .double), pd_m120)
def pd_q121 : pd_R := (pd_y121, prog_10_method_29_code, none, .code pd_y121 prog_10_method_29_code 4 none, pd_m121)
def pd_q122 : pd_R := (pd_y122, prog_10_method_30_code, none, .code pd_y122 prog_10_method_30_code 5 none, pd_m122)
def pd_q123 : pd_R := (pd_y123, prog_10_method_27_code, none, .code pd_y123 prog_10_method_27_code 4 none, pd_m123)
def pd_q124 : pd_R := (pd_y124, prog_10_method_34_code, (some .double), .code pd_y124 prog_10_method_34_code 2 (some .double), pd_m124)
def pd_q125 : pd_R := (pd_y125, prog_10_method_35_code, none, .code pd_y125 prog_10_method_35_code 5 none, pd_m125)
def pd_q126 : pd_R := (pd_y126, prog_10_method_36_code, (some .double), .code pd_y126 prog_10_method_36_code 2 (some .double), pd_m126)
def pd_q127 : pd_R := (pd_y127, prog_10_method_37_code, (some .int), .code pd_y127 prog_10_method_37_code 4 (some .int), pd_m127)
def pd_q128 : pd_R := (pd_y128, method_3_code, (some .int), .codeWith pd_y128 method_3_code 5 (some .int) [(0, 9, 12, 13), (0, 9, 16, 15)], pd_m128)
def pd_q129 : pd_R := (pd_y129, method_4_code, (some .int), .codeWith pd_y129 method_4_code 4 (some .int) [(0, 9, 12, 13)], pd_m129)
def pd_q130 : pd_R := (pd_y130, method_5_code, (some .int), .codeWith pd_y130 method_5_code 5 (some .int) [(0, 6, 9, 13)], pd_m130)
def pd_q131 : pd_R := (pd_y131, method_6_code, (some .int), .codeWith pd_y131 method_6_code 6 (some .int) [(0, 12, 15, 13), (0, 12, 19, 29), (0, 12, 23, 15), (0, 12, 27, 31), (0, 12, 31, 33)], pd_m131)
def pd_q132 : pd_R := (pd_y132, method_7_code, (some .int), .codeWith pd_y132 method_7_code 4 (some .int) [(0, 8, 11, 13)], pd_m132)
def pd_q133 : pd_R := (pd_y133, method_8_code, (some .int), .codeWith pd_y133 method_8_code 5 (some .int) [(0, 6, 9, 13)], pd_m133)
def pd_q134 : pd_R := (pd_y134, method_9_code, (some .int), .codeWith pd_y134 method_9_code 4 (some .int) [(0, 8, 11, 29)], pd_m134)
def pd_q135 : pd_R := (pd_y135, prog_16_method_65_code, (some .int), .code pd_y135 prog_16_method_65_code 2 (some .int), pd_m135)
def pd_all : List pd_R := [pd_q0, pd_q1, pd_q2, pd_q3, pd_q4, pd_q5, pd_q6, pd_q7, pd_q8, pd_q9, pd_q10, pd_q11, pd_q12, pd_q13, pd_q14, pd_q15, pd_q16, pd_q17, pd_q18, pd_q19, pd_q20, pd_q21, pd_q22, pd_q23, pd_q24, pd_q25, pd_q26, pd_q27, pd_q28, pd_q29, pd_q30, pd_q31, pd_q32, pd_q33, pd_q34, pd_q35, pd_q36, pd_q37, pd_q38, pd_q39, pd_q40, pd_q41, pd_q42, pd_q43, pd_q44, pd_q45, pd_q46, pd_q47, pd_q48, pd_q49, pd_q50, pd_q51, pd_q52, pd_q53, pd_q54, pd_q55, pd_q56, pd_q57, pd_q58, pd_q59, pd_q60, pd_q61, pd_q62, pd_q63, pd_q64, pd_q65, pd_q66, pd_q67, pd_q68, pd_q69, pd_q70, pd_q71, pd_q72, pd_q73, pd_q74, pd_q75, pd_q76, pd_q77, pd_q78, pd_q79, pd_q80, pd_q81, pd_q82, pd_q83, pd_q84, pd_q85, pd_q86, pd_q87, pd_q88, pd_q89, pd_q90, pd_q91, pd_q92, pd_q93, pd_q94, pd_q95, pd_q96, pd_q97, pd_q98, pd_q99, pd_q100, pd_q101, pd_q102, pd_q103, pd_q104, pd_q105, pd_q106, pd_q107, pd_q108, pd_q109, pd_q110, pd_q111, pd_q112, pd_q113, pd_q114, pd_q115, pd_q116, pd_q117, pd_q118, pd_q119, pd_q120, pd_q121, pd_q122, pd_q123, pd_q124, pd_q125, pd_q126, pd_q127, pd_q128, pd_q129, pd_q130, pd_q131, pd_q132, pd_q133, pd_q134, pd_q135]
def pd_at (j : Nat) : pd_R := pd_all.getD j pd_q0
def pd_yj (j : Nat) : MethodName := (pd_at j).1
def pd_bj (j : Nat) : ByteArray := (pd_at j).2.1
def pd_rj (j : Nat) : Option FieldType := (pd_at j).2.2.1
def pd_cw (j : Nat) : Cond := (pd_at j).2.2.2.1
def pd_mj (j : Nat) : mm_Me := (pd_at j).2.2.2.2
end
section
/-! words of the tables (printed) -/
theorem pd_w1 : Cond.selects "PascalDesk$Reader" pd_y23 pd_y23 ∈ pd_TT := pd_mem 1 (by decide +kernel) (by decide +kernel)
theorem pd_w2 : Cond.selects "PascalDesk$Reader" pd_y24 pd_y24 ∈ pd_TT := pd_mem 2 (by decide +kernel) (by decide +kernel)
theorem pd_w3 : Cond.selects "PascalDesk$Reader" pd_y25 pd_y25 ∈ pd_TT := pd_mem 3 (by decide +kernel) (by decide +kernel)
theorem pd_w4 : Cond.selects "PascalDesk$Reader" pd_y27 pd_y27 ∈ pd_TT := pd_mem 4 (by decide +kernel) (by decide +kernel)
theorem pd_w5 : Cond.selects "PascalDesk$Reader" pd_y28 pd_y28 ∈ pd_TT := pd_mem 5 (by decide +kernel) (by decide +kernel)
theorem pd_w6 : Cond.selects "PascalDesk$Reader" pd_y29 pd_y29 ∈ pd_TT := pd_mem 6 (by decide +kernel) (by decide +kernel)
theorem pd_w7 : Cond.selects "PascalDesk$Reader" pd_y30 pd_y30 ∈ pd_TT := pd_mem 7 (by decide +kernel) (by decide +kernel)
theorem pd_w8 : Cond.selects "PascalDesk$Reader" pd_y31 pd_y31 ∈ pd_TT := pd_mem 8 (by decide +kernel) (by decide +kernel)
theorem pd_w9 : Cond.selects "PascalDesk$Reader" pd_y32 pd_y32 ∈ pd_TT := pd_mem 9 (by decide +kernel) (by decide +kernel)
theorem pd_w10 : Cond.selects "PascalDesk$Reader" pd_y33 pd_y33 ∈ pd_TT := pd_mem 10 (by decide +kernel) (by decide +kernel)
theorem pd_w11 : Cond.selects "PascalDesk$Reader" pd_y35 pd_y35 ∈ pd_TT := pd_mem 11 (by decide +kernel) (by decide +kernel)
theorem pd_w12 : Cond.selects "PascalDesk$Reader" pd_y36 pd_y36 ∈ pd_TT := pd_mem 12 (by decide +kernel) (by decide +kernel)
theorem pd_w13 : Cond.selects "PascalDesk$Reader" pd_y37 pd_y37 ∈ pd_TT := pd_mem 13 (by decide +kernel) (by decide +kernel)
theorem pd_w14 : Cond.selects "PascalDesk$Reader" pd_y38 pd_y38 ∈ pd_TT := pd_mem 14 (by decide +kernel) (by decide +kernel)
theorem pd_w15 : Cond.selects "PascalDesk$Reader" pd_y39 pd_y39 ∈ pd_TT := pd_mem 15 (by decide +kernel) (by decide +kernel)
theorem pd_w16 : Cond.selects "PascalDesk$Reader" pd_y40 pd_y40 ∈ pd_TT := pd_mem 16 (by decide +kernel) (by decide +kernel)
theorem pd_w17 : Cond.selects "PascalDesk$Reader" pd_y41 pd_y41 ∈ pd_TT := pd_mem 17 (by decide +kernel) (by decide +kernel)
theorem pd_w18 : Cond.selects "PascalDesk$Reader" pd_y42 pd_y42 ∈ pd_TT := pd_mem 18 (by decide +kernel) (by decide +kernel)
theorem pd_w19 : Cond.selects "PascalDesk$Reader" pd_y43 pd_y43 ∈ pd_TT := pd_mem 19 (by decide +kernel) (by decide +kernel)
theorem pd_w20 : Cond.selects "PascalDesk$Reader" pd_y44 pd_y44 ∈ pd_TT := pd_mem 20 (by decide +kernel) (by decide +kernel)
theorem pd_w21 : Cond.selects "PascalDesk$Reader" pd_y45 pd_y45 ∈ pd_TT := pd_mem 21 (by decide +kernel) (by decide +kernel)
theorem pd_w22 : Cond.selects "PascalDesk$Reader" pd_y46 pd_y46 ∈ pd_TT := pd_mem 22 (by decide +kernel) (by decide +kernel)
theorem pd_w23 : Cond.selects "PascalDesk$Runner" pd_y51 pd_y51 ∈ pd_TT := pd_mem 23 (by decide +kernel) (by decide +kernel)
theorem pd_w24 : Cond.selects "PascalDesk$Strand" pd_y87 pd_y87 ∈ pd_TT := pd_mem 24 (by decide +kernel) (by decide +kernel)
theorem pd_w25 : Cond.selects "PascalDesk$Runner" pd_y52 pd_y52 ∈ pd_TT := pd_mem 25 (by decide +kernel) (by decide +kernel)
theorem pd_w26 : Cond.selects "PascalDesk$Runner" pd_y53 pd_y53 ∈ pd_TT := pd_mem 26 (by decide +kernel) (by decide +kernel)
theorem pd_w27 : Cond.selects "PascalDesk$Runner" pd_y54 pd_y54 ∈ pd_TT := pd_mem 27 (by decide +kernel) (by decide +kernel)
theorem pd_w28 : Cond.selects "PascalDesk$Runner" pd_y55 pd_y55 ∈ pd_TT := pd_mem 28 (by decide +kernel) (by decide +kernel)
theorem pd_w29 : Cond.selects "PascalDesk$Runner" pd_y56 pd_y56 ∈ pd_TT := pd_mem 29 (by decide +kernel) (by decide +kernel)
theorem pd_w30 : Cond.selects "PascalDesk$Runner" pd_y57 pd_y57 ∈ pd_TT := pd_mem 30 (by decide +kernel) (by decide +kernel)
theorem pd_w31 : Cond.selects "PascalDesk$Runner" pd_y58 pd_y58 ∈ pd_TT := pd_mem 31 (by decide +kernel) (by decide +kernel)
theorem pd_w32 : Cond.selects "PascalDesk$Runner" pd_y59 pd_y59 ∈ pd_TT := pd_mem 32 (by decide +kernel) (by decide +kernel)
theorem pd_w33 : Cond.selects "PascalDesk$Runner" pd_y60 pd_y60 ∈ pd_TT := pd_mem 33 (by decide +kernel) (by decide +kernel)
theorem pd_w34 : Cond.selects "PascalDesk$Runner" pd_y61 pd_y61 ∈ pd_TT := pd_mem 34 (by decide +kernel) (by decide +kernel)
theorem pd_w35 : Cond.selects "PascalDesk$Calculator" pd_y74 pd_y74 ∈ pd_TT := pd_mem 35 (by decide +kernel) (by decide +kernel)
theorem pd_w36 : Cond.selects "PascalDesk$Calculator" pd_y75 pd_y75 ∈ pd_TT := pd_mem 36 (by decide +kernel) (by decide +kernel)
theorem pd_w37 : Cond.selects "PascalDesk$Runner" pd_y62 pd_y62 ∈ pd_TT := pd_mem 37 (by decide +kernel) (by decide +kernel)
theorem pd_w38 : Cond.selects "PascalDesk$Runner" pd_y63 pd_y63 ∈ pd_TT := pd_mem 38 (by decide +kernel) (by decide +kernel)
theorem pd_w39 : Cond.selects "PascalDesk$Runner" pd_y64 pd_y64 ∈ pd_TT := pd_mem 39 (by decide +kernel) (by decide +kernel)
theorem pd_w40 : Cond.selects "PascalDesk$Runner" pd_y65 pd_y65 ∈ pd_TT := pd_mem 40 (by decide +kernel) (by decide +kernel)
theorem pd_w41 : Cond.selects "PascalDeskModel" pd_y95 pd_y95 ∈ pd_TT := pd_mem 41 (by decide +kernel) (by decide +kernel)
theorem pd_w42 : Cond.selects "PascalDeskModel" pd_y96 pd_y96 ∈ pd_TT := pd_mem 42 (by decide +kernel) (by decide +kernel)
theorem pd_w43 : Cond.selects "PascalDeskModel" pd_y97 pd_y97 ∈ pd_TT := pd_mem 43 (by decide +kernel) (by decide +kernel)
theorem pd_w44 : Cond.selects "PascalDeskModel" pd_y98 pd_y98 ∈ pd_TT := pd_mem 44 (by decide +kernel) (by decide +kernel)
theorem pd_w45 : Cond.selects "PascalDeskModel" pd_y99 pd_y99 ∈ pd_TT := pd_mem 45 (by decide +kernel) (by decide +kernel)
theorem pd_w46 : Cond.selects "PascalDeskModel" pd_y100 pd_y100 ∈ pd_TT := pd_mem 46 (by decide +kernel) (by decide +kernel)
theorem pd_w47 : Cond.selects "PascalDeskModel" pd_y101 pd_y101 ∈ pd_TT := pd_mem 47 (by decide +kernel) (by decide +kernel)
theorem pd_w48 : Cond.selects "PascalDeskModel" pd_y102 pd_y102 ∈ pd_TT := pd_mem 48 (by decide +kernel) (by decide +kernel)
theorem pd_w49 : Cond.selects "PascalDeskModel" pd_y103 pd_y103 ∈ pd_TT := pd_mem 49 (by decide +kernel) (by decide +kernel)
theorem pd_w50 : Cond.selects "PascalDeskModel" pd_y104 pd_y104 ∈ pd_TT := pd_mem 50 (by decide +kernel) (by decide +kernel)
theorem pd_w51 : Cond.selects "PascalDeskModel" pd_y105 pd_y105 ∈ pd_TT := pd_mem 51 (by decide +kernel) (by decide +kernel)
theorem pd_w52 : Cond.selects "PascalDeskModel" pd_y106 pd_y106 ∈ pd_TT := pd_mem 52 (by decide +kernel) (by decide +kernel)
theorem pd_w53 : Cond.selects "PascalDeskModel" pd_y107 pd_y107 ∈ pd_TT := pd_mem 53 (by decide +kernel) (by decide +kernel)
theorem pd_w54 : Cond.selects "PascalDeskModel" pd_y108 pd_y108 ∈ pd_TT := pd_mem 54 (by decide +kernel) (by decide +kernel)
theorem pd_w55 : Cond.selects "PascalDeskModel" pd_y109 pd_y109 ∈ pd_TT := pd_mem 55 (by decide +kernel) (by decide +kernel)
theorem pd_w56 : Cond.selects "PascalDeskModel" pd_y110 pd_y110 ∈ pd_TT := pd_mem 56 (by decide +kernel) (by decide +kernel)
theorem pd_w57 : Cond.selects "PascalDeskModel" pd_y111 pd_y111 ∈ pd_TT := pd_mem 57 (by decide +kernel) (by decide +kernel)
theorem pd_w58 : Cond.selects "PascalDeskModel" pd_y112 pd_y112 ∈ pd_TT := pd_mem 58 (by decide +kernel) (by decide +kernel)
theorem pd_w59 : Cond.selects "PascalDeskModel" pd_y115 pd_y115 ∈ pd_TT := pd_mem 59 (by decide +kernel) (by decide +kernel)
theorem pd_w60 : Cond.selects "PascalDeskModel" pd_y116 pd_y116 ∈ pd_TT := pd_mem 60 (by decide +kernel) (by decide +kernel)
theorem pd_w61 : Cond.selects "PascalDeskModel" pd_y117 pd_y117 ∈ pd_TT := pd_mem 61 (by decide +kernel) (by decide +kernel)
theorem pd_w62 : Cond.selects "PascalDeskModel" pd_y118 pd_y118 ∈ pd_TT := pd_mem 62 (by decide +kernel) (by decide +kernel)
theorem pd_w63 : Cond.selects "PascalDeskModel" pd_y119 pd_y119 ∈ pd_TT := pd_mem 63 (by decide +kernel) (by decide +kernel)
theorem pd_w64 : Cond.selects "PascalDeskModel" pd_y120 pd_y120 ∈ pd_TT := pd_mem 64 (by decide +kernel) (by decide +kernel)
theorem pd_w65 : Cond.selects "PascalDeskModel" pd_y121 pd_y121 ∈ pd_TT := pd_mem 65 (by decide +kernel) (by decide +kernel)
theorem pd_w66 : Cond.selects "PascalDeskModel" pd_y122 pd_y122 ∈ pd_TT := pd_mem 66 (by decide +kernel) (by decide +kernel)
theorem pd_w67 : Cond.selects "PascalDeskModel" pd_y123 pd_y123 ∈ pd_TT := pd_mem 67 (by decide +kernel) (by decide +kernel)
theorem pd_w68 : Cond.initialized "PascalDeskLaw" ∈ pd_TT := pd_mem 68 (by decide +kernel) (by decide +kernel)
theorem pd_w69 : Cond.initialized "PascalDesk" ∈ pd_TT := pd_mem 69 (by decide +kernel) (by decide +kernel)
theorem pd_w70 : Cond.initialized "PascalDesk$Reader" ∈ pd_TT := pd_mem 70 (by decide +kernel) (by decide +kernel)
theorem pd_w71 : Cond.initialized "PascalDesk$Code" ∈ pd_TT := pd_mem 71 (by decide +kernel) (by decide +kernel)
theorem pd_w72 : Cond.initialized "PascalDesk$Runner" ∈ pd_TT := pd_mem 72 (by decide +kernel) (by decide +kernel)
theorem pd_w73 : Cond.initialized "PascalDesk$Calculator" ∈ pd_TT := pd_mem 73 (by decide +kernel) (by decide +kernel)
theorem pd_w74 : Cond.initialized "PascalDesk$Tape" ∈ pd_TT := pd_mem 74 (by decide +kernel) (by decide +kernel)
theorem pd_w75 : Cond.initialized "PascalDesk$Strand" ∈ pd_TT := pd_mem 75 (by decide +kernel) (by decide +kernel)
theorem pd_w76 : Cond.initialized "PascalDeskModel" ∈ pd_TT := pd_mem 76 (by decide +kernel) (by decide +kernel)
theorem pd_w80 : Cond.initialized "java/lang/IllegalArgumentException" ∈ pd_TT := pd_mem 80 (by decide +kernel) (by decide +kernel)
theorem pd_w81 : Cond.initialized "java/lang/IllegalStateException" ∈ pd_TT := pd_mem 81 (by decide +kernel) (by decide +kernel)
theorem pd_w82 : Cond.initialized "java/util/NoSuchElementException" ∈ pd_TT := pd_mem 82 (by decide +kernel) (by decide +kernel)
theorem pd_w83 : Cond.initialized "java/lang/Math" ∈ pd_TT := pd_mem 83 (by decide +kernel) (by decide +kernel)
theorem pd_w84 : Cond.initialized "java/lang/IndexOutOfBoundsException" ∈ pd_TT := pd_mem 84 (by decide +kernel) (by decide +kernel)
theorem pd_w85 : Cond.initialized "java/lang/ArithmeticException" ∈ pd_TT := pd_mem 85 (by decide +kernel) (by decide +kernel)
theorem pd_w86 : Cond.classLink "PascalDeskLaw" 8 "PascalDesk" ∈ pd_TT := pd_mem 86 (by decide +kernel) (by decide +kernel)
theorem pd_w87 : Cond.instantiable "PascalDesk" 3 ∈ pd_TT := pd_mem 87 (by decide +kernel) (by decide +kernel)
theorem pd_w88 : Cond.methodLink "PascalDeskLaw" 46 pd_y0 ∈ pd_TT := pd_mem 88 (by decide +kernel) (by decide +kernel)
theorem pd_w89 : Cond.instanceMethod pd_y0 ∈ pd_TT := pd_mem 89 (by decide +kernel) (by decide +kernel)
theorem pd_w90 : Cond.code pd_y0 prog_1_method_1_code 1 none ∈ pd_TT := pd_mem 90 (by decide +kernel) (by decide +kernel)
theorem pd_w91 : Cond.methodLink "PascalDesk" 1 ⟨"java/lang/Object", "<init>", "()V"⟩ ∈ pd_TT := pd_mem 91 (by decide +kernel) (by decide +kernel)
theorem pd_w92 : Cond.instanceMethod ⟨"java/lang/Object", "<init>", "()V"⟩ ∈ pd_TT := pd_mem 92 (by decide +kernel) (by decide +kernel)
theorem pd_w93 : Cond.code Lib.objectInit ⟨#[0xb1]⟩ 1 none ∈ pd_TT := pd_mem 93 (by decide +kernel) (by decide +kernel)
theorem pd_w94 : Cond.classLink "PascalDesk" 7 "PascalDesk$Reader" ∈ pd_TT := pd_mem 94 (by decide +kernel) (by decide +kernel)
theorem pd_w95 : Cond.instantiable "PascalDesk$Reader" 6 ∈ pd_TT := pd_mem 95 (by decide +kernel) (by decide +kernel)
theorem pd_w96 : Cond.methodLink "PascalDesk" 9 pd_y19 ∈ pd_TT := pd_mem 96 (by decide +kernel) (by decide +kernel)
theorem pd_w97 : Cond.instanceMethod pd_y19 ∈ pd_TT := pd_mem 97 (by decide +kernel) (by decide +kernel)
theorem pd_w98 : Cond.code pd_y19 prog_5_method_1_code 1 none ∈ pd_TT := pd_mem 98 (by decide +kernel) (by decide +kernel)
theorem pd_w99 : Cond.methodLink "PascalDesk$Reader" 1 ⟨"java/lang/Object", "<init>", "()V"⟩ ∈ pd_TT := pd_mem 99 (by decide +kernel) (by decide +kernel)
theorem pd_w100 : Cond.classLink "PascalDesk$Reader" 13 "PascalDesk$Code" ∈ pd_TT := pd_mem 100 (by decide +kernel) (by decide +kernel)
theorem pd_w101 : Cond.instantiable "PascalDesk$Code" 5 ∈ pd_TT := pd_mem 101 (by decide +kernel) (by decide +kernel)
theorem pd_w102 : Cond.methodLink "PascalDesk$Reader" 15 pd_y12 ∈ pd_TT := pd_mem 102 (by decide +kernel) (by decide +kernel)
theorem pd_w103 : Cond.instanceMethod pd_y12 ∈ pd_TT := pd_mem 103 (by decide +kernel) (by decide +kernel)
theorem pd_w104 : Cond.code pd_y12 prog_3_method_1_code 1 none ∈ pd_TT := pd_mem 104 (by decide +kernel) (by decide +kernel)
theorem pd_w105 : Cond.methodLink "PascalDesk$Code" 3 ⟨"java/lang/Object", "<init>", "()V"⟩ ∈ pd_TT := pd_mem 105 (by decide +kernel) (by decide +kernel)
theorem pd_w106 : Cond.fieldLink "PascalDesk$Code" 11 "PascalDesk$Code" "orders" "[I" ∈ pd_TT := pd_mem 106 (by decide +kernel) (by decide +kernel)
theorem pd_w107 : Cond.fieldLink "PascalDesk$Code" 15 "PascalDesk$Code" "numbers" "[I" ∈ pd_TT := pd_mem 107 (by decide +kernel) (by decide +kernel)
theorem pd_w108 : Cond.fieldLink "PascalDesk$Code" 18 "PascalDesk$Code" "length" "I" ∈ pd_TT := pd_mem 108 (by decide +kernel) (by decide +kernel)
theorem pd_w109 : Cond.fieldLink "PascalDesk$Code" 22 "PascalDesk$Code" "statements" "I" ∈ pd_TT := pd_mem 109 (by decide +kernel) (by decide +kernel)
theorem pd_w110 : Cond.fieldLink "PascalDesk" 77 "PascalDesk$Code" "statements" "I" ∈ pd_TT := pd_mem 110 (by decide +kernel) (by decide +kernel)
theorem pd_w111 : Cond.fieldLink "PascalDesk$Reader" 68 "PascalDesk$Code" "statements" "I" ∈ pd_TT := pd_mem 111 (by decide +kernel) (by decide +kernel)
theorem pd_w112 : Cond.fieldLink "PascalDesk$Code" 25 "PascalDesk$Code" "there" "Z" ∈ pd_TT := pd_mem 112 (by decide +kernel) (by decide +kernel)
theorem pd_w113 : Cond.fieldLink "PascalDesk$Runner" 47 "PascalDesk$Code" "there" "Z" ∈ pd_TT := pd_mem 113 (by decide +kernel) (by decide +kernel)
theorem pd_w114 : Cond.fieldLink "PascalDesk$Reader" 47 "PascalDesk$Code" "there" "Z" ∈ pd_TT := pd_mem 114 (by decide +kernel) (by decide +kernel)
theorem pd_w115 : Cond.fieldLink "PascalDesk" 99 "PascalDesk$Code" "there" "Z" ∈ pd_TT := pd_mem 115 (by decide +kernel) (by decide +kernel)
theorem pd_w116 : Cond.laysFinal "PascalDesk$Code" "PascalDesk$Code" "orders" "[I" ∈ pd_TT := pd_mem 116 (by decide +kernel) (by decide +kernel)
theorem pd_w118 : Cond.laysFinal "PascalDesk$Code" "PascalDesk$Code" "numbers" "[I" ∈ pd_TT := pd_mem 118 (by decide +kernel) (by decide +kernel)
theorem pd_w120 : Cond.lays "PascalDesk$Code" "PascalDesk$Code" "length" "I" ∈ pd_TT := pd_mem 120 (by decide +kernel) (by decide +kernel)
theorem pd_w122 : Cond.lays "PascalDesk$Code" "PascalDesk$Code" "statements" "I" ∈ pd_TT := pd_mem 122 (by decide +kernel) (by decide +kernel)
theorem pd_w124 : Cond.lays "PascalDesk$Code" "PascalDesk$Code" "there" "Z" ∈ pd_TT := pd_mem 124 (by decide +kernel) (by decide +kernel)
theorem pd_w127 : Cond.arrayClass .char ∈ pd_TT := pd_mem 127 (by decide +kernel) (by decide +kernel)
theorem pd_w128 : Cond.arrayClass .int ∈ pd_TT := pd_mem 128 (by decide +kernel) (by decide +kernel)
theorem pd_w129 : Cond.fieldLink "PascalDesk$Reader" 9 "PascalDesk$Reader" "text" "[C" ∈ pd_TT := pd_mem 129 (by decide +kernel) (by decide +kernel)
theorem pd_w130 : Cond.fieldLink "PascalDesk$Reader" 20 "PascalDesk$Reader" "length" "I" ∈ pd_TT := pd_mem 130 (by decide +kernel) (by decide +kernel)
theorem pd_w131 : Cond.fieldLink "PascalDesk" 51 "PascalDesk$Reader" "length" "I" ∈ pd_TT := pd_mem 131 (by decide +kernel) (by decide +kernel)
theorem pd_w132 : Cond.fieldLink "PascalDesk$Reader" 16 "PascalDesk$Reader" "code" "LPascalDesk$Code;" ∈ pd_TT := pd_mem 132 (by decide +kernel) (by decide +kernel)
theorem pd_w133 : Cond.fieldLink "PascalDesk" 65 "PascalDesk$Reader" "code" "LPascalDesk$Code;" ∈ pd_TT := pd_mem 133 (by decide +kernel) (by decide +kernel)
theorem pd_w134 : Cond.fieldLink "PascalDesk$Reader" 27 "PascalDesk$Reader" "at" "I" ∈ pd_TT := pd_mem 134 (by decide +kernel) (by decide +kernel)
theorem pd_w135 : Cond.fieldLink "PascalDesk$Reader" 30 "PascalDesk$Reader" "refused" "Z" ∈ pd_TT := pd_mem 135 (by decide +kernel) (by decide +kernel)
theorem pd_w136 : Cond.fieldLink "PascalDesk$Reader" 34 "PascalDesk$Reader" "typesWrong" "Z" ∈ pd_TT := pd_mem 136 (by decide +kernel) (by decide +kernel)
theorem pd_w137 : Cond.laysFinal "PascalDesk$Reader" "PascalDesk$Reader" "text" "[C" ∈ pd_TT := pd_mem 137 (by decide +kernel) (by decide +kernel)
theorem pd_w139 : Cond.lays "PascalDesk$Reader" "PascalDesk$Reader" "length" "I" ∈ pd_TT := pd_mem 139 (by decide +kernel) (by decide +kernel)
theorem pd_w141 : Cond.lays "PascalDesk$Reader" "PascalDesk$Reader" "code" "LPascalDesk$Code;" ∈ pd_TT := pd_mem 141 (by decide +kernel) (by decide +kernel)
theorem pd_w143 : Cond.lays "PascalDesk$Reader" "PascalDesk$Reader" "at" "I" ∈ pd_TT := pd_mem 143 (by decide +kernel) (by decide +kernel)
theorem pd_w145 : Cond.lays "PascalDesk$Reader" "PascalDesk$Reader" "refused" "Z" ∈ pd_TT := pd_mem 145 (by decide +kernel) (by decide +kernel)
theorem pd_w147 : Cond.lays "PascalDesk$Reader" "PascalDesk$Reader" "typesWrong" "Z" ∈ pd_TT := pd_mem 147 (by decide +kernel) (by decide +kernel)
theorem pd_w150 : Cond.classLink "PascalDesk" 16 "PascalDesk$Runner" ∈ pd_TT := pd_mem 150 (by decide +kernel) (by decide +kernel)
theorem pd_w151 : Cond.instantiable "PascalDesk$Runner" 12 ∈ pd_TT := pd_mem 151 (by decide +kernel) (by decide +kernel)
theorem pd_w152 : Cond.methodLink "PascalDesk" 18 pd_y47 ∈ pd_TT := pd_mem 152 (by decide +kernel) (by decide +kernel)
theorem pd_w153 : Cond.instanceMethod pd_y47 ∈ pd_TT := pd_mem 153 (by decide +kernel) (by decide +kernel)
theorem pd_w154 : Cond.code pd_y47 prog_6_method_1_code 2 none ∈ pd_TT := pd_mem 154 (by decide +kernel) (by decide +kernel)
theorem pd_w155 : Cond.methodLink "PascalDesk$Runner" 3 ⟨"java/lang/Object", "<init>", "()V"⟩ ∈ pd_TT := pd_mem 155 (by decide +kernel) (by decide +kernel)
theorem pd_w156 : Cond.classLink "PascalDesk$Runner" 9 "PascalDesk$Code" ∈ pd_TT := pd_mem 156 (by decide +kernel) (by decide +kernel)
theorem pd_w157 : Cond.arrayOver (.object "PascalDesk$Code") ∈ pd_TT := pd_mem 157 (by decide +kernel) (by decide +kernel)
theorem pd_w158 : Cond.methodLink "PascalDesk$Runner" 17 pd_y12 ∈ pd_TT := pd_mem 158 (by decide +kernel) (by decide +kernel)
theorem pd_w159 : Cond.classLink "PascalDesk$Runner" 18 "PascalDesk$Calculator" ∈ pd_TT := pd_mem 159 (by decide +kernel) (by decide +kernel)
theorem pd_w160 : Cond.instantiable "PascalDesk$Calculator" 3 ∈ pd_TT := pd_mem 160 (by decide +kernel) (by decide +kernel)
theorem pd_w161 : Cond.methodLink "PascalDesk$Runner" 20 pd_y66 ∈ pd_TT := pd_mem 161 (by decide +kernel) (by decide +kernel)
theorem pd_w162 : Cond.instanceMethod pd_y66 ∈ pd_TT := pd_mem 162 (by decide +kernel) (by decide +kernel)
theorem pd_w163 : Cond.code pd_y66 prog_2_method_1_code 1 none ∈ pd_TT := pd_mem 163 (by decide +kernel) (by decide +kernel)
theorem pd_w164 : Cond.methodLink "PascalDesk$Calculator" 3 ⟨"java/lang/Object", "<init>", "()V"⟩ ∈ pd_TT := pd_mem 164 (by decide +kernel) (by decide +kernel)
theorem pd_w165 : Cond.fieldLink "PascalDesk$Calculator" 9 "PascalDesk$Calculator" "values" "[D" ∈ pd_TT := pd_mem 165 (by decide +kernel) (by decide +kernel)
theorem pd_w166 : Cond.fieldLink "PascalDesk" 123 "PascalDesk$Calculator" "values" "[D" ∈ pd_TT := pd_mem 166 (by decide +kernel) (by decide +kernel)
theorem pd_w167 : Cond.fieldLink "PascalDesk$Calculator" 15 "PascalDesk$Calculator" "stack" "[D" ∈ pd_TT := pd_mem 167 (by decide +kernel) (by decide +kernel)
theorem pd_w168 : Cond.fieldLink "PascalDesk$Calculator" 18 "PascalDesk$Calculator" "height" "I" ∈ pd_TT := pd_mem 168 (by decide +kernel) (by decide +kernel)
theorem pd_w169 : Cond.laysFinal "PascalDesk$Calculator" "PascalDesk$Calculator" "values" "[D" ∈ pd_TT := pd_mem 169 (by decide +kernel) (by decide +kernel)
theorem pd_w171 : Cond.laysFinal "PascalDesk$Calculator" "PascalDesk$Calculator" "stack" "[D" ∈ pd_TT := pd_mem 171 (by decide +kernel) (by decide +kernel)
theorem pd_w173 : Cond.lays "PascalDesk$Calculator" "PascalDesk$Calculator" "height" "I" ∈ pd_TT := pd_mem 173 (by decide +kernel) (by decide +kernel)
theorem pd_w176 : Cond.arrayClass .double ∈ pd_TT := pd_mem 176 (by decide +kernel) (by decide +kernel)
theorem pd_w177 : Cond.classLink "PascalDesk$Runner" 25 "PascalDesk$Tape" ∈ pd_TT := pd_mem 177 (by decide +kernel) (by decide +kernel)
theorem pd_w178 : Cond.instantiable "PascalDesk$Tape" 3 ∈ pd_TT := pd_mem 178 (by decide +kernel) (by decide +kernel)
theorem pd_w179 : Cond.methodLink "PascalDesk$Runner" 27 pd_y81 ∈ pd_TT := pd_mem 179 (by decide +kernel) (by decide +kernel)
theorem pd_w180 : Cond.instanceMethod pd_y81 ∈ pd_TT := pd_mem 180 (by decide +kernel) (by decide +kernel)
theorem pd_w181 : Cond.code pd_y81 prog_8_method_1_code 1 none ∈ pd_TT := pd_mem 181 (by decide +kernel) (by decide +kernel)
theorem pd_w182 : Cond.methodLink "PascalDesk$Tape" 3 ⟨"java/lang/Object", "<init>", "()V"⟩ ∈ pd_TT := pd_mem 182 (by decide +kernel) (by decide +kernel)
theorem pd_w183 : Cond.fieldLink "PascalDesk$Tape" 9 "PascalDesk$Tape" "numbers" "[I" ∈ pd_TT := pd_mem 183 (by decide +kernel) (by decide +kernel)
theorem pd_w184 : Cond.fieldLink "PascalDesk$Tape" 15 "PascalDesk$Tape" "length" "I" ∈ pd_TT := pd_mem 184 (by decide +kernel) (by decide +kernel)
theorem pd_w185 : Cond.fieldLink "PascalDesk$Tape" 19 "PascalDesk$Tape" "at" "I" ∈ pd_TT := pd_mem 185 (by decide +kernel) (by decide +kernel)
theorem pd_w186 : Cond.laysFinal "PascalDesk$Tape" "PascalDesk$Tape" "numbers" "[I" ∈ pd_TT := pd_mem 186 (by decide +kernel) (by decide +kernel)
theorem pd_w188 : Cond.lays "PascalDesk$Tape" "PascalDesk$Tape" "length" "I" ∈ pd_TT := pd_mem 188 (by decide +kernel) (by decide +kernel)
theorem pd_w190 : Cond.lays "PascalDesk$Tape" "PascalDesk$Tape" "at" "I" ∈ pd_TT := pd_mem 190 (by decide +kernel) (by decide +kernel)
theorem pd_w193 : Cond.classLink "PascalDesk$Runner" 40 "PascalDesk$Strand" ∈ pd_TT := pd_mem 193 (by decide +kernel) (by decide +kernel)
theorem pd_w194 : Cond.arrayOver (.object "PascalDesk$Strand") ∈ pd_TT := pd_mem 194 (by decide +kernel) (by decide +kernel)
theorem pd_w195 : Cond.instantiable "PascalDesk$Strand" 11 ∈ pd_TT := pd_mem 195 (by decide +kernel) (by decide +kernel)
theorem pd_w196 : Cond.methodLink "PascalDesk$Runner" 46 pd_y85 ∈ pd_TT := pd_mem 196 (by decide +kernel) (by decide +kernel)
theorem pd_w197 : Cond.instanceMethod pd_y85 ∈ pd_TT := pd_mem 197 (by decide +kernel) (by decide +kernel)
theorem pd_w198 : Cond.code pd_y85 prog_7_method_1_code 1 none ∈ pd_TT := pd_mem 198 (by decide +kernel) (by decide +kernel)
theorem pd_w199 : Cond.methodLink "PascalDesk$Strand" 1 ⟨"java/lang/Object", "<init>", "()V"⟩ ∈ pd_TT := pd_mem 199 (by decide +kernel) (by decide +kernel)
theorem pd_w200 : Cond.fieldLink "PascalDesk$Strand" 27 "PascalDesk$Strand" "state" "I" ∈ pd_TT := pd_mem 200 (by decide +kernel) (by decide +kernel)
theorem pd_w201 : Cond.fieldLink "PascalDesk$Runner" 89 "PascalDesk$Strand" "state" "I" ∈ pd_TT := pd_mem 201 (by decide +kernel) (by decide +kernel)
theorem pd_w202 : Cond.fieldLink "PascalDesk$Strand" 30 "PascalDesk$Strand" "parent" "I" ∈ pd_TT := pd_mem 202 (by decide +kernel) (by decide +kernel)
theorem pd_w203 : Cond.fieldLink "PascalDesk$Runner" 214 "PascalDesk$Strand" "parent" "I" ∈ pd_TT := pd_mem 203 (by decide +kernel) (by decide +kernel)
theorem pd_w204 : Cond.fieldLink "PascalDesk$Strand" 33 "PascalDesk$Strand" "children" "I" ∈ pd_TT := pd_mem 204 (by decide +kernel) (by decide +kernel)
theorem pd_w205 : Cond.fieldLink "PascalDesk$Runner" 183 "PascalDesk$Strand" "children" "I" ∈ pd_TT := pd_mem 205 (by decide +kernel) (by decide +kernel)
theorem pd_w206 : Cond.fieldLink "PascalDesk$Strand" 20 "PascalDesk$Strand" "procedure" "I" ∈ pd_TT := pd_mem 206 (by decide +kernel) (by decide +kernel)
theorem pd_w207 : Cond.fieldLink "PascalDesk$Runner" 106 "PascalDesk$Strand" "procedure" "I" ∈ pd_TT := pd_mem 207 (by decide +kernel) (by decide +kernel)
theorem pd_w208 : Cond.fieldLink "PascalDesk$Strand" 36 "PascalDesk$Strand" "at" "I" ∈ pd_TT := pd_mem 208 (by decide +kernel) (by decide +kernel)
theorem pd_w209 : Cond.fieldLink "PascalDesk$Runner" 112 "PascalDesk$Strand" "at" "I" ∈ pd_TT := pd_mem 209 (by decide +kernel) (by decide +kernel)
theorem pd_w210 : Cond.fieldLink "PascalDesk$Runner" 161 "PascalDesk$Strand" "semaphore" "I" ∈ pd_TT := pd_mem 210 (by decide +kernel) (by decide +kernel)
theorem pd_w211 : Cond.fieldLink "PascalDesk$Runner" 164 "PascalDesk$Strand" "ticket" "I" ∈ pd_TT := pd_mem 211 (by decide +kernel) (by decide +kernel)
theorem pd_w212 : Cond.fieldLink "PascalDesk$Strand" 24 "PascalDesk$Strand" "calls" "I" ∈ pd_TT := pd_mem 212 (by decide +kernel) (by decide +kernel)
theorem pd_w213 : Cond.fieldLink "PascalDesk$Strand" 39 "PascalDesk$Strand" "callsBefore" "I" ∈ pd_TT := pd_mem 213 (by decide +kernel) (by decide +kernel)
theorem pd_w214 : Cond.fieldLink "PascalDesk$Strand" 9 "PascalDesk$Strand" "callers" "[I" ∈ pd_TT := pd_mem 214 (by decide +kernel) (by decide +kernel)
theorem pd_w215 : Cond.fieldLink "PascalDesk$Strand" 13 "PascalDesk$Strand" "returns" "[I" ∈ pd_TT := pd_mem 215 (by decide +kernel) (by decide +kernel)
theorem pd_w216 : Cond.lays "PascalDesk$Strand" "PascalDesk$Strand" "state" "I" ∈ pd_TT := pd_mem 216 (by decide +kernel) (by decide +kernel)
theorem pd_w218 : Cond.lays "PascalDesk$Strand" "PascalDesk$Strand" "parent" "I" ∈ pd_TT := pd_mem 218 (by decide +kernel) (by decide +kernel)
theorem pd_w220 : Cond.lays "PascalDesk$Strand" "PascalDesk$Strand" "children" "I" ∈ pd_TT := pd_mem 220 (by decide +kernel) (by decide +kernel)
theorem pd_w222 : Cond.lays "PascalDesk$Strand" "PascalDesk$Strand" "procedure" "I" ∈ pd_TT := pd_mem 222 (by decide +kernel) (by decide +kernel)
theorem pd_w224 : Cond.lays "PascalDesk$Strand" "PascalDesk$Strand" "at" "I" ∈ pd_TT := pd_mem 224 (by decide +kernel) (by decide +kernel)
theorem pd_w226 : Cond.lays "PascalDesk$Strand" "PascalDesk$Strand" "semaphore" "I" ∈ pd_TT := pd_mem 226 (by decide +kernel) (by decide +kernel)
theorem pd_w228 : Cond.lays "PascalDesk$Strand" "PascalDesk$Strand" "ticket" "I" ∈ pd_TT := pd_mem 228 (by decide +kernel) (by decide +kernel)
theorem pd_w230 : Cond.lays "PascalDesk$Strand" "PascalDesk$Strand" "calls" "I" ∈ pd_TT := pd_mem 230 (by decide +kernel) (by decide +kernel)
theorem pd_w232 : Cond.lays "PascalDesk$Strand" "PascalDesk$Strand" "callsBefore" "I" ∈ pd_TT := pd_mem 232 (by decide +kernel) (by decide +kernel)
theorem pd_w234 : Cond.laysFinal "PascalDesk$Strand" "PascalDesk$Strand" "callers" "[I" ∈ pd_TT := pd_mem 234 (by decide +kernel) (by decide +kernel)
theorem pd_w236 : Cond.laysFinal "PascalDesk$Strand" "PascalDesk$Strand" "returns" "[I" ∈ pd_TT := pd_mem 236 (by decide +kernel) (by decide +kernel)
theorem pd_w239 : Cond.fieldLink "PascalDesk$Runner" 11 "PascalDesk$Runner" "procedures" "[LPascalDesk$Code;" ∈ pd_TT := pd_mem 239 (by decide +kernel) (by decide +kernel)
theorem pd_w240 : Cond.fieldLink "PascalDesk" 73 "PascalDesk$Runner" "procedures" "[LPascalDesk$Code;" ∈ pd_TT := pd_mem 240 (by decide +kernel) (by decide +kernel)
theorem pd_w241 : Cond.fieldLink "PascalDesk$Runner" 21 "PascalDesk$Runner" "calculator" "LPascalDesk$Calculator;" ∈ pd_TT := pd_mem 241 (by decide +kernel) (by decide +kernel)
theorem pd_w242 : Cond.fieldLink "PascalDesk" 119 "PascalDesk$Runner" "calculator" "LPascalDesk$Calculator;" ∈ pd_TT := pd_mem 242 (by decide +kernel) (by decide +kernel)
theorem pd_w243 : Cond.fieldLink "PascalDesk$Runner" 28 "PascalDesk$Runner" "tape" "LPascalDesk$Tape;" ∈ pd_TT := pd_mem 243 (by decide +kernel) (by decide +kernel)
theorem pd_w244 : Cond.fieldLink "PascalDesk" 84 "PascalDesk$Runner" "tape" "LPascalDesk$Tape;" ∈ pd_TT := pd_mem 244 (by decide +kernel) (by decide +kernel)
theorem pd_w245 : Cond.fieldLink "PascalDesk$Runner" 32 "PascalDesk$Runner" "semaphores" "[I" ∈ pd_TT := pd_mem 245 (by decide +kernel) (by decide +kernel)
theorem pd_w246 : Cond.fieldLink "PascalDesk" 150 "PascalDesk$Runner" "semaphores" "[I" ∈ pd_TT := pd_mem 246 (by decide +kernel) (by decide +kernel)
theorem pd_w247 : Cond.fieldLink "PascalDesk$Runner" 36 "PascalDesk$Runner" "written" "[D" ∈ pd_TT := pd_mem 247 (by decide +kernel) (by decide +kernel)
theorem pd_w248 : Cond.fieldLink "PascalDesk" 141 "PascalDesk$Runner" "written" "[D" ∈ pd_TT := pd_mem 248 (by decide +kernel) (by decide +kernel)
theorem pd_w249 : Cond.fieldLink "PascalDesk$Runner" 80 "PascalDesk$Runner" "writings" "I" ∈ pd_TT := pd_mem 249 (by decide +kernel) (by decide +kernel)
theorem pd_w250 : Cond.fieldLink "PascalDesk" 136 "PascalDesk$Runner" "writings" "I" ∈ pd_TT := pd_mem 250 (by decide +kernel) (by decide +kernel)
theorem pd_w251 : Cond.fieldLink "PascalDesk$Runner" 77 "PascalDesk$Runner" "steps" "I" ∈ pd_TT := pd_mem 251 (by decide +kernel) (by decide +kernel)
theorem pd_w252 : Cond.fieldLink "PascalDesk" 147 "PascalDesk$Runner" "steps" "I" ∈ pd_TT := pd_mem 252 (by decide +kernel) (by decide +kernel)
theorem pd_w253 : Cond.fieldLink "PascalDesk$Runner" 95 "PascalDesk$Runner" "born" "I" ∈ pd_TT := pd_mem 253 (by decide +kernel) (by decide +kernel)
theorem pd_w254 : Cond.fieldLink "PascalDesk" 154 "PascalDesk$Runner" "born" "I" ∈ pd_TT := pd_mem 254 (by decide +kernel) (by decide +kernel)
theorem pd_w255 : Cond.fieldLink "PascalDesk$Runner" 98 "PascalDesk$Runner" "most" "I" ∈ pd_TT := pd_mem 255 (by decide +kernel) (by decide +kernel)
theorem pd_w256 : Cond.fieldLink "PascalDesk" 157 "PascalDesk$Runner" "most" "I" ∈ pd_TT := pd_mem 256 (by decide +kernel) (by decide +kernel)
theorem pd_w257 : Cond.fieldLink "PascalDesk$Runner" 83 "PascalDesk$Runner" "waits" "I" ∈ pd_TT := pd_mem 257 (by decide +kernel) (by decide +kernel)
theorem pd_w258 : Cond.fieldLink "PascalDesk" 160 "PascalDesk$Runner" "waits" "I" ∈ pd_TT := pd_mem 258 (by decide +kernel) (by decide +kernel)
theorem pd_w259 : Cond.fieldLink "PascalDesk$Runner" 42 "PascalDesk$Runner" "processes" "[LPascalDesk$Strand;" ∈ pd_TT := pd_mem 259 (by decide +kernel) (by decide +kernel)
theorem pd_w260 : Cond.fieldLink "PascalDesk$Runner" 55 "PascalDesk$Runner" "living" "I" ∈ pd_TT := pd_mem 260 (by decide +kernel) (by decide +kernel)
theorem pd_w261 : Cond.laysFinal "PascalDesk$Runner" "PascalDesk$Runner" "procedures" "[LPascalDesk$Code;" ∈ pd_TT := pd_mem 261 (by decide +kernel) (by decide +kernel)
theorem pd_w263 : Cond.laysFinal "PascalDesk$Runner" "PascalDesk$Runner" "calculator" "LPascalDesk$Calculator;" ∈ pd_TT := pd_mem 263 (by decide +kernel) (by decide +kernel)
theorem pd_w265 : Cond.laysFinal "PascalDesk$Runner" "PascalDesk$Runner" "tape" "LPascalDesk$Tape;" ∈ pd_TT := pd_mem 265 (by decide +kernel) (by decide +kernel)
theorem pd_w267 : Cond.laysFinal "PascalDesk$Runner" "PascalDesk$Runner" "semaphores" "[I" ∈ pd_TT := pd_mem 267 (by decide +kernel) (by decide +kernel)
theorem pd_w269 : Cond.laysFinal "PascalDesk$Runner" "PascalDesk$Runner" "written" "[D" ∈ pd_TT := pd_mem 269 (by decide +kernel) (by decide +kernel)
theorem pd_w271 : Cond.lays "PascalDesk$Runner" "PascalDesk$Runner" "writings" "I" ∈ pd_TT := pd_mem 271 (by decide +kernel) (by decide +kernel)
theorem pd_w273 : Cond.lays "PascalDesk$Runner" "PascalDesk$Runner" "steps" "I" ∈ pd_TT := pd_mem 273 (by decide +kernel) (by decide +kernel)
theorem pd_w275 : Cond.lays "PascalDesk$Runner" "PascalDesk$Runner" "born" "I" ∈ pd_TT := pd_mem 275 (by decide +kernel) (by decide +kernel)
theorem pd_w277 : Cond.lays "PascalDesk$Runner" "PascalDesk$Runner" "most" "I" ∈ pd_TT := pd_mem 277 (by decide +kernel) (by decide +kernel)
theorem pd_w279 : Cond.lays "PascalDesk$Runner" "PascalDesk$Runner" "waits" "I" ∈ pd_TT := pd_mem 279 (by decide +kernel) (by decide +kernel)
theorem pd_w281 : Cond.laysFinal "PascalDesk$Runner" "PascalDesk$Runner" "processes" "[LPascalDesk$Strand;" ∈ pd_TT := pd_mem 281 (by decide +kernel) (by decide +kernel)
theorem pd_w283 : Cond.lays "PascalDesk$Runner" "PascalDesk$Runner" "living" "I" ∈ pd_TT := pd_mem 283 (by decide +kernel) (by decide +kernel)
theorem pd_w286 : Cond.fieldLink "PascalDesk" 10 "PascalDesk" "reader" "LPascalDesk$Reader;" ∈ pd_TT := pd_mem 286 (by decide +kernel) (by decide +kernel)
theorem pd_w287 : Cond.fieldLink "PascalDesk" 19 "PascalDesk" "runner" "LPascalDesk$Runner;" ∈ pd_TT := pd_mem 287 (by decide +kernel) (by decide +kernel)
theorem pd_w288 : Cond.fieldLink "PascalDesk" 23 "PascalDesk" "place" "I" ∈ pd_TT := pd_mem 288 (by decide +kernel) (by decide +kernel)
theorem pd_w289 : Cond.laysFinal "PascalDesk" "PascalDesk" "reader" "LPascalDesk$Reader;" ∈ pd_TT := pd_mem 289 (by decide +kernel) (by decide +kernel)
theorem pd_w291 : Cond.laysFinal "PascalDesk" "PascalDesk" "runner" "LPascalDesk$Runner;" ∈ pd_TT := pd_mem 291 (by decide +kernel) (by decide +kernel)
theorem pd_w293 : Cond.lays "PascalDesk" "PascalDesk" "place" "I" ∈ pd_TT := pd_mem 293 (by decide +kernel) (by decide +kernel)
theorem pd_w296 : Cond.methodLink "PascalDeskLaw" 87 pd_y1 ∈ pd_TT := pd_mem 296 (by decide +kernel) (by decide +kernel)
theorem pd_w297 : Cond.instanceMethod pd_y1 ∈ pd_TT := pd_mem 297 (by decide +kernel) (by decide +kernel)
theorem pd_w298 : Cond.selects "PascalDesk" pd_y1 pd_y1 ∈ pd_TT := pd_mem 298 (by decide +kernel) (by decide +kernel)
theorem pd_w299 : Cond.code pd_y1 prog_1_method_9_code 2 (some .int) ∈ pd_TT := pd_mem 299 (by decide +kernel) (by decide +kernel)
theorem pd_w300 : Cond.methodLink "PascalDesk" 144 pd_y48 ∈ pd_TT := pd_mem 300 (by decide +kernel) (by decide +kernel)
theorem pd_w301 : Cond.instanceMethod pd_y48 ∈ pd_TT := pd_mem 301 (by decide +kernel) (by decide +kernel)
theorem pd_w302 : Cond.selects "PascalDesk$Runner" pd_y48 pd_y48 ∈ pd_TT := pd_mem 302 (by decide +kernel) (by decide +kernel)
theorem pd_w303 : Cond.code pd_y48 prog_6_method_3_code 3 (some .int) ∈ pd_TT := pd_mem 303 (by decide +kernel) (by decide +kernel)
theorem pd_w304 : Cond.methodLink "PascalDeskLaw" 52 pd_y128 ∈ pd_TT := pd_mem 304 (by decide +kernel) (by decide +kernel)
theorem pd_w305 : Cond.static pd_y128 ∈ pd_TT := pd_mem 305 (by decide +kernel) (by decide +kernel)
theorem pd_w306 : Cond.codeWith pd_y128 method_3_code 5 (some .int) [(0, 9, 12, 13), (0, 9, 16, 15)] ∈ pd_TT := pd_mem 306 (by decide +kernel) (by decide +kernel)
theorem pd_w307 : Cond.classLink "PascalDeskLaw" 13 "java/lang/IllegalArgumentException" ∈ pd_TT := pd_mem 307 (by decide +kernel) (by decide +kernel)
theorem pd_w308 : Cond.classLink "PascalDeskLaw" 15 "java/lang/IllegalStateException" ∈ pd_TT := pd_mem 308 (by decide +kernel) (by decide +kernel)
theorem pd_w309 : Cond.methodLink "PascalDeskLaw" 7 pd_y2 ∈ pd_TT := pd_mem 309 (by decide +kernel) (by decide +kernel)
theorem pd_w310 : Cond.instanceMethod pd_y2 ∈ pd_TT := pd_mem 310 (by decide +kernel) (by decide +kernel)
theorem pd_w311 : Cond.selects "PascalDesk" pd_y2 pd_y2 ∈ pd_TT := pd_mem 311 (by decide +kernel) (by decide +kernel)
theorem pd_w312 : Cond.code pd_y2 prog_1_method_2_code 6 (some .int) ∈ pd_TT := pd_mem 312 (by decide +kernel) (by decide +kernel)
theorem pd_w313 : Cond.methodLink "PascalDesk" 27 pd_y3 ∈ pd_TT := pd_mem 313 (by decide +kernel) (by decide +kernel)
theorem pd_w314 : Cond.static pd_y3 ∈ pd_TT := pd_mem 314 (by decide +kernel) (by decide +kernel)
theorem pd_w315 : Cond.code pd_y3 prog_1_method_10_code 3 (some .int) ∈ pd_TT := pd_mem 315 (by decide +kernel) (by decide +kernel)
theorem pd_w316 : Cond.classLink "PascalDesk" 31 "java/lang/IllegalArgumentException" ∈ pd_TT := pd_mem 316 (by decide +kernel) (by decide +kernel)
theorem pd_w317 : Cond.instantiable "java/lang/IllegalArgumentException" 6 ∈ pd_TT := pd_mem 317 (by decide +kernel) (by decide +kernel)
theorem pd_w318 : Cond.castable "java/lang/IllegalArgumentException" "java/lang/IllegalArgumentException" ∈ pd_TT := pd_mem 318 (by decide +kernel) (by decide +kernel)
theorem pd_w360 : Cond.methodLink "PascalDesk" 35 ⟨"java/lang/IllegalArgumentException", "<init>", "(Ljava/lang/String;)V"⟩ ∈ pd_TT := pd_mem 360 (by decide +kernel) (by decide +kernel)
theorem pd_w386 : Cond.methodLink "PascalDesk" 38 pd_y20 ∈ pd_TT := pd_mem 386 (by decide +kernel) (by decide +kernel)
end
section
/-! words of the tables (printed) -/
theorem pd_w387 : Cond.instanceMethod pd_y20 ∈ pd_TT := pd_mem 387 (by decide +kernel) (by decide +kernel)
theorem pd_w388 : Cond.selects "PascalDesk$Reader" pd_y20 pd_y20 ∈ pd_TT := pd_mem 388 (by decide +kernel) (by decide +kernel)
theorem pd_w389 : Cond.code pd_y20 prog_5_method_2_code 1 (some .int) ∈ pd_TT := pd_mem 389 (by decide +kernel) (by decide +kernel)
theorem pd_w390 : Cond.classLink "PascalDesk" 42 "java/lang/IllegalStateException" ∈ pd_TT := pd_mem 390 (by decide +kernel) (by decide +kernel)
theorem pd_w391 : Cond.instantiable "java/lang/IllegalStateException" 6 ∈ pd_TT := pd_mem 391 (by decide +kernel) (by decide +kernel)
theorem pd_w392 : Cond.castable "java/lang/IllegalStateException" "java/lang/IllegalStateException" ∈ pd_TT := pd_mem 392 (by decide +kernel) (by decide +kernel)
theorem pd_w400 : Cond.methodLink "PascalDesk" 46 ⟨"java/lang/IllegalStateException", "<init>", "(Ljava/lang/String;)V"⟩ ∈ pd_TT := pd_mem 400 (by decide +kernel) (by decide +kernel)
theorem pd_w406 : Cond.methodLink "PascalDesk" 47 pd_y21 ∈ pd_TT := pd_mem 406 (by decide +kernel) (by decide +kernel)
theorem pd_w407 : Cond.instanceMethod pd_y21 ∈ pd_TT := pd_mem 407 (by decide +kernel) (by decide +kernel)
theorem pd_w408 : Cond.selects "PascalDesk$Reader" pd_y21 pd_y21 ∈ pd_TT := pd_mem 408 (by decide +kernel) (by decide +kernel)
theorem pd_w409 : Cond.code pd_y21 prog_5_method_3_code 2 none ∈ pd_TT := pd_mem 409 (by decide +kernel) (by decide +kernel)
theorem pd_w410 : Cond.methodLink "PascalDeskLaw" 62 pd_y129 ∈ pd_TT := pd_mem 410 (by decide +kernel) (by decide +kernel)
theorem pd_w411 : Cond.static pd_y129 ∈ pd_TT := pd_mem 411 (by decide +kernel) (by decide +kernel)
theorem pd_w412 : Cond.codeWith pd_y129 method_4_code 4 (some .int) [(0, 9, 12, 13)] ∈ pd_TT := pd_mem 412 (by decide +kernel) (by decide +kernel)
theorem pd_w413 : Cond.methodLink "PascalDeskLaw" 17 pd_y4 ∈ pd_TT := pd_mem 413 (by decide +kernel) (by decide +kernel)
theorem pd_w414 : Cond.instanceMethod pd_y4 ∈ pd_TT := pd_mem 414 (by decide +kernel) (by decide +kernel)
theorem pd_w415 : Cond.selects "PascalDesk" pd_y4 pd_y4 ∈ pd_TT := pd_mem 415 (by decide +kernel) (by decide +kernel)
theorem pd_w416 : Cond.code pd_y4 prog_1_method_3_code 3 (some .int) ∈ pd_TT := pd_mem 416 (by decide +kernel) (by decide +kernel)
theorem pd_w417 : Cond.methodLink "PascalDesk" 54 pd_y5 ∈ pd_TT := pd_mem 417 (by decide +kernel) (by decide +kernel)
theorem pd_w418 : Cond.static pd_y5 ∈ pd_TT := pd_mem 418 (by decide +kernel) (by decide +kernel)
theorem pd_w419 : Cond.code pd_y5 prog_1_method_11_code 1 (some .boolean) ∈ pd_TT := pd_mem 419 (by decide +kernel) (by decide +kernel)
theorem pd_w421 : Cond.methodLink "PascalDesk" 60 pd_y22 ∈ pd_TT := pd_mem 421 (by decide +kernel) (by decide +kernel)
theorem pd_w422 : Cond.instanceMethod pd_y22 ∈ pd_TT := pd_mem 422 (by decide +kernel) (by decide +kernel)
theorem pd_w423 : Cond.selects "PascalDesk$Reader" pd_y22 pd_y22 ∈ pd_TT := pd_mem 423 (by decide +kernel) (by decide +kernel)
theorem pd_w424 : Cond.code pd_y22 prog_5_method_4_code 2 (some .int) ∈ pd_TT := pd_mem 424 (by decide +kernel) (by decide +kernel)
theorem pd_w425 : Cond.methodLink "PascalDesk$Reader" 24 pd_y13 ∈ pd_TT := pd_mem 425 (by decide +kernel) (by decide +kernel)
theorem pd_w426 : Cond.instanceMethod pd_y13 ∈ pd_TT := pd_mem 426 (by decide +kernel) (by decide +kernel)
theorem pd_w427 : Cond.selects "PascalDesk$Code" pd_y13 pd_y13 ∈ pd_TT := pd_mem 427 (by decide +kernel) (by decide +kernel)
theorem pd_w428 : Cond.code pd_y13 prog_3_method_2_code 1 none ∈ pd_TT := pd_mem 428 (by decide +kernel) (by decide +kernel)
theorem pd_w429 : Cond.methodLink "PascalDesk$Reader" 37 pd_y23 ∈ pd_TT := pd_mem 429 (by decide +kernel) (by decide +kernel)
theorem pd_w431 : Cond.instanceMethod pd_y23 ∈ pd_TT := pd_mem 431 (by decide +kernel) (by decide +kernel)
theorem pd_w432 : Cond.code pd_y23 prog_5_method_11_code 3 none ∈ pd_TT := pd_mem 432 (by decide +kernel) (by decide +kernel)
theorem pd_w433 : Cond.methodLink "PascalDesk$Reader" 61 pd_y24 ∈ pd_TT := pd_mem 433 (by decide +kernel) (by decide +kernel)
theorem pd_w435 : Cond.instanceMethod pd_y24 ∈ pd_TT := pd_mem 435 (by decide +kernel) (by decide +kernel)
theorem pd_w436 : Cond.code pd_y24 prog_5_method_12_code 3 none ∈ pd_TT := pd_mem 436 (by decide +kernel) (by decide +kernel)
theorem pd_w437 : Cond.methodLink "PascalDesk$Reader" 50 pd_y25 ∈ pd_TT := pd_mem 437 (by decide +kernel) (by decide +kernel)
theorem pd_w439 : Cond.instanceMethod pd_y25 ∈ pd_TT := pd_mem 439 (by decide +kernel) (by decide +kernel)
theorem pd_w440 : Cond.code pd_y25 prog_5_method_5_code 1 (some .char) ∈ pd_TT := pd_mem 440 (by decide +kernel) (by decide +kernel)
theorem pd_w441 : Cond.methodLink "PascalDesk$Reader" 64 pd_y26 ∈ pd_TT := pd_mem 441 (by decide +kernel) (by decide +kernel)
theorem pd_w442 : Cond.static pd_y26 ∈ pd_TT := pd_mem 442 (by decide +kernel) (by decide +kernel)
theorem pd_w443 : Cond.code pd_y26 prog_5_method_28_code 1 (some .int) ∈ pd_TT := pd_mem 443 (by decide +kernel) (by decide +kernel)
theorem pd_w444 : Cond.methodLink "PascalDesk$Reader" 71 pd_y27 ∈ pd_TT := pd_mem 444 (by decide +kernel) (by decide +kernel)
theorem pd_w446 : Cond.instanceMethod pd_y27 ∈ pd_TT := pd_mem 446 (by decide +kernel) (by decide +kernel)
theorem pd_w447 : Cond.code pd_y27 prog_5_method_13_code 4 none ∈ pd_TT := pd_mem 447 (by decide +kernel) (by decide +kernel)
theorem pd_w448 : Cond.methodLink "PascalDesk$Reader" 58 pd_y28 ∈ pd_TT := pd_mem 448 (by decide +kernel) (by decide +kernel)
theorem pd_w450 : Cond.instanceMethod pd_y28 ∈ pd_TT := pd_mem 450 (by decide +kernel) (by decide +kernel)
theorem pd_w451 : Cond.code pd_y28 prog_5_method_7_code 2 (some .boolean) ∈ pd_TT := pd_mem 451 (by decide +kernel) (by decide +kernel)
theorem pd_w452 : Cond.methodLink "PascalDesk$Reader" 54 pd_y29 ∈ pd_TT := pd_mem 452 (by decide +kernel) (by decide +kernel)
theorem pd_w454 : Cond.instanceMethod pd_y29 ∈ pd_TT := pd_mem 454 (by decide +kernel) (by decide +kernel)
theorem pd_w455 : Cond.code pd_y29 prog_5_method_6_code 2 (some .boolean) ∈ pd_TT := pd_mem 455 (by decide +kernel) (by decide +kernel)
theorem pd_w456 : Cond.methodLink "PascalDesk$Reader" 84 pd_y30 ∈ pd_TT := pd_mem 456 (by decide +kernel) (by decide +kernel)
theorem pd_w458 : Cond.instanceMethod pd_y30 ∈ pd_TT := pd_mem 458 (by decide +kernel) (by decide +kernel)
theorem pd_w459 : Cond.code pd_y30 prog_5_method_19_code 3 (some .boolean) ∈ pd_TT := pd_mem 459 (by decide +kernel) (by decide +kernel)
theorem pd_w460 : Cond.methodLink "PascalDesk$Reader" 120 pd_y31 ∈ pd_TT := pd_mem 460 (by decide +kernel) (by decide +kernel)
theorem pd_w462 : Cond.instanceMethod pd_y31 ∈ pd_TT := pd_mem 462 (by decide +kernel) (by decide +kernel)
theorem pd_w463 : Cond.code pd_y31 prog_5_method_20_code 4 (some .boolean) ∈ pd_TT := pd_mem 463 (by decide +kernel) (by decide +kernel)
theorem pd_w464 : Cond.methodLink "PascalDesk$Reader" 123 pd_y32 ∈ pd_TT := pd_mem 464 (by decide +kernel) (by decide +kernel)
theorem pd_w466 : Cond.instanceMethod pd_y32 ∈ pd_TT := pd_mem 466 (by decide +kernel) (by decide +kernel)
theorem pd_w467 : Cond.code pd_y32 prog_5_method_21_code 4 (some .boolean) ∈ pd_TT := pd_mem 467 (by decide +kernel) (by decide +kernel)
theorem pd_w468 : Cond.methodLink "PascalDesk$Reader" 126 pd_y33 ∈ pd_TT := pd_mem 468 (by decide +kernel) (by decide +kernel)
theorem pd_w470 : Cond.instanceMethod pd_y33 ∈ pd_TT := pd_mem 470 (by decide +kernel) (by decide +kernel)
theorem pd_w471 : Cond.code pd_y33 prog_5_method_22_code 4 (some .boolean) ∈ pd_TT := pd_mem 471 (by decide +kernel) (by decide +kernel)
theorem pd_w472 : Cond.methodLink "PascalDesk$Reader" 43 pd_y14 ∈ pd_TT := pd_mem 472 (by decide +kernel) (by decide +kernel)
theorem pd_w473 : Cond.instanceMethod pd_y14 ∈ pd_TT := pd_mem 473 (by decide +kernel) (by decide +kernel)
theorem pd_w474 : Cond.selects "PascalDesk$Code" pd_y14 pd_y14 ∈ pd_TT := pd_mem 474 (by decide +kernel) (by decide +kernel)
theorem pd_w475 : Cond.code pd_y14 prog_3_method_4_code 4 (some .int) ∈ pd_TT := pd_mem 475 (by decide +kernel) (by decide +kernel)
theorem pd_w476 : Cond.methodLink "PascalDesk$Reader" 94 pd_y67 ∈ pd_TT := pd_mem 476 (by decide +kernel) (by decide +kernel)
theorem pd_w477 : Cond.static pd_y67 ∈ pd_TT := pd_mem 477 (by decide +kernel) (by decide +kernel)
theorem pd_w478 : Cond.code pd_y67 prog_2_method_3_code 1 (some .boolean) ∈ pd_TT := pd_mem 478 (by decide +kernel) (by decide +kernel)
theorem pd_w479 : Cond.methodLink "PascalDesk$Reader" 129 pd_y34 ∈ pd_TT := pd_mem 479 (by decide +kernel) (by decide +kernel)
theorem pd_w480 : Cond.static pd_y34 ∈ pd_TT := pd_mem 480 (by decide +kernel) (by decide +kernel)
theorem pd_w481 : Cond.code pd_y34 prog_5_method_27_code 1 (some .boolean) ∈ pd_TT := pd_mem 481 (by decide +kernel) (by decide +kernel)
theorem pd_w482 : Cond.methodLink "PascalDesk$Reader" 132 pd_y35 ∈ pd_TT := pd_mem 482 (by decide +kernel) (by decide +kernel)
theorem pd_w484 : Cond.instanceMethod pd_y35 ∈ pd_TT := pd_mem 484 (by decide +kernel) (by decide +kernel)
theorem pd_w485 : Cond.code pd_y35 prog_5_method_23_code 3 none ∈ pd_TT := pd_mem 485 (by decide +kernel) (by decide +kernel)
theorem pd_w486 : Cond.methodLink "PascalDesk$Reader" 88 pd_y36 ∈ pd_TT := pd_mem 486 (by decide +kernel) (by decide +kernel)
theorem pd_w488 : Cond.instanceMethod pd_y36 ∈ pd_TT := pd_mem 488 (by decide +kernel) (by decide +kernel)
theorem pd_w489 : Cond.code pd_y36 prog_5_method_9_code 3 (some .int) ∈ pd_TT := pd_mem 489 (by decide +kernel) (by decide +kernel)
theorem pd_w490 : Cond.methodLink "PascalDesk$Reader" 103 pd_y37 ∈ pd_TT := pd_mem 490 (by decide +kernel) (by decide +kernel)
theorem pd_w492 : Cond.instanceMethod pd_y37 ∈ pd_TT := pd_mem 492 (by decide +kernel) (by decide +kernel)
theorem pd_w493 : Cond.code pd_y37 prog_5_method_24_code 2 none ∈ pd_TT := pd_mem 493 (by decide +kernel) (by decide +kernel)
theorem pd_w494 : Cond.methodLink "PascalDesk$Reader" 116 pd_y38 ∈ pd_TT := pd_mem 494 (by decide +kernel) (by decide +kernel)
theorem pd_w496 : Cond.instanceMethod pd_y38 ∈ pd_TT := pd_mem 496 (by decide +kernel) (by decide +kernel)
theorem pd_w497 : Cond.code pd_y38 prog_5_method_8_code 3 (some .boolean) ∈ pd_TT := pd_mem 497 (by decide +kernel) (by decide +kernel)
theorem pd_w498 : Cond.methodLink "PascalDesk$Reader" 99 pd_y39 ∈ pd_TT := pd_mem 498 (by decide +kernel) (by decide +kernel)
theorem pd_w500 : Cond.instanceMethod pd_y39 ∈ pd_TT := pd_mem 500 (by decide +kernel) (by decide +kernel)
theorem pd_w501 : Cond.code pd_y39 prog_5_method_10_code 2 none ∈ pd_TT := pd_mem 501 (by decide +kernel) (by decide +kernel)
theorem pd_w502 : Cond.methodLink "PascalDesk$Reader" 135 pd_y40 ∈ pd_TT := pd_mem 502 (by decide +kernel) (by decide +kernel)
theorem pd_w504 : Cond.instanceMethod pd_y40 ∈ pd_TT := pd_mem 504 (by decide +kernel) (by decide +kernel)
theorem pd_w505 : Cond.code pd_y40 prog_5_method_25_code 3 (some .boolean) ∈ pd_TT := pd_mem 505 (by decide +kernel) (by decide +kernel)
theorem pd_w506 : Cond.methodLink "PascalDesk$Reader" 138 pd_y41 ∈ pd_TT := pd_mem 506 (by decide +kernel) (by decide +kernel)
theorem pd_w508 : Cond.instanceMethod pd_y41 ∈ pd_TT := pd_mem 508 (by decide +kernel) (by decide +kernel)
theorem pd_w509 : Cond.code pd_y41 prog_5_method_26_code 2 none ∈ pd_TT := pd_mem 509 (by decide +kernel) (by decide +kernel)
theorem pd_w510 : Cond.methodLink "PascalDesk$Reader" 75 pd_y42 ∈ pd_TT := pd_mem 510 (by decide +kernel) (by decide +kernel)
theorem pd_w512 : Cond.instanceMethod pd_y42 ∈ pd_TT := pd_mem 512 (by decide +kernel) (by decide +kernel)
theorem pd_w513 : Cond.code pd_y42 prog_5_method_14_code 2 none ∈ pd_TT := pd_mem 513 (by decide +kernel) (by decide +kernel)
theorem pd_w514 : Cond.methodLink "PascalDesk$Reader" 78 pd_y43 ∈ pd_TT := pd_mem 514 (by decide +kernel) (by decide +kernel)
theorem pd_w516 : Cond.instanceMethod pd_y43 ∈ pd_TT := pd_mem 516 (by decide +kernel) (by decide +kernel)
theorem pd_w517 : Cond.code pd_y43 prog_5_method_15_code 3 none ∈ pd_TT := pd_mem 517 (by decide +kernel) (by decide +kernel)
theorem pd_w518 : Cond.methodLink "PascalDesk$Reader" 106 pd_y44 ∈ pd_TT := pd_mem 518 (by decide +kernel) (by decide +kernel)
theorem pd_w520 : Cond.instanceMethod pd_y44 ∈ pd_TT := pd_mem 520 (by decide +kernel) (by decide +kernel)
theorem pd_w521 : Cond.code pd_y44 prog_5_method_17_code 2 none ∈ pd_TT := pd_mem 521 (by decide +kernel) (by decide +kernel)
theorem pd_w522 : Cond.methodLink "PascalDesk$Reader" 109 pd_y15 ∈ pd_TT := pd_mem 522 (by decide +kernel) (by decide +kernel)
theorem pd_w523 : Cond.instanceMethod pd_y15 ∈ pd_TT := pd_mem 523 (by decide +kernel) (by decide +kernel)
theorem pd_w524 : Cond.selects "PascalDesk$Code" pd_y15 pd_y15 ∈ pd_TT := pd_mem 524 (by decide +kernel) (by decide +kernel)
theorem pd_w525 : Cond.code pd_y15 prog_3_method_5_code 2 none ∈ pd_TT := pd_mem 525 (by decide +kernel) (by decide +kernel)
theorem pd_w526 : Cond.methodLink "PascalDesk$Reader" 81 pd_y45 ∈ pd_TT := pd_mem 526 (by decide +kernel) (by decide +kernel)
theorem pd_w528 : Cond.instanceMethod pd_y45 ∈ pd_TT := pd_mem 528 (by decide +kernel) (by decide +kernel)
theorem pd_w529 : Cond.code pd_y45 prog_5_method_16_code 4 none ∈ pd_TT := pd_mem 529 (by decide +kernel) (by decide +kernel)
theorem pd_w530 : Cond.methodLink "PascalDesk$Reader" 112 pd_y16 ∈ pd_TT := pd_mem 530 (by decide +kernel) (by decide +kernel)
theorem pd_w531 : Cond.instanceMethod pd_y16 ∈ pd_TT := pd_mem 531 (by decide +kernel) (by decide +kernel)
theorem pd_w532 : Cond.selects "PascalDesk$Code" pd_y16 pd_y16 ∈ pd_TT := pd_mem 532 (by decide +kernel) (by decide +kernel)
theorem pd_w533 : Cond.code pd_y16 prog_3_method_3_code 1 (some .int) ∈ pd_TT := pd_mem 533 (by decide +kernel) (by decide +kernel)
theorem pd_w534 : Cond.methodLink "PascalDesk$Reader" 91 pd_y46 ∈ pd_TT := pd_mem 534 (by decide +kernel) (by decide +kernel)
theorem pd_w536 : Cond.instanceMethod pd_y46 ∈ pd_TT := pd_mem 536 (by decide +kernel) (by decide +kernel)
theorem pd_w537 : Cond.code pd_y46 prog_5_method_18_code 4 none ∈ pd_TT := pd_mem 537 (by decide +kernel) (by decide +kernel)
theorem pd_w539 : Cond.methodLink "PascalDesk" 69 pd_y49 ∈ pd_TT := pd_mem 539 (by decide +kernel) (by decide +kernel)
theorem pd_w540 : Cond.instanceMethod pd_y49 ∈ pd_TT := pd_mem 540 (by decide +kernel) (by decide +kernel)
theorem pd_w541 : Cond.selects "PascalDesk$Runner" pd_y49 pd_y49 ∈ pd_TT := pd_mem 541 (by decide +kernel) (by decide +kernel)
theorem pd_w542 : Cond.code pd_y49 prog_6_method_2_code 4 (some (.object "PascalDesk$Code")) ∈ pd_TT := pd_mem 542 (by decide +kernel) (by decide +kernel)
theorem pd_w543 : Cond.methodLink "PascalDeskLaw" 66 pd_y130 ∈ pd_TT := pd_mem 543 (by decide +kernel) (by decide +kernel)
theorem pd_w544 : Cond.static pd_y130 ∈ pd_TT := pd_mem 544 (by decide +kernel) (by decide +kernel)
theorem pd_w545 : Cond.codeWith pd_y130 method_5_code 5 (some .int) [(0, 6, 9, 13)] ∈ pd_TT := pd_mem 545 (by decide +kernel) (by decide +kernel)
theorem pd_w546 : Cond.methodLink "PascalDeskLaw" 21 pd_y6 ∈ pd_TT := pd_mem 546 (by decide +kernel) (by decide +kernel)
theorem pd_w547 : Cond.instanceMethod pd_y6 ∈ pd_TT := pd_mem 547 (by decide +kernel) (by decide +kernel)
theorem pd_w548 : Cond.selects "PascalDesk" pd_y6 pd_y6 ∈ pd_TT := pd_mem 548 (by decide +kernel) (by decide +kernel)
theorem pd_w549 : Cond.code pd_y6 prog_1_method_4_code 4 none ∈ pd_TT := pd_mem 549 (by decide +kernel) (by decide +kernel)
theorem pd_w551 : Cond.methodLink "PascalDesk" 88 pd_y82 ∈ pd_TT := pd_mem 551 (by decide +kernel) (by decide +kernel)
theorem pd_w552 : Cond.instanceMethod pd_y82 ∈ pd_TT := pd_mem 552 (by decide +kernel) (by decide +kernel)
theorem pd_w553 : Cond.selects "PascalDesk$Tape" pd_y82 pd_y82 ∈ pd_TT := pd_mem 553 (by decide +kernel) (by decide +kernel)
theorem pd_w554 : Cond.code pd_y82 prog_8_method_2_code 5 none ∈ pd_TT := pd_mem 554 (by decide +kernel) (by decide +kernel)
theorem pd_w555 : Cond.methodLink "PascalDeskLaw" 70 pd_y131 ∈ pd_TT := pd_mem 555 (by decide +kernel) (by decide +kernel)
theorem pd_w556 : Cond.static pd_y131 ∈ pd_TT := pd_mem 556 (by decide +kernel) (by decide +kernel)
theorem pd_w557 : Cond.codeWith pd_y131 method_6_code 6 (some .int) [(0, 12, 15, 13), (0, 12, 19, 29), (0, 12, 23, 15), (0, 12, 27, 31), (0, 12, 31, 33)] ∈ pd_TT := pd_mem 557 (by decide +kernel) (by decide +kernel)
theorem pd_w558 : Cond.classLink "PascalDeskLaw" 29 "java/util/NoSuchElementException" ∈ pd_TT := pd_mem 558 (by decide +kernel) (by decide +kernel)
theorem pd_w559 : Cond.classLink "PascalDeskLaw" 31 "java/lang/ArithmeticException" ∈ pd_TT := pd_mem 559 (by decide +kernel) (by decide +kernel)
theorem pd_w560 : Cond.classLink "PascalDeskLaw" 33 "java/lang/IndexOutOfBoundsException" ∈ pd_TT := pd_mem 560 (by decide +kernel) (by decide +kernel)
theorem pd_w561 : Cond.methodLink "PascalDeskLaw" 25 pd_y7 ∈ pd_TT := pd_mem 561 (by decide +kernel) (by decide +kernel)
theorem pd_w562 : Cond.instanceMethod pd_y7 ∈ pd_TT := pd_mem 562 (by decide +kernel) (by decide +kernel)
theorem pd_w563 : Cond.selects "PascalDesk" pd_y7 pd_y7 ∈ pd_TT := pd_mem 563 (by decide +kernel) (by decide +kernel)
theorem pd_w564 : Cond.code pd_y7 prog_1_method_5_code 4 (some .int) ∈ pd_TT := pd_mem 564 (by decide +kernel) (by decide +kernel)
theorem pd_w565 : Cond.methodLink "PascalDesk" 94 pd_y8 ∈ pd_TT := pd_mem 565 (by decide +kernel) (by decide +kernel)
theorem pd_w566 : Cond.static pd_y8 ∈ pd_TT := pd_mem 566 (by decide +kernel) (by decide +kernel)
theorem pd_w567 : Cond.code pd_y8 prog_1_method_12_code 1 (some .boolean) ∈ pd_TT := pd_mem 567 (by decide +kernel) (by decide +kernel)
theorem pd_w569 : Cond.classLink "PascalDesk" 103 "java/util/NoSuchElementException" ∈ pd_TT := pd_mem 569 (by decide +kernel) (by decide +kernel)
theorem pd_w570 : Cond.instantiable "java/util/NoSuchElementException" 6 ∈ pd_TT := pd_mem 570 (by decide +kernel) (by decide +kernel)
theorem pd_w571 : Cond.castable "java/util/NoSuchElementException" "java/util/NoSuchElementException" ∈ pd_TT := pd_mem 571 (by decide +kernel) (by decide +kernel)
theorem pd_w579 : Cond.methodLink "PascalDesk" 107 ⟨"java/util/NoSuchElementException", "<init>", "(Ljava/lang/String;)V"⟩ ∈ pd_TT := pd_mem 579 (by decide +kernel) (by decide +kernel)
theorem pd_w585 : Cond.methodLink "PascalDesk" 108 pd_y50 ∈ pd_TT := pd_mem 585 (by decide +kernel) (by decide +kernel)
theorem pd_w586 : Cond.instanceMethod pd_y50 ∈ pd_TT := pd_mem 586 (by decide +kernel) (by decide +kernel)
theorem pd_w587 : Cond.selects "PascalDesk$Runner" pd_y50 pd_y50 ∈ pd_TT := pd_mem 587 (by decide +kernel) (by decide +kernel)
theorem pd_w588 : Cond.code pd_y50 prog_6_method_4_code 5 (some .int) ∈ pd_TT := pd_mem 588 (by decide +kernel) (by decide +kernel)
theorem pd_w589 : Cond.methodLink "PascalDesk$Runner" 51 pd_y51 ∈ pd_TT := pd_mem 589 (by decide +kernel) (by decide +kernel)
theorem pd_w591 : Cond.instanceMethod pd_y51 ∈ pd_TT := pd_mem 591 (by decide +kernel) (by decide +kernel)
theorem pd_w592 : Cond.code pd_y51 prog_6_method_5_code 5 none ∈ pd_TT := pd_mem 592 (by decide +kernel) (by decide +kernel)
theorem pd_w593 : Cond.methodLink "PascalDesk$Runner" 86 pd_y83 ∈ pd_TT := pd_mem 593 (by decide +kernel) (by decide +kernel)
theorem pd_w594 : Cond.instanceMethod pd_y83 ∈ pd_TT := pd_mem 594 (by decide +kernel) (by decide +kernel)
theorem pd_w595 : Cond.selects "PascalDesk$Tape" pd_y83 pd_y83 ∈ pd_TT := pd_mem 595 (by decide +kernel) (by decide +kernel)
theorem pd_w596 : Cond.code pd_y83 prog_8_method_3_code 1 none ∈ pd_TT := pd_mem 596 (by decide +kernel) (by decide +kernel)
theorem pd_w597 : Cond.methodLink "PascalDesk$Runner" 92 pd_y86 ∈ pd_TT := pd_mem 597 (by decide +kernel) (by decide +kernel)
theorem pd_w598 : Cond.instanceMethod pd_y86 ∈ pd_TT := pd_mem 598 (by decide +kernel) (by decide +kernel)
theorem pd_w599 : Cond.selects "PascalDesk$Strand" pd_y86 pd_y86 ∈ pd_TT := pd_mem 599 (by decide +kernel) (by decide +kernel)
theorem pd_w600 : Cond.code pd_y86 prog_7_method_2_code 2 none ∈ pd_TT := pd_mem 600 (by decide +kernel) (by decide +kernel)
theorem pd_w601 : Cond.methodLink "PascalDesk$Strand" 16 pd_y87 ∈ pd_TT := pd_mem 601 (by decide +kernel) (by decide +kernel)
theorem pd_w603 : Cond.instanceMethod pd_y87 ∈ pd_TT := pd_mem 603 (by decide +kernel) (by decide +kernel)
theorem pd_w604 : Cond.code pd_y87 prog_7_method_4_code 5 none ∈ pd_TT := pd_mem 604 (by decide +kernel) (by decide +kernel)
theorem pd_w605 : Cond.methodLink "PascalDesk$Runner" 59 pd_y52 ∈ pd_TT := pd_mem 605 (by decide +kernel) (by decide +kernel)
theorem pd_w607 : Cond.instanceMethod pd_y52 ∈ pd_TT := pd_mem 607 (by decide +kernel) (by decide +kernel)
theorem pd_w608 : Cond.code pd_y52 prog_6_method_6_code 5 (some .int) ∈ pd_TT := pd_mem 608 (by decide +kernel) (by decide +kernel)
theorem pd_w609 : Cond.classLink "PascalDesk$Runner" 70 "java/lang/IllegalStateException" ∈ pd_TT := pd_mem 609 (by decide +kernel) (by decide +kernel)
theorem pd_w611 : Cond.methodLink "PascalDesk$Runner" 74 ⟨"java/lang/IllegalStateException", "<init>", "(Ljava/lang/String;)V"⟩ ∈ pd_TT := pd_mem 611 (by decide +kernel) (by decide +kernel)
theorem pd_w612 : Cond.methodLink "PascalDesk$Runner" 103 pd_y84 ∈ pd_TT := pd_mem 612 (by decide +kernel) (by decide +kernel)
theorem pd_w613 : Cond.instanceMethod pd_y84 ∈ pd_TT := pd_mem 613 (by decide +kernel) (by decide +kernel)
theorem pd_w614 : Cond.selects "PascalDesk$Tape" pd_y84 pd_y84 ∈ pd_TT := pd_mem 614 (by decide +kernel) (by decide +kernel)
theorem pd_w615 : Cond.code pd_y84 prog_8_method_4_code 2 (some .int) ∈ pd_TT := pd_mem 615 (by decide +kernel) (by decide +kernel)
theorem pd_w616 : Cond.methodLink "PascalDesk$Runner" 63 pd_y53 ∈ pd_TT := pd_mem 616 (by decide +kernel) (by decide +kernel)
theorem pd_w618 : Cond.instanceMethod pd_y53 ∈ pd_TT := pd_mem 618 (by decide +kernel) (by decide +kernel)
theorem pd_w619 : Cond.code pd_y53 prog_6_method_7_code 7 none ∈ pd_TT := pd_mem 619 (by decide +kernel) (by decide +kernel)
theorem pd_w620 : Cond.methodLink "PascalDesk$Runner" 109 pd_y68 ∈ pd_TT := pd_mem 620 (by decide +kernel) (by decide +kernel)
theorem pd_w621 : Cond.instanceMethod pd_y68 ∈ pd_TT := pd_mem 621 (by decide +kernel) (by decide +kernel)
theorem pd_w622 : Cond.selects "PascalDesk$Calculator" pd_y68 pd_y68 ∈ pd_TT := pd_mem 622 (by decide +kernel) (by decide +kernel)
theorem pd_w623 : Cond.code pd_y68 prog_2_method_4_code 1 none ∈ pd_TT := pd_mem 623 (by decide +kernel) (by decide +kernel)
theorem pd_w624 : Cond.methodLink "PascalDesk$Runner" 115 pd_y17 ∈ pd_TT := pd_mem 624 (by decide +kernel) (by decide +kernel)
theorem pd_w625 : Cond.instanceMethod pd_y17 ∈ pd_TT := pd_mem 625 (by decide +kernel) (by decide +kernel)
theorem pd_w626 : Cond.selects "PascalDesk$Code" pd_y17 pd_y17 ∈ pd_TT := pd_mem 626 (by decide +kernel) (by decide +kernel)
theorem pd_w627 : Cond.code pd_y17 prog_3_method_6_code 2 (some .int) ∈ pd_TT := pd_mem 627 (by decide +kernel) (by decide +kernel)
theorem pd_w628 : Cond.methodLink "PascalDesk$Runner" 119 pd_y18 ∈ pd_TT := pd_mem 628 (by decide +kernel) (by decide +kernel)
theorem pd_w629 : Cond.instanceMethod pd_y18 ∈ pd_TT := pd_mem 629 (by decide +kernel) (by decide +kernel)
theorem pd_w630 : Cond.selects "PascalDesk$Code" pd_y18 pd_y18 ∈ pd_TT := pd_mem 630 (by decide +kernel) (by decide +kernel)
theorem pd_w631 : Cond.code pd_y18 prog_3_method_7_code 2 (some .int) ∈ pd_TT := pd_mem 631 (by decide +kernel) (by decide +kernel)
theorem pd_w632 : Cond.methodLink "PascalDesk$Runner" 124 pd_y54 ∈ pd_TT := pd_mem 632 (by decide +kernel) (by decide +kernel)
theorem pd_w634 : Cond.instanceMethod pd_y54 ∈ pd_TT := pd_mem 634 (by decide +kernel) (by decide +kernel)
theorem pd_w635 : Cond.code pd_y54 prog_6_method_8_code 5 none ∈ pd_TT := pd_mem 635 (by decide +kernel) (by decide +kernel)
theorem pd_w636 : Cond.methodLink "PascalDesk$Runner" 131 pd_y69 ∈ pd_TT := pd_mem 636 (by decide +kernel) (by decide +kernel)
theorem pd_w637 : Cond.instanceMethod pd_y69 ∈ pd_TT := pd_mem 637 (by decide +kernel) (by decide +kernel)
theorem pd_w638 : Cond.selects "PascalDesk$Calculator" pd_y69 pd_y69 ∈ pd_TT := pd_mem 638 (by decide +kernel) (by decide +kernel)
theorem pd_w639 : Cond.code pd_y69 prog_2_method_5_code 1 (some .double) ∈ pd_TT := pd_mem 639 (by decide +kernel) (by decide +kernel)
theorem pd_w640 : Cond.methodLink "PascalDesk$Runner" 135 pd_y70 ∈ pd_TT := pd_mem 640 (by decide +kernel) (by decide +kernel)
theorem pd_w641 : Cond.instanceMethod pd_y70 ∈ pd_TT := pd_mem 641 (by decide +kernel) (by decide +kernel)
theorem pd_w642 : Cond.selects "PascalDesk$Calculator" pd_y70 pd_y70 ∈ pd_TT := pd_mem 642 (by decide +kernel) (by decide +kernel)
theorem pd_w643 : Cond.code pd_y70 prog_2_method_6_code 4 none ∈ pd_TT := pd_mem 643 (by decide +kernel) (by decide +kernel)
theorem pd_w644 : Cond.methodLink "PascalDesk$Calculator" 22 pd_y71 ∈ pd_TT := pd_mem 644 (by decide +kernel) (by decide +kernel)
theorem pd_w645 : Cond.static pd_y71 ∈ pd_TT := pd_mem 645 (by decide +kernel) (by decide +kernel)
theorem pd_w646 : Cond.code pd_y71 prog_2_method_2_code 1 (some .boolean) ∈ pd_TT := pd_mem 646 (by decide +kernel) (by decide +kernel)
theorem pd_w647 : Cond.methodLink "PascalDesk$Runner" 139 pd_y72 ∈ pd_TT := pd_mem 647 (by decide +kernel) (by decide +kernel)
theorem pd_w648 : Cond.instanceMethod pd_y72 ∈ pd_TT := pd_mem 648 (by decide +kernel) (by decide +kernel)
theorem pd_w649 : Cond.selects "PascalDesk$Calculator" pd_y72 pd_y72 ∈ pd_TT := pd_mem 649 (by decide +kernel) (by decide +kernel)
theorem pd_w650 : Cond.code pd_y72 prog_2_method_7_code 3 none ∈ pd_TT := pd_mem 650 (by decide +kernel) (by decide +kernel)
theorem pd_w651 : Cond.methodLink "PascalDesk$Calculator" 26 pd_y69 ∈ pd_TT := pd_mem 651 (by decide +kernel) (by decide +kernel)
theorem pd_w652 : Cond.methodLink "PascalDesk$Calculator" 30 pd_y70 ∈ pd_TT := pd_mem 652 (by decide +kernel) (by decide +kernel)
theorem pd_w653 : Cond.methodLink "PascalDesk$Runner" 142 pd_y55 ∈ pd_TT := pd_mem 653 (by decide +kernel) (by decide +kernel)
theorem pd_w655 : Cond.instanceMethod pd_y55 ∈ pd_TT := pd_mem 655 (by decide +kernel) (by decide +kernel)
theorem pd_w656 : Cond.code pd_y55 prog_6_method_9_code 3 none ∈ pd_TT := pd_mem 656 (by decide +kernel) (by decide +kernel)
theorem pd_w658 : Cond.methodLink "PascalDesk$Runner" 146 pd_y56 ∈ pd_TT := pd_mem 658 (by decide +kernel) (by decide +kernel)
theorem pd_w660 : Cond.instanceMethod pd_y56 ∈ pd_TT := pd_mem 660 (by decide +kernel) (by decide +kernel)
theorem pd_w661 : Cond.code pd_y56 prog_6_method_10_code 3 none ∈ pd_TT := pd_mem 661 (by decide +kernel) (by decide +kernel)
theorem pd_w662 : Cond.methodLink "PascalDesk$Runner" 150 pd_y57 ∈ pd_TT := pd_mem 662 (by decide +kernel) (by decide +kernel)
theorem pd_w664 : Cond.instanceMethod pd_y57 ∈ pd_TT := pd_mem 664 (by decide +kernel) (by decide +kernel)
theorem pd_w665 : Cond.code pd_y57 prog_6_method_11_code 3 none ∈ pd_TT := pd_mem 665 (by decide +kernel) (by decide +kernel)
theorem pd_w666 : Cond.methodLink "PascalDesk$Runner" 167 pd_y58 ∈ pd_TT := pd_mem 666 (by decide +kernel) (by decide +kernel)
theorem pd_w668 : Cond.instanceMethod pd_y58 ∈ pd_TT := pd_mem 668 (by decide +kernel) (by decide +kernel)
theorem pd_w669 : Cond.code pd_y58 prog_6_method_12_code 6 (some .int) ∈ pd_TT := pd_mem 669 (by decide +kernel) (by decide +kernel)
theorem pd_w670 : Cond.methodLink "PascalDesk$Runner" 153 pd_y59 ∈ pd_TT := pd_mem 670 (by decide +kernel) (by decide +kernel)
theorem pd_w672 : Cond.instanceMethod pd_y59 ∈ pd_TT := pd_mem 672 (by decide +kernel) (by decide +kernel)
theorem pd_w673 : Cond.code pd_y59 prog_6_method_13_code 3 none ∈ pd_TT := pd_mem 673 (by decide +kernel) (by decide +kernel)
theorem pd_w674 : Cond.classLink "PascalDesk$Runner" 170 "java/util/NoSuchElementException" ∈ pd_TT := pd_mem 674 (by decide +kernel) (by decide +kernel)
theorem pd_w676 : Cond.methodLink "PascalDesk$Runner" 174 ⟨"java/util/NoSuchElementException", "<init>", "(Ljava/lang/String;)V"⟩ ∈ pd_TT := pd_mem 676 (by decide +kernel) (by decide +kernel)
theorem pd_w677 : Cond.methodLink "PascalDesk$Runner" 175 pd_y88 ∈ pd_TT := pd_mem 677 (by decide +kernel) (by decide +kernel)
theorem pd_w678 : Cond.instanceMethod pd_y88 ∈ pd_TT := pd_mem 678 (by decide +kernel) (by decide +kernel)
theorem pd_w679 : Cond.selects "PascalDesk$Strand" pd_y88 pd_y88 ∈ pd_TT := pd_mem 679 (by decide +kernel) (by decide +kernel)
theorem pd_w680 : Cond.code pd_y88 prog_7_method_5_code 2 (some .boolean) ∈ pd_TT := pd_mem 680 (by decide +kernel) (by decide +kernel)
theorem pd_w682 : Cond.methodLink "PascalDesk$Runner" 156 pd_y60 ∈ pd_TT := pd_mem 682 (by decide +kernel) (by decide +kernel)
theorem pd_w684 : Cond.instanceMethod pd_y60 ∈ pd_TT := pd_mem 684 (by decide +kernel) (by decide +kernel)
theorem pd_w685 : Cond.code pd_y60 prog_6_method_14_code 4 none ∈ pd_TT := pd_mem 685 (by decide +kernel) (by decide +kernel)
theorem pd_w687 : Cond.methodLink "PascalDesk$Runner" 186 pd_y61 ∈ pd_TT := pd_mem 687 (by decide +kernel) (by decide +kernel)
theorem pd_w689 : Cond.instanceMethod pd_y61 ∈ pd_TT := pd_mem 689 (by decide +kernel) (by decide +kernel)
theorem pd_w690 : Cond.code pd_y61 prog_6_method_15_code 3 (some .int) ∈ pd_TT := pd_mem 690 (by decide +kernel) (by decide +kernel)
theorem pd_w691 : Cond.methodLink "PascalDesk$Runner" 189 pd_y89 ∈ pd_TT := pd_mem 691 (by decide +kernel) (by decide +kernel)
theorem pd_w692 : Cond.instanceMethod pd_y89 ∈ pd_TT := pd_mem 692 (by decide +kernel) (by decide +kernel)
theorem pd_w693 : Cond.selects "PascalDesk$Strand" pd_y89 pd_y89 ∈ pd_TT := pd_mem 693 (by decide +kernel) (by decide +kernel)
theorem pd_w694 : Cond.code pd_y89 prog_7_method_3_code 4 none ∈ pd_TT := pd_mem 694 (by decide +kernel) (by decide +kernel)
theorem pd_w695 : Cond.methodLink "PascalDesk$Runner" 193 pd_y135 ∈ pd_TT := pd_mem 695 (by decide +kernel) (by decide +kernel)
theorem pd_w696 : Cond.static pd_y135 ∈ pd_TT := pd_mem 696 (by decide +kernel) (by decide +kernel)
theorem pd_w697 : Cond.code pd_y135 prog_16_method_65_code 2 (some .int) ∈ pd_TT := pd_mem 697 (by decide +kernel) (by decide +kernel)
theorem pd_w698 : Cond.methodLink "PascalDesk$Runner" 127 pd_y73 ∈ pd_TT := pd_mem 698 (by decide +kernel) (by decide +kernel)
theorem pd_w699 : Cond.instanceMethod pd_y73 ∈ pd_TT := pd_mem 699 (by decide +kernel) (by decide +kernel)
theorem pd_w700 : Cond.selects "PascalDesk$Calculator" pd_y73 pd_y73 ∈ pd_TT := pd_mem 700 (by decide +kernel) (by decide +kernel)
theorem pd_w701 : Cond.code pd_y73 prog_2_method_8_code 7 none ∈ pd_TT := pd_mem 701 (by decide +kernel) (by decide +kernel)
theorem pd_w702 : Cond.methodLink "PascalDesk$Calculator" 34 pd_y74 ∈ pd_TT := pd_mem 702 (by decide +kernel) (by decide +kernel)
theorem pd_w704 : Cond.instanceMethod pd_y74 ∈ pd_TT := pd_mem 704 (by decide +kernel) (by decide +kernel)
theorem pd_w705 : Cond.code pd_y74 prog_2_method_9_code 3 none ∈ pd_TT := pd_mem 705 (by decide +kernel) (by decide +kernel)
theorem pd_w706 : Cond.methodLink "PascalDesk$Calculator" 38 pd_y75 ∈ pd_TT := pd_mem 706 (by decide +kernel) (by decide +kernel)
theorem pd_w708 : Cond.instanceMethod pd_y75 ∈ pd_TT := pd_mem 708 (by decide +kernel) (by decide +kernel)
theorem pd_w709 : Cond.code pd_y75 prog_2_method_10_code 2 none ∈ pd_TT := pd_mem 709 (by decide +kernel) (by decide +kernel)
theorem pd_w710 : Cond.methodLink "PascalDesk$Calculator" 42 pd_y76 ∈ pd_TT := pd_mem 710 (by decide +kernel) (by decide +kernel)
theorem pd_w711 : Cond.static pd_y76 ∈ pd_TT := pd_mem 711 (by decide +kernel) (by decide +kernel)
theorem pd_w712 : Cond.code pd_y76 prog_2_method_11_code 1 (some .int) ∈ pd_TT := pd_mem 712 (by decide +kernel) (by decide +kernel)
theorem pd_w713 : Cond.classLink "PascalDesk$Calculator" 50 "java/lang/IndexOutOfBoundsException" ∈ pd_TT := pd_mem 713 (by decide +kernel) (by decide +kernel)
theorem pd_w714 : Cond.instantiable "java/lang/IndexOutOfBoundsException" 6 ∈ pd_TT := pd_mem 714 (by decide +kernel) (by decide +kernel)
theorem pd_w715 : Cond.castable "java/lang/IndexOutOfBoundsException" "java/lang/IndexOutOfBoundsException" ∈ pd_TT := pd_mem 715 (by decide +kernel) (by decide +kernel)
theorem pd_w723 : Cond.methodLink "PascalDesk$Calculator" 54 ⟨"java/lang/IndexOutOfBoundsException", "<init>", "(Ljava/lang/String;)V"⟩ ∈ pd_TT := pd_mem 723 (by decide +kernel) (by decide +kernel)
theorem pd_w729 : Cond.methodLink "PascalDesk$Calculator" 46 pd_y77 ∈ pd_TT := pd_mem 729 (by decide +kernel) (by decide +kernel)
theorem pd_w730 : Cond.static pd_y77 ∈ pd_TT := pd_mem 730 (by decide +kernel) (by decide +kernel)
theorem pd_w731 : Cond.code pd_y77 prog_2_method_12_code 5 (some .double) ∈ pd_TT := pd_mem 731 (by decide +kernel) (by decide +kernel)
theorem pd_w732 : Cond.methodLink "PascalDesk$Calculator" 57 pd_y78 ∈ pd_TT := pd_mem 732 (by decide +kernel) (by decide +kernel)
theorem pd_w733 : Cond.static pd_y78 ∈ pd_TT := pd_mem 733 (by decide +kernel) (by decide +kernel)
theorem pd_w734 : Cond.code pd_y78 prog_2_method_15_code 2 (some .double) ∈ pd_TT := pd_mem 734 (by decide +kernel) (by decide +kernel)
end
section
/-! words of the tables (printed) -/
theorem pd_w735 : Cond.constantDouble "PascalDesk$Calculator" 76 (UInt64.ofNat 4741671816366391296) ∈ pd_TT := pd_mem 735 (by decide +kernel) (by decide +kernel)
theorem pd_w736 : Cond.constantDouble "PascalDesk$Calculator" 78 (UInt64.ofNat 13965043853221167104) ∈ pd_TT := pd_mem 736 (by decide +kernel) (by decide +kernel)
theorem pd_w737 : Cond.classLink "PascalDesk$Calculator" 69 "java/lang/ArithmeticException" ∈ pd_TT := pd_mem 737 (by decide +kernel) (by decide +kernel)
theorem pd_w738 : Cond.instantiable "java/lang/ArithmeticException" 6 ∈ pd_TT := pd_mem 738 (by decide +kernel) (by decide +kernel)
theorem pd_w739 : Cond.castable "java/lang/ArithmeticException" "java/lang/ArithmeticException" ∈ pd_TT := pd_mem 739 (by decide +kernel) (by decide +kernel)
theorem pd_w747 : Cond.methodLink "PascalDesk$Calculator" 73 ⟨"java/lang/ArithmeticException", "<init>", "(Ljava/lang/String;)V"⟩ ∈ pd_TT := pd_mem 747 (by decide +kernel) (by decide +kernel)
theorem pd_w753 : Cond.methodLink "PascalDesk$Calculator" 61 pd_y79 ∈ pd_TT := pd_mem 753 (by decide +kernel) (by decide +kernel)
theorem pd_w754 : Cond.static pd_y79 ∈ pd_TT := pd_mem 754 (by decide +kernel) (by decide +kernel)
theorem pd_w755 : Cond.code pd_y79 prog_2_method_13_code 4 (some .double) ∈ pd_TT := pd_mem 755 (by decide +kernel) (by decide +kernel)
theorem pd_w757 : Cond.methodLink "PascalDesk$Calculator" 65 pd_y80 ∈ pd_TT := pd_mem 757 (by decide +kernel) (by decide +kernel)
theorem pd_w758 : Cond.static pd_y80 ∈ pd_TT := pd_mem 758 (by decide +kernel) (by decide +kernel)
theorem pd_w759 : Cond.code pd_y80 prog_2_method_14_code 2 (some .int) ∈ pd_TT := pd_mem 759 (by decide +kernel) (by decide +kernel)
theorem pd_w761 : Cond.methodLink "PascalDesk$Runner" 67 pd_y62 ∈ pd_TT := pd_mem 761 (by decide +kernel) (by decide +kernel)
theorem pd_w763 : Cond.instanceMethod pd_y62 ∈ pd_TT := pd_mem 763 (by decide +kernel) (by decide +kernel)
theorem pd_w764 : Cond.code pd_y62 prog_6_method_16_code 2 none ∈ pd_TT := pd_mem 764 (by decide +kernel) (by decide +kernel)
theorem pd_w765 : Cond.methodLink "PascalDesk$Runner" 199 pd_y63 ∈ pd_TT := pd_mem 765 (by decide +kernel) (by decide +kernel)
theorem pd_w767 : Cond.instanceMethod pd_y63 ∈ pd_TT := pd_mem 767 (by decide +kernel) (by decide +kernel)
theorem pd_w768 : Cond.code pd_y63 prog_6_method_17_code 5 none ∈ pd_TT := pd_mem 768 (by decide +kernel) (by decide +kernel)
theorem pd_w769 : Cond.methodLink "PascalDesk$Runner" 202 pd_y64 ∈ pd_TT := pd_mem 769 (by decide +kernel) (by decide +kernel)
theorem pd_w771 : Cond.instanceMethod pd_y64 ∈ pd_TT := pd_mem 771 (by decide +kernel) (by decide +kernel)
theorem pd_w772 : Cond.code pd_y64 prog_6_method_18_code 5 (some .boolean) ∈ pd_TT := pd_mem 772 (by decide +kernel) (by decide +kernel)
theorem pd_w773 : Cond.methodLink "PascalDesk$Runner" 210 pd_y90 ∈ pd_TT := pd_mem 773 (by decide +kernel) (by decide +kernel)
theorem pd_w774 : Cond.instanceMethod pd_y90 ∈ pd_TT := pd_mem 774 (by decide +kernel) (by decide +kernel)
theorem pd_w775 : Cond.selects "PascalDesk$Strand" pd_y90 pd_y90 ∈ pd_TT := pd_mem 775 (by decide +kernel) (by decide +kernel)
theorem pd_w776 : Cond.code pd_y90 prog_7_method_6_code 1 (some .boolean) ∈ pd_TT := pd_mem 776 (by decide +kernel) (by decide +kernel)
theorem pd_w777 : Cond.methodLink "PascalDesk$Runner" 206 pd_y65 ∈ pd_TT := pd_mem 777 (by decide +kernel) (by decide +kernel)
theorem pd_w779 : Cond.instanceMethod pd_y65 ∈ pd_TT := pd_mem 779 (by decide +kernel) (by decide +kernel)
theorem pd_w780 : Cond.code pd_y65 prog_6_method_19_code 3 (some .int) ∈ pd_TT := pd_mem 780 (by decide +kernel) (by decide +kernel)
theorem pd_w782 : Cond.methodLink "PascalDeskLaw" 74 pd_y132 ∈ pd_TT := pd_mem 782 (by decide +kernel) (by decide +kernel)
theorem pd_w783 : Cond.static pd_y132 ∈ pd_TT := pd_mem 783 (by decide +kernel) (by decide +kernel)
theorem pd_w784 : Cond.codeWith pd_y132 method_7_code 4 (some .int) [(0, 8, 11, 13)] ∈ pd_TT := pd_mem 784 (by decide +kernel) (by decide +kernel)
theorem pd_w785 : Cond.methodLink "PascalDeskLaw" 35 pd_y9 ∈ pd_TT := pd_mem 785 (by decide +kernel) (by decide +kernel)
theorem pd_w786 : Cond.instanceMethod pd_y9 ∈ pd_TT := pd_mem 786 (by decide +kernel) (by decide +kernel)
theorem pd_w787 : Cond.selects "PascalDesk" pd_y9 pd_y9 ∈ pd_TT := pd_mem 787 (by decide +kernel) (by decide +kernel)
theorem pd_w788 : Cond.code pd_y9 prog_1_method_6_code 2 (some .double) ∈ pd_TT := pd_mem 788 (by decide +kernel) (by decide +kernel)
theorem pd_w789 : Cond.methodLink "PascalDesk" 112 pd_y71 ∈ pd_TT := pd_mem 789 (by decide +kernel) (by decide +kernel)
theorem pd_w791 : Cond.methodLink "PascalDeskLaw" 80 pd_y133 ∈ pd_TT := pd_mem 791 (by decide +kernel) (by decide +kernel)
theorem pd_w792 : Cond.static pd_y133 ∈ pd_TT := pd_mem 792 (by decide +kernel) (by decide +kernel)
theorem pd_w793 : Cond.codeWith pd_y133 method_8_code 5 (some .int) [(0, 6, 9, 13)] ∈ pd_TT := pd_mem 793 (by decide +kernel) (by decide +kernel)
theorem pd_w794 : Cond.methodLink "PascalDeskLaw" 39 pd_y10 ∈ pd_TT := pd_mem 794 (by decide +kernel) (by decide +kernel)
theorem pd_w795 : Cond.instanceMethod pd_y10 ∈ pd_TT := pd_mem 795 (by decide +kernel) (by decide +kernel)
theorem pd_w796 : Cond.selects "PascalDesk" pd_y10 pd_y10 ∈ pd_TT := pd_mem 796 (by decide +kernel) (by decide +kernel)
theorem pd_w797 : Cond.code pd_y10 prog_1_method_7_code 6 none ∈ pd_TT := pd_mem 797 (by decide +kernel) (by decide +kernel)
theorem pd_w798 : Cond.constantDouble "PascalDesk" 127 (UInt64.ofNat 13875379345695965184) ∈ pd_TT := pd_mem 798 (by decide +kernel) (by decide +kernel)
theorem pd_w799 : Cond.constantDouble "PascalDesk" 129 (UInt64.ofNat 4652007308841189376) ∈ pd_TT := pd_mem 799 (by decide +kernel) (by decide +kernel)
theorem pd_w800 : Cond.methodLink "PascalDesk" 131 pd_y67 ∈ pd_TT := pd_mem 800 (by decide +kernel) (by decide +kernel)
theorem pd_w802 : Cond.methodLink "PascalDeskLaw" 84 pd_y134 ∈ pd_TT := pd_mem 802 (by decide +kernel) (by decide +kernel)
theorem pd_w803 : Cond.static pd_y134 ∈ pd_TT := pd_mem 803 (by decide +kernel) (by decide +kernel)
theorem pd_w804 : Cond.codeWith pd_y134 method_9_code 4 (some .int) [(0, 8, 11, 29)] ∈ pd_TT := pd_mem 804 (by decide +kernel) (by decide +kernel)
theorem pd_w805 : Cond.methodLink "PascalDeskLaw" 43 pd_y11 ∈ pd_TT := pd_mem 805 (by decide +kernel) (by decide +kernel)
theorem pd_w806 : Cond.instanceMethod pd_y11 ∈ pd_TT := pd_mem 806 (by decide +kernel) (by decide +kernel)
theorem pd_w807 : Cond.selects "PascalDesk" pd_y11 pd_y11 ∈ pd_TT := pd_mem 807 (by decide +kernel) (by decide +kernel)
theorem pd_w808 : Cond.code pd_y11 prog_1_method_8_code 2 (some .double) ∈ pd_TT := pd_mem 808 (by decide +kernel) (by decide +kernel)
theorem pd_w810 : Cond.classLink "PascalDeskLaw" 47 "PascalDeskModel" ∈ pd_TT := pd_mem 810 (by decide +kernel) (by decide +kernel)
theorem pd_w811 : Cond.instantiable "PascalDeskModel" 40 ∈ pd_TT := pd_mem 811 (by decide +kernel) (by decide +kernel)
theorem pd_w812 : Cond.methodLink "PascalDeskLaw" 49 pd_y91 ∈ pd_TT := pd_mem 812 (by decide +kernel) (by decide +kernel)
theorem pd_w813 : Cond.instanceMethod pd_y91 ∈ pd_TT := pd_mem 813 (by decide +kernel) (by decide +kernel)
theorem pd_w814 : Cond.code pd_y91 prog_10_method_1_code 1 none ∈ pd_TT := pd_mem 814 (by decide +kernel) (by decide +kernel)
theorem pd_w815 : Cond.methodLink "PascalDeskModel" 1 ⟨"java/lang/Object", "<init>", "()V"⟩ ∈ pd_TT := pd_mem 815 (by decide +kernel) (by decide +kernel)
theorem pd_w816 : Cond.fieldLink "PascalDeskModel" 7 "PascalDeskModel" "text" "[I" ∈ pd_TT := pd_mem 816 (by decide +kernel) (by decide +kernel)
theorem pd_w817 : Cond.fieldLink "PascalDeskModel" 13 "PascalDeskModel" "code" "[I" ∈ pd_TT := pd_mem 817 (by decide +kernel) (by decide +kernel)
theorem pd_w818 : Cond.fieldLink "PascalDeskModel" 16 "PascalDeskModel" "arg" "[I" ∈ pd_TT := pd_mem 818 (by decide +kernel) (by decide +kernel)
theorem pd_w819 : Cond.fieldLink "PascalDeskModel" 19 "PascalDeskModel" "other" "[I" ∈ pd_TT := pd_mem 819 (by decide +kernel) (by decide +kernel)
theorem pd_w820 : Cond.fieldLink "PascalDeskModel" 22 "PascalDeskModel" "there" "[Z" ∈ pd_TT := pd_mem 820 (by decide +kernel) (by decide +kernel)
theorem pd_w821 : Cond.fieldLink "PascalDeskModel" 26 "PascalDeskModel" "open" "[I" ∈ pd_TT := pd_mem 821 (by decide +kernel) (by decide +kernel)
theorem pd_w822 : Cond.fieldLink "PascalDeskModel" 29 "PascalDeskModel" "from" "[I" ∈ pd_TT := pd_mem 822 (by decide +kernel) (by decide +kernel)
theorem pd_w823 : Cond.fieldLink "PascalDeskModel" 32 "PascalDeskModel" "real" "[Z" ∈ pd_TT := pd_mem 823 (by decide +kernel) (by decide +kernel)
theorem pd_w824 : Cond.fieldLink "PascalDeskModel" 88 "PascalDeskModel" "length" "I" ∈ pd_TT := pd_mem 824 (by decide +kernel) (by decide +kernel)
theorem pd_w825 : Cond.fieldLink "PascalDeskModel" 35 "PascalDeskModel" "place" "I" ∈ pd_TT := pd_mem 825 (by decide +kernel) (by decide +kernel)
theorem pd_w826 : Cond.fieldLink "PascalDeskModel" 94 "PascalDeskModel" "height" "I" ∈ pd_TT := pd_mem 826 (by decide +kernel) (by decide +kernel)
theorem pd_w827 : Cond.fieldLink "PascalDeskModel" 97 "PascalDeskModel" "top" "I" ∈ pd_TT := pd_mem 827 (by decide +kernel) (by decide +kernel)
theorem pd_w828 : Cond.fieldLink "PascalDeskModel" 91 "PascalDeskModel" "size" "I" ∈ pd_TT := pd_mem 828 (by decide +kernel) (by decide +kernel)
theorem pd_w829 : Cond.fieldLink "PascalDeskModel" 133 "PascalDeskModel" "target" "I" ∈ pd_TT := pd_mem 829 (by decide +kernel) (by decide +kernel)
theorem pd_w830 : Cond.fieldLink "PascalDeskModel" 123 "PascalDeskModel" "statements" "I" ∈ pd_TT := pd_mem 830 (by decide +kernel) (by decide +kernel)
theorem pd_w831 : Cond.fieldLink "PascalDeskModel" 116 "PascalDeskModel" "depth" "I" ∈ pd_TT := pd_mem 831 (by decide +kernel) (by decide +kernel)
theorem pd_w832 : Cond.fieldLink "PascalDeskModel" 108 "PascalDeskModel" "mistyped" "Z" ∈ pd_TT := pd_mem 832 (by decide +kernel) (by decide +kernel)
theorem pd_w833 : Cond.fieldLink "PascalDeskModel" 39 "PascalDeskModel" "taped" "[I" ∈ pd_TT := pd_mem 833 (by decide +kernel) (by decide +kernel)
theorem pd_w834 : Cond.fieldLink "PascalDeskModel" 42 "PascalDeskModel" "tapeSize" "I" ∈ pd_TT := pd_mem 834 (by decide +kernel) (by decide +kernel)
theorem pd_w835 : Cond.fieldLink "PascalDeskModel" 221 "PascalDeskModel" "tapeAt" "I" ∈ pd_TT := pd_mem 835 (by decide +kernel) (by decide +kernel)
theorem pd_w836 : Cond.fieldLink "PascalDeskModel" 45 "PascalDeskModel" "variable" "[D" ∈ pd_TT := pd_mem 836 (by decide +kernel) (by decide +kernel)
theorem pd_w837 : Cond.fieldLink "PascalDeskModel" 49 "PascalDeskModel" "out" "[D" ∈ pd_TT := pd_mem 837 (by decide +kernel) (by decide +kernel)
theorem pd_w838 : Cond.fieldLink "PascalDeskModel" 52 "PascalDeskModel" "stack" "[D" ∈ pd_TT := pd_mem 838 (by decide +kernel) (by decide +kernel)
theorem pd_w839 : Cond.fieldLink "PascalDeskModel" 55 "PascalDeskModel" "semaphore" "[I" ∈ pd_TT := pd_mem 839 (by decide +kernel) (by decide +kernel)
theorem pd_w840 : Cond.fieldLink "PascalDeskModel" 58 "PascalDeskModel" "state" "[I" ∈ pd_TT := pd_mem 840 (by decide +kernel) (by decide +kernel)
theorem pd_w841 : Cond.fieldLink "PascalDeskModel" 61 "PascalDeskModel" "at" "[I" ∈ pd_TT := pd_mem 841 (by decide +kernel) (by decide +kernel)
theorem pd_w842 : Cond.fieldLink "PascalDeskModel" 64 "PascalDeskModel" "parent" "[I" ∈ pd_TT := pd_mem 842 (by decide +kernel) (by decide +kernel)
theorem pd_w843 : Cond.fieldLink "PascalDeskModel" 67 "PascalDeskModel" "parts" "[I" ∈ pd_TT := pd_mem 843 (by decide +kernel) (by decide +kernel)
theorem pd_w844 : Cond.fieldLink "PascalDeskModel" 70 "PascalDeskModel" "inherited" "[I" ∈ pd_TT := pd_mem 844 (by decide +kernel) (by decide +kernel)
theorem pd_w845 : Cond.fieldLink "PascalDeskModel" 73 "PascalDeskModel" "calls" "[I" ∈ pd_TT := pd_mem 845 (by decide +kernel) (by decide +kernel)
theorem pd_w846 : Cond.fieldLink "PascalDeskModel" 76 "PascalDeskModel" "back" "[I" ∈ pd_TT := pd_mem 846 (by decide +kernel) (by decide +kernel)
theorem pd_w847 : Cond.fieldLink "PascalDeskModel" 79 "PascalDeskModel" "row" "[I" ∈ pd_TT := pd_mem 847 (by decide +kernel) (by decide +kernel)
theorem pd_w848 : Cond.fieldLink "PascalDeskModel" 82 "PascalDeskModel" "waitsFor" "[I" ∈ pd_TT := pd_mem 848 (by decide +kernel) (by decide +kernel)
theorem pd_w849 : Cond.fieldLink "PascalDeskModel" 193 "PascalDeskModel" "rowSize" "I" ∈ pd_TT := pd_mem 849 (by decide +kernel) (by decide +kernel)
theorem pd_w850 : Cond.fieldLink "PascalDeskModel" 218 "PascalDeskModel" "steps" "I" ∈ pd_TT := pd_mem 850 (by decide +kernel) (by decide +kernel)
theorem pd_w851 : Cond.fieldLink "PascalDeskModel" 206 "PascalDeskModel" "written" "I" ∈ pd_TT := pd_mem 851 (by decide +kernel) (by decide +kernel)
theorem pd_w852 : Cond.fieldLink "PascalDeskModel" 184 "PascalDeskModel" "born" "I" ∈ pd_TT := pd_mem 852 (by decide +kernel) (by decide +kernel)
theorem pd_w853 : Cond.fieldLink "PascalDeskModel" 190 "PascalDeskModel" "most" "I" ∈ pd_TT := pd_mem 853 (by decide +kernel) (by decide +kernel)
theorem pd_w854 : Cond.fieldLink "PascalDeskModel" 215 "PascalDeskModel" "waited" "I" ∈ pd_TT := pd_mem 854 (by decide +kernel) (by decide +kernel)
theorem pd_w855 : Cond.fieldLink "PascalDeskModel" 85 "PascalDeskModel" "thrown" "I" ∈ pd_TT := pd_mem 855 (by decide +kernel) (by decide +kernel)
theorem pd_w856 : Cond.laysFinal "PascalDeskModel" "PascalDeskModel" "text" "[I" ∈ pd_TT := pd_mem 856 (by decide +kernel) (by decide +kernel)
theorem pd_w858 : Cond.laysFinal "PascalDeskModel" "PascalDeskModel" "code" "[I" ∈ pd_TT := pd_mem 858 (by decide +kernel) (by decide +kernel)
theorem pd_w860 : Cond.laysFinal "PascalDeskModel" "PascalDeskModel" "arg" "[I" ∈ pd_TT := pd_mem 860 (by decide +kernel) (by decide +kernel)
theorem pd_w862 : Cond.laysFinal "PascalDeskModel" "PascalDeskModel" "other" "[I" ∈ pd_TT := pd_mem 862 (by decide +kernel) (by decide +kernel)
theorem pd_w864 : Cond.laysFinal "PascalDeskModel" "PascalDeskModel" "there" "[Z" ∈ pd_TT := pd_mem 864 (by decide +kernel) (by decide +kernel)
theorem pd_w866 : Cond.laysFinal "PascalDeskModel" "PascalDeskModel" "open" "[I" ∈ pd_TT := pd_mem 866 (by decide +kernel) (by decide +kernel)
theorem pd_w868 : Cond.laysFinal "PascalDeskModel" "PascalDeskModel" "from" "[I" ∈ pd_TT := pd_mem 868 (by decide +kernel) (by decide +kernel)
theorem pd_w870 : Cond.laysFinal "PascalDeskModel" "PascalDeskModel" "real" "[Z" ∈ pd_TT := pd_mem 870 (by decide +kernel) (by decide +kernel)
theorem pd_w872 : Cond.lays "PascalDeskModel" "PascalDeskModel" "length" "I" ∈ pd_TT := pd_mem 872 (by decide +kernel) (by decide +kernel)
theorem pd_w874 : Cond.lays "PascalDeskModel" "PascalDeskModel" "place" "I" ∈ pd_TT := pd_mem 874 (by decide +kernel) (by decide +kernel)
theorem pd_w876 : Cond.lays "PascalDeskModel" "PascalDeskModel" "height" "I" ∈ pd_TT := pd_mem 876 (by decide +kernel) (by decide +kernel)
theorem pd_w878 : Cond.lays "PascalDeskModel" "PascalDeskModel" "top" "I" ∈ pd_TT := pd_mem 878 (by decide +kernel) (by decide +kernel)
theorem pd_w880 : Cond.lays "PascalDeskModel" "PascalDeskModel" "size" "I" ∈ pd_TT := pd_mem 880 (by decide +kernel) (by decide +kernel)
theorem pd_w882 : Cond.lays "PascalDeskModel" "PascalDeskModel" "target" "I" ∈ pd_TT := pd_mem 882 (by decide +kernel) (by decide +kernel)
theorem pd_w884 : Cond.lays "PascalDeskModel" "PascalDeskModel" "statements" "I" ∈ pd_TT := pd_mem 884 (by decide +kernel) (by decide +kernel)
theorem pd_w886 : Cond.lays "PascalDeskModel" "PascalDeskModel" "depth" "I" ∈ pd_TT := pd_mem 886 (by decide +kernel) (by decide +kernel)
theorem pd_w888 : Cond.lays "PascalDeskModel" "PascalDeskModel" "mistyped" "Z" ∈ pd_TT := pd_mem 888 (by decide +kernel) (by decide +kernel)
theorem pd_w890 : Cond.laysFinal "PascalDeskModel" "PascalDeskModel" "taped" "[I" ∈ pd_TT := pd_mem 890 (by decide +kernel) (by decide +kernel)
theorem pd_w892 : Cond.lays "PascalDeskModel" "PascalDeskModel" "tapeSize" "I" ∈ pd_TT := pd_mem 892 (by decide +kernel) (by decide +kernel)
theorem pd_w894 : Cond.lays "PascalDeskModel" "PascalDeskModel" "tapeAt" "I" ∈ pd_TT := pd_mem 894 (by decide +kernel) (by decide +kernel)
theorem pd_w896 : Cond.laysFinal "PascalDeskModel" "PascalDeskModel" "variable" "[D" ∈ pd_TT := pd_mem 896 (by decide +kernel) (by decide +kernel)
theorem pd_w898 : Cond.laysFinal "PascalDeskModel" "PascalDeskModel" "out" "[D" ∈ pd_TT := pd_mem 898 (by decide +kernel) (by decide +kernel)
theorem pd_w900 : Cond.laysFinal "PascalDeskModel" "PascalDeskModel" "stack" "[D" ∈ pd_TT := pd_mem 900 (by decide +kernel) (by decide +kernel)
theorem pd_w902 : Cond.laysFinal "PascalDeskModel" "PascalDeskModel" "semaphore" "[I" ∈ pd_TT := pd_mem 902 (by decide +kernel) (by decide +kernel)
theorem pd_w904 : Cond.laysFinal "PascalDeskModel" "PascalDeskModel" "state" "[I" ∈ pd_TT := pd_mem 904 (by decide +kernel) (by decide +kernel)
theorem pd_w906 : Cond.laysFinal "PascalDeskModel" "PascalDeskModel" "at" "[I" ∈ pd_TT := pd_mem 906 (by decide +kernel) (by decide +kernel)
theorem pd_w908 : Cond.laysFinal "PascalDeskModel" "PascalDeskModel" "parent" "[I" ∈ pd_TT := pd_mem 908 (by decide +kernel) (by decide +kernel)
theorem pd_w910 : Cond.laysFinal "PascalDeskModel" "PascalDeskModel" "parts" "[I" ∈ pd_TT := pd_mem 910 (by decide +kernel) (by decide +kernel)
theorem pd_w912 : Cond.laysFinal "PascalDeskModel" "PascalDeskModel" "inherited" "[I" ∈ pd_TT := pd_mem 912 (by decide +kernel) (by decide +kernel)
theorem pd_w914 : Cond.laysFinal "PascalDeskModel" "PascalDeskModel" "calls" "[I" ∈ pd_TT := pd_mem 914 (by decide +kernel) (by decide +kernel)
theorem pd_w916 : Cond.laysFinal "PascalDeskModel" "PascalDeskModel" "back" "[I" ∈ pd_TT := pd_mem 916 (by decide +kernel) (by decide +kernel)
theorem pd_w918 : Cond.laysFinal "PascalDeskModel" "PascalDeskModel" "row" "[I" ∈ pd_TT := pd_mem 918 (by decide +kernel) (by decide +kernel)
theorem pd_w920 : Cond.laysFinal "PascalDeskModel" "PascalDeskModel" "waitsFor" "[I" ∈ pd_TT := pd_mem 920 (by decide +kernel) (by decide +kernel)
theorem pd_w922 : Cond.lays "PascalDeskModel" "PascalDeskModel" "rowSize" "I" ∈ pd_TT := pd_mem 922 (by decide +kernel) (by decide +kernel)
theorem pd_w924 : Cond.lays "PascalDeskModel" "PascalDeskModel" "steps" "I" ∈ pd_TT := pd_mem 924 (by decide +kernel) (by decide +kernel)
theorem pd_w926 : Cond.lays "PascalDeskModel" "PascalDeskModel" "written" "I" ∈ pd_TT := pd_mem 926 (by decide +kernel) (by decide +kernel)
theorem pd_w928 : Cond.lays "PascalDeskModel" "PascalDeskModel" "born" "I" ∈ pd_TT := pd_mem 928 (by decide +kernel) (by decide +kernel)
theorem pd_w930 : Cond.lays "PascalDeskModel" "PascalDeskModel" "most" "I" ∈ pd_TT := pd_mem 930 (by decide +kernel) (by decide +kernel)
theorem pd_w932 : Cond.lays "PascalDeskModel" "PascalDeskModel" "waited" "I" ∈ pd_TT := pd_mem 932 (by decide +kernel) (by decide +kernel)
theorem pd_w934 : Cond.lays "PascalDeskModel" "PascalDeskModel" "thrown" "I" ∈ pd_TT := pd_mem 934 (by decide +kernel) (by decide +kernel)
theorem pd_w937 : Cond.arrayClass .boolean ∈ pd_TT := pd_mem 937 (by decide +kernel) (by decide +kernel)
theorem pd_w938 : Cond.methodLink "PascalDeskLaw" 58 pd_y92 ∈ pd_TT := pd_mem 938 (by decide +kernel) (by decide +kernel)
theorem pd_w939 : Cond.instanceMethod pd_y92 ∈ pd_TT := pd_mem 939 (by decide +kernel) (by decide +kernel)
theorem pd_w940 : Cond.selects "PascalDeskModel" pd_y92 pd_y92 ∈ pd_TT := pd_mem 940 (by decide +kernel) (by decide +kernel)
theorem pd_w941 : Cond.code pd_y92 prog_10_method_2_code 1 (some .int) ∈ pd_TT := pd_mem 941 (by decide +kernel) (by decide +kernel)
theorem pd_w942 : Cond.methodLink "PascalDeskLaw" 57 pd_y93 ∈ pd_TT := pd_mem 942 (by decide +kernel) (by decide +kernel)
theorem pd_w943 : Cond.instanceMethod pd_y93 ∈ pd_TT := pd_mem 943 (by decide +kernel) (by decide +kernel)
theorem pd_w944 : Cond.selects "PascalDeskModel" pd_y93 pd_y93 ∈ pd_TT := pd_mem 944 (by decide +kernel) (by decide +kernel)
theorem pd_w945 : Cond.code pd_y93 prog_10_method_3_code 6 (some .int) ∈ pd_TT := pd_mem 945 (by decide +kernel) (by decide +kernel)
theorem pd_w946 : Cond.methodLink "PascalDeskLaw" 65 pd_y94 ∈ pd_TT := pd_mem 946 (by decide +kernel) (by decide +kernel)
theorem pd_w947 : Cond.instanceMethod pd_y94 ∈ pd_TT := pd_mem 947 (by decide +kernel) (by decide +kernel)
theorem pd_w948 : Cond.selects "PascalDeskModel" pd_y94 pd_y94 ∈ pd_TT := pd_mem 948 (by decide +kernel) (by decide +kernel)
theorem pd_w949 : Cond.code pd_y94 prog_10_method_22_code 4 (some .int) ∈ pd_TT := pd_mem 949 (by decide +kernel) (by decide +kernel)
theorem pd_w950 : Cond.methodLink "PascalDeskModel" 171 pd_y95 ∈ pd_TT := pd_mem 950 (by decide +kernel) (by decide +kernel)
theorem pd_w952 : Cond.instanceMethod pd_y95 ∈ pd_TT := pd_mem 952 (by decide +kernel) (by decide +kernel)
theorem pd_w953 : Cond.code pd_y95 prog_10_method_21_code 7 (some .int) ∈ pd_TT := pd_mem 953 (by decide +kernel) (by decide +kernel)
theorem pd_w954 : Cond.methodLink "PascalDeskModel" 112 pd_y96 ∈ pd_TT := pd_mem 954 (by decide +kernel) (by decide +kernel)
theorem pd_w956 : Cond.instanceMethod pd_y96 ∈ pd_TT := pd_mem 956 (by decide +kernel) (by decide +kernel)
theorem pd_w957 : Cond.code pd_y96 prog_10_method_4_code 3 none ∈ pd_TT := pd_mem 957 (by decide +kernel) (by decide +kernel)
theorem pd_w958 : Cond.methodLink "PascalDeskModel" 136 pd_y97 ∈ pd_TT := pd_mem 958 (by decide +kernel) (by decide +kernel)
theorem pd_w960 : Cond.instanceMethod pd_y97 ∈ pd_TT := pd_mem 960 (by decide +kernel) (by decide +kernel)
theorem pd_w961 : Cond.code pd_y97 prog_10_method_8_code 2 none ∈ pd_TT := pd_mem 961 (by decide +kernel) (by decide +kernel)
theorem pd_w962 : Cond.methodLink "PascalDeskModel" 140 pd_y98 ∈ pd_TT := pd_mem 962 (by decide +kernel) (by decide +kernel)
theorem pd_w964 : Cond.instanceMethod pd_y98 ∈ pd_TT := pd_mem 964 (by decide +kernel) (by decide +kernel)
theorem pd_w965 : Cond.code pd_y98 prog_10_method_10_code 1 (some .int) ∈ pd_TT := pd_mem 965 (by decide +kernel) (by decide +kernel)
theorem pd_w966 : Cond.methodLink "PascalDeskModel" 100 pd_y99 ∈ pd_TT := pd_mem 966 (by decide +kernel) (by decide +kernel)
theorem pd_w968 : Cond.instanceMethod pd_y99 ∈ pd_TT := pd_mem 968 (by decide +kernel) (by decide +kernel)
theorem pd_w969 : Cond.code pd_y99 prog_10_method_6_code 1 (some .int) ∈ pd_TT := pd_mem 969 (by decide +kernel) (by decide +kernel)
theorem pd_w970 : Cond.methodLink "PascalDeskModel" 155 pd_y100 ∈ pd_TT := pd_mem 970 (by decide +kernel) (by decide +kernel)
theorem pd_w972 : Cond.instanceMethod pd_y100 ∈ pd_TT := pd_mem 972 (by decide +kernel) (by decide +kernel)
theorem pd_w973 : Cond.code pd_y100 prog_10_method_15_code 2 (some .int) ∈ pd_TT := pd_mem 973 (by decide +kernel) (by decide +kernel)
theorem pd_w974 : Cond.methodLink "PascalDeskModel" 126 pd_y101 ∈ pd_TT := pd_mem 974 (by decide +kernel) (by decide +kernel)
theorem pd_w976 : Cond.instanceMethod pd_y101 ∈ pd_TT := pd_mem 976 (by decide +kernel) (by decide +kernel)
theorem pd_w977 : Cond.code pd_y101 prog_10_method_13_code 2 (some .boolean) ∈ pd_TT := pd_mem 977 (by decide +kernel) (by decide +kernel)
theorem pd_w978 : Cond.methodLink "PascalDeskModel" 130 pd_y102 ∈ pd_TT := pd_mem 978 (by decide +kernel) (by decide +kernel)
theorem pd_w980 : Cond.instanceMethod pd_y102 ∈ pd_TT := pd_mem 980 (by decide +kernel) (by decide +kernel)
theorem pd_w981 : Cond.code pd_y102 prog_10_method_14_code 2 (some .boolean) ∈ pd_TT := pd_mem 981 (by decide +kernel) (by decide +kernel)
theorem pd_w982 : Cond.methodLink "PascalDeskModel" 119 pd_y103 ∈ pd_TT := pd_mem 982 (by decide +kernel) (by decide +kernel)
theorem pd_w984 : Cond.instanceMethod pd_y103 ∈ pd_TT := pd_mem 984 (by decide +kernel) (by decide +kernel)
theorem pd_w985 : Cond.code pd_y103 prog_10_method_5_code 2 none ∈ pd_TT := pd_mem 985 (by decide +kernel) (by decide +kernel)
theorem pd_w986 : Cond.methodLink "PascalDeskModel" 158 pd_y104 ∈ pd_TT := pd_mem 986 (by decide +kernel) (by decide +kernel)
theorem pd_w988 : Cond.instanceMethod pd_y104 ∈ pd_TT := pd_mem 988 (by decide +kernel) (by decide +kernel)
theorem pd_w989 : Cond.code pd_y104 prog_10_method_16_code 2 (some .int) ∈ pd_TT := pd_mem 989 (by decide +kernel) (by decide +kernel)
theorem pd_w990 : Cond.methodLink "PascalDeskModel" 143 pd_y105 ∈ pd_TT := pd_mem 990 (by decide +kernel) (by decide +kernel)
theorem pd_w992 : Cond.instanceMethod pd_y105 ∈ pd_TT := pd_mem 992 (by decide +kernel) (by decide +kernel)
theorem pd_w993 : Cond.code pd_y105 prog_10_method_12_code 2 (some .int) ∈ pd_TT := pd_mem 993 (by decide +kernel) (by decide +kernel)
theorem pd_w994 : Cond.methodLink "PascalDeskModel" 104 pd_y106 ∈ pd_TT := pd_mem 994 (by decide +kernel) (by decide +kernel)
theorem pd_w996 : Cond.instanceMethod pd_y106 ∈ pd_TT := pd_mem 996 (by decide +kernel) (by decide +kernel)
theorem pd_w997 : Cond.code pd_y106 prog_10_method_7_code 2 (some .int) ∈ pd_TT := pd_mem 997 (by decide +kernel) (by decide +kernel)
theorem pd_w998 : Cond.methodLink "PascalDeskModel" 161 pd_y107 ∈ pd_TT := pd_mem 998 (by decide +kernel) (by decide +kernel)
theorem pd_w1000 : Cond.instanceMethod pd_y107 ∈ pd_TT := pd_mem 1000 (by decide +kernel) (by decide +kernel)
theorem pd_w1001 : Cond.code pd_y107 prog_10_method_20_code 3 (some .int) ∈ pd_TT := pd_mem 1001 (by decide +kernel) (by decide +kernel)
theorem pd_w1002 : Cond.methodLink "PascalDeskModel" 146 pd_y108 ∈ pd_TT := pd_mem 1002 (by decide +kernel) (by decide +kernel)
theorem pd_w1004 : Cond.instanceMethod pd_y108 ∈ pd_TT := pd_mem 1004 (by decide +kernel) (by decide +kernel)
theorem pd_w1005 : Cond.code pd_y108 prog_10_method_9_code 4 none ∈ pd_TT := pd_mem 1005 (by decide +kernel) (by decide +kernel)
theorem pd_w1006 : Cond.methodLink "PascalDeskModel" 164 pd_y109 ∈ pd_TT := pd_mem 1006 (by decide +kernel) (by decide +kernel)
theorem pd_w1008 : Cond.instanceMethod pd_y109 ∈ pd_TT := pd_mem 1008 (by decide +kernel) (by decide +kernel)
theorem pd_w1009 : Cond.code pd_y109 prog_10_method_17_code 4 (some .int) ∈ pd_TT := pd_mem 1009 (by decide +kernel) (by decide +kernel)
theorem pd_w1010 : Cond.methodLink "PascalDeskModel" 149 pd_y110 ∈ pd_TT := pd_mem 1010 (by decide +kernel) (by decide +kernel)
theorem pd_w1012 : Cond.instanceMethod pd_y110 ∈ pd_TT := pd_mem 1012 (by decide +kernel) (by decide +kernel)
theorem pd_w1013 : Cond.code pd_y110 prog_10_method_11_code 1 none ∈ pd_TT := pd_mem 1013 (by decide +kernel) (by decide +kernel)
theorem pd_w1014 : Cond.methodLink "PascalDeskModel" 152 pd_y111 ∈ pd_TT := pd_mem 1014 (by decide +kernel) (by decide +kernel)
theorem pd_w1016 : Cond.instanceMethod pd_y111 ∈ pd_TT := pd_mem 1016 (by decide +kernel) (by decide +kernel)
theorem pd_w1017 : Cond.code pd_y111 prog_10_method_18_code 5 (some .int) ∈ pd_TT := pd_mem 1017 (by decide +kernel) (by decide +kernel)
theorem pd_w1018 : Cond.methodLink "PascalDeskModel" 167 pd_y112 ∈ pd_TT := pd_mem 1018 (by decide +kernel) (by decide +kernel)
theorem pd_w1020 : Cond.instanceMethod pd_y112 ∈ pd_TT := pd_mem 1020 (by decide +kernel) (by decide +kernel)
theorem pd_w1021 : Cond.code pd_y112 prog_10_method_19_code 3 (some .int) ∈ pd_TT := pd_mem 1021 (by decide +kernel) (by decide +kernel)
theorem pd_w1022 : Cond.methodLink "PascalDeskLaw" 69 pd_y113 ∈ pd_TT := pd_mem 1022 (by decide +kernel) (by decide +kernel)
theorem pd_w1023 : Cond.instanceMethod pd_y113 ∈ pd_TT := pd_mem 1023 (by decide +kernel) (by decide +kernel)
theorem pd_w1024 : Cond.selects "PascalDeskModel" pd_y113 pd_y113 ∈ pd_TT := pd_mem 1024 (by decide +kernel) (by decide +kernel)
theorem pd_w1025 : Cond.code pd_y113 prog_10_method_23_code 5 none ∈ pd_TT := pd_mem 1025 (by decide +kernel) (by decide +kernel)
theorem pd_w1026 : Cond.methodLink "PascalDeskLaw" 73 pd_y114 ∈ pd_TT := pd_mem 1026 (by decide +kernel) (by decide +kernel)
theorem pd_w1027 : Cond.instanceMethod pd_y114 ∈ pd_TT := pd_mem 1027 (by decide +kernel) (by decide +kernel)
theorem pd_w1028 : Cond.selects "PascalDeskModel" pd_y114 pd_y114 ∈ pd_TT := pd_mem 1028 (by decide +kernel) (by decide +kernel)
theorem pd_w1029 : Cond.code pd_y114 prog_10_method_33_code 5 (some .int) ∈ pd_TT := pd_mem 1029 (by decide +kernel) (by decide +kernel)
theorem pd_w1030 : Cond.methodLink "PascalDeskModel" 212 pd_y115 ∈ pd_TT := pd_mem 1030 (by decide +kernel) (by decide +kernel)
theorem pd_w1032 : Cond.instanceMethod pd_y115 ∈ pd_TT := pd_mem 1032 (by decide +kernel) (by decide +kernel)
theorem pd_w1033 : Cond.code pd_y115 prog_10_method_28_code 4 none ∈ pd_TT := pd_mem 1033 (by decide +kernel) (by decide +kernel)
theorem pd_w1034 : Cond.methodLink "PascalDeskModel" 187 pd_y116 ∈ pd_TT := pd_mem 1034 (by decide +kernel) (by decide +kernel)
theorem pd_w1036 : Cond.instanceMethod pd_y116 ∈ pd_TT := pd_mem 1036 (by decide +kernel) (by decide +kernel)
theorem pd_w1037 : Cond.code pd_y116 prog_10_method_26_code 3 (some .int) ∈ pd_TT := pd_mem 1037 (by decide +kernel) (by decide +kernel)
theorem pd_w1038 : Cond.methodLink "PascalDeskModel" 224 pd_y117 ∈ pd_TT := pd_mem 1038 (by decide +kernel) (by decide +kernel)
theorem pd_w1040 : Cond.instanceMethod pd_y117 ∈ pd_TT := pd_mem 1040 (by decide +kernel) (by decide +kernel)
theorem pd_w1041 : Cond.code pd_y117 prog_10_method_32_code 5 (some .int) ∈ pd_TT := pd_mem 1041 (by decide +kernel) (by decide +kernel)
theorem pd_w1042 : Cond.methodLink "PascalDeskModel" 227 pd_y118 ∈ pd_TT := pd_mem 1042 (by decide +kernel) (by decide +kernel)
theorem pd_w1044 : Cond.instanceMethod pd_y118 ∈ pd_TT := pd_mem 1044 (by decide +kernel) (by decide +kernel)
theorem pd_w1045 : Cond.code pd_y118 prog_10_method_31_code 5 none ∈ pd_TT := pd_mem 1045 (by decide +kernel) (by decide +kernel)
theorem pd_w1046 : Cond.methodLink "PascalDeskModel" 199 pd_y119 ∈ pd_TT := pd_mem 1046 (by decide +kernel) (by decide +kernel)
theorem pd_w1048 : Cond.instanceMethod pd_y119 ∈ pd_TT := pd_mem 1048 (by decide +kernel) (by decide +kernel)
theorem pd_w1049 : Cond.code pd_y119 prog_10_method_25_code 6 (some .int) ∈ pd_TT := pd_mem 1049 (by decide +kernel) (by decide +kernel)
theorem pd_w1050 : Cond.constantDouble "PascalDeskModel" 178 (UInt64.ofNat 4613937818241073152) ∈ pd_TT := pd_mem 1050 (by decide +kernel) (by decide +kernel)
theorem pd_w1051 : Cond.methodLink "PascalDeskModel" 180 pd_y120 ∈ pd_TT := pd_mem 1051 (by decide +kernel) (by decide +kernel)
theorem pd_w1053 : Cond.instanceMethod pd_y120 ∈ pd_TT := pd_mem 1053 (by decide +kernel) (by decide +kernel)
theorem pd_w1054 : Cond.code pd_y120 prog_10_method_24_code 9 (some .double) ∈ pd_TT := pd_mem 1054 (by decide +kernel) (by decide +kernel)
theorem pd_w1055 : Cond.constantDouble "PascalDeskModel" 174 (UInt64.ofNat 4741671816366391296) ∈ pd_TT := pd_mem 1055 (by decide +kernel) (by decide +kernel)
theorem pd_w1056 : Cond.constantDouble "PascalDeskModel" 176 (UInt64.ofNat 13965043853221167104) ∈ pd_TT := pd_mem 1056 (by decide +kernel) (by decide +kernel)
theorem pd_w1057 : Cond.methodLink "PascalDeskModel" 202 pd_y121 ∈ pd_TT := pd_mem 1057 (by decide +kernel) (by decide +kernel)
theorem pd_w1059 : Cond.instanceMethod pd_y121 ∈ pd_TT := pd_mem 1059 (by decide +kernel) (by decide +kernel)
theorem pd_w1060 : Cond.code pd_y121 prog_10_method_29_code 4 none ∈ pd_TT := pd_mem 1060 (by decide +kernel) (by decide +kernel)
theorem pd_w1061 : Cond.methodLink "PascalDeskModel" 209 pd_y122 ∈ pd_TT := pd_mem 1061 (by decide +kernel) (by decide +kernel)
theorem pd_w1063 : Cond.instanceMethod pd_y122 ∈ pd_TT := pd_mem 1063 (by decide +kernel) (by decide +kernel)
theorem pd_w1064 : Cond.code pd_y122 prog_10_method_30_code 5 none ∈ pd_TT := pd_mem 1064 (by decide +kernel) (by decide +kernel)
theorem pd_w1065 : Cond.methodLink "PascalDeskModel" 196 pd_y123 ∈ pd_TT := pd_mem 1065 (by decide +kernel) (by decide +kernel)
theorem pd_w1067 : Cond.instanceMethod pd_y123 ∈ pd_TT := pd_mem 1067 (by decide +kernel) (by decide +kernel)
theorem pd_w1068 : Cond.code pd_y123 prog_10_method_27_code 4 none ∈ pd_TT := pd_mem 1068 (by decide +kernel) (by decide +kernel)
theorem pd_w1069 : Cond.methodLink "PascalDeskLaw" 77 pd_y124 ∈ pd_TT := pd_mem 1069 (by decide +kernel) (by decide +kernel)
theorem pd_w1070 : Cond.instanceMethod pd_y124 ∈ pd_TT := pd_mem 1070 (by decide +kernel) (by decide +kernel)
theorem pd_w1071 : Cond.selects "PascalDeskModel" pd_y124 pd_y124 ∈ pd_TT := pd_mem 1071 (by decide +kernel) (by decide +kernel)
theorem pd_w1072 : Cond.code pd_y124 prog_10_method_34_code 2 (some .double) ∈ pd_TT := pd_mem 1072 (by decide +kernel) (by decide +kernel)
theorem pd_w1073 : Cond.methodLink "PascalDeskLaw" 83 pd_y125 ∈ pd_TT := pd_mem 1073 (by decide +kernel) (by decide +kernel)
theorem pd_w1074 : Cond.instanceMethod pd_y125 ∈ pd_TT := pd_mem 1074 (by decide +kernel) (by decide +kernel)
theorem pd_w1075 : Cond.selects "PascalDeskModel" pd_y125 pd_y125 ∈ pd_TT := pd_mem 1075 (by decide +kernel) (by decide +kernel)
theorem pd_w1076 : Cond.code pd_y125 prog_10_method_35_code 5 none ∈ pd_TT := pd_mem 1076 (by decide +kernel) (by decide +kernel)
theorem pd_w1077 : Cond.constantDouble "PascalDeskModel" 230 (UInt64.ofNat 13875379345695965184) ∈ pd_TT := pd_mem 1077 (by decide +kernel) (by decide +kernel)
theorem pd_w1078 : Cond.constantDouble "PascalDeskModel" 232 (UInt64.ofNat 4652007308841189376) ∈ pd_TT := pd_mem 1078 (by decide +kernel) (by decide +kernel)
theorem pd_w1079 : Cond.methodLink "PascalDeskLaw" 86 pd_y126 ∈ pd_TT := pd_mem 1079 (by decide +kernel) (by decide +kernel)
theorem pd_w1080 : Cond.instanceMethod pd_y126 ∈ pd_TT := pd_mem 1080 (by decide +kernel) (by decide +kernel)
theorem pd_w1081 : Cond.selects "PascalDeskModel" pd_y126 pd_y126 ∈ pd_TT := pd_mem 1081 (by decide +kernel) (by decide +kernel)
theorem pd_w1082 : Cond.code pd_y126 prog_10_method_36_code 2 (some .double) ∈ pd_TT := pd_mem 1082 (by decide +kernel) (by decide +kernel)
theorem pd_w1083 : Cond.methodLink "PascalDeskLaw" 90 pd_y127 ∈ pd_TT := pd_mem 1083 (by decide +kernel) (by decide +kernel)
theorem pd_w1084 : Cond.instanceMethod pd_y127 ∈ pd_TT := pd_mem 1084 (by decide +kernel) (by decide +kernel)
theorem pd_w1085 : Cond.selects "PascalDeskModel" pd_y127 pd_y127 ∈ pd_TT := pd_mem 1085 (by decide +kernel) (by decide +kernel)
theorem pd_w1086 : Cond.code pd_y127 prog_10_method_37_code 4 (some .int) ∈ pd_TT := pd_mem 1086 (by decide +kernel) (by decide +kernel)
theorem pd_w1087 : Cond.constantLong "PascalDeskLaw" 50 (Int64.ofNat 4294967295) ∈ pd_TT := pd_mem 1087 (by decide +kernel) (by decide +kernel)
theorem pd_w1088 : Cond.constantDouble "PascalDeskLaw" 78 (UInt64.ofNat 4593671619917905920) ∈ pd_TT := pd_mem 1088 (by decide +kernel) (by decide +kernel)
theorem pd_w1089 : Cond.arrayClass .long ∈ pd_TT := pd_mem 1089 (by decide +kernel) (by decide +kernel)
theorem pd_wa_int : Cond.arrayClass .int ∈ pd_TT := pd_w128
theorem pd_wa_char : Cond.arrayClass .char ∈ pd_TT := pd_w127
theorem pd_wa_double : Cond.arrayClass .double ∈ pd_TT := pd_w176
theorem pd_wa_long : Cond.arrayClass .long ∈ pd_TT := pd_w1089
theorem pd_wa_boolean : Cond.arrayClass .boolean ∈ pd_TT := pd_w937
end
section
/-! THE CHECKS -/
/-- a link is as the tables have it -/
def pd_LO (own : String) (ix : Nat) (k : mm_K) : Prop :=
  (k.1 = 0 → ∃ C T N, mm_FL pd_cl pd_TT own ix k.2.1 k.2.2.1 C T N) ∧
  (k.1 = 1 → ∃ bt mL rt, pd_cw k.2.1 = .code (pd_yj k.2.1) bt mL rt ∧ mm_CE pd_TT (pd_yj k.2.1) bt mL k.2.2.1 rt ∧ mm_ML pd_TT pd_cl own ix k.2.2.2 (pd_yj k.2.1)) ∧
  (k.1 = 2 → ∃ bt mL rt, pd_cw k.2.1 = .code (pd_yj k.2.1) bt mL rt ∧ mm_CE pd_TT (pd_yj k.2.1) bt mL k.2.2.1 rt ∧ Cond.methodLink own ix (pd_yj k.2.1) ∈ pd_TT ∧ Cond.static (pd_yj k.2.1) ∈ pd_TT) ∧
  (k.1 = 14 → ∃ bt mL rt hh, pd_cw k.2.1 = .codeWith (pd_yj k.2.1) bt mL rt hh ∧ mm_CEW pd_TT (pd_yj k.2.1) bt mL k.2.2.1 rt hh ∧ Cond.methodLink own ix (pd_yj k.2.1) ∈ pd_TT ∧ Cond.static (pd_yj k.2.1) ∈ pd_TT) ∧
  (k.1 = 3 → Cond.methodLink own ix Lib.objectInit ∈ pd_TT ∧ Cond.instanceMethod Lib.objectInit ∈ pd_TT ∧ Cond.code Lib.objectInit ⟨#[0xb1]⟩ 1 none ∈ pd_TT) ∧
  (k.1 = 4 → ∃ C T N, pd_cl[k.2.1]? = some (C, T, N) ∧ Cond.classLink own ix C ∈ pd_TT ∧ Cond.instantiable C N ∈ pd_TT ∧ Cond.initialized C ∈ pd_TT ∧ (mm_ty (pd_ak (10 + k.2.1)) = 5 → pd_ak (10 + k.2.1) = .object C ∧ Cond.arrayOver (.object C) ∈ pd_TT)) ∧
  (k.1 = 10 → ∃ bt mL, pd_cw k.2.1 = .code (pd_yj k.2.1) bt mL none ∧ mm_CE pd_TT (pd_yj k.2.1) bt mL k.2.2.1 none ∧ Cond.methodLink own ix (pd_yj k.2.1) ∈ pd_TT ∧ Cond.instanceMethod (pd_yj k.2.1) ∈ pd_TT ∧ (pd_yj k.2.1).name = "<init>") ∧
  (k.1 = 5 → Cond.classLink own ix (pd_ex k.2.1) ∈ pd_TT) ∧
  (k.1 = 7 → Cond.constantLong own ix (Int64.ofNat k.2.1) ∈ pd_TT) ∧
  (k.1 = 8 → Cond.constantDouble own ix (UInt64.ofNat k.2.1) ∈ pd_TT) ∧ k.1 ≠ 6
section LO
variable {own : String} {ix a b c : Nat}
theorem mm_LO.k0 {C : String} {T : u_T} {N : Nat} (h1 : pd_cl[a]? = some (C, T, N)) (h2 : b < N) (h3 : Cond.fieldLink own ix (T b).1 (T b).2.1 (T b).2.2.1 ∈ pd_TT) : pd_LO own ix (0, a, b, c) := by
  refine ⟨fun _ => ⟨C, T, N, h1, h2, h3⟩, ?_⟩
  refine ⟨?_, ?_, ?_, ?_, ?_, ?_, ?_, ?_, ?_, ?_⟩ <;> intro h <;> cases h
theorem mm_LO.k1 {bt : ByteArray} {mL : Nat} {rt : Option FieldType} (h1 : (pd_at a).2.2.2.1 = .code (pd_at a).1 bt mL rt) (h2 : mm_CE pd_TT (pd_at a).1 bt mL b rt) (h3 : mm_ML pd_TT pd_cl own ix c (pd_at a).1) : pd_LO own ix (1, a, b, c) := by
  refine ⟨?_, fun _ => ⟨bt, mL, rt, h1, h2, h3⟩, ?_⟩
  · intro h; cases h
  · refine ⟨?_, ?_, ?_, ?_, ?_, ?_, ?_, ?_, ?_⟩ <;> intro h <;> cases h
theorem mm_LO.k2 {bt : ByteArray} {mL : Nat} {rt : Option FieldType} (h1 : (pd_at a).2.2.2.1 = .code (pd_at a).1 bt mL rt) (h2 : mm_CE pd_TT (pd_at a).1 bt mL b rt) (h3 : Cond.methodLink own ix (pd_at a).1 ∈ pd_TT) (h4 : Cond.static (pd_at a).1 ∈ pd_TT) : pd_LO own ix (2, a, b, c) := by
  refine ⟨?_, ?_, fun _ => ⟨bt, mL, rt, h1, h2, h3, h4⟩, ?_⟩
  · intro h; cases h
  · intro h; cases h
  · refine ⟨?_, ?_, ?_, ?_, ?_, ?_, ?_, ?_⟩ <;> intro h <;> cases h
theorem mm_LO.k14 {bt : ByteArray} {mL : Nat} {rt : Option FieldType} {hh : List (Nat × Nat × Nat × Nat)} (h1 : (pd_at a).2.2.2.1 = .codeWith (pd_at a).1 bt mL rt hh) (h2 : mm_CEW pd_TT (pd_at a).1 bt mL b rt hh) (h3 : Cond.methodLink own ix (pd_at a).1 ∈ pd_TT) (h4 : Cond.static (pd_at a).1 ∈ pd_TT) : pd_LO own ix (14, a, b, c) := by
  refine ⟨?_, ?_, ?_, fun _ => ⟨bt, mL, rt, hh, h1, h2, h3, h4⟩, ?_⟩
  · intro h; cases h
  · intro h; cases h
  · intro h; cases h
  · refine ⟨?_, ?_, ?_, ?_, ?_, ?_, ?_⟩ <;> intro h <;> cases h
theorem mm_LO.k3 (h1 : Cond.methodLink own ix Lib.objectInit ∈ pd_TT) (h2 : Cond.instanceMethod Lib.objectInit ∈ pd_TT) (h3 : Cond.code Lib.objectInit ⟨#[0xb1]⟩ 1 none ∈ pd_TT) : pd_LO own ix (3, a, b, c) := by
  refine ⟨?_, ?_, ?_, ?_, fun _ => ⟨h1, h2, h3⟩, ?_⟩
  · intro h; cases h
  · intro h; cases h
  · intro h; cases h
  · intro h; cases h
  · refine ⟨?_, ?_, ?_, ?_, ?_, ?_⟩ <;> intro h <;> cases h
theorem mm_LO.k4 {C : String} {T : u_T} {N : Nat} (h1 : pd_cl[a]? = some (C, T, N)) (h2 : Cond.classLink own ix C ∈ pd_TT) (h3 : Cond.instantiable C N ∈ pd_TT) (h4 : Cond.initialized C ∈ pd_TT) (h5 : mm_ty (pd_ak (10 + a)) = 5 → pd_ak (10 + a) = .object C ∧ Cond.arrayOver (.object C) ∈ pd_TT) : pd_LO own ix (4, a, b, c) := by
  refine ⟨?_, ?_, ?_, ?_, ?_, fun _ => ⟨C, T, N, h1, h2, h3, h4, h5⟩, ?_⟩
  · intro h; cases h
  · intro h; cases h
  · intro h; cases h
  · intro h; cases h
  · intro h; cases h
  · refine ⟨?_, ?_, ?_, ?_, ?_⟩ <;> intro h <;> cases h
theorem mm_LO.k10 {bt : ByteArray} {mL : Nat} (h1 : (pd_at a).2.2.2.1 = .code (pd_at a).1 bt mL none) (h2 : mm_CE pd_TT (pd_at a).1 bt mL b none) (h3 : Cond.methodLink own ix (pd_at a).1 ∈ pd_TT) (h4 : Cond.instanceMethod (pd_at a).1 ∈ pd_TT) (h5 : (pd_at a).1.name = "<init>") : pd_LO own ix (10, a, b, c) := by
  refine ⟨?_, ?_, ?_, ?_, ?_, ?_, fun _ => ⟨bt, mL, h1, h2, h3, h4, h5⟩, ?_⟩
  · intro h; cases h
  · intro h; cases h
  · intro h; cases h
  · intro h; cases h
  · intro h; cases h
  · intro h; cases h
  · refine ⟨?_, ?_, ?_, ?_⟩ <;> intro h <;> cases h
theorem mm_LO.k5 (h1 : Cond.classLink own ix (pd_ex a) ∈ pd_TT) : pd_LO own ix (5, a, b, c) := by
  refine ⟨?_, ?_, ?_, ?_, ?_, ?_, ?_, fun _ => h1, ?_⟩
  · intro h; cases h
  · intro h; cases h
  · intro h; cases h
  · intro h; cases h
  · intro h; cases h
  · intro h; cases h
  · intro h; cases h
  · refine ⟨?_, ?_, ?_⟩ <;> intro h <;> cases h
theorem mm_LO.k7 (h1 : Cond.constantLong own ix (Int64.ofNat a) ∈ pd_TT) : pd_LO own ix (7, a, b, c) := by
  refine ⟨?_, ?_, ?_, ?_, ?_, ?_, ?_, ?_, fun _ => h1, ?_⟩
  · intro h; cases h
  · intro h; cases h
  · intro h; cases h
  · intro h; cases h
  · intro h; cases h
  · intro h; cases h
  · intro h; cases h
  · intro h; cases h
  · refine ⟨?_, ?_⟩ <;> intro h <;> cases h
theorem mm_LO.k8 (h1 : Cond.constantDouble own ix (UInt64.ofNat a) ∈ pd_TT) : pd_LO own ix (8, a, b, c) := by
  refine ⟨?_, ?_, ?_, ?_, ?_, ?_, ?_, ?_, ?_, fun _ => h1, ?_⟩
  · intro h; cases h
  · intro h; cases h
  · intro h; cases h
  · intro h; cases h
  · intro h; cases h
  · intro h; cases h
  · intro h; cases h
  · intro h; cases h
  · intro h; cases h
  · intro h; cases h
end LO
theorem pd_lk_mem {ix : Nat} {k : mm_K} : ∀ {l : List (Nat × mm_K)}, pd_lk l ix = some k → (ix, k) ∈ l := by
  intro l
  induction l with
  | nil => intro h; cases h
  | cons q r ih =>
    intro h
    unfold pd_lk at h
    cases hb : Nat.beq q.1 ix with
    | true =>
      rw [hb] at h
      have h9 := Nat.eq_of_beq_eq_true hb
      cases h
      rw [← h9]
      exact List.mem_cons_self
    | false =>
      rw [hb] at h
      exact List.mem_cons_of_mem _ (ih h)
abbrev pd_MOK (y : MethodName) (bytes : ByteArray) (ret : Option FieldType) (me : mm_Me) : Prop := mm_MOK pd_cl pd_ak pd_TT pd_strs pd_ex pd_yj pd_cw y bytes ret me
/-- what an instruction wants beside its links -/
def pd_ib1 (me : mm_Me) (y : MethodName) (ret : Option FieldType) (thr : List (Nat × Nat × Nat)) (pc : Nat) (i : Instr) : Bool := match i with
  | .putfield ix => match me.lk ix with
    | some k => match pd_cl[k.2.1]? with
      | some (_, T, _) => !(T k.2.2.1).2.2.2 || (decide (y.name = "<init>") && decide ((T k.2.2.1).1 = y.cls))
      | none => false
    | none => true
  | .new ix => match me.lk ix with
    | some k => !(Nat.beq k.1 5) || decide ((pc, ix, k.2.1) ∈ thr)
    | none => true
  | .anewarray ix => match me.lk ix with
    | some k => Nat.beq (mm_ty (pd_ak (10 + k.2.1))) 5
    | none => true
  | .newarray t => match t with
    | .int | .char | .double | .long | .boolean => true
    | _ => false
  | .ireturn => decide (ret = some (match me.rk with
    | 0 => .int
    | 1 => .char
    | _ => .boolean))
  | .lreturn => decide (ret = some .long)
  | .dreturn => decide (ret = some .double)
  | .areturn => match ret with
    | some (.object _) => true
    | some (.array _) => true
    | _ => false
  | .return_ => decide (ret = none)
  | _ => true
def pd_ib (me : mm_Me) (y : MethodName) (bytes : ByteArray) (ret : Option FieldType) (thr : List (Nat × Nat × Nat)) (pc : Nat) (q : Instr × Nat) : Bool :=
  decide (decode bytes pc = .ok q) && ((Nat.beq (mm_len q.1) 0 || Nat.beq q.2 (mm_len q.1)) && (((mm_offs q.1).all fun o => decide (0 ≤ (pc : Int) + o)) && (decide (mm_sti q.1 ≤ me.nL) && (mm_swok q.1 && pd_ib1 me y ret thr pc q.1))))
def pd_ibs (me : mm_Me) (y : MethodName) (bytes : ByteArray) (ret : Option FieldType) (thr : List (Nat × Nat × Nat)) : List (Option (Instr × Nat)) → Nat → Bool
  | [], _ => true
  | none :: r, pc => pd_ibs me y bytes ret thr r (pc + 1)
  | some q :: r, pc => pd_ib me y bytes ret thr pc q && pd_ibs me y bytes ret thr r (pc + 1)
theorem pd_ibs_at {me : mm_Me} {y : MethodName} {bytes : ByteArray} {ret : Option FieldType} {thr : List (Nat × Nat × Nat)} {q : Instr × Nat} : ∀ (l : List (Option (Instr × Nat))) (pc k : Nat), pd_ibs me y bytes ret thr l pc = true → l[k]? = some (some q) → pd_ib me y bytes ret thr (pc + k) q = true := by
  intro l
  induction l with
  | nil => intro pc k _ h; simp at h
  | cons o r ih =>
    intro pc k h hk
    cases k with
    | zero =>
      rw [List.getElem?_cons_zero] at hk
      cases hk
      have h : (pd_ib me y bytes ret thr pc q && pd_ibs me y bytes ret thr r (pc + 1)) = true := h
      rw [Bool.and_eq_true] at h
      exact h.1
    | succ k =>
      rw [List.getElem?_cons_succ] at hk
      have h2 : pd_ibs me y bytes ret thr r (pc + 1) = true := by
        cases o with
        | none => exact h
        | some q' =>
          have h : (pd_ib me y bytes ret thr pc q' && pd_ibs me y bytes ret thr r (pc + 1)) = true := h
          rw [Bool.and_eq_true] at h
          exact h.2
      have h3 := ih (pc + 1) k h2 hk
      rw [show pc + 1 + k = pc + (k + 1) by omega] at h3
      exact h3
theorem pd_MOK.of {own : String} {y : MethodName} {bytes : ByteArray} {ret : Option FieldType} {me : mm_Me} {lkl : List (Nat × mm_K)} {thr : List (Nat × Nat × Nat)} (hown : y.cls = own) (hLO : ∀ q ∈ lkl, pd_LO own q.1 q.2) (hlk : me.lk = pd_lk lkl) (hthr : ∀ q ∈ thr, ∃ is ic text names, mm_TH pd_TT pd_strs bytes own (pd_ex q.2.2) q.1 q.2.1 is ic text names) (hb : pd_ibs me y bytes ret thr me.dec 0 = true) : pd_MOK y bytes ret me := by
  subst hown
  intro pc i n hd
  have h := pd_ibs_at me.dec 0 pc hb hd
  rw [Nat.zero_add] at h
  unfold pd_ib at h
  simp only [Bool.and_eq_true, Bool.or_eq_true, decide_eq_true_eq, List.all_eq_true] at h
  obtain ⟨h1, h2, h3, h4, h5, h6⟩ := h
  refine ⟨h1, fun hne => ?_, h3, h4, h5, ?_⟩
  · rcases h2 with h2 | h2
    · exact absurd (Nat.eq_of_beq_eq_true h2) hne
    · exact Nat.eq_of_beq_eq_true h2
  · have hL : ∀ ix k, me.lk ix = some k → pd_LO y.cls ix k := fun ix k hk => hLO (ix, k) (pd_lk_mem (by rw [← hlk]; exact hk))
    cases i with
    | ldc ix => intro k hk h9; exact absurd h9 (hL ix k hk).2.2.2.2.2.2.2.2.2.2
    | ldc2_w ix => intro k hk; exact ⟨(hL ix k hk).2.2.2.2.2.2.2.2.1, (hL ix k hk).2.2.2.2.2.2.2.2.2.1⟩
    | getfield ix => intro k hk; exact (hL ix k hk).1
    | putfield ix =>
      intro k hk h0
      obtain ⟨C, T, N, hF⟩ := (hL ix k hk).1 h0
      refine ⟨C, T, N, hF, ?_⟩
      have h6 : (match me.lk ix with
        | some k => match pd_cl[k.2.1]? with
          | some (_, T, _) => !(T k.2.2.1).2.2.2 || (decide (y.name = "<init>") && decide ((T k.2.2.1).1 = y.cls))
          | none => false
        | none => true) = true := h6
      rw [hk] at h6
      have h6 : (match pd_cl[k.2.1]? with
          | some (_, T, _) => !(T k.2.2.1).2.2.2 || (decide (y.name = "<init>") && decide ((T k.2.2.1).1 = y.cls))
          | none => false) = true := h6
      rw [hF.1] at h6
      simp only [Bool.or_eq_true, Bool.not_eq_true', Bool.and_eq_true, decide_eq_true_eq] at h6
      exact h6
    | new ix =>
      intro k hk
      refine ⟨fun h0 => ?_, fun h0 => ?_⟩
      · obtain ⟨C, T, N, g1, g2, g3, g4, -⟩ := (hL ix k hk).2.2.2.2.2.1 h0
        exact ⟨C, T, N, g1, g2, g3, g4⟩
      · have h6 : (match me.lk ix with
          | some k => !(Nat.beq k.1 5) || decide ((pc, ix, k.2.1) ∈ thr)
          | none => true) = true := h6
        rw [hk] at h6
        have h6 : (!(Nat.beq k.1 5) || decide ((pc, ix, k.2.1) ∈ thr)) = true := h6
        rw [h0] at h6
        have h6 : decide ((pc, ix, k.2.1) ∈ thr) = true := h6
        exact hthr _ (of_decide_eq_true h6)
    | anewarray ix =>
      intro k hk h0
      obtain ⟨C, T, N, g1, g2, g3, g4, g5⟩ := (hL ix k hk).2.2.2.2.2.1 h0
      have h6 : (match me.lk ix with
        | some k => Nat.beq (mm_ty (pd_ak (10 + k.2.1))) 5
        | none => true) = true := h6
      rw [hk] at h6
      have h7 := g5 (Nat.eq_of_beq_eq_true h6)
      exact ⟨C, h7.1, g2, h7.2⟩
    | newarray t =>
      cases t with
      | int => exact pd_wa_int
      | char => exact pd_wa_char
      | double => exact pd_wa_double
      | long => exact pd_wa_long
      | boolean => exact pd_wa_boolean
      | _ => cases h6
    | invokevirtual ix => intro k hk; exact (hL ix k hk).2.1
    | invokespecial ix => intro k hk; exact ⟨(hL ix k hk).2.2.2.2.2.2.1, (hL ix k hk).2.2.2.2.1⟩
    | invokestatic ix => intro k hk; exact ⟨(hL ix k hk).2.2.1, (hL ix k hk).2.2.2.1⟩
    | ireturn => exact (of_decide_eq_true (p := ret = some (match me.rk with
        | 0 => .int
        | 1 => .char
        | _ => .boolean)) h6 :)
    | lreturn => exact (of_decide_eq_true (p := ret = some .long) h6 :)
    | dreturn => exact (of_decide_eq_true (p := ret = some .double) h6 :)
    | areturn =>
      clear hb hthr h1
      cases ret with
      | none => cases h6
      | some rt =>
        cases rt with
        | object n => exact ⟨_, rfl, .inl ⟨_, rfl⟩⟩
        | array n => exact ⟨_, rfl, .inr ⟨_, rfl⟩⟩
        | _ => cases h6
    | return_ => exact (of_decide_eq_true (p := ret = none) h6 :)
    | _ => trivial
/-! throws -/
def pd_names : List String := ["java/lang/RuntimeException", "java/lang/Exception"]
def pd_gw (w : Cond) : Bool := (mm_wd w && decide (w ∈ lw_tbl)) || decide (w ∈ mm_HW)
theorem pd_gw_spec {w : Cond} (h : pd_gw w = true) : w ∈ pd_TT ∨ w ∈ mm_HW := by
  unfold pd_gw at h
  simp only [Bool.or_eq_true, Bool.and_eq_true, decide_eq_true_eq] at h
  rcases h with ⟨h1, h2⟩ | h
  · exact .inl (List.mem_filter.mpr ⟨h2, h1⟩)
  · exact .inr h
def pd_oal (X : String) (ix : Nat) (rx : ByteArray) : List Cond := (Bundle.throwableAtoms ++ Bundle.throwableSAtoms) ++ ((Bundle.passSAtoms X "java/lang/RuntimeException" ix rx ++ Bundle.chainSAtoms "java/lang/RuntimeException" ["java/lang/Exception"]) ++ (mm_tl "" 0 X).drop 1)
/-- what is checked of a thrown class once -/
def pd_oaP (X : String) (ix : Nat) (rx : ByteArray) : Prop := (pd_oal X ix rx).all pd_gw = true ∧ decode rx 0 = .ok (.aload_n 0, 1) ∧ decode rx 1 = .ok (.aload_n 1, 1) ∧ decode rx 2 = .ok (.invokespecial ix, 3) ∧ decode rx 5 = .ok (.return_, 1)
theorem pd_oaw {own X : String} {ic ix : Nat} {rx : ByteArray} (h : (pd_oal X ix rx).all pd_gw = true) (hm : Cond.methodLink own ic (Bundle.initS X) ∈ pd_TT) : ∀ w ∈ mm_oa own ic X ix rx "java/lang/RuntimeException" ["java/lang/Exception"], w ∈ pd_TT ∨ w ∈ mm_HW := by
  intro w hw
  have h := List.all_eq_true.mp h
  rcases List.mem_append.mp hw with h1 | h1
  · exact pd_gw_spec (h w (List.mem_append.mpr (.inl h1)))
  · rcases List.mem_append.mp h1 with h1 | h1
    · exact pd_gw_spec (h w (List.mem_append.mpr (.inr (List.mem_append.mpr (.inl h1)))))
    · rcases List.mem_cons.mp h1 with h2 | h2
      · rw [h2]; exact .inl hm
      · exact pd_gw_spec (h w (List.mem_append.mpr (.inr (List.mem_append.mpr (.inr h2)))))
theorem pd_th {own X : String} {cc : ByteArray} {pc ik is ic ix : Nat} {rx : ByteArray} {text : String} (h : pd_oaP X ix rx) (f1 : Bundle.fit X = true) (f2 : ∀ n ∈ pd_names, Bundle.fit n = true) (w1 : Cond.classLink own ik X ∈ pd_TT) (w2 : Cond.initialized X ∈ pd_TT) (w3 : Cond.instantiable X 6 ∈ pd_TT) (hs : (own, is, text) ∈ pd_strs) (w4 : Cond.methodLink own ic (Bundle.initS X) ∈ pd_TT)
    (d0 : decode cc pc = .ok (.new ik, 3)) (d3 : decode cc (pc + 3) = .ok (.dup, 1)) (d4 : decode cc (pc + 4) = .ok (.ldc is, 2)) (d6 : decode cc (pc + 6) = .ok (.invokespecial ic, 3)) (d9 : decode cc (pc + 9) = .ok (.athrow, 1)) : mm_TH pd_TT pd_strs cc own X pc ik is ic text pd_names :=
  ⟨f1, f2, w1, w2, w3, hs, ⟨ix, rx, _, _, rfl, h.2.1, h.2.2.1, h.2.2.2.1, h.2.2.2.2, pd_oaw h.1 w4⟩, by decide, d0, d3, d4, d6, d9⟩
/-! handlers -/
def pd_hb (lk : Nat → Option mm_K) (hs : List (Nat × Nat × Nat × Nat)) : Bool := hs.all fun h => !(Nat.beq h.2.2.2 0) && (match lk h.2.2.2 with
  | some k => !(Nat.beq k.1 5) || (decide (Cond.classLink "PascalDeskLaw" h.2.2.2 (pd_ex k.2.1) ∈ lw_tbl) && (mm_wd (Cond.classLink "PascalDeskLaw" h.2.2.2 (pd_ex k.2.1)) && (decide (Cond.castable (pd_ex k.2.1) (pd_ex k.2.1) ∈ lw_tbl) && (List.range 5).all fun E => Nat.beq E k.2.1 || decide ((pd_ex E, pd_ex k.2.1) ∈ pd_nc))))
  | none => true)
theorem pd_HOK.of {me : mm_Me} {hs : List (Nat × Nat × Nat × Nat)} {lk : Nat → Option mm_K} (h1 : me.hs = hs) (h2 : me.lk = lk) (h : pd_hb lk hs = true) : mm_HOK pd_TT pd_nc pd_ex "PascalDeskLaw" me := by
  intro a b t ix hm
  rw [h1] at hm
  have h3 := List.all_eq_true.mp h _ hm
  rw [Bool.and_eq_true] at h3
  refine ⟨?_, ?_⟩
  · intro h0
    have h4 := h3.1
    rw [show ((a, b, t, ix) : Nat × Nat × Nat × Nat).2.2.2 = 0 from h0] at h4
    cases h4
  · intro E' ⟨q, hq⟩
    rw [h2] at hq
    have h4 : (match lk ix with
      | some k => !(Nat.beq k.1 5) || (decide (Cond.classLink "PascalDeskLaw" ix (pd_ex k.2.1) ∈ lw_tbl) && (mm_wd (Cond.classLink "PascalDeskLaw" ix (pd_ex k.2.1)) && (decide (Cond.castable (pd_ex k.2.1) (pd_ex k.2.1) ∈ lw_tbl) && (List.range 5).all fun E => Nat.beq E k.2.1 || decide ((pd_ex E, pd_ex k.2.1) ∈ pd_nc))))
      | none => true) = true := h3.2
    rw [hq] at h4
    have h4 : (decide (Cond.classLink "PascalDeskLaw" ix (pd_ex E') ∈ lw_tbl) && (mm_wd (Cond.classLink "PascalDeskLaw" ix (pd_ex E')) && (decide (Cond.castable (pd_ex E') (pd_ex E') ∈ lw_tbl) && (List.range 5).all fun E => Nat.beq E E' || decide ((pd_ex E, pd_ex E') ∈ pd_nc)))) = true := h4
    simp only [Bool.and_eq_true, decide_eq_true_eq, List.all_eq_true, Bool.or_eq_true, List.mem_range] at h4
    obtain ⟨g1, g2, g3, g4⟩ := h4
    refine ⟨List.mem_filter.mpr ⟨g1, g2⟩, List.mem_filter.mpr ⟨g3, rfl⟩, fun E hE hne => ?_⟩
    rcases g4 E hE with h9 | h9
    · exact absurd (Nat.eq_of_beq_eq_true h9) hne
    · exact h9
theorem pd_allH {l : List (Option (Instr × Nat))} (h : (l.all fun o => match o with
    | some q => mm_isH q.1
    | none => true) = true) : ∀ (pc : Nat) (i : Instr) (n : Nat), l[pc]? = some (some (i, n)) → mm_isH i = true := fun pc i n hd => List.all_eq_true.mp h _ (List.mem_of_getElem? hd)
def pd_okq (q : pd_R) : Prop :=
  plainFor q.1 = true ∧ pd_MOK q.1 q.2.1 q.2.2.1 q.2.2.2.2 ∧
  ((q.2.2.2.2.hs = [] ∧ q.2.2.2.1 = .code q.1 q.2.1 q.2.2.2.2.nL q.2.2.1) ∨ (q.2.2.2.2.hs ≠ [] ∧ q.2.2.2.1 = .codeWith q.1 q.2.1 q.2.2.2.2.nL q.2.2.1 q.2.2.2.2.hs ∧ (∀ (pc : Nat) (i : Instr) (n : Nat), q.2.2.2.2.dec[pc]? = some (some (i, n)) → mm_isH i = true) ∧ q.2.2.2.2.rk = 0 ∧ mm_HOK pd_TT pd_nc pd_ex q.1.cls q.2.2.2.2))
end
section
/-! links of each class (printed) -/
theorem pd_ce0 : mm_CE pd_TT pd_y0 prog_1_method_1_code 1 0 none := ⟨pd_w90, by decide +kernel, pd_w69, ⟨by decide +kernel, by decide +kernel⟩, by decide +kernel, by decide⟩
theorem pd_ce1 : mm_CE pd_TT pd_y1 prog_1_method_9_code 2 1 (some .int) := ⟨pd_w299, by decide +kernel, pd_w69, ⟨by decide +kernel, by decide +kernel⟩, by decide +kernel, by decide⟩
theorem pd_ce2 : mm_CE pd_TT pd_y2 prog_1_method_2_code 6 1 (some .int) := ⟨pd_w312, by decide +kernel, pd_w69, ⟨by decide +kernel, by decide +kernel⟩, by decide +kernel, by decide⟩
theorem pd_ce3 : mm_CE pd_TT pd_y3 prog_1_method_10_code 3 2 (some .int) := ⟨pd_w315, by decide +kernel, pd_w69, ⟨by decide +kernel, by decide +kernel⟩, by decide +kernel, by decide⟩
theorem pd_ce4 : mm_CE pd_TT pd_y4 prog_1_method_3_code 3 1 (some .int) := ⟨pd_w416, by decide +kernel, pd_w69, ⟨by decide +kernel, by decide +kernel⟩, by decide +kernel, by decide⟩
theorem pd_ce5 : mm_CE pd_TT pd_y5 prog_1_method_11_code 1 1 (some .boolean) := ⟨pd_w419, by decide +kernel, pd_w69, ⟨by decide +kernel, by decide +kernel⟩, by decide +kernel, by decide⟩
theorem pd_ce6 : mm_CE pd_TT pd_y6 prog_1_method_4_code 4 2 none := ⟨pd_w549, by decide +kernel, pd_w69, ⟨by decide +kernel, by decide +kernel⟩, by decide +kernel, by decide⟩
theorem pd_ce7 : mm_CE pd_TT pd_y7 prog_1_method_5_code 4 3 (some .int) := ⟨pd_w564, by decide +kernel, pd_w69, ⟨by decide +kernel, by decide +kernel⟩, by decide +kernel, by decide⟩
theorem pd_ce8 : mm_CE pd_TT pd_y8 prog_1_method_12_code 1 1 (some .boolean) := ⟨pd_w567, by decide +kernel, pd_w69, ⟨by decide +kernel, by decide +kernel⟩, by decide +kernel, by decide⟩
theorem pd_ce9 : mm_CE pd_TT pd_y9 prog_1_method_6_code 2 1 (some .double) := ⟨pd_w788, by decide +kernel, pd_w69, ⟨by decide +kernel, by decide +kernel⟩, by decide +kernel, by decide⟩
theorem pd_ce10 : mm_CE pd_TT pd_y10 prog_1_method_7_code 6 2 none := ⟨pd_w797, by decide +kernel, pd_w69, ⟨by decide +kernel, by decide +kernel⟩, by decide +kernel, by decide⟩
theorem pd_ce11 : mm_CE pd_TT pd_y11 prog_1_method_8_code 2 1 (some .double) := ⟨pd_w808, by decide +kernel, pd_w69, ⟨by decide +kernel, by decide +kernel⟩, by decide +kernel, by decide⟩
theorem pd_ce12 : mm_CE pd_TT pd_y12 prog_3_method_1_code 1 0 none := ⟨pd_w104, by decide +kernel, pd_w71, ⟨by decide +kernel, by decide +kernel⟩, by decide +kernel, by decide⟩
theorem pd_ce13 : mm_CE pd_TT pd_y13 prog_3_method_2_code 1 0 none := ⟨pd_w428, by decide +kernel, pd_w71, ⟨by decide +kernel, by decide +kernel⟩, by decide +kernel, by decide⟩
theorem pd_ce14 : mm_CE pd_TT pd_y14 prog_3_method_4_code 4 2 (some .int) := ⟨pd_w475, by decide +kernel, pd_w71, ⟨by decide +kernel, by decide +kernel⟩, by decide +kernel, by decide⟩
theorem pd_ce15 : mm_CE pd_TT pd_y15 prog_3_method_5_code 2 1 none := ⟨pd_w525, by decide +kernel, pd_w71, ⟨by decide +kernel, by decide +kernel⟩, by decide +kernel, by decide⟩
theorem pd_ce16 : mm_CE pd_TT pd_y16 prog_3_method_3_code 1 0 (some .int) := ⟨pd_w533, by decide +kernel, pd_w71, ⟨by decide +kernel, by decide +kernel⟩, by decide +kernel, by decide⟩
theorem pd_ce17 : mm_CE pd_TT pd_y17 prog_3_method_6_code 2 1 (some .int) := ⟨pd_w627, by decide +kernel, pd_w71, ⟨by decide +kernel, by decide +kernel⟩, by decide +kernel, by decide⟩
theorem pd_ce18 : mm_CE pd_TT pd_y18 prog_3_method_7_code 2 1 (some .int) := ⟨pd_w631, by decide +kernel, pd_w71, ⟨by decide +kernel, by decide +kernel⟩, by decide +kernel, by decide⟩
theorem pd_ce19 : mm_CE pd_TT pd_y19 prog_5_method_1_code 1 0 none := ⟨pd_w98, by decide +kernel, pd_w70, ⟨by decide +kernel, by decide +kernel⟩, by decide +kernel, by decide⟩
theorem pd_ce20 : mm_CE pd_TT pd_y20 prog_5_method_2_code 1 0 (some .int) := ⟨pd_w389, by decide +kernel, pd_w70, ⟨by decide +kernel, by decide +kernel⟩, by decide +kernel, by decide⟩
theorem pd_ce21 : mm_CE pd_TT pd_y21 prog_5_method_3_code 2 1 none := ⟨pd_w409, by decide +kernel, pd_w70, ⟨by decide +kernel, by decide +kernel⟩, by decide +kernel, by decide⟩
theorem pd_ce22 : mm_CE pd_TT pd_y22 prog_5_method_4_code 2 0 (some .int) := ⟨pd_w424, by decide +kernel, pd_w70, ⟨by decide +kernel, by decide +kernel⟩, by decide +kernel, by decide⟩
theorem pd_ce23 : mm_CE pd_TT pd_y23 prog_5_method_11_code 3 1 none := ⟨pd_w432, by decide +kernel, pd_w70, ⟨by decide +kernel, by decide +kernel⟩, by decide +kernel, by decide⟩
theorem pd_ce24 : mm_CE pd_TT pd_y24 prog_5_method_12_code 3 1 none := ⟨pd_w436, by decide +kernel, pd_w70, ⟨by decide +kernel, by decide +kernel⟩, by decide +kernel, by decide⟩
theorem pd_ce25 : mm_CE pd_TT pd_y25 prog_5_method_5_code 1 0 (some .char) := ⟨pd_w440, by decide +kernel, pd_w70, ⟨by decide +kernel, by decide +kernel⟩, by decide +kernel, by decide⟩
theorem pd_ce26 : mm_CE pd_TT pd_y26 prog_5_method_28_code 1 1 (some .int) := ⟨pd_w443, by decide +kernel, pd_w70, ⟨by decide +kernel, by decide +kernel⟩, by decide +kernel, by decide⟩
theorem pd_ce27 : mm_CE pd_TT pd_y27 prog_5_method_13_code 4 2 none := ⟨pd_w447, by decide +kernel, pd_w70, ⟨by decide +kernel, by decide +kernel⟩, by decide +kernel, by decide⟩
theorem pd_ce28 : mm_CE pd_TT pd_y28 prog_5_method_7_code 2 1 (some .boolean) := ⟨pd_w451, by decide +kernel, pd_w70, ⟨by decide +kernel, by decide +kernel⟩, by decide +kernel, by decide⟩
theorem pd_ce29 : mm_CE pd_TT pd_y29 prog_5_method_6_code 2 1 (some .boolean) := ⟨pd_w455, by decide +kernel, pd_w70, ⟨by decide +kernel, by decide +kernel⟩, by decide +kernel, by decide⟩
theorem pd_ce30 : mm_CE pd_TT pd_y30 prog_5_method_19_code 3 1 (some .boolean) := ⟨pd_w459, by decide +kernel, pd_w70, ⟨by decide +kernel, by decide +kernel⟩, by decide +kernel, by decide⟩
theorem pd_ce31 : mm_CE pd_TT pd_y31 prog_5_method_20_code 4 1 (some .boolean) := ⟨pd_w463, by decide +kernel, pd_w70, ⟨by decide +kernel, by decide +kernel⟩, by decide +kernel, by decide⟩
theorem pd_ce32 : mm_CE pd_TT pd_y32 prog_5_method_21_code 4 1 (some .boolean) := ⟨pd_w467, by decide +kernel, pd_w70, ⟨by decide +kernel, by decide +kernel⟩, by decide +kernel, by decide⟩
theorem pd_ce33 : mm_CE pd_TT pd_y33 prog_5_method_22_code 4 1 (some .boolean) := ⟨pd_w471, by decide +kernel, pd_w70, ⟨by decide +kernel, by decide +kernel⟩, by decide +kernel, by decide⟩
theorem pd_ce34 : mm_CE pd_TT pd_y34 prog_5_method_27_code 1 1 (some .boolean) := ⟨pd_w481, by decide +kernel, pd_w70, ⟨by decide +kernel, by decide +kernel⟩, by decide +kernel, by decide⟩
theorem pd_ce35 : mm_CE pd_TT pd_y35 prog_5_method_23_code 3 0 none := ⟨pd_w485, by decide +kernel, pd_w70, ⟨by decide +kernel, by decide +kernel⟩, by decide +kernel, by decide⟩
theorem pd_ce36 : mm_CE pd_TT pd_y36 prog_5_method_9_code 3 1 (some .int) := ⟨pd_w489, by decide +kernel, pd_w70, ⟨by decide +kernel, by decide +kernel⟩, by decide +kernel, by decide⟩
theorem pd_ce37 : mm_CE pd_TT pd_y37 prog_5_method_24_code 2 1 none := ⟨pd_w493, by decide +kernel, pd_w70, ⟨by decide +kernel, by decide +kernel⟩, by decide +kernel, by decide⟩
theorem pd_ce38 : mm_CE pd_TT pd_y38 prog_5_method_8_code 3 2 (some .boolean) := ⟨pd_w497, by decide +kernel, pd_w70, ⟨by decide +kernel, by decide +kernel⟩, by decide +kernel, by decide⟩
theorem pd_ce39 : mm_CE pd_TT pd_y39 prog_5_method_10_code 2 1 none := ⟨pd_w501, by decide +kernel, pd_w70, ⟨by decide +kernel, by decide +kernel⟩, by decide +kernel, by decide⟩
theorem pd_ce40 : mm_CE pd_TT pd_y40 prog_5_method_25_code 3 1 (some .boolean) := ⟨pd_w505, by decide +kernel, pd_w70, ⟨by decide +kernel, by decide +kernel⟩, by decide +kernel, by decide⟩
theorem pd_ce41 : mm_CE pd_TT pd_y41 prog_5_method_26_code 2 1 none := ⟨pd_w509, by decide +kernel, pd_w70, ⟨by decide +kernel, by decide +kernel⟩, by decide +kernel, by decide⟩
theorem pd_ce42 : mm_CE pd_TT pd_y42 prog_5_method_14_code 2 1 none := ⟨pd_w513, by decide +kernel, pd_w70, ⟨by decide +kernel, by decide +kernel⟩, by decide +kernel, by decide⟩
theorem pd_ce43 : mm_CE pd_TT pd_y43 prog_5_method_15_code 3 1 none := ⟨pd_w517, by decide +kernel, pd_w70, ⟨by decide +kernel, by decide +kernel⟩, by decide +kernel, by decide⟩
theorem pd_ce44 : mm_CE pd_TT pd_y44 prog_5_method_17_code 2 1 none := ⟨pd_w521, by decide +kernel, pd_w70, ⟨by decide +kernel, by decide +kernel⟩, by decide +kernel, by decide⟩
theorem pd_ce45 : mm_CE pd_TT pd_y45 prog_5_method_16_code 4 1 none := ⟨pd_w529, by decide +kernel, pd_w70, ⟨by decide +kernel, by decide +kernel⟩, by decide +kernel, by decide⟩
theorem pd_ce46 : mm_CE pd_TT pd_y46 prog_5_method_18_code 4 1 none := ⟨pd_w537, by decide +kernel, pd_w70, ⟨by decide +kernel, by decide +kernel⟩, by decide +kernel, by decide⟩
theorem pd_ce47 : mm_CE pd_TT pd_y47 prog_6_method_1_code 2 0 none := ⟨pd_w154, by decide +kernel, pd_w72, ⟨by decide +kernel, by decide +kernel⟩, by decide +kernel, by decide⟩
theorem pd_ce48 : mm_CE pd_TT pd_y48 prog_6_method_3_code 3 0 (some .int) := ⟨pd_w303, by decide +kernel, pd_w72, ⟨by decide +kernel, by decide +kernel⟩, by decide +kernel, by decide⟩
theorem pd_ce49 : mm_CE pd_TT pd_y49 prog_6_method_2_code 4 2 (some (.object "PascalDesk$Code")) := ⟨pd_w542, by decide +kernel, pd_w72, ⟨by decide +kernel, by decide +kernel⟩, by decide +kernel, by decide⟩
theorem pd_ce50 : mm_CE pd_TT pd_y50 prog_6_method_4_code 5 3 (some .int) := ⟨pd_w588, by decide +kernel, pd_w72, ⟨by decide +kernel, by decide +kernel⟩, by decide +kernel, by decide⟩
theorem pd_ce51 : mm_CE pd_TT pd_y51 prog_6_method_5_code 5 3 none := ⟨pd_w592, by decide +kernel, pd_w72, ⟨by decide +kernel, by decide +kernel⟩, by decide +kernel, by decide⟩
theorem pd_ce52 : mm_CE pd_TT pd_y52 prog_6_method_6_code 5 0 (some .int) := ⟨pd_w608, by decide +kernel, pd_w72, ⟨by decide +kernel, by decide +kernel⟩, by decide +kernel, by decide⟩
theorem pd_ce53 : mm_CE pd_TT pd_y53 prog_6_method_7_code 7 1 none := ⟨pd_w619, by decide +kernel, pd_w72, ⟨by decide +kernel, by decide +kernel⟩, by decide +kernel, by decide⟩
theorem pd_ce54 : mm_CE pd_TT pd_y54 prog_6_method_8_code 5 3 none := ⟨pd_w635, by decide +kernel, pd_w72, ⟨by decide +kernel, by decide +kernel⟩, by decide +kernel, by decide⟩
theorem pd_ce55 : mm_CE pd_TT pd_y55 prog_6_method_9_code 3 1 none := ⟨pd_w656, by decide +kernel, pd_w72, ⟨by decide +kernel, by decide +kernel⟩, by decide +kernel, by decide⟩
theorem pd_ce56 : mm_CE pd_TT pd_y56 prog_6_method_10_code 3 2 none := ⟨pd_w661, by decide +kernel, pd_w72, ⟨by decide +kernel, by decide +kernel⟩, by decide +kernel, by decide⟩
theorem pd_ce57 : mm_CE pd_TT pd_y57 prog_6_method_11_code 3 1 none := ⟨pd_w665, by decide +kernel, pd_w72, ⟨by decide +kernel, by decide +kernel⟩, by decide +kernel, by decide⟩
theorem pd_ce58 : mm_CE pd_TT pd_y58 prog_6_method_12_code 6 1 (some .int) := ⟨pd_w669, by decide +kernel, pd_w72, ⟨by decide +kernel, by decide +kernel⟩, by decide +kernel, by decide⟩
theorem pd_ce59 : mm_CE pd_TT pd_y59 prog_6_method_13_code 3 2 none := ⟨pd_w673, by decide +kernel, pd_w72, ⟨by decide +kernel, by decide +kernel⟩, by decide +kernel, by decide⟩
theorem pd_ce60 : mm_CE pd_TT pd_y60 prog_6_method_14_code 4 2 none := ⟨pd_w685, by decide +kernel, pd_w72, ⟨by decide +kernel, by decide +kernel⟩, by decide +kernel, by decide⟩
theorem pd_ce61 : mm_CE pd_TT pd_y61 prog_6_method_15_code 3 0 (some .int) := ⟨pd_w690, by decide +kernel, pd_w72, ⟨by decide +kernel, by decide +kernel⟩, by decide +kernel, by decide⟩
theorem pd_ce62 : mm_CE pd_TT pd_y62 prog_6_method_16_code 2 0 none := ⟨pd_w764, by decide +kernel, pd_w72, ⟨by decide +kernel, by decide +kernel⟩, by decide +kernel, by decide⟩
theorem pd_ce63 : mm_CE pd_TT pd_y63 prog_6_method_17_code 5 1 none := ⟨pd_w768, by decide +kernel, pd_w72, ⟨by decide +kernel, by decide +kernel⟩, by decide +kernel, by decide⟩
theorem pd_ce64 : mm_CE pd_TT pd_y64 prog_6_method_18_code 5 1 (some .boolean) := ⟨pd_w772, by decide +kernel, pd_w72, ⟨by decide +kernel, by decide +kernel⟩, by decide +kernel, by decide⟩
theorem pd_ce65 : mm_CE pd_TT pd_y65 prog_6_method_19_code 3 1 (some .int) := ⟨pd_w780, by decide +kernel, pd_w72, ⟨by decide +kernel, by decide +kernel⟩, by decide +kernel, by decide⟩
theorem pd_ce66 : mm_CE pd_TT pd_y66 prog_2_method_1_code 1 0 none := ⟨pd_w163, by decide +kernel, pd_w73, ⟨by decide +kernel, by decide +kernel⟩, by decide +kernel, by decide⟩
theorem pd_ce67 : mm_CE pd_TT pd_y67 prog_2_method_3_code 1 1 (some .boolean) := ⟨pd_w478, by decide +kernel, pd_w73, ⟨by decide +kernel, by decide +kernel⟩, by decide +kernel, by decide⟩
theorem pd_ce68 : mm_CE pd_TT pd_y68 prog_2_method_4_code 1 0 none := ⟨pd_w623, by decide +kernel, pd_w73, ⟨by decide +kernel, by decide +kernel⟩, by decide +kernel, by decide⟩
theorem pd_ce69 : mm_CE pd_TT pd_y69 prog_2_method_5_code 1 0 (some .double) := ⟨pd_w639, by decide +kernel, pd_w73, ⟨by decide +kernel, by decide +kernel⟩, by decide +kernel, by decide⟩
theorem pd_ce70 : mm_CE pd_TT pd_y70 prog_2_method_6_code 4 2 none := ⟨pd_w643, by decide +kernel, pd_w73, ⟨by decide +kernel, by decide +kernel⟩, by decide +kernel, by decide⟩
theorem pd_ce71 : mm_CE pd_TT pd_y71 prog_2_method_2_code 1 1 (some .boolean) := ⟨pd_w646, by decide +kernel, pd_w73, ⟨by decide +kernel, by decide +kernel⟩, by decide +kernel, by decide⟩
theorem pd_ce72 : mm_CE pd_TT pd_y72 prog_2_method_7_code 3 0 none := ⟨pd_w650, by decide +kernel, pd_w73, ⟨by decide +kernel, by decide +kernel⟩, by decide +kernel, by decide⟩
theorem pd_ce73 : mm_CE pd_TT pd_y73 prog_2_method_8_code 7 2 none := ⟨pd_w701, by decide +kernel, pd_w73, ⟨by decide +kernel, by decide +kernel⟩, by decide +kernel, by decide⟩
theorem pd_ce74 : mm_CE pd_TT pd_y74 prog_2_method_9_code 3 1 none := ⟨pd_w705, by decide +kernel, pd_w73, ⟨by decide +kernel, by decide +kernel⟩, by decide +kernel, by decide⟩
theorem pd_ce75 : mm_CE pd_TT pd_y75 prog_2_method_10_code 2 1 none := ⟨pd_w709, by decide +kernel, pd_w73, ⟨by decide +kernel, by decide +kernel⟩, by decide +kernel, by decide⟩
theorem pd_ce76 : mm_CE pd_TT pd_y76 prog_2_method_11_code 1 1 (some .int) := ⟨pd_w712, by decide +kernel, pd_w73, ⟨by decide +kernel, by decide +kernel⟩, by decide +kernel, by decide⟩
theorem pd_ce77 : mm_CE pd_TT pd_y77 prog_2_method_12_code 5 3 (some .double) := ⟨pd_w731, by decide +kernel, pd_w73, ⟨by decide +kernel, by decide +kernel⟩, by decide +kernel, by decide⟩
theorem pd_ce78 : mm_CE pd_TT pd_y78 prog_2_method_15_code 2 1 (some .double) := ⟨pd_w734, by decide +kernel, pd_w73, ⟨by decide +kernel, by decide +kernel⟩, by decide +kernel, by decide⟩
theorem pd_ce79 : mm_CE pd_TT pd_y79 prog_2_method_13_code 4 2 (some .double) := ⟨pd_w755, by decide +kernel, pd_w73, ⟨by decide +kernel, by decide +kernel⟩, by decide +kernel, by decide⟩
theorem pd_ce80 : mm_CE pd_TT pd_y80 prog_2_method_14_code 2 2 (some .int) := ⟨pd_w759, by decide +kernel, pd_w73, ⟨by decide +kernel, by decide +kernel⟩, by decide +kernel, by decide⟩
theorem pd_ce81 : mm_CE pd_TT pd_y81 prog_8_method_1_code 1 0 none := ⟨pd_w181, by decide +kernel, pd_w74, ⟨by decide +kernel, by decide +kernel⟩, by decide +kernel, by decide⟩
theorem pd_ce82 : mm_CE pd_TT pd_y82 prog_8_method_2_code 5 2 none := ⟨pd_w554, by decide +kernel, pd_w74, ⟨by decide +kernel, by decide +kernel⟩, by decide +kernel, by decide⟩
theorem pd_ce83 : mm_CE pd_TT pd_y83 prog_8_method_3_code 1 0 none := ⟨pd_w596, by decide +kernel, pd_w74, ⟨by decide +kernel, by decide +kernel⟩, by decide +kernel, by decide⟩
theorem pd_ce84 : mm_CE pd_TT pd_y84 prog_8_method_4_code 2 0 (some .int) := ⟨pd_w615, by decide +kernel, pd_w74, ⟨by decide +kernel, by decide +kernel⟩, by decide +kernel, by decide⟩
theorem pd_ce85 : mm_CE pd_TT pd_y85 prog_7_method_1_code 1 0 none := ⟨pd_w198, by decide +kernel, pd_w75, ⟨by decide +kernel, by decide +kernel⟩, by decide +kernel, by decide⟩
theorem pd_ce86 : mm_CE pd_TT pd_y86 prog_7_method_2_code 2 1 none := ⟨pd_w600, by decide +kernel, pd_w75, ⟨by decide +kernel, by decide +kernel⟩, by decide +kernel, by decide⟩
theorem pd_ce87 : mm_CE pd_TT pd_y87 prog_7_method_4_code 5 4 none := ⟨pd_w604, by decide +kernel, pd_w75, ⟨by decide +kernel, by decide +kernel⟩, by decide +kernel, by decide⟩
theorem pd_ce88 : mm_CE pd_TT pd_y88 prog_7_method_5_code 2 1 (some .boolean) := ⟨pd_w680, by decide +kernel, pd_w75, ⟨by decide +kernel, by decide +kernel⟩, by decide +kernel, by decide⟩
theorem pd_ce89 : mm_CE pd_TT pd_y89 prog_7_method_3_code 4 3 none := ⟨pd_w694, by decide +kernel, pd_w75, ⟨by decide +kernel, by decide +kernel⟩, by decide +kernel, by decide⟩
theorem pd_ce90 : mm_CE pd_TT pd_y90 prog_7_method_6_code 1 0 (some .boolean) := ⟨pd_w776, by decide +kernel, pd_w75, ⟨by decide +kernel, by decide +kernel⟩, by decide +kernel, by decide⟩
theorem pd_ce91 : mm_CE pd_TT pd_y91 prog_10_method_1_code 1 0 none := ⟨pd_w814, by decide +kernel, pd_w76, ⟨by decide +kernel, by decide +kernel⟩, by decide +kernel, by decide⟩
theorem pd_ce92 : mm_CE pd_TT pd_y92 prog_10_method_2_code 1 0 (some .int) := ⟨pd_w941, by decide +kernel, pd_w76, ⟨by decide +kernel, by decide +kernel⟩, by decide +kernel, by decide⟩
theorem pd_ce93 : mm_CE pd_TT pd_y93 prog_10_method_3_code 6 1 (some .int) := ⟨pd_w945, by decide +kernel, pd_w76, ⟨by decide +kernel, by decide +kernel⟩, by decide +kernel, by decide⟩
theorem pd_ce94 : mm_CE pd_TT pd_y94 prog_10_method_22_code 4 1 (some .int) := ⟨pd_w949, by decide +kernel, pd_w76, ⟨by decide +kernel, by decide +kernel⟩, by decide +kernel, by decide⟩
theorem pd_ce95 : mm_CE pd_TT pd_y95 prog_10_method_21_code 7 0 (some .int) := ⟨pd_w953, by decide +kernel, pd_w76, ⟨by decide +kernel, by decide +kernel⟩, by decide +kernel, by decide⟩
theorem pd_ce96 : mm_CE pd_TT pd_y96 prog_10_method_4_code 3 2 none := ⟨pd_w957, by decide +kernel, pd_w76, ⟨by decide +kernel, by decide +kernel⟩, by decide +kernel, by decide⟩
theorem pd_ce97 : mm_CE pd_TT pd_y97 prog_10_method_8_code 2 1 none := ⟨pd_w961, by decide +kernel, pd_w76, ⟨by decide +kernel, by decide +kernel⟩, by decide +kernel, by decide⟩
theorem pd_ce98 : mm_CE pd_TT pd_y98 prog_10_method_10_code 1 0 (some .int) := ⟨pd_w965, by decide +kernel, pd_w76, ⟨by decide +kernel, by decide +kernel⟩, by decide +kernel, by decide⟩
theorem pd_ce99 : mm_CE pd_TT pd_y99 prog_10_method_6_code 1 0 (some .int) := ⟨pd_w969, by decide +kernel, pd_w76, ⟨by decide +kernel, by decide +kernel⟩, by decide +kernel, by decide⟩
theorem pd_ce100 : mm_CE pd_TT pd_y100 prog_10_method_15_code 2 1 (some .int) := ⟨pd_w973, by decide +kernel, pd_w76, ⟨by decide +kernel, by decide +kernel⟩, by decide +kernel, by decide⟩
theorem pd_ce101 : mm_CE pd_TT pd_y101 prog_10_method_13_code 2 1 (some .boolean) := ⟨pd_w977, by decide +kernel, pd_w76, ⟨by decide +kernel, by decide +kernel⟩, by decide +kernel, by decide⟩
theorem pd_ce102 : mm_CE pd_TT pd_y102 prog_10_method_14_code 2 1 (some .boolean) := ⟨pd_w981, by decide +kernel, pd_w76, ⟨by decide +kernel, by decide +kernel⟩, by decide +kernel, by decide⟩
theorem pd_ce103 : mm_CE pd_TT pd_y103 prog_10_method_5_code 2 1 none := ⟨pd_w985, by decide +kernel, pd_w76, ⟨by decide +kernel, by decide +kernel⟩, by decide +kernel, by decide⟩
theorem pd_ce104 : mm_CE pd_TT pd_y104 prog_10_method_16_code 2 1 (some .int) := ⟨pd_w989, by decide +kernel, pd_w76, ⟨by decide +kernel, by decide +kernel⟩, by decide +kernel, by decide⟩
theorem pd_ce105 : mm_CE pd_TT pd_y105 prog_10_method_12_code 2 1 (some .int) := ⟨pd_w993, by decide +kernel, pd_w76, ⟨by decide +kernel, by decide +kernel⟩, by decide +kernel, by decide⟩
theorem pd_ce106 : mm_CE pd_TT pd_y106 prog_10_method_7_code 2 1 (some .int) := ⟨pd_w997, by decide +kernel, pd_w76, ⟨by decide +kernel, by decide +kernel⟩, by decide +kernel, by decide⟩
theorem pd_ce107 : mm_CE pd_TT pd_y107 prog_10_method_20_code 3 1 (some .int) := ⟨pd_w1001, by decide +kernel, pd_w76, ⟨by decide +kernel, by decide +kernel⟩, by decide +kernel, by decide⟩
theorem pd_ce108 : mm_CE pd_TT pd_y108 prog_10_method_9_code 4 1 none := ⟨pd_w1005, by decide +kernel, pd_w76, ⟨by decide +kernel, by decide +kernel⟩, by decide +kernel, by decide⟩
theorem pd_ce109 : mm_CE pd_TT pd_y109 prog_10_method_17_code 4 1 (some .int) := ⟨pd_w1009, by decide +kernel, pd_w76, ⟨by decide +kernel, by decide +kernel⟩, by decide +kernel, by decide⟩
theorem pd_ce110 : mm_CE pd_TT pd_y110 prog_10_method_11_code 1 0 none := ⟨pd_w1013, by decide +kernel, pd_w76, ⟨by decide +kernel, by decide +kernel⟩, by decide +kernel, by decide⟩
theorem pd_ce111 : mm_CE pd_TT pd_y111 prog_10_method_18_code 5 1 (some .int) := ⟨pd_w1017, by decide +kernel, pd_w76, ⟨by decide +kernel, by decide +kernel⟩, by decide +kernel, by decide⟩
theorem pd_ce112 : mm_CE pd_TT pd_y112 prog_10_method_19_code 3 2 (some .int) := ⟨pd_w1021, by decide +kernel, pd_w76, ⟨by decide +kernel, by decide +kernel⟩, by decide +kernel, by decide⟩
theorem pd_ce113 : mm_CE pd_TT pd_y113 prog_10_method_23_code 5 2 none := ⟨pd_w1025, by decide +kernel, pd_w76, ⟨by decide +kernel, by decide +kernel⟩, by decide +kernel, by decide⟩
theorem pd_ce114 : mm_CE pd_TT pd_y114 prog_10_method_33_code 5 3 (some .int) := ⟨pd_w1029, by decide +kernel, pd_w76, ⟨by decide +kernel, by decide +kernel⟩, by decide +kernel, by decide⟩
theorem pd_ce115 : mm_CE pd_TT pd_y115 prog_10_method_28_code 4 2 none := ⟨pd_w1033, by decide +kernel, pd_w76, ⟨by decide +kernel, by decide +kernel⟩, by decide +kernel, by decide⟩
theorem pd_ce116 : mm_CE pd_TT pd_y116 prog_10_method_26_code 3 0 (some .int) := ⟨pd_w1037, by decide +kernel, pd_w76, ⟨by decide +kernel, by decide +kernel⟩, by decide +kernel, by decide⟩
theorem pd_ce117 : mm_CE pd_TT pd_y117 prog_10_method_32_code 5 1 (some .int) := ⟨pd_w1041, by decide +kernel, pd_w76, ⟨by decide +kernel, by decide +kernel⟩, by decide +kernel, by decide⟩
theorem pd_ce118 : mm_CE pd_TT pd_y118 prog_10_method_31_code 5 1 none := ⟨pd_w1045, by decide +kernel, pd_w76, ⟨by decide +kernel, by decide +kernel⟩, by decide +kernel, by decide⟩
theorem pd_ce119 : mm_CE pd_TT pd_y119 prog_10_method_25_code 6 1 (some .int) := ⟨pd_w1049, by decide +kernel, pd_w76, ⟨by decide +kernel, by decide +kernel⟩, by decide +kernel, by decide⟩
theorem pd_ce120 : mm_CE pd_TT pd_y120 prog_10_method_24_code 9 4 (some .double) := ⟨pd_w1054, by decide +kernel, pd_w76, ⟨by decide +kernel, by decide +kernel⟩, by decide +kernel, by decide⟩
theorem pd_ce121 : mm_CE pd_TT pd_y121 prog_10_method_29_code 4 3 none := ⟨pd_w1060, by decide +kernel, pd_w76, ⟨by decide +kernel, by decide +kernel⟩, by decide +kernel, by decide⟩
theorem pd_ce122 : mm_CE pd_TT pd_y122 prog_10_method_30_code 5 1 none := ⟨pd_w1064, by decide +kernel, pd_w76, ⟨by decide +kernel, by decide +kernel⟩, by decide +kernel, by decide⟩
theorem pd_ce123 : mm_CE pd_TT pd_y123 prog_10_method_27_code 4 1 none := ⟨pd_w1068, by decide +kernel, pd_w76, ⟨by decide +kernel, by decide +kernel⟩, by decide +kernel, by decide⟩
theorem pd_ce124 : mm_CE pd_TT pd_y124 prog_10_method_34_code 2 1 (some .double) := ⟨pd_w1072, by decide +kernel, pd_w76, ⟨by decide +kernel, by decide +kernel⟩, by decide +kernel, by decide⟩
theorem pd_ce125 : mm_CE pd_TT pd_y125 prog_10_method_35_code 5 2 none := ⟨pd_w1076, by decide +kernel, pd_w76, ⟨by decide +kernel, by decide +kernel⟩, by decide +kernel, by decide⟩
theorem pd_ce126 : mm_CE pd_TT pd_y126 prog_10_method_36_code 2 1 (some .double) := ⟨pd_w1082, by decide +kernel, pd_w76, ⟨by decide +kernel, by decide +kernel⟩, by decide +kernel, by decide⟩
theorem pd_ce127 : mm_CE pd_TT pd_y127 prog_10_method_37_code 4 1 (some .int) := ⟨pd_w1086, by decide +kernel, pd_w76, ⟨by decide +kernel, by decide +kernel⟩, by decide +kernel, by decide⟩
theorem pd_ce128 : mm_CEW pd_TT pd_y128 method_3_code 5 3 (some .int) [(0, 9, 12, 13), (0, 9, 16, 15)] := ⟨pd_w306, pd_w68, ⟨by decide +kernel, by decide +kernel⟩, by decide +kernel, by decide⟩
theorem pd_ce129 : mm_CEW pd_TT pd_y129 method_4_code 4 3 (some .int) [(0, 9, 12, 13)] := ⟨pd_w412, pd_w68, ⟨by decide +kernel, by decide +kernel⟩, by decide +kernel, by decide⟩
theorem pd_ce130 : mm_CEW pd_TT pd_y130 method_5_code 5 3 (some .int) [(0, 6, 9, 13)] := ⟨pd_w545, pd_w68, ⟨by decide +kernel, by decide +kernel⟩, by decide +kernel, by decide⟩
theorem pd_ce131 : mm_CEW pd_TT pd_y131 method_6_code 6 5 (some .int) [(0, 12, 15, 13), (0, 12, 19, 29), (0, 12, 23, 15), (0, 12, 27, 31), (0, 12, 31, 33)] := ⟨pd_w557, pd_w68, ⟨by decide +kernel, by decide +kernel⟩, by decide +kernel, by decide⟩
theorem pd_ce132 : mm_CEW pd_TT pd_y132 method_7_code 4 3 (some .int) [(0, 8, 11, 13)] := ⟨pd_w784, pd_w68, ⟨by decide +kernel, by decide +kernel⟩, by decide +kernel, by decide⟩
theorem pd_ce133 : mm_CEW pd_TT pd_y133 method_8_code 5 3 (some .int) [(0, 6, 9, 13)] := ⟨pd_w793, pd_w68, ⟨by decide +kernel, by decide +kernel⟩, by decide +kernel, by decide⟩
theorem pd_ce134 : mm_CEW pd_TT pd_y134 method_9_code 4 3 (some .int) [(0, 8, 11, 29)] := ⟨pd_w804, pd_w68, ⟨by decide +kernel, by decide +kernel⟩, by decide +kernel, by decide⟩
theorem pd_ce135 : mm_CE pd_TT pd_y135 prog_16_method_65_code 2 2 (some .int) := ⟨pd_w697, by decide +kernel, pd_w83, ⟨by decide +kernel, by decide +kernel⟩, by decide +kernel, by decide⟩
theorem pd_l0_1 : pd_LO "PascalDesk" 1 (3, 0, 0, 0) := mm_LO.k3 pd_w91 pd_w92 pd_w93
theorem pd_l0_7 : pd_LO "PascalDesk" 7 (4, 2, 0, 0) := mm_LO.k4 (C := "PascalDesk$Reader") (T := pd_T2) (N := 6) rfl pd_w94 pd_w95 pd_w70 (fun h => by cases h)
theorem pd_l0_9 : pd_LO "PascalDesk" 9 (10, 19, 0, 2) := mm_LO.k10 rfl pd_ce19 pd_w96 pd_w97 rfl
theorem pd_l0_10 : pd_LO "PascalDesk" 10 (0, 0, 0, 0) := mm_LO.k0 (C := "PascalDesk") (T := pd_T0) (N := 3) rfl (by decide) pd_w286
theorem pd_l0_16 : pd_LO "PascalDesk" 16 (4, 3, 0, 0) := mm_LO.k4 (C := "PascalDesk$Runner") (T := pd_T3) (N := 12) rfl pd_w150 pd_w151 pd_w72 (fun h => by cases h)
theorem pd_l0_18 : pd_LO "PascalDesk" 18 (10, 47, 0, 3) := mm_LO.k10 rfl pd_ce47 pd_w152 pd_w153 rfl
theorem pd_l0_19 : pd_LO "PascalDesk" 19 (0, 0, 1, 0) := mm_LO.k0 (C := "PascalDesk") (T := pd_T0) (N := 3) rfl (by decide) pd_w287
theorem pd_l0_23 : pd_LO "PascalDesk" 23 (0, 0, 2, 0) := mm_LO.k0 (C := "PascalDesk") (T := pd_T0) (N := 3) rfl (by decide) pd_w288
theorem pd_l0_27 : pd_LO "PascalDesk" 27 (2, 3, 2, 0) := mm_LO.k2 rfl pd_ce3 pd_w313 pd_w314
theorem pd_l0_31 : pd_LO "PascalDesk" 31 (5, 0, 0, 0) := mm_LO.k5 pd_w316
theorem pd_l0_38 : pd_LO "PascalDesk" 38 (1, 20, 0, 2) := mm_LO.k1 rfl pd_ce20 ⟨pd_w386, pd_w387, _, rfl, pd_w388⟩
theorem pd_l0_42 : pd_LO "PascalDesk" 42 (5, 1, 0, 0) := mm_LO.k5 pd_w390
theorem pd_l0_47 : pd_LO "PascalDesk" 47 (1, 21, 1, 2) := mm_LO.k1 rfl pd_ce21 ⟨pd_w406, pd_w407, _, rfl, pd_w408⟩
theorem pd_l0_51 : pd_LO "PascalDesk" 51 (0, 2, 1, 0) := mm_LO.k0 (C := "PascalDesk$Reader") (T := pd_T2) (N := 6) rfl (by decide) pd_w131
theorem pd_l0_54 : pd_LO "PascalDesk" 54 (2, 5, 1, 0) := mm_LO.k2 rfl pd_ce5 pd_w417 pd_w418
theorem pd_l0_60 : pd_LO "PascalDesk" 60 (1, 22, 0, 2) := mm_LO.k1 rfl pd_ce22 ⟨pd_w421, pd_w422, _, rfl, pd_w423⟩
theorem pd_l0_65 : pd_LO "PascalDesk" 65 (0, 2, 2, 0) := mm_LO.k0 (C := "PascalDesk$Reader") (T := pd_T2) (N := 6) rfl (by decide) pd_w133
theorem pd_l0_69 : pd_LO "PascalDesk" 69 (1, 49, 2, 3) := mm_LO.k1 rfl pd_ce49 ⟨pd_w539, pd_w540, _, rfl, pd_w541⟩
theorem pd_l0_73 : pd_LO "PascalDesk" 73 (0, 3, 0, 0) := mm_LO.k0 (C := "PascalDesk$Runner") (T := pd_T3) (N := 12) rfl (by decide) pd_w240
theorem pd_l0_77 : pd_LO "PascalDesk" 77 (0, 1, 3, 0) := mm_LO.k0 (C := "PascalDesk$Code") (T := pd_T1) (N := 5) rfl (by decide) pd_w110
theorem pd_l0_84 : pd_LO "PascalDesk" 84 (0, 3, 2, 0) := mm_LO.k0 (C := "PascalDesk$Runner") (T := pd_T3) (N := 12) rfl (by decide) pd_w244
theorem pd_l0_88 : pd_LO "PascalDesk" 88 (1, 82, 2, 5) := mm_LO.k1 rfl pd_ce82 ⟨pd_w551, pd_w552, _, rfl, pd_w553⟩
theorem pd_l0_94 : pd_LO "PascalDesk" 94 (2, 8, 1, 0) := mm_LO.k2 rfl pd_ce8 pd_w565 pd_w566
theorem pd_l0_99 : pd_LO "PascalDesk" 99 (0, 1, 4, 0) := mm_LO.k0 (C := "PascalDesk$Code") (T := pd_T1) (N := 5) rfl (by decide) pd_w115
theorem pd_l0_103 : pd_LO "PascalDesk" 103 (5, 2, 0, 0) := mm_LO.k5 pd_w569
theorem pd_l0_108 : pd_LO "PascalDesk" 108 (1, 50, 3, 3) := mm_LO.k1 rfl pd_ce50 ⟨pd_w585, pd_w586, _, rfl, pd_w587⟩
theorem pd_l0_112 : pd_LO "PascalDesk" 112 (2, 71, 1, 0) := mm_LO.k2 rfl pd_ce71 pd_w789 pd_w645
theorem pd_l0_119 : pd_LO "PascalDesk" 119 (0, 3, 1, 0) := mm_LO.k0 (C := "PascalDesk$Runner") (T := pd_T3) (N := 12) rfl (by decide) pd_w242
theorem pd_l0_123 : pd_LO "PascalDesk" 123 (0, 4, 0, 0) := mm_LO.k0 (C := "PascalDesk$Calculator") (T := pd_T4) (N := 3) rfl (by decide) pd_w166
theorem pd_l0_127 : pd_LO "PascalDesk" 127 (8, 13875379345695965184, 0, 0) := mm_LO.k8 pd_w798
theorem pd_l0_129 : pd_LO "PascalDesk" 129 (8, 4652007308841189376, 0, 0) := mm_LO.k8 pd_w799
theorem pd_l0_131 : pd_LO "PascalDesk" 131 (2, 67, 1, 0) := mm_LO.k2 rfl pd_ce67 pd_w800 pd_w477
theorem pd_l0_136 : pd_LO "PascalDesk" 136 (0, 3, 5, 0) := mm_LO.k0 (C := "PascalDesk$Runner") (T := pd_T3) (N := 12) rfl (by decide) pd_w250
theorem pd_l0_141 : pd_LO "PascalDesk" 141 (0, 3, 4, 0) := mm_LO.k0 (C := "PascalDesk$Runner") (T := pd_T3) (N := 12) rfl (by decide) pd_w248
theorem pd_l0_144 : pd_LO "PascalDesk" 144 (1, 48, 0, 3) := mm_LO.k1 rfl pd_ce48 ⟨pd_w300, pd_w301, _, rfl, pd_w302⟩
theorem pd_l0_147 : pd_LO "PascalDesk" 147 (0, 3, 6, 0) := mm_LO.k0 (C := "PascalDesk$Runner") (T := pd_T3) (N := 12) rfl (by decide) pd_w252
theorem pd_l0_150 : pd_LO "PascalDesk" 150 (0, 3, 3, 0) := mm_LO.k0 (C := "PascalDesk$Runner") (T := pd_T3) (N := 12) rfl (by decide) pd_w246
theorem pd_l0_154 : pd_LO "PascalDesk" 154 (0, 3, 7, 0) := mm_LO.k0 (C := "PascalDesk$Runner") (T := pd_T3) (N := 12) rfl (by decide) pd_w254
theorem pd_l0_157 : pd_LO "PascalDesk" 157 (0, 3, 8, 0) := mm_LO.k0 (C := "PascalDesk$Runner") (T := pd_T3) (N := 12) rfl (by decide) pd_w256
theorem pd_l0_160 : pd_LO "PascalDesk" 160 (0, 3, 9, 0) := mm_LO.k0 (C := "PascalDesk$Runner") (T := pd_T3) (N := 12) rfl (by decide) pd_w258
theorem pd_LO0 : ∀ q ∈ pd_lkl0, pd_LO "PascalDesk" q.1 q.2 := List.forall_mem_cons.mpr ⟨pd_l0_1, List.forall_mem_cons.mpr ⟨pd_l0_7, List.forall_mem_cons.mpr ⟨pd_l0_9, List.forall_mem_cons.mpr ⟨pd_l0_10, List.forall_mem_cons.mpr ⟨pd_l0_16, List.forall_mem_cons.mpr ⟨pd_l0_18, List.forall_mem_cons.mpr ⟨pd_l0_19, List.forall_mem_cons.mpr ⟨pd_l0_23, List.forall_mem_cons.mpr ⟨pd_l0_27, List.forall_mem_cons.mpr ⟨pd_l0_31, List.forall_mem_cons.mpr ⟨pd_l0_38, List.forall_mem_cons.mpr ⟨pd_l0_42, List.forall_mem_cons.mpr ⟨pd_l0_47, List.forall_mem_cons.mpr ⟨pd_l0_51, List.forall_mem_cons.mpr ⟨pd_l0_54, List.forall_mem_cons.mpr ⟨pd_l0_60, List.forall_mem_cons.mpr ⟨pd_l0_65, List.forall_mem_cons.mpr ⟨pd_l0_69, List.forall_mem_cons.mpr ⟨pd_l0_73, List.forall_mem_cons.mpr ⟨pd_l0_77, List.forall_mem_cons.mpr ⟨pd_l0_84, List.forall_mem_cons.mpr ⟨pd_l0_88, List.forall_mem_cons.mpr ⟨pd_l0_94, List.forall_mem_cons.mpr ⟨pd_l0_99, List.forall_mem_cons.mpr ⟨pd_l0_103, List.forall_mem_cons.mpr ⟨pd_l0_108, List.forall_mem_cons.mpr ⟨pd_l0_112, List.forall_mem_cons.mpr ⟨pd_l0_119, List.forall_mem_cons.mpr ⟨pd_l0_123, List.forall_mem_cons.mpr ⟨pd_l0_127, List.forall_mem_cons.mpr ⟨pd_l0_129, List.forall_mem_cons.mpr ⟨pd_l0_131, List.forall_mem_cons.mpr ⟨pd_l0_136, List.forall_mem_cons.mpr ⟨pd_l0_141, List.forall_mem_cons.mpr ⟨pd_l0_144, List.forall_mem_cons.mpr ⟨pd_l0_147, List.forall_mem_cons.mpr ⟨pd_l0_150, List.forall_mem_cons.mpr ⟨pd_l0_154, List.forall_mem_cons.mpr ⟨pd_l0_157, List.forall_mem_cons.mpr ⟨pd_l0_160, fun _ h => absurd h List.not_mem_nil⟩⟩⟩⟩⟩⟩⟩⟩⟩⟩⟩⟩⟩⟩⟩⟩⟩⟩⟩⟩⟩⟩⟩⟩⟩⟩⟩⟩⟩⟩⟩⟩⟩⟩⟩⟩⟩⟩⟩⟩
theorem pd_l1_3 : pd_LO "PascalDesk$Code" 3 (3, 0, 0, 0) := mm_LO.k3 pd_w105 pd_w92 pd_w93
theorem pd_l1_11 : pd_LO "PascalDesk$Code" 11 (0, 1, 0, 0) := mm_LO.k0 (C := "PascalDesk$Code") (T := pd_T1) (N := 5) rfl (by decide) pd_w106
theorem pd_l1_15 : pd_LO "PascalDesk$Code" 15 (0, 1, 1, 0) := mm_LO.k0 (C := "PascalDesk$Code") (T := pd_T1) (N := 5) rfl (by decide) pd_w107
theorem pd_l1_18 : pd_LO "PascalDesk$Code" 18 (0, 1, 2, 0) := mm_LO.k0 (C := "PascalDesk$Code") (T := pd_T1) (N := 5) rfl (by decide) pd_w108
theorem pd_l1_22 : pd_LO "PascalDesk$Code" 22 (0, 1, 3, 0) := mm_LO.k0 (C := "PascalDesk$Code") (T := pd_T1) (N := 5) rfl (by decide) pd_w109
theorem pd_l1_25 : pd_LO "PascalDesk$Code" 25 (0, 1, 4, 0) := mm_LO.k0 (C := "PascalDesk$Code") (T := pd_T1) (N := 5) rfl (by decide) pd_w112
theorem pd_LO1 : ∀ q ∈ pd_lkl1, pd_LO "PascalDesk$Code" q.1 q.2 := List.forall_mem_cons.mpr ⟨pd_l1_3, List.forall_mem_cons.mpr ⟨pd_l1_11, List.forall_mem_cons.mpr ⟨pd_l1_15, List.forall_mem_cons.mpr ⟨pd_l1_18, List.forall_mem_cons.mpr ⟨pd_l1_22, List.forall_mem_cons.mpr ⟨pd_l1_25, fun _ h => absurd h List.not_mem_nil⟩⟩⟩⟩⟩⟩
theorem pd_l2_1 : pd_LO "PascalDesk$Reader" 1 (3, 0, 0, 0) := mm_LO.k3 pd_w99 pd_w92 pd_w93
theorem pd_l2_9 : pd_LO "PascalDesk$Reader" 9 (0, 2, 0, 0) := mm_LO.k0 (C := "PascalDesk$Reader") (T := pd_T2) (N := 6) rfl (by decide) pd_w129
theorem pd_l2_13 : pd_LO "PascalDesk$Reader" 13 (4, 1, 0, 0) := mm_LO.k4 (C := "PascalDesk$Code") (T := pd_T1) (N := 5) rfl pd_w100 pd_w101 pd_w71 (fun _ => ⟨rfl, pd_w157⟩)
theorem pd_l2_15 : pd_LO "PascalDesk$Reader" 15 (10, 12, 0, 1) := mm_LO.k10 rfl pd_ce12 pd_w102 pd_w103 rfl
theorem pd_l2_16 : pd_LO "PascalDesk$Reader" 16 (0, 2, 2, 0) := mm_LO.k0 (C := "PascalDesk$Reader") (T := pd_T2) (N := 6) rfl (by decide) pd_w132
theorem pd_l2_20 : pd_LO "PascalDesk$Reader" 20 (0, 2, 1, 0) := mm_LO.k0 (C := "PascalDesk$Reader") (T := pd_T2) (N := 6) rfl (by decide) pd_w130
theorem pd_l2_24 : pd_LO "PascalDesk$Reader" 24 (1, 13, 0, 1) := mm_LO.k1 rfl pd_ce13 ⟨pd_w425, pd_w426, _, rfl, pd_w427⟩
theorem pd_l2_27 : pd_LO "PascalDesk$Reader" 27 (0, 2, 3, 0) := mm_LO.k0 (C := "PascalDesk$Reader") (T := pd_T2) (N := 6) rfl (by decide) pd_w134
theorem pd_l2_30 : pd_LO "PascalDesk$Reader" 30 (0, 2, 4, 0) := mm_LO.k0 (C := "PascalDesk$Reader") (T := pd_T2) (N := 6) rfl (by decide) pd_w135
theorem pd_l2_34 : pd_LO "PascalDesk$Reader" 34 (0, 2, 5, 0) := mm_LO.k0 (C := "PascalDesk$Reader") (T := pd_T2) (N := 6) rfl (by decide) pd_w136
theorem pd_l2_37 : pd_LO "PascalDesk$Reader" 37 (1, 23, 1, 2) := mm_LO.k1 rfl pd_ce23 ⟨pd_w429, pd_w431, _, rfl, pd_w1⟩
theorem pd_l2_43 : pd_LO "PascalDesk$Reader" 43 (1, 14, 2, 1) := mm_LO.k1 rfl pd_ce14 ⟨pd_w472, pd_w473, _, rfl, pd_w474⟩
theorem pd_l2_47 : pd_LO "PascalDesk$Reader" 47 (0, 1, 4, 0) := mm_LO.k0 (C := "PascalDesk$Code") (T := pd_T1) (N := 5) rfl (by decide) pd_w114
theorem pd_l2_50 : pd_LO "PascalDesk$Reader" 50 (1, 25, 0, 2) := mm_LO.k1 rfl pd_ce25 ⟨pd_w437, pd_w439, _, rfl, pd_w3⟩
theorem pd_l2_54 : pd_LO "PascalDesk$Reader" 54 (1, 29, 1, 2) := mm_LO.k1 rfl pd_ce29 ⟨pd_w452, pd_w454, _, rfl, pd_w6⟩
theorem pd_l2_58 : pd_LO "PascalDesk$Reader" 58 (1, 28, 1, 2) := mm_LO.k1 rfl pd_ce28 ⟨pd_w448, pd_w450, _, rfl, pd_w5⟩
theorem pd_l2_61 : pd_LO "PascalDesk$Reader" 61 (1, 24, 1, 2) := mm_LO.k1 rfl pd_ce24 ⟨pd_w433, pd_w435, _, rfl, pd_w2⟩
theorem pd_l2_64 : pd_LO "PascalDesk$Reader" 64 (2, 26, 1, 0) := mm_LO.k2 rfl pd_ce26 pd_w441 pd_w442
theorem pd_l2_68 : pd_LO "PascalDesk$Reader" 68 (0, 1, 3, 0) := mm_LO.k0 (C := "PascalDesk$Code") (T := pd_T1) (N := 5) rfl (by decide) pd_w111
theorem pd_l2_71 : pd_LO "PascalDesk$Reader" 71 (1, 27, 2, 2) := mm_LO.k1 rfl pd_ce27 ⟨pd_w444, pd_w446, _, rfl, pd_w4⟩
theorem pd_l2_75 : pd_LO "PascalDesk$Reader" 75 (1, 42, 1, 2) := mm_LO.k1 rfl pd_ce42 ⟨pd_w510, pd_w512, _, rfl, pd_w18⟩
theorem pd_l2_78 : pd_LO "PascalDesk$Reader" 78 (1, 43, 1, 2) := mm_LO.k1 rfl pd_ce43 ⟨pd_w514, pd_w516, _, rfl, pd_w19⟩
theorem pd_l2_81 : pd_LO "PascalDesk$Reader" 81 (1, 45, 1, 2) := mm_LO.k1 rfl pd_ce45 ⟨pd_w526, pd_w528, _, rfl, pd_w21⟩
theorem pd_l2_84 : pd_LO "PascalDesk$Reader" 84 (1, 30, 1, 2) := mm_LO.k1 rfl pd_ce30 ⟨pd_w456, pd_w458, _, rfl, pd_w7⟩
theorem pd_l2_88 : pd_LO "PascalDesk$Reader" 88 (1, 36, 1, 2) := mm_LO.k1 rfl pd_ce36 ⟨pd_w486, pd_w488, _, rfl, pd_w12⟩
theorem pd_l2_91 : pd_LO "PascalDesk$Reader" 91 (1, 46, 1, 2) := mm_LO.k1 rfl pd_ce46 ⟨pd_w534, pd_w536, _, rfl, pd_w22⟩
theorem pd_l2_94 : pd_LO "PascalDesk$Reader" 94 (2, 67, 1, 0) := mm_LO.k2 rfl pd_ce67 pd_w476 pd_w477
theorem pd_l2_99 : pd_LO "PascalDesk$Reader" 99 (1, 39, 1, 2) := mm_LO.k1 rfl pd_ce39 ⟨pd_w498, pd_w500, _, rfl, pd_w15⟩
theorem pd_l2_103 : pd_LO "PascalDesk$Reader" 103 (1, 37, 1, 2) := mm_LO.k1 rfl pd_ce37 ⟨pd_w490, pd_w492, _, rfl, pd_w13⟩
theorem pd_l2_106 : pd_LO "PascalDesk$Reader" 106 (1, 44, 1, 2) := mm_LO.k1 rfl pd_ce44 ⟨pd_w518, pd_w520, _, rfl, pd_w20⟩
theorem pd_l2_109 : pd_LO "PascalDesk$Reader" 109 (1, 15, 1, 1) := mm_LO.k1 rfl pd_ce15 ⟨pd_w522, pd_w523, _, rfl, pd_w524⟩
theorem pd_l2_112 : pd_LO "PascalDesk$Reader" 112 (1, 16, 0, 1) := mm_LO.k1 rfl pd_ce16 ⟨pd_w530, pd_w531, _, rfl, pd_w532⟩
theorem pd_l2_116 : pd_LO "PascalDesk$Reader" 116 (1, 38, 2, 2) := mm_LO.k1 rfl pd_ce38 ⟨pd_w494, pd_w496, _, rfl, pd_w14⟩
theorem pd_l2_120 : pd_LO "PascalDesk$Reader" 120 (1, 31, 1, 2) := mm_LO.k1 rfl pd_ce31 ⟨pd_w460, pd_w462, _, rfl, pd_w8⟩
theorem pd_l2_123 : pd_LO "PascalDesk$Reader" 123 (1, 32, 1, 2) := mm_LO.k1 rfl pd_ce32 ⟨pd_w464, pd_w466, _, rfl, pd_w9⟩
theorem pd_l2_126 : pd_LO "PascalDesk$Reader" 126 (1, 33, 1, 2) := mm_LO.k1 rfl pd_ce33 ⟨pd_w468, pd_w470, _, rfl, pd_w10⟩
theorem pd_l2_129 : pd_LO "PascalDesk$Reader" 129 (2, 34, 1, 0) := mm_LO.k2 rfl pd_ce34 pd_w479 pd_w480
theorem pd_l2_132 : pd_LO "PascalDesk$Reader" 132 (1, 35, 0, 2) := mm_LO.k1 rfl pd_ce35 ⟨pd_w482, pd_w484, _, rfl, pd_w11⟩
theorem pd_l2_135 : pd_LO "PascalDesk$Reader" 135 (1, 40, 1, 2) := mm_LO.k1 rfl pd_ce40 ⟨pd_w502, pd_w504, _, rfl, pd_w16⟩
theorem pd_l2_138 : pd_LO "PascalDesk$Reader" 138 (1, 41, 1, 2) := mm_LO.k1 rfl pd_ce41 ⟨pd_w506, pd_w508, _, rfl, pd_w17⟩
theorem pd_LO2 : ∀ q ∈ pd_lkl2, pd_LO "PascalDesk$Reader" q.1 q.2 := List.forall_mem_cons.mpr ⟨pd_l2_1, List.forall_mem_cons.mpr ⟨pd_l2_9, List.forall_mem_cons.mpr ⟨pd_l2_13, List.forall_mem_cons.mpr ⟨pd_l2_15, List.forall_mem_cons.mpr ⟨pd_l2_16, List.forall_mem_cons.mpr ⟨pd_l2_20, List.forall_mem_cons.mpr ⟨pd_l2_24, List.forall_mem_cons.mpr ⟨pd_l2_27, List.forall_mem_cons.mpr ⟨pd_l2_30, List.forall_mem_cons.mpr ⟨pd_l2_34, List.forall_mem_cons.mpr ⟨pd_l2_37, List.forall_mem_cons.mpr ⟨pd_l2_43, List.forall_mem_cons.mpr ⟨pd_l2_47, List.forall_mem_cons.mpr ⟨pd_l2_50, List.forall_mem_cons.mpr ⟨pd_l2_54, List.forall_mem_cons.mpr ⟨pd_l2_58, List.forall_mem_cons.mpr ⟨pd_l2_61, List.forall_mem_cons.mpr ⟨pd_l2_64, List.forall_mem_cons.mpr ⟨pd_l2_68, List.forall_mem_cons.mpr ⟨pd_l2_71, List.forall_mem_cons.mpr ⟨pd_l2_75, List.forall_mem_cons.mpr ⟨pd_l2_78, List.forall_mem_cons.mpr ⟨pd_l2_81, List.forall_mem_cons.mpr ⟨pd_l2_84, List.forall_mem_cons.mpr ⟨pd_l2_88, List.forall_mem_cons.mpr ⟨pd_l2_91, List.forall_mem_cons.mpr ⟨pd_l2_94, List.forall_mem_cons.mpr ⟨pd_l2_99, List.forall_mem_cons.mpr ⟨pd_l2_103, List.forall_mem_cons.mpr ⟨pd_l2_106, List.forall_mem_cons.mpr ⟨pd_l2_109, List.forall_mem_cons.mpr ⟨pd_l2_112, List.forall_mem_cons.mpr ⟨pd_l2_116, List.forall_mem_cons.mpr ⟨pd_l2_120, List.forall_mem_cons.mpr ⟨pd_l2_123, List.forall_mem_cons.mpr ⟨pd_l2_126, List.forall_mem_cons.mpr ⟨pd_l2_129, List.forall_mem_cons.mpr ⟨pd_l2_132, List.forall_mem_cons.mpr ⟨pd_l2_135, List.forall_mem_cons.mpr ⟨pd_l2_138, fun _ h => absurd h List.not_mem_nil⟩⟩⟩⟩⟩⟩⟩⟩⟩⟩⟩⟩⟩⟩⟩⟩⟩⟩⟩⟩⟩⟩⟩⟩⟩⟩⟩⟩⟩⟩⟩⟩⟩⟩⟩⟩⟩⟩⟩⟩
theorem pd_l3_3 : pd_LO "PascalDesk$Runner" 3 (3, 0, 0, 0) := mm_LO.k3 pd_w155 pd_w92 pd_w93
theorem pd_l3_9 : pd_LO "PascalDesk$Runner" 9 (4, 1, 0, 0) := mm_LO.k4 (C := "PascalDesk$Code") (T := pd_T1) (N := 5) rfl pd_w156 pd_w101 pd_w71 (fun _ => ⟨rfl, pd_w157⟩)
theorem pd_l3_11 : pd_LO "PascalDesk$Runner" 11 (0, 3, 0, 0) := mm_LO.k0 (C := "PascalDesk$Runner") (T := pd_T3) (N := 12) rfl (by decide) pd_w239
theorem pd_l3_17 : pd_LO "PascalDesk$Runner" 17 (10, 12, 0, 1) := mm_LO.k10 rfl pd_ce12 pd_w158 pd_w103 rfl
theorem pd_l3_18 : pd_LO "PascalDesk$Runner" 18 (4, 4, 0, 0) := mm_LO.k4 (C := "PascalDesk$Calculator") (T := pd_T4) (N := 3) rfl pd_w159 pd_w160 pd_w73 (fun h => by cases h)
theorem pd_l3_20 : pd_LO "PascalDesk$Runner" 20 (10, 66, 0, 4) := mm_LO.k10 rfl pd_ce66 pd_w161 pd_w162 rfl
theorem pd_l3_21 : pd_LO "PascalDesk$Runner" 21 (0, 3, 1, 0) := mm_LO.k0 (C := "PascalDesk$Runner") (T := pd_T3) (N := 12) rfl (by decide) pd_w241
theorem pd_l3_25 : pd_LO "PascalDesk$Runner" 25 (4, 5, 0, 0) := mm_LO.k4 (C := "PascalDesk$Tape") (T := pd_T5) (N := 3) rfl pd_w177 pd_w178 pd_w74 (fun h => by cases h)
theorem pd_l3_27 : pd_LO "PascalDesk$Runner" 27 (10, 81, 0, 5) := mm_LO.k10 rfl pd_ce81 pd_w179 pd_w180 rfl
theorem pd_l3_28 : pd_LO "PascalDesk$Runner" 28 (0, 3, 2, 0) := mm_LO.k0 (C := "PascalDesk$Runner") (T := pd_T3) (N := 12) rfl (by decide) pd_w243
theorem pd_l3_32 : pd_LO "PascalDesk$Runner" 32 (0, 3, 3, 0) := mm_LO.k0 (C := "PascalDesk$Runner") (T := pd_T3) (N := 12) rfl (by decide) pd_w245
theorem pd_l3_36 : pd_LO "PascalDesk$Runner" 36 (0, 3, 4, 0) := mm_LO.k0 (C := "PascalDesk$Runner") (T := pd_T3) (N := 12) rfl (by decide) pd_w247
theorem pd_l3_40 : pd_LO "PascalDesk$Runner" 40 (4, 6, 0, 0) := mm_LO.k4 (C := "PascalDesk$Strand") (T := pd_T6) (N := 11) rfl pd_w193 pd_w195 pd_w75 (fun _ => ⟨rfl, pd_w194⟩)
theorem pd_l3_42 : pd_LO "PascalDesk$Runner" 42 (0, 3, 10, 0) := mm_LO.k0 (C := "PascalDesk$Runner") (T := pd_T3) (N := 12) rfl (by decide) pd_w259
theorem pd_l3_46 : pd_LO "PascalDesk$Runner" 46 (10, 85, 0, 6) := mm_LO.k10 rfl pd_ce85 pd_w196 pd_w197 rfl
theorem pd_l3_47 : pd_LO "PascalDesk$Runner" 47 (0, 1, 4, 0) := mm_LO.k0 (C := "PascalDesk$Code") (T := pd_T1) (N := 5) rfl (by decide) pd_w113
theorem pd_l3_51 : pd_LO "PascalDesk$Runner" 51 (1, 51, 3, 3) := mm_LO.k1 rfl pd_ce51 ⟨pd_w589, pd_w591, _, rfl, pd_w23⟩
theorem pd_l3_55 : pd_LO "PascalDesk$Runner" 55 (0, 3, 11, 0) := mm_LO.k0 (C := "PascalDesk$Runner") (T := pd_T3) (N := 12) rfl (by decide) pd_w260
theorem pd_l3_59 : pd_LO "PascalDesk$Runner" 59 (1, 52, 0, 3) := mm_LO.k1 rfl pd_ce52 ⟨pd_w605, pd_w607, _, rfl, pd_w25⟩
theorem pd_l3_63 : pd_LO "PascalDesk$Runner" 63 (1, 53, 1, 3) := mm_LO.k1 rfl pd_ce53 ⟨pd_w616, pd_w618, _, rfl, pd_w26⟩
theorem pd_l3_67 : pd_LO "PascalDesk$Runner" 67 (1, 62, 0, 3) := mm_LO.k1 rfl pd_ce62 ⟨pd_w761, pd_w763, _, rfl, pd_w37⟩
theorem pd_l3_70 : pd_LO "PascalDesk$Runner" 70 (5, 1, 0, 0) := mm_LO.k5 pd_w609
theorem pd_l3_77 : pd_LO "PascalDesk$Runner" 77 (0, 3, 6, 0) := mm_LO.k0 (C := "PascalDesk$Runner") (T := pd_T3) (N := 12) rfl (by decide) pd_w251
theorem pd_l3_80 : pd_LO "PascalDesk$Runner" 80 (0, 3, 5, 0) := mm_LO.k0 (C := "PascalDesk$Runner") (T := pd_T3) (N := 12) rfl (by decide) pd_w249
theorem pd_l3_83 : pd_LO "PascalDesk$Runner" 83 (0, 3, 9, 0) := mm_LO.k0 (C := "PascalDesk$Runner") (T := pd_T3) (N := 12) rfl (by decide) pd_w257
theorem pd_l3_86 : pd_LO "PascalDesk$Runner" 86 (1, 83, 0, 5) := mm_LO.k1 rfl pd_ce83 ⟨pd_w593, pd_w594, _, rfl, pd_w595⟩
theorem pd_l3_89 : pd_LO "PascalDesk$Runner" 89 (0, 6, 0, 0) := mm_LO.k0 (C := "PascalDesk$Strand") (T := pd_T6) (N := 11) rfl (by decide) pd_w201
theorem pd_l3_92 : pd_LO "PascalDesk$Runner" 92 (1, 86, 1, 6) := mm_LO.k1 rfl pd_ce86 ⟨pd_w597, pd_w598, _, rfl, pd_w599⟩
theorem pd_l3_95 : pd_LO "PascalDesk$Runner" 95 (0, 3, 7, 0) := mm_LO.k0 (C := "PascalDesk$Runner") (T := pd_T3) (N := 12) rfl (by decide) pd_w253
theorem pd_l3_98 : pd_LO "PascalDesk$Runner" 98 (0, 3, 8, 0) := mm_LO.k0 (C := "PascalDesk$Runner") (T := pd_T3) (N := 12) rfl (by decide) pd_w255
theorem pd_l3_103 : pd_LO "PascalDesk$Runner" 103 (1, 84, 0, 5) := mm_LO.k1 rfl pd_ce84 ⟨pd_w612, pd_w613, _, rfl, pd_w614⟩
theorem pd_l3_106 : pd_LO "PascalDesk$Runner" 106 (0, 6, 3, 0) := mm_LO.k0 (C := "PascalDesk$Strand") (T := pd_T6) (N := 11) rfl (by decide) pd_w207
theorem pd_l3_109 : pd_LO "PascalDesk$Runner" 109 (1, 68, 0, 4) := mm_LO.k1 rfl pd_ce68 ⟨pd_w620, pd_w621, _, rfl, pd_w622⟩
theorem pd_l3_112 : pd_LO "PascalDesk$Runner" 112 (0, 6, 4, 0) := mm_LO.k0 (C := "PascalDesk$Strand") (T := pd_T6) (N := 11) rfl (by decide) pd_w209
theorem pd_l3_115 : pd_LO "PascalDesk$Runner" 115 (1, 17, 1, 1) := mm_LO.k1 rfl pd_ce17 ⟨pd_w624, pd_w625, _, rfl, pd_w626⟩
theorem pd_l3_119 : pd_LO "PascalDesk$Runner" 119 (1, 18, 1, 1) := mm_LO.k1 rfl pd_ce18 ⟨pd_w628, pd_w629, _, rfl, pd_w630⟩
theorem pd_l3_124 : pd_LO "PascalDesk$Runner" 124 (1, 54, 3, 3) := mm_LO.k1 rfl pd_ce54 ⟨pd_w632, pd_w634, _, rfl, pd_w27⟩
theorem pd_l3_127 : pd_LO "PascalDesk$Runner" 127 (1, 73, 2, 4) := mm_LO.k1 rfl pd_ce73 ⟨pd_w698, pd_w699, _, rfl, pd_w700⟩
theorem pd_l3_131 : pd_LO "PascalDesk$Runner" 131 (1, 69, 0, 4) := mm_LO.k1 rfl pd_ce69 ⟨pd_w636, pd_w637, _, rfl, pd_w638⟩
theorem pd_l3_135 : pd_LO "PascalDesk$Runner" 135 (1, 70, 2, 4) := mm_LO.k1 rfl pd_ce70 ⟨pd_w640, pd_w641, _, rfl, pd_w642⟩
theorem pd_l3_139 : pd_LO "PascalDesk$Runner" 139 (1, 72, 0, 4) := mm_LO.k1 rfl pd_ce72 ⟨pd_w647, pd_w648, _, rfl, pd_w649⟩
theorem pd_l3_142 : pd_LO "PascalDesk$Runner" 142 (1, 55, 1, 3) := mm_LO.k1 rfl pd_ce55 ⟨pd_w653, pd_w655, _, rfl, pd_w28⟩
theorem pd_l3_146 : pd_LO "PascalDesk$Runner" 146 (1, 56, 2, 3) := mm_LO.k1 rfl pd_ce56 ⟨pd_w658, pd_w660, _, rfl, pd_w29⟩
theorem pd_l3_150 : pd_LO "PascalDesk$Runner" 150 (1, 57, 1, 3) := mm_LO.k1 rfl pd_ce57 ⟨pd_w662, pd_w664, _, rfl, pd_w30⟩
theorem pd_l3_153 : pd_LO "PascalDesk$Runner" 153 (1, 59, 2, 3) := mm_LO.k1 rfl pd_ce59 ⟨pd_w670, pd_w672, _, rfl, pd_w32⟩
theorem pd_l3_156 : pd_LO "PascalDesk$Runner" 156 (1, 60, 2, 3) := mm_LO.k1 rfl pd_ce60 ⟨pd_w682, pd_w684, _, rfl, pd_w33⟩
theorem pd_l3_161 : pd_LO "PascalDesk$Runner" 161 (0, 6, 5, 0) := mm_LO.k0 (C := "PascalDesk$Strand") (T := pd_T6) (N := 11) rfl (by decide) pd_w210
theorem pd_l3_164 : pd_LO "PascalDesk$Runner" 164 (0, 6, 6, 0) := mm_LO.k0 (C := "PascalDesk$Strand") (T := pd_T6) (N := 11) rfl (by decide) pd_w211
theorem pd_l3_167 : pd_LO "PascalDesk$Runner" 167 (1, 58, 1, 3) := mm_LO.k1 rfl pd_ce58 ⟨pd_w666, pd_w668, _, rfl, pd_w31⟩
theorem pd_l3_170 : pd_LO "PascalDesk$Runner" 170 (5, 2, 0, 0) := mm_LO.k5 pd_w674
theorem pd_l3_175 : pd_LO "PascalDesk$Runner" 175 (1, 88, 1, 6) := mm_LO.k1 rfl pd_ce88 ⟨pd_w677, pd_w678, _, rfl, pd_w679⟩
theorem pd_l3_183 : pd_LO "PascalDesk$Runner" 183 (0, 6, 2, 0) := mm_LO.k0 (C := "PascalDesk$Strand") (T := pd_T6) (N := 11) rfl (by decide) pd_w205
theorem pd_l3_186 : pd_LO "PascalDesk$Runner" 186 (1, 61, 0, 3) := mm_LO.k1 rfl pd_ce61 ⟨pd_w687, pd_w689, _, rfl, pd_w34⟩
theorem pd_l3_189 : pd_LO "PascalDesk$Runner" 189 (1, 89, 3, 6) := mm_LO.k1 rfl pd_ce89 ⟨pd_w691, pd_w692, _, rfl, pd_w693⟩
theorem pd_l3_193 : pd_LO "PascalDesk$Runner" 193 (2, 135, 2, 0) := mm_LO.k2 rfl pd_ce135 pd_w695 pd_w696
theorem pd_l3_199 : pd_LO "PascalDesk$Runner" 199 (1, 63, 1, 3) := mm_LO.k1 rfl pd_ce63 ⟨pd_w765, pd_w767, _, rfl, pd_w38⟩
theorem pd_l3_202 : pd_LO "PascalDesk$Runner" 202 (1, 64, 1, 3) := mm_LO.k1 rfl pd_ce64 ⟨pd_w769, pd_w771, _, rfl, pd_w39⟩
theorem pd_l3_206 : pd_LO "PascalDesk$Runner" 206 (1, 65, 1, 3) := mm_LO.k1 rfl pd_ce65 ⟨pd_w777, pd_w779, _, rfl, pd_w40⟩
theorem pd_l3_210 : pd_LO "PascalDesk$Runner" 210 (1, 90, 0, 6) := mm_LO.k1 rfl pd_ce90 ⟨pd_w773, pd_w774, _, rfl, pd_w775⟩
theorem pd_l3_214 : pd_LO "PascalDesk$Runner" 214 (0, 6, 1, 0) := mm_LO.k0 (C := "PascalDesk$Strand") (T := pd_T6) (N := 11) rfl (by decide) pd_w203
theorem pd_LO3 : ∀ q ∈ pd_lkl3, pd_LO "PascalDesk$Runner" q.1 q.2 := List.forall_mem_cons.mpr ⟨pd_l3_3, List.forall_mem_cons.mpr ⟨pd_l3_9, List.forall_mem_cons.mpr ⟨pd_l3_11, List.forall_mem_cons.mpr ⟨pd_l3_17, List.forall_mem_cons.mpr ⟨pd_l3_18, List.forall_mem_cons.mpr ⟨pd_l3_20, List.forall_mem_cons.mpr ⟨pd_l3_21, List.forall_mem_cons.mpr ⟨pd_l3_25, List.forall_mem_cons.mpr ⟨pd_l3_27, List.forall_mem_cons.mpr ⟨pd_l3_28, List.forall_mem_cons.mpr ⟨pd_l3_32, List.forall_mem_cons.mpr ⟨pd_l3_36, List.forall_mem_cons.mpr ⟨pd_l3_40, List.forall_mem_cons.mpr ⟨pd_l3_42, List.forall_mem_cons.mpr ⟨pd_l3_46, List.forall_mem_cons.mpr ⟨pd_l3_47, List.forall_mem_cons.mpr ⟨pd_l3_51, List.forall_mem_cons.mpr ⟨pd_l3_55, List.forall_mem_cons.mpr ⟨pd_l3_59, List.forall_mem_cons.mpr ⟨pd_l3_63, List.forall_mem_cons.mpr ⟨pd_l3_67, List.forall_mem_cons.mpr ⟨pd_l3_70, List.forall_mem_cons.mpr ⟨pd_l3_77, List.forall_mem_cons.mpr ⟨pd_l3_80, List.forall_mem_cons.mpr ⟨pd_l3_83, List.forall_mem_cons.mpr ⟨pd_l3_86, List.forall_mem_cons.mpr ⟨pd_l3_89, List.forall_mem_cons.mpr ⟨pd_l3_92, List.forall_mem_cons.mpr ⟨pd_l3_95, List.forall_mem_cons.mpr ⟨pd_l3_98, List.forall_mem_cons.mpr ⟨pd_l3_103, List.forall_mem_cons.mpr ⟨pd_l3_106, List.forall_mem_cons.mpr ⟨pd_l3_109, List.forall_mem_cons.mpr ⟨pd_l3_112, List.forall_mem_cons.mpr ⟨pd_l3_115, List.forall_mem_cons.mpr ⟨pd_l3_119, List.forall_mem_cons.mpr ⟨pd_l3_124, List.forall_mem_cons.mpr ⟨pd_l3_127, List.forall_mem_cons.mpr ⟨pd_l3_131, List.forall_mem_cons.mpr ⟨pd_l3_135, List.forall_mem_cons.mpr ⟨pd_l3_139, List.forall_mem_cons.mpr ⟨pd_l3_142, List.forall_mem_cons.mpr ⟨pd_l3_146, List.forall_mem_cons.mpr ⟨pd_l3_150, List.forall_mem_cons.mpr ⟨pd_l3_153, List.forall_mem_cons.mpr ⟨pd_l3_156, List.forall_mem_cons.mpr ⟨pd_l3_161, List.forall_mem_cons.mpr ⟨pd_l3_164, List.forall_mem_cons.mpr ⟨pd_l3_167, List.forall_mem_cons.mpr ⟨pd_l3_170, List.forall_mem_cons.mpr ⟨pd_l3_175, List.forall_mem_cons.mpr ⟨pd_l3_183, List.forall_mem_cons.mpr ⟨pd_l3_186, List.forall_mem_cons.mpr ⟨pd_l3_189, List.forall_mem_cons.mpr ⟨pd_l3_193, List.forall_mem_cons.mpr ⟨pd_l3_199, List.forall_mem_cons.mpr ⟨pd_l3_202, List.forall_mem_cons.mpr ⟨pd_l3_206, List.forall_mem_cons.mpr ⟨pd_l3_210, List.forall_mem_cons.mpr ⟨pd_l3_214, fun _ h => absurd h List.not_mem_nil⟩⟩⟩⟩⟩⟩⟩⟩⟩⟩⟩⟩⟩⟩⟩⟩⟩⟩⟩⟩⟩⟩⟩⟩⟩⟩⟩⟩⟩⟩⟩⟩⟩⟩⟩⟩⟩⟩⟩⟩⟩⟩⟩⟩⟩⟩⟩⟩⟩⟩⟩⟩⟩⟩⟩⟩⟩⟩⟩⟩
theorem pd_l4_3 : pd_LO "PascalDesk$Calculator" 3 (3, 0, 0, 0) := mm_LO.k3 pd_w164 pd_w92 pd_w93
theorem pd_l4_9 : pd_LO "PascalDesk$Calculator" 9 (0, 4, 0, 0) := mm_LO.k0 (C := "PascalDesk$Calculator") (T := pd_T4) (N := 3) rfl (by decide) pd_w165
theorem pd_l4_15 : pd_LO "PascalDesk$Calculator" 15 (0, 4, 1, 0) := mm_LO.k0 (C := "PascalDesk$Calculator") (T := pd_T4) (N := 3) rfl (by decide) pd_w167
theorem pd_l4_18 : pd_LO "PascalDesk$Calculator" 18 (0, 4, 2, 0) := mm_LO.k0 (C := "PascalDesk$Calculator") (T := pd_T4) (N := 3) rfl (by decide) pd_w168
theorem pd_l4_22 : pd_LO "PascalDesk$Calculator" 22 (2, 71, 1, 0) := mm_LO.k2 rfl pd_ce71 pd_w644 pd_w645
theorem pd_l4_26 : pd_LO "PascalDesk$Calculator" 26 (1, 69, 0, 4) := mm_LO.k1 rfl pd_ce69 ⟨pd_w651, pd_w637, _, rfl, pd_w638⟩
theorem pd_l4_30 : pd_LO "PascalDesk$Calculator" 30 (1, 70, 2, 4) := mm_LO.k1 rfl pd_ce70 ⟨pd_w652, pd_w641, _, rfl, pd_w642⟩
theorem pd_l4_34 : pd_LO "PascalDesk$Calculator" 34 (1, 74, 1, 4) := mm_LO.k1 rfl pd_ce74 ⟨pd_w702, pd_w704, _, rfl, pd_w35⟩
theorem pd_l4_38 : pd_LO "PascalDesk$Calculator" 38 (1, 75, 1, 4) := mm_LO.k1 rfl pd_ce75 ⟨pd_w706, pd_w708, _, rfl, pd_w36⟩
theorem pd_l4_42 : pd_LO "PascalDesk$Calculator" 42 (2, 76, 1, 0) := mm_LO.k2 rfl pd_ce76 pd_w710 pd_w711
theorem pd_l4_46 : pd_LO "PascalDesk$Calculator" 46 (2, 77, 3, 0) := mm_LO.k2 rfl pd_ce77 pd_w729 pd_w730
theorem pd_l4_50 : pd_LO "PascalDesk$Calculator" 50 (5, 4, 0, 0) := mm_LO.k5 pd_w713
theorem pd_l4_57 : pd_LO "PascalDesk$Calculator" 57 (2, 78, 1, 0) := mm_LO.k2 rfl pd_ce78 pd_w732 pd_w733
theorem pd_l4_61 : pd_LO "PascalDesk$Calculator" 61 (2, 79, 2, 0) := mm_LO.k2 rfl pd_ce79 pd_w753 pd_w754
theorem pd_l4_65 : pd_LO "PascalDesk$Calculator" 65 (2, 80, 2, 0) := mm_LO.k2 rfl pd_ce80 pd_w757 pd_w758
theorem pd_l4_69 : pd_LO "PascalDesk$Calculator" 69 (5, 3, 0, 0) := mm_LO.k5 pd_w737
theorem pd_l4_76 : pd_LO "PascalDesk$Calculator" 76 (8, 4741671816366391296, 0, 0) := mm_LO.k8 pd_w735
theorem pd_l4_78 : pd_LO "PascalDesk$Calculator" 78 (8, 13965043853221167104, 0, 0) := mm_LO.k8 pd_w736
theorem pd_LO4 : ∀ q ∈ pd_lkl4, pd_LO "PascalDesk$Calculator" q.1 q.2 := List.forall_mem_cons.mpr ⟨pd_l4_3, List.forall_mem_cons.mpr ⟨pd_l4_9, List.forall_mem_cons.mpr ⟨pd_l4_15, List.forall_mem_cons.mpr ⟨pd_l4_18, List.forall_mem_cons.mpr ⟨pd_l4_22, List.forall_mem_cons.mpr ⟨pd_l4_26, List.forall_mem_cons.mpr ⟨pd_l4_30, List.forall_mem_cons.mpr ⟨pd_l4_34, List.forall_mem_cons.mpr ⟨pd_l4_38, List.forall_mem_cons.mpr ⟨pd_l4_42, List.forall_mem_cons.mpr ⟨pd_l4_46, List.forall_mem_cons.mpr ⟨pd_l4_50, List.forall_mem_cons.mpr ⟨pd_l4_57, List.forall_mem_cons.mpr ⟨pd_l4_61, List.forall_mem_cons.mpr ⟨pd_l4_65, List.forall_mem_cons.mpr ⟨pd_l4_69, List.forall_mem_cons.mpr ⟨pd_l4_76, List.forall_mem_cons.mpr ⟨pd_l4_78, fun _ h => absurd h List.not_mem_nil⟩⟩⟩⟩⟩⟩⟩⟩⟩⟩⟩⟩⟩⟩⟩⟩⟩⟩
theorem pd_l5_3 : pd_LO "PascalDesk$Tape" 3 (3, 0, 0, 0) := mm_LO.k3 pd_w182 pd_w92 pd_w93
theorem pd_l5_9 : pd_LO "PascalDesk$Tape" 9 (0, 5, 0, 0) := mm_LO.k0 (C := "PascalDesk$Tape") (T := pd_T5) (N := 3) rfl (by decide) pd_w183
theorem pd_l5_15 : pd_LO "PascalDesk$Tape" 15 (0, 5, 1, 0) := mm_LO.k0 (C := "PascalDesk$Tape") (T := pd_T5) (N := 3) rfl (by decide) pd_w184
theorem pd_l5_19 : pd_LO "PascalDesk$Tape" 19 (0, 5, 2, 0) := mm_LO.k0 (C := "PascalDesk$Tape") (T := pd_T5) (N := 3) rfl (by decide) pd_w185
theorem pd_LO5 : ∀ q ∈ pd_lkl5, pd_LO "PascalDesk$Tape" q.1 q.2 := List.forall_mem_cons.mpr ⟨pd_l5_3, List.forall_mem_cons.mpr ⟨pd_l5_9, List.forall_mem_cons.mpr ⟨pd_l5_15, List.forall_mem_cons.mpr ⟨pd_l5_19, fun _ h => absurd h List.not_mem_nil⟩⟩⟩⟩
theorem pd_l6_1 : pd_LO "PascalDesk$Strand" 1 (3, 0, 0, 0) := mm_LO.k3 pd_w199 pd_w92 pd_w93
theorem pd_l6_9 : pd_LO "PascalDesk$Strand" 9 (0, 6, 9, 0) := mm_LO.k0 (C := "PascalDesk$Strand") (T := pd_T6) (N := 11) rfl (by decide) pd_w214
theorem pd_l6_13 : pd_LO "PascalDesk$Strand" 13 (0, 6, 10, 0) := mm_LO.k0 (C := "PascalDesk$Strand") (T := pd_T6) (N := 11) rfl (by decide) pd_w215
theorem pd_l6_16 : pd_LO "PascalDesk$Strand" 16 (1, 87, 4, 6) := mm_LO.k1 rfl pd_ce87 ⟨pd_w601, pd_w603, _, rfl, pd_w24⟩
theorem pd_l6_20 : pd_LO "PascalDesk$Strand" 20 (0, 6, 3, 0) := mm_LO.k0 (C := "PascalDesk$Strand") (T := pd_T6) (N := 11) rfl (by decide) pd_w206
theorem pd_l6_24 : pd_LO "PascalDesk$Strand" 24 (0, 6, 7, 0) := mm_LO.k0 (C := "PascalDesk$Strand") (T := pd_T6) (N := 11) rfl (by decide) pd_w212
theorem pd_l6_27 : pd_LO "PascalDesk$Strand" 27 (0, 6, 0, 0) := mm_LO.k0 (C := "PascalDesk$Strand") (T := pd_T6) (N := 11) rfl (by decide) pd_w200
theorem pd_l6_30 : pd_LO "PascalDesk$Strand" 30 (0, 6, 1, 0) := mm_LO.k0 (C := "PascalDesk$Strand") (T := pd_T6) (N := 11) rfl (by decide) pd_w202
theorem pd_l6_33 : pd_LO "PascalDesk$Strand" 33 (0, 6, 2, 0) := mm_LO.k0 (C := "PascalDesk$Strand") (T := pd_T6) (N := 11) rfl (by decide) pd_w204
theorem pd_l6_36 : pd_LO "PascalDesk$Strand" 36 (0, 6, 4, 0) := mm_LO.k0 (C := "PascalDesk$Strand") (T := pd_T6) (N := 11) rfl (by decide) pd_w208
theorem pd_l6_39 : pd_LO "PascalDesk$Strand" 39 (0, 6, 8, 0) := mm_LO.k0 (C := "PascalDesk$Strand") (T := pd_T6) (N := 11) rfl (by decide) pd_w213
theorem pd_LO6 : ∀ q ∈ pd_lkl6, pd_LO "PascalDesk$Strand" q.1 q.2 := List.forall_mem_cons.mpr ⟨pd_l6_1, List.forall_mem_cons.mpr ⟨pd_l6_9, List.forall_mem_cons.mpr ⟨pd_l6_13, List.forall_mem_cons.mpr ⟨pd_l6_16, List.forall_mem_cons.mpr ⟨pd_l6_20, List.forall_mem_cons.mpr ⟨pd_l6_24, List.forall_mem_cons.mpr ⟨pd_l6_27, List.forall_mem_cons.mpr ⟨pd_l6_30, List.forall_mem_cons.mpr ⟨pd_l6_33, List.forall_mem_cons.mpr ⟨pd_l6_36, List.forall_mem_cons.mpr ⟨pd_l6_39, fun _ h => absurd h List.not_mem_nil⟩⟩⟩⟩⟩⟩⟩⟩⟩⟩⟩
theorem pd_l7_1 : pd_LO "PascalDeskModel" 1 (3, 0, 0, 0) := mm_LO.k3 pd_w815 pd_w92 pd_w93
theorem pd_l7_7 : pd_LO "PascalDeskModel" 7 (0, 7, 0, 0) := mm_LO.k0 (C := "PascalDeskModel") (T := pd_T7) (N := 40) rfl (by decide) pd_w816
theorem pd_l7_13 : pd_LO "PascalDeskModel" 13 (0, 7, 1, 0) := mm_LO.k0 (C := "PascalDeskModel") (T := pd_T7) (N := 40) rfl (by decide) pd_w817
theorem pd_l7_16 : pd_LO "PascalDeskModel" 16 (0, 7, 2, 0) := mm_LO.k0 (C := "PascalDeskModel") (T := pd_T7) (N := 40) rfl (by decide) pd_w818
theorem pd_l7_19 : pd_LO "PascalDeskModel" 19 (0, 7, 3, 0) := mm_LO.k0 (C := "PascalDeskModel") (T := pd_T7) (N := 40) rfl (by decide) pd_w819
theorem pd_l7_22 : pd_LO "PascalDeskModel" 22 (0, 7, 4, 0) := mm_LO.k0 (C := "PascalDeskModel") (T := pd_T7) (N := 40) rfl (by decide) pd_w820
theorem pd_l7_26 : pd_LO "PascalDeskModel" 26 (0, 7, 5, 0) := mm_LO.k0 (C := "PascalDeskModel") (T := pd_T7) (N := 40) rfl (by decide) pd_w821
theorem pd_l7_29 : pd_LO "PascalDeskModel" 29 (0, 7, 6, 0) := mm_LO.k0 (C := "PascalDeskModel") (T := pd_T7) (N := 40) rfl (by decide) pd_w822
theorem pd_l7_32 : pd_LO "PascalDeskModel" 32 (0, 7, 7, 0) := mm_LO.k0 (C := "PascalDeskModel") (T := pd_T7) (N := 40) rfl (by decide) pd_w823
theorem pd_l7_35 : pd_LO "PascalDeskModel" 35 (0, 7, 9, 0) := mm_LO.k0 (C := "PascalDeskModel") (T := pd_T7) (N := 40) rfl (by decide) pd_w825
theorem pd_l7_39 : pd_LO "PascalDeskModel" 39 (0, 7, 17, 0) := mm_LO.k0 (C := "PascalDeskModel") (T := pd_T7) (N := 40) rfl (by decide) pd_w833
theorem pd_l7_42 : pd_LO "PascalDeskModel" 42 (0, 7, 18, 0) := mm_LO.k0 (C := "PascalDeskModel") (T := pd_T7) (N := 40) rfl (by decide) pd_w834
theorem pd_l7_45 : pd_LO "PascalDeskModel" 45 (0, 7, 20, 0) := mm_LO.k0 (C := "PascalDeskModel") (T := pd_T7) (N := 40) rfl (by decide) pd_w836
theorem pd_l7_49 : pd_LO "PascalDeskModel" 49 (0, 7, 21, 0) := mm_LO.k0 (C := "PascalDeskModel") (T := pd_T7) (N := 40) rfl (by decide) pd_w837
theorem pd_l7_52 : pd_LO "PascalDeskModel" 52 (0, 7, 22, 0) := mm_LO.k0 (C := "PascalDeskModel") (T := pd_T7) (N := 40) rfl (by decide) pd_w838
theorem pd_l7_55 : pd_LO "PascalDeskModel" 55 (0, 7, 23, 0) := mm_LO.k0 (C := "PascalDeskModel") (T := pd_T7) (N := 40) rfl (by decide) pd_w839
theorem pd_l7_58 : pd_LO "PascalDeskModel" 58 (0, 7, 24, 0) := mm_LO.k0 (C := "PascalDeskModel") (T := pd_T7) (N := 40) rfl (by decide) pd_w840
theorem pd_l7_61 : pd_LO "PascalDeskModel" 61 (0, 7, 25, 0) := mm_LO.k0 (C := "PascalDeskModel") (T := pd_T7) (N := 40) rfl (by decide) pd_w841
theorem pd_l7_64 : pd_LO "PascalDeskModel" 64 (0, 7, 26, 0) := mm_LO.k0 (C := "PascalDeskModel") (T := pd_T7) (N := 40) rfl (by decide) pd_w842
theorem pd_l7_67 : pd_LO "PascalDeskModel" 67 (0, 7, 27, 0) := mm_LO.k0 (C := "PascalDeskModel") (T := pd_T7) (N := 40) rfl (by decide) pd_w843
theorem pd_l7_70 : pd_LO "PascalDeskModel" 70 (0, 7, 28, 0) := mm_LO.k0 (C := "PascalDeskModel") (T := pd_T7) (N := 40) rfl (by decide) pd_w844
theorem pd_l7_73 : pd_LO "PascalDeskModel" 73 (0, 7, 29, 0) := mm_LO.k0 (C := "PascalDeskModel") (T := pd_T7) (N := 40) rfl (by decide) pd_w845
theorem pd_l7_76 : pd_LO "PascalDeskModel" 76 (0, 7, 30, 0) := mm_LO.k0 (C := "PascalDeskModel") (T := pd_T7) (N := 40) rfl (by decide) pd_w846
theorem pd_l7_79 : pd_LO "PascalDeskModel" 79 (0, 7, 31, 0) := mm_LO.k0 (C := "PascalDeskModel") (T := pd_T7) (N := 40) rfl (by decide) pd_w847
theorem pd_l7_82 : pd_LO "PascalDeskModel" 82 (0, 7, 32, 0) := mm_LO.k0 (C := "PascalDeskModel") (T := pd_T7) (N := 40) rfl (by decide) pd_w848
theorem pd_l7_85 : pd_LO "PascalDeskModel" 85 (0, 7, 39, 0) := mm_LO.k0 (C := "PascalDeskModel") (T := pd_T7) (N := 40) rfl (by decide) pd_w855
theorem pd_l7_88 : pd_LO "PascalDeskModel" 88 (0, 7, 8, 0) := mm_LO.k0 (C := "PascalDeskModel") (T := pd_T7) (N := 40) rfl (by decide) pd_w824
theorem pd_l7_91 : pd_LO "PascalDeskModel" 91 (0, 7, 12, 0) := mm_LO.k0 (C := "PascalDeskModel") (T := pd_T7) (N := 40) rfl (by decide) pd_w828
theorem pd_l7_94 : pd_LO "PascalDeskModel" 94 (0, 7, 10, 0) := mm_LO.k0 (C := "PascalDeskModel") (T := pd_T7) (N := 40) rfl (by decide) pd_w826
theorem pd_l7_97 : pd_LO "PascalDeskModel" 97 (0, 7, 11, 0) := mm_LO.k0 (C := "PascalDeskModel") (T := pd_T7) (N := 40) rfl (by decide) pd_w827
theorem pd_l7_100 : pd_LO "PascalDeskModel" 100 (1, 99, 0, 7) := mm_LO.k1 rfl pd_ce99 ⟨pd_w966, pd_w968, _, rfl, pd_w45⟩
theorem pd_l7_104 : pd_LO "PascalDeskModel" 104 (1, 106, 1, 7) := mm_LO.k1 rfl pd_ce106 ⟨pd_w994, pd_w996, _, rfl, pd_w52⟩
theorem pd_l7_108 : pd_LO "PascalDeskModel" 108 (0, 7, 16, 0) := mm_LO.k0 (C := "PascalDeskModel") (T := pd_T7) (N := 40) rfl (by decide) pd_w832
theorem pd_l7_112 : pd_LO "PascalDeskModel" 112 (1, 96, 2, 7) := mm_LO.k1 rfl pd_ce96 ⟨pd_w954, pd_w956, _, rfl, pd_w42⟩
theorem pd_l7_116 : pd_LO "PascalDeskModel" 116 (0, 7, 15, 0) := mm_LO.k0 (C := "PascalDeskModel") (T := pd_T7) (N := 40) rfl (by decide) pd_w831
theorem pd_l7_119 : pd_LO "PascalDeskModel" 119 (1, 103, 1, 7) := mm_LO.k1 rfl pd_ce103 ⟨pd_w982, pd_w984, _, rfl, pd_w49⟩
theorem pd_l7_123 : pd_LO "PascalDeskModel" 123 (0, 7, 14, 0) := mm_LO.k0 (C := "PascalDeskModel") (T := pd_T7) (N := 40) rfl (by decide) pd_w830
theorem pd_l7_126 : pd_LO "PascalDeskModel" 126 (1, 101, 1, 7) := mm_LO.k1 rfl pd_ce101 ⟨pd_w974, pd_w976, _, rfl, pd_w47⟩
theorem pd_l7_130 : pd_LO "PascalDeskModel" 130 (1, 102, 1, 7) := mm_LO.k1 rfl pd_ce102 ⟨pd_w978, pd_w980, _, rfl, pd_w48⟩
theorem pd_l7_133 : pd_LO "PascalDeskModel" 133 (0, 7, 13, 0) := mm_LO.k0 (C := "PascalDeskModel") (T := pd_T7) (N := 40) rfl (by decide) pd_w829
theorem pd_l7_136 : pd_LO "PascalDeskModel" 136 (1, 97, 1, 7) := mm_LO.k1 rfl pd_ce97 ⟨pd_w958, pd_w960, _, rfl, pd_w43⟩
theorem pd_l7_140 : pd_LO "PascalDeskModel" 140 (1, 98, 0, 7) := mm_LO.k1 rfl pd_ce98 ⟨pd_w962, pd_w964, _, rfl, pd_w44⟩
theorem pd_l7_143 : pd_LO "PascalDeskModel" 143 (1, 105, 1, 7) := mm_LO.k1 rfl pd_ce105 ⟨pd_w990, pd_w992, _, rfl, pd_w51⟩
theorem pd_l7_146 : pd_LO "PascalDeskModel" 146 (1, 108, 1, 7) := mm_LO.k1 rfl pd_ce108 ⟨pd_w1002, pd_w1004, _, rfl, pd_w54⟩
theorem pd_l7_149 : pd_LO "PascalDeskModel" 149 (1, 110, 0, 7) := mm_LO.k1 rfl pd_ce110 ⟨pd_w1010, pd_w1012, _, rfl, pd_w56⟩
theorem pd_l7_152 : pd_LO "PascalDeskModel" 152 (1, 111, 1, 7) := mm_LO.k1 rfl pd_ce111 ⟨pd_w1014, pd_w1016, _, rfl, pd_w57⟩
theorem pd_l7_155 : pd_LO "PascalDeskModel" 155 (1, 100, 1, 7) := mm_LO.k1 rfl pd_ce100 ⟨pd_w970, pd_w972, _, rfl, pd_w46⟩
theorem pd_l7_158 : pd_LO "PascalDeskModel" 158 (1, 104, 1, 7) := mm_LO.k1 rfl pd_ce104 ⟨pd_w986, pd_w988, _, rfl, pd_w50⟩
theorem pd_l7_161 : pd_LO "PascalDeskModel" 161 (1, 107, 1, 7) := mm_LO.k1 rfl pd_ce107 ⟨pd_w998, pd_w1000, _, rfl, pd_w53⟩
theorem pd_l7_164 : pd_LO "PascalDeskModel" 164 (1, 109, 1, 7) := mm_LO.k1 rfl pd_ce109 ⟨pd_w1006, pd_w1008, _, rfl, pd_w55⟩
theorem pd_l7_167 : pd_LO "PascalDeskModel" 167 (1, 112, 2, 7) := mm_LO.k1 rfl pd_ce112 ⟨pd_w1018, pd_w1020, _, rfl, pd_w58⟩
theorem pd_l7_171 : pd_LO "PascalDeskModel" 171 (1, 95, 0, 7) := mm_LO.k1 rfl pd_ce95 ⟨pd_w950, pd_w952, _, rfl, pd_w41⟩
theorem pd_l7_174 : pd_LO "PascalDeskModel" 174 (8, 4741671816366391296, 0, 0) := mm_LO.k8 pd_w1055
theorem pd_l7_176 : pd_LO "PascalDeskModel" 176 (8, 13965043853221167104, 0, 0) := mm_LO.k8 pd_w1056
theorem pd_l7_178 : pd_LO "PascalDeskModel" 178 (8, 4613937818241073152, 0, 0) := mm_LO.k8 pd_w1050
theorem pd_l7_180 : pd_LO "PascalDeskModel" 180 (1, 120, 4, 7) := mm_LO.k1 rfl pd_ce120 ⟨pd_w1051, pd_w1053, _, rfl, pd_w64⟩
theorem pd_l7_184 : pd_LO "PascalDeskModel" 184 (0, 7, 36, 0) := mm_LO.k0 (C := "PascalDeskModel") (T := pd_T7) (N := 40) rfl (by decide) pd_w852
theorem pd_l7_187 : pd_LO "PascalDeskModel" 187 (1, 116, 0, 7) := mm_LO.k1 rfl pd_ce116 ⟨pd_w1034, pd_w1036, _, rfl, pd_w60⟩
theorem pd_l7_190 : pd_LO "PascalDeskModel" 190 (0, 7, 37, 0) := mm_LO.k0 (C := "PascalDeskModel") (T := pd_T7) (N := 40) rfl (by decide) pd_w853
theorem pd_l7_193 : pd_LO "PascalDeskModel" 193 (0, 7, 33, 0) := mm_LO.k0 (C := "PascalDeskModel") (T := pd_T7) (N := 40) rfl (by decide) pd_w849
theorem pd_l7_196 : pd_LO "PascalDeskModel" 196 (1, 123, 1, 7) := mm_LO.k1 rfl pd_ce123 ⟨pd_w1065, pd_w1067, _, rfl, pd_w67⟩
theorem pd_l7_199 : pd_LO "PascalDeskModel" 199 (1, 119, 1, 7) := mm_LO.k1 rfl pd_ce119 ⟨pd_w1046, pd_w1048, _, rfl, pd_w63⟩
theorem pd_l7_202 : pd_LO "PascalDeskModel" 202 (1, 121, 3, 7) := mm_LO.k1 rfl pd_ce121 ⟨pd_w1057, pd_w1059, _, rfl, pd_w65⟩
theorem pd_l7_206 : pd_LO "PascalDeskModel" 206 (0, 7, 35, 0) := mm_LO.k0 (C := "PascalDeskModel") (T := pd_T7) (N := 40) rfl (by decide) pd_w851
theorem pd_l7_209 : pd_LO "PascalDeskModel" 209 (1, 122, 1, 7) := mm_LO.k1 rfl pd_ce122 ⟨pd_w1061, pd_w1063, _, rfl, pd_w66⟩
theorem pd_l7_212 : pd_LO "PascalDeskModel" 212 (1, 115, 2, 7) := mm_LO.k1 rfl pd_ce115 ⟨pd_w1030, pd_w1032, _, rfl, pd_w59⟩
theorem pd_l7_215 : pd_LO "PascalDeskModel" 215 (0, 7, 38, 0) := mm_LO.k0 (C := "PascalDeskModel") (T := pd_T7) (N := 40) rfl (by decide) pd_w854
theorem pd_l7_218 : pd_LO "PascalDeskModel" 218 (0, 7, 34, 0) := mm_LO.k0 (C := "PascalDeskModel") (T := pd_T7) (N := 40) rfl (by decide) pd_w850
theorem pd_l7_221 : pd_LO "PascalDeskModel" 221 (0, 7, 19, 0) := mm_LO.k0 (C := "PascalDeskModel") (T := pd_T7) (N := 40) rfl (by decide) pd_w835
theorem pd_l7_224 : pd_LO "PascalDeskModel" 224 (1, 117, 1, 7) := mm_LO.k1 rfl pd_ce117 ⟨pd_w1038, pd_w1040, _, rfl, pd_w61⟩
theorem pd_l7_227 : pd_LO "PascalDeskModel" 227 (1, 118, 1, 7) := mm_LO.k1 rfl pd_ce118 ⟨pd_w1042, pd_w1044, _, rfl, pd_w62⟩
theorem pd_l7_230 : pd_LO "PascalDeskModel" 230 (8, 13875379345695965184, 0, 0) := mm_LO.k8 pd_w1077
theorem pd_l7_232 : pd_LO "PascalDeskModel" 232 (8, 4652007308841189376, 0, 0) := mm_LO.k8 pd_w1078
theorem pd_LO7 : ∀ q ∈ pd_lkl7, pd_LO "PascalDeskModel" q.1 q.2 := List.forall_mem_cons.mpr ⟨pd_l7_1, List.forall_mem_cons.mpr ⟨pd_l7_7, List.forall_mem_cons.mpr ⟨pd_l7_13, List.forall_mem_cons.mpr ⟨pd_l7_16, List.forall_mem_cons.mpr ⟨pd_l7_19, List.forall_mem_cons.mpr ⟨pd_l7_22, List.forall_mem_cons.mpr ⟨pd_l7_26, List.forall_mem_cons.mpr ⟨pd_l7_29, List.forall_mem_cons.mpr ⟨pd_l7_32, List.forall_mem_cons.mpr ⟨pd_l7_35, List.forall_mem_cons.mpr ⟨pd_l7_39, List.forall_mem_cons.mpr ⟨pd_l7_42, List.forall_mem_cons.mpr ⟨pd_l7_45, List.forall_mem_cons.mpr ⟨pd_l7_49, List.forall_mem_cons.mpr ⟨pd_l7_52, List.forall_mem_cons.mpr ⟨pd_l7_55, List.forall_mem_cons.mpr ⟨pd_l7_58, List.forall_mem_cons.mpr ⟨pd_l7_61, List.forall_mem_cons.mpr ⟨pd_l7_64, List.forall_mem_cons.mpr ⟨pd_l7_67, List.forall_mem_cons.mpr ⟨pd_l7_70, List.forall_mem_cons.mpr ⟨pd_l7_73, List.forall_mem_cons.mpr ⟨pd_l7_76, List.forall_mem_cons.mpr ⟨pd_l7_79, List.forall_mem_cons.mpr ⟨pd_l7_82, List.forall_mem_cons.mpr ⟨pd_l7_85, List.forall_mem_cons.mpr ⟨pd_l7_88, List.forall_mem_cons.mpr ⟨pd_l7_91, List.forall_mem_cons.mpr ⟨pd_l7_94, List.forall_mem_cons.mpr ⟨pd_l7_97, List.forall_mem_cons.mpr ⟨pd_l7_100, List.forall_mem_cons.mpr ⟨pd_l7_104, List.forall_mem_cons.mpr ⟨pd_l7_108, List.forall_mem_cons.mpr ⟨pd_l7_112, List.forall_mem_cons.mpr ⟨pd_l7_116, List.forall_mem_cons.mpr ⟨pd_l7_119, List.forall_mem_cons.mpr ⟨pd_l7_123, List.forall_mem_cons.mpr ⟨pd_l7_126, List.forall_mem_cons.mpr ⟨pd_l7_130, List.forall_mem_cons.mpr ⟨pd_l7_133, List.forall_mem_cons.mpr ⟨pd_l7_136, List.forall_mem_cons.mpr ⟨pd_l7_140, List.forall_mem_cons.mpr ⟨pd_l7_143, List.forall_mem_cons.mpr ⟨pd_l7_146, List.forall_mem_cons.mpr ⟨pd_l7_149, List.forall_mem_cons.mpr ⟨pd_l7_152, List.forall_mem_cons.mpr ⟨pd_l7_155, List.forall_mem_cons.mpr ⟨pd_l7_158, List.forall_mem_cons.mpr ⟨pd_l7_161, List.forall_mem_cons.mpr ⟨pd_l7_164, List.forall_mem_cons.mpr ⟨pd_l7_167, List.forall_mem_cons.mpr ⟨pd_l7_171, List.forall_mem_cons.mpr ⟨pd_l7_174, List.forall_mem_cons.mpr ⟨pd_l7_176, List.forall_mem_cons.mpr ⟨pd_l7_178, List.forall_mem_cons.mpr ⟨pd_l7_180, List.forall_mem_cons.mpr ⟨pd_l7_184, List.forall_mem_cons.mpr ⟨pd_l7_187, List.forall_mem_cons.mpr ⟨pd_l7_190, List.forall_mem_cons.mpr ⟨pd_l7_193, List.forall_mem_cons.mpr ⟨pd_l7_196, List.forall_mem_cons.mpr ⟨pd_l7_199, List.forall_mem_cons.mpr ⟨pd_l7_202, List.forall_mem_cons.mpr ⟨pd_l7_206, List.forall_mem_cons.mpr ⟨pd_l7_209, List.forall_mem_cons.mpr ⟨pd_l7_212, List.forall_mem_cons.mpr ⟨pd_l7_215, List.forall_mem_cons.mpr ⟨pd_l7_218, List.forall_mem_cons.mpr ⟨pd_l7_221, List.forall_mem_cons.mpr ⟨pd_l7_224, List.forall_mem_cons.mpr ⟨pd_l7_227, List.forall_mem_cons.mpr ⟨pd_l7_230, List.forall_mem_cons.mpr ⟨pd_l7_232, fun _ h => absurd h List.not_mem_nil⟩⟩⟩⟩⟩⟩⟩⟩⟩⟩⟩⟩⟩⟩⟩⟩⟩⟩⟩⟩⟩⟩⟩⟩⟩⟩⟩⟩⟩⟩⟩⟩⟩⟩⟩⟩⟩⟩⟩⟩⟩⟩⟩⟩⟩⟩⟩⟩⟩⟩⟩⟩⟩⟩⟩⟩⟩⟩⟩⟩⟩⟩⟩⟩⟩⟩⟩⟩⟩⟩⟩⟩⟩
theorem pd_l8_7 : pd_LO "PascalDeskLaw" 7 (1, 2, 1, 0) := mm_LO.k1 rfl pd_ce2 ⟨pd_w309, pd_w310, _, rfl, pd_w311⟩
theorem pd_l8_8 : pd_LO "PascalDeskLaw" 8 (4, 0, 0, 0) := mm_LO.k4 (C := "PascalDesk") (T := pd_T0) (N := 3) rfl pd_w86 pd_w87 pd_w69 (fun h => by cases h)
theorem pd_l8_13 : pd_LO "PascalDeskLaw" 13 (5, 0, 0, 0) := mm_LO.k5 pd_w307
theorem pd_l8_15 : pd_LO "PascalDeskLaw" 15 (5, 1, 0, 0) := mm_LO.k5 pd_w308
theorem pd_l8_17 : pd_LO "PascalDeskLaw" 17 (1, 4, 1, 0) := mm_LO.k1 rfl pd_ce4 ⟨pd_w413, pd_w414, _, rfl, pd_w415⟩
theorem pd_l8_21 : pd_LO "PascalDeskLaw" 21 (1, 6, 2, 0) := mm_LO.k1 rfl pd_ce6 ⟨pd_w546, pd_w547, _, rfl, pd_w548⟩
theorem pd_l8_25 : pd_LO "PascalDeskLaw" 25 (1, 7, 3, 0) := mm_LO.k1 rfl pd_ce7 ⟨pd_w561, pd_w562, _, rfl, pd_w563⟩
theorem pd_l8_29 : pd_LO "PascalDeskLaw" 29 (5, 2, 0, 0) := mm_LO.k5 pd_w558
theorem pd_l8_31 : pd_LO "PascalDeskLaw" 31 (5, 3, 0, 0) := mm_LO.k5 pd_w559
theorem pd_l8_33 : pd_LO "PascalDeskLaw" 33 (5, 4, 0, 0) := mm_LO.k5 pd_w560
theorem pd_l8_35 : pd_LO "PascalDeskLaw" 35 (1, 9, 1, 0) := mm_LO.k1 rfl pd_ce9 ⟨pd_w785, pd_w786, _, rfl, pd_w787⟩
theorem pd_l8_39 : pd_LO "PascalDeskLaw" 39 (1, 10, 2, 0) := mm_LO.k1 rfl pd_ce10 ⟨pd_w794, pd_w795, _, rfl, pd_w796⟩
theorem pd_l8_43 : pd_LO "PascalDeskLaw" 43 (1, 11, 1, 0) := mm_LO.k1 rfl pd_ce11 ⟨pd_w805, pd_w806, _, rfl, pd_w807⟩
theorem pd_l8_46 : pd_LO "PascalDeskLaw" 46 (10, 0, 0, 0) := mm_LO.k10 rfl pd_ce0 pd_w88 pd_w89 rfl
theorem pd_l8_47 : pd_LO "PascalDeskLaw" 47 (4, 7, 0, 0) := mm_LO.k4 (C := "PascalDeskModel") (T := pd_T7) (N := 40) rfl pd_w810 pd_w811 pd_w76 (fun h => by cases h)
theorem pd_l8_49 : pd_LO "PascalDeskLaw" 49 (10, 91, 0, 7) := mm_LO.k10 rfl pd_ce91 pd_w812 pd_w813 rfl
theorem pd_l8_50 : pd_LO "PascalDeskLaw" 50 (7, 4294967295, 0, 0) := mm_LO.k7 pd_w1087
theorem pd_l8_52 : pd_LO "PascalDeskLaw" 52 (14, 128, 3, 0) := mm_LO.k14 rfl pd_ce128 pd_w304 pd_w305
theorem pd_l8_57 : pd_LO "PascalDeskLaw" 57 (1, 93, 1, 7) := mm_LO.k1 rfl pd_ce93 ⟨pd_w942, pd_w943, _, rfl, pd_w944⟩
theorem pd_l8_58 : pd_LO "PascalDeskLaw" 58 (1, 92, 0, 7) := mm_LO.k1 rfl pd_ce92 ⟨pd_w938, pd_w939, _, rfl, pd_w940⟩
theorem pd_l8_62 : pd_LO "PascalDeskLaw" 62 (14, 129, 3, 0) := mm_LO.k14 rfl pd_ce129 pd_w410 pd_w411
theorem pd_l8_65 : pd_LO "PascalDeskLaw" 65 (1, 94, 1, 7) := mm_LO.k1 rfl pd_ce94 ⟨pd_w946, pd_w947, _, rfl, pd_w948⟩
theorem pd_l8_66 : pd_LO "PascalDeskLaw" 66 (14, 130, 3, 0) := mm_LO.k14 rfl pd_ce130 pd_w543 pd_w544
theorem pd_l8_69 : pd_LO "PascalDeskLaw" 69 (1, 113, 2, 7) := mm_LO.k1 rfl pd_ce113 ⟨pd_w1022, pd_w1023, _, rfl, pd_w1024⟩
theorem pd_l8_70 : pd_LO "PascalDeskLaw" 70 (14, 131, 5, 0) := mm_LO.k14 rfl pd_ce131 pd_w555 pd_w556
theorem pd_l8_73 : pd_LO "PascalDeskLaw" 73 (1, 114, 3, 7) := mm_LO.k1 rfl pd_ce114 ⟨pd_w1026, pd_w1027, _, rfl, pd_w1028⟩
theorem pd_l8_74 : pd_LO "PascalDeskLaw" 74 (14, 132, 3, 0) := mm_LO.k14 rfl pd_ce132 pd_w782 pd_w783
theorem pd_l8_77 : pd_LO "PascalDeskLaw" 77 (1, 124, 1, 7) := mm_LO.k1 rfl pd_ce124 ⟨pd_w1069, pd_w1070, _, rfl, pd_w1071⟩
theorem pd_l8_78 : pd_LO "PascalDeskLaw" 78 (8, 4593671619917905920, 0, 0) := mm_LO.k8 pd_w1088
theorem pd_l8_80 : pd_LO "PascalDeskLaw" 80 (14, 133, 3, 0) := mm_LO.k14 rfl pd_ce133 pd_w791 pd_w792
theorem pd_l8_83 : pd_LO "PascalDeskLaw" 83 (1, 125, 2, 7) := mm_LO.k1 rfl pd_ce125 ⟨pd_w1073, pd_w1074, _, rfl, pd_w1075⟩
theorem pd_l8_84 : pd_LO "PascalDeskLaw" 84 (14, 134, 3, 0) := mm_LO.k14 rfl pd_ce134 pd_w802 pd_w803
theorem pd_l8_86 : pd_LO "PascalDeskLaw" 86 (1, 126, 1, 7) := mm_LO.k1 rfl pd_ce126 ⟨pd_w1079, pd_w1080, _, rfl, pd_w1081⟩
theorem pd_l8_87 : pd_LO "PascalDeskLaw" 87 (1, 1, 1, 0) := mm_LO.k1 rfl pd_ce1 ⟨pd_w296, pd_w297, _, rfl, pd_w298⟩
theorem pd_l8_90 : pd_LO "PascalDeskLaw" 90 (1, 127, 1, 7) := mm_LO.k1 rfl pd_ce127 ⟨pd_w1083, pd_w1084, _, rfl, pd_w1085⟩
theorem pd_LO8 : ∀ q ∈ pd_lkl8, pd_LO "PascalDeskLaw" q.1 q.2 := List.forall_mem_cons.mpr ⟨pd_l8_7, List.forall_mem_cons.mpr ⟨pd_l8_8, List.forall_mem_cons.mpr ⟨pd_l8_13, List.forall_mem_cons.mpr ⟨pd_l8_15, List.forall_mem_cons.mpr ⟨pd_l8_17, List.forall_mem_cons.mpr ⟨pd_l8_21, List.forall_mem_cons.mpr ⟨pd_l8_25, List.forall_mem_cons.mpr ⟨pd_l8_29, List.forall_mem_cons.mpr ⟨pd_l8_31, List.forall_mem_cons.mpr ⟨pd_l8_33, List.forall_mem_cons.mpr ⟨pd_l8_35, List.forall_mem_cons.mpr ⟨pd_l8_39, List.forall_mem_cons.mpr ⟨pd_l8_43, List.forall_mem_cons.mpr ⟨pd_l8_46, List.forall_mem_cons.mpr ⟨pd_l8_47, List.forall_mem_cons.mpr ⟨pd_l8_49, List.forall_mem_cons.mpr ⟨pd_l8_50, List.forall_mem_cons.mpr ⟨pd_l8_52, List.forall_mem_cons.mpr ⟨pd_l8_57, List.forall_mem_cons.mpr ⟨pd_l8_58, List.forall_mem_cons.mpr ⟨pd_l8_62, List.forall_mem_cons.mpr ⟨pd_l8_65, List.forall_mem_cons.mpr ⟨pd_l8_66, List.forall_mem_cons.mpr ⟨pd_l8_69, List.forall_mem_cons.mpr ⟨pd_l8_70, List.forall_mem_cons.mpr ⟨pd_l8_73, List.forall_mem_cons.mpr ⟨pd_l8_74, List.forall_mem_cons.mpr ⟨pd_l8_77, List.forall_mem_cons.mpr ⟨pd_l8_78, List.forall_mem_cons.mpr ⟨pd_l8_80, List.forall_mem_cons.mpr ⟨pd_l8_83, List.forall_mem_cons.mpr ⟨pd_l8_84, List.forall_mem_cons.mpr ⟨pd_l8_86, List.forall_mem_cons.mpr ⟨pd_l8_87, List.forall_mem_cons.mpr ⟨pd_l8_90, fun _ h => absurd h List.not_mem_nil⟩⟩⟩⟩⟩⟩⟩⟩⟩⟩⟩⟩⟩⟩⟩⟩⟩⟩⟩⟩⟩⟩⟩⟩⟩⟩⟩⟩⟩⟩⟩⟩⟩⟩⟩
theorem pd_LO9 : ∀ q ∈ pd_lkl9, pd_LO "java/lang/Math" q.1 q.2 := fun _ h => absurd h List.not_mem_nil
theorem pd_ws0 : ∀ w ∈ u_ws "PascalDesk" pd_T0 3, w ∈ pd_TT := List.forall_mem_cons.mpr ⟨pd_w289, List.forall_mem_cons.mpr ⟨pd_w291, List.forall_mem_cons.mpr ⟨pd_w293, fun _ h => absurd h List.not_mem_nil⟩⟩⟩
theorem pd_ws1 : ∀ w ∈ u_ws "PascalDesk$Code" pd_T1 5, w ∈ pd_TT := List.forall_mem_cons.mpr ⟨pd_w116, List.forall_mem_cons.mpr ⟨pd_w118, List.forall_mem_cons.mpr ⟨pd_w120, List.forall_mem_cons.mpr ⟨pd_w122, List.forall_mem_cons.mpr ⟨pd_w124, fun _ h => absurd h List.not_mem_nil⟩⟩⟩⟩⟩
theorem pd_ws2 : ∀ w ∈ u_ws "PascalDesk$Reader" pd_T2 6, w ∈ pd_TT := List.forall_mem_cons.mpr ⟨pd_w137, List.forall_mem_cons.mpr ⟨pd_w139, List.forall_mem_cons.mpr ⟨pd_w141, List.forall_mem_cons.mpr ⟨pd_w143, List.forall_mem_cons.mpr ⟨pd_w145, List.forall_mem_cons.mpr ⟨pd_w147, fun _ h => absurd h List.not_mem_nil⟩⟩⟩⟩⟩⟩
theorem pd_ws3 : ∀ w ∈ u_ws "PascalDesk$Runner" pd_T3 12, w ∈ pd_TT := List.forall_mem_cons.mpr ⟨pd_w261, List.forall_mem_cons.mpr ⟨pd_w263, List.forall_mem_cons.mpr ⟨pd_w265, List.forall_mem_cons.mpr ⟨pd_w267, List.forall_mem_cons.mpr ⟨pd_w269, List.forall_mem_cons.mpr ⟨pd_w271, List.forall_mem_cons.mpr ⟨pd_w273, List.forall_mem_cons.mpr ⟨pd_w275, List.forall_mem_cons.mpr ⟨pd_w277, List.forall_mem_cons.mpr ⟨pd_w279, List.forall_mem_cons.mpr ⟨pd_w281, List.forall_mem_cons.mpr ⟨pd_w283, fun _ h => absurd h List.not_mem_nil⟩⟩⟩⟩⟩⟩⟩⟩⟩⟩⟩⟩
theorem pd_ws4 : ∀ w ∈ u_ws "PascalDesk$Calculator" pd_T4 3, w ∈ pd_TT := List.forall_mem_cons.mpr ⟨pd_w169, List.forall_mem_cons.mpr ⟨pd_w171, List.forall_mem_cons.mpr ⟨pd_w173, fun _ h => absurd h List.not_mem_nil⟩⟩⟩
theorem pd_ws5 : ∀ w ∈ u_ws "PascalDesk$Tape" pd_T5 3, w ∈ pd_TT := List.forall_mem_cons.mpr ⟨pd_w186, List.forall_mem_cons.mpr ⟨pd_w188, List.forall_mem_cons.mpr ⟨pd_w190, fun _ h => absurd h List.not_mem_nil⟩⟩⟩
theorem pd_ws6 : ∀ w ∈ u_ws "PascalDesk$Strand" pd_T6 11, w ∈ pd_TT := List.forall_mem_cons.mpr ⟨pd_w216, List.forall_mem_cons.mpr ⟨pd_w218, List.forall_mem_cons.mpr ⟨pd_w220, List.forall_mem_cons.mpr ⟨pd_w222, List.forall_mem_cons.mpr ⟨pd_w224, List.forall_mem_cons.mpr ⟨pd_w226, List.forall_mem_cons.mpr ⟨pd_w228, List.forall_mem_cons.mpr ⟨pd_w230, List.forall_mem_cons.mpr ⟨pd_w232, List.forall_mem_cons.mpr ⟨pd_w234, List.forall_mem_cons.mpr ⟨pd_w236, fun _ h => absurd h List.not_mem_nil⟩⟩⟩⟩⟩⟩⟩⟩⟩⟩⟩
theorem pd_ws7 : ∀ w ∈ u_ws "PascalDeskModel" pd_T7 40, w ∈ pd_TT := List.forall_mem_cons.mpr ⟨pd_w856, List.forall_mem_cons.mpr ⟨pd_w858, List.forall_mem_cons.mpr ⟨pd_w860, List.forall_mem_cons.mpr ⟨pd_w862, List.forall_mem_cons.mpr ⟨pd_w864, List.forall_mem_cons.mpr ⟨pd_w866, List.forall_mem_cons.mpr ⟨pd_w868, List.forall_mem_cons.mpr ⟨pd_w870, List.forall_mem_cons.mpr ⟨pd_w872, List.forall_mem_cons.mpr ⟨pd_w874, List.forall_mem_cons.mpr ⟨pd_w876, List.forall_mem_cons.mpr ⟨pd_w878, List.forall_mem_cons.mpr ⟨pd_w880, List.forall_mem_cons.mpr ⟨pd_w882, List.forall_mem_cons.mpr ⟨pd_w884, List.forall_mem_cons.mpr ⟨pd_w886, List.forall_mem_cons.mpr ⟨pd_w888, List.forall_mem_cons.mpr ⟨pd_w890, List.forall_mem_cons.mpr ⟨pd_w892, List.forall_mem_cons.mpr ⟨pd_w894, List.forall_mem_cons.mpr ⟨pd_w896, List.forall_mem_cons.mpr ⟨pd_w898, List.forall_mem_cons.mpr ⟨pd_w900, List.forall_mem_cons.mpr ⟨pd_w902, List.forall_mem_cons.mpr ⟨pd_w904, List.forall_mem_cons.mpr ⟨pd_w906, List.forall_mem_cons.mpr ⟨pd_w908, List.forall_mem_cons.mpr ⟨pd_w910, List.forall_mem_cons.mpr ⟨pd_w912, List.forall_mem_cons.mpr ⟨pd_w914, List.forall_mem_cons.mpr ⟨pd_w916, List.forall_mem_cons.mpr ⟨pd_w918, List.forall_mem_cons.mpr ⟨pd_w920, List.forall_mem_cons.mpr ⟨pd_w922, List.forall_mem_cons.mpr ⟨pd_w924, List.forall_mem_cons.mpr ⟨pd_w926, List.forall_mem_cons.mpr ⟨pd_w928, List.forall_mem_cons.mpr ⟨pd_w930, List.forall_mem_cons.mpr ⟨pd_w932, List.forall_mem_cons.mpr ⟨pd_w934, fun _ h => absurd h List.not_mem_nil⟩⟩⟩⟩⟩⟩⟩⟩⟩⟩⟩⟩⟩⟩⟩⟩⟩⟩⟩⟩⟩⟩⟩⟩⟩⟩⟩⟩⟩⟩⟩⟩⟩⟩⟩⟩⟩⟩⟩⟩
end
section
/-! each method is checked (printed) -/
theorem pd_oa0 : pd_oaP "java/lang/IllegalArgumentException" 7 prog_13_method_2_code := ⟨by decide +kernel, by decide +kernel, by decide +kernel, by decide +kernel, by decide +kernel⟩
theorem pd_oa1 : pd_oaP "java/lang/IllegalStateException" 7 prog_14_method_2_code := ⟨by decide +kernel, by decide +kernel, by decide +kernel, by decide +kernel, by decide +kernel⟩
theorem pd_oa2 : pd_oaP "java/util/NoSuchElementException" 13 prog_20_method_4_code := ⟨by decide +kernel, by decide +kernel, by decide +kernel, by decide +kernel, by decide +kernel⟩
theorem pd_oa3 : pd_oaP "java/lang/ArithmeticException" 7 prog_11_method_2_code := ⟨by decide +kernel, by decide +kernel, by decide +kernel, by decide +kernel, by decide +kernel⟩
theorem pd_oa4 : pd_oaP "java/lang/IndexOutOfBoundsException" 7 prog_15_method_2_code := ⟨by decide +kernel, by decide +kernel, by decide +kernel, by decide +kernel, by decide +kernel⟩
theorem pd_t0 : ∀ q ∈ ([] : List (Nat × Nat × Nat)), ∃ is ic text names, mm_TH pd_TT pd_strs prog_1_method_1_code "PascalDesk" (pd_ex q.2.2) q.1 q.2.1 is ic text names := fun _ h => absurd h List.not_mem_nil
theorem pd_mk0 : pd_MOK pd_y0 prog_1_method_1_code none pd_m0 := pd_MOK.of (own := "PascalDesk") rfl pd_LO0 rfl pd_t0 (by decide +kernel)
theorem pd_t1 : ∀ q ∈ ([] : List (Nat × Nat × Nat)), ∃ is ic text names, mm_TH pd_TT pd_strs prog_1_method_9_code "PascalDesk" (pd_ex q.2.2) q.1 q.2.1 is ic text names := fun _ h => absurd h List.not_mem_nil
theorem pd_mk1 : pd_MOK pd_y1 prog_1_method_9_code (some .int) pd_m1 := pd_MOK.of (own := "PascalDesk") rfl pd_LO0 rfl pd_t1 (by decide +kernel)
theorem pd_t2 : ∀ q ∈ ([(38, 31, 0), (73, 42, 1)] : List (Nat × Nat × Nat)), ∃ is ic text names, mm_TH pd_TT pd_strs prog_1_method_2_code "PascalDesk" (pd_ex q.2.2) q.1 q.2.1 is ic text names := List.forall_mem_cons.mpr ⟨⟨33, 35, "a byte is not 33 .. 126", pd_names, pd_th pd_oa0 (by decide +kernel) (by decide +kernel) pd_w316 pd_w80 pd_w317 (by decide +kernel) pd_w360 (by decide +kernel) (by decide +kernel) (by decide +kernel) (by decide +kernel) (by decide +kernel)⟩, List.forall_mem_cons.mpr ⟨⟨44, 46, "the text would be too long", pd_names, pd_th pd_oa1 (by decide +kernel) (by decide +kernel) pd_w390 pd_w81 pd_w391 (by decide +kernel) pd_w400 (by decide +kernel) (by decide +kernel) (by decide +kernel) (by decide +kernel) (by decide +kernel)⟩, fun _ h => absurd h List.not_mem_nil⟩⟩
theorem pd_mk2 : pd_MOK pd_y2 prog_1_method_2_code (some .int) pd_m2 := pd_MOK.of (own := "PascalDesk") rfl pd_LO0 rfl pd_t2 (by decide +kernel)
theorem pd_t3 : ∀ q ∈ ([] : List (Nat × Nat × Nat)), ∃ is ic text names, mm_TH pd_TT pd_strs prog_1_method_10_code "PascalDesk" (pd_ex q.2.2) q.1 q.2.1 is ic text names := fun _ h => absurd h List.not_mem_nil
theorem pd_mk3 : pd_MOK pd_y3 prog_1_method_10_code (some .int) pd_m3 := pd_MOK.of (own := "PascalDesk") rfl pd_LO0 rfl pd_t3 (by decide +kernel)
theorem pd_t4 : ∀ q ∈ ([(7, 31, 0), (34, 31, 0)] : List (Nat × Nat × Nat)), ∃ is ic text names, mm_TH pd_TT pd_strs prog_1_method_3_code "PascalDesk" (pd_ex q.2.2) q.1 q.2.1 is ic text names := List.forall_mem_cons.mpr ⟨⟨58, 35, "no such procedure", pd_names, pd_th pd_oa0 (by decide +kernel) (by decide +kernel) pd_w316 pd_w80 pd_w317 (by decide +kernel) pd_w360 (by decide +kernel) (by decide +kernel) (by decide +kernel) (by decide +kernel) (by decide +kernel)⟩, List.forall_mem_cons.mpr ⟨⟨63, 35, "the text can't be read", pd_names, pd_th pd_oa0 (by decide +kernel) (by decide +kernel) pd_w316 pd_w80 pd_w317 (by decide +kernel) pd_w360 (by decide +kernel) (by decide +kernel) (by decide +kernel) (by decide +kernel) (by decide +kernel)⟩, fun _ h => absurd h List.not_mem_nil⟩⟩
theorem pd_mk4 : pd_MOK pd_y4 prog_1_method_3_code (some .int) pd_m4 := pd_MOK.of (own := "PascalDesk") rfl pd_LO0 rfl pd_t4 (by decide +kernel)
theorem pd_t5 : ∀ q ∈ ([] : List (Nat × Nat × Nat)), ∃ is ic text names, mm_TH pd_TT pd_strs prog_1_method_11_code "PascalDesk" (pd_ex q.2.2) q.1 q.2.1 is ic text names := fun _ h => absurd h List.not_mem_nil
theorem pd_mk5 : pd_MOK pd_y5 prog_1_method_11_code (some .boolean) pd_m5 := pd_MOK.of (own := "PascalDesk") rfl pd_LO0 rfl pd_t5 (by decide +kernel)
theorem pd_t6 : ∀ q ∈ ([(11, 31, 0)] : List (Nat × Nat × Nat)), ∃ is ic text names, mm_TH pd_TT pd_strs prog_1_method_4_code "PascalDesk" (pd_ex q.2.2) q.1 q.2.1 is ic text names := List.forall_mem_cons.mpr ⟨⟨82, 35, "a tape has 1 .. 16 numbers", pd_names, pd_th pd_oa0 (by decide +kernel) (by decide +kernel) pd_w316 pd_w80 pd_w317 (by decide +kernel) pd_w360 (by decide +kernel) (by decide +kernel) (by decide +kernel) (by decide +kernel) (by decide +kernel)⟩, fun _ h => absurd h List.not_mem_nil⟩
theorem pd_mk6 : pd_MOK pd_y6 prog_1_method_4_code none pd_m6 := pd_MOK.of (own := "PascalDesk") rfl pd_LO0 rfl pd_t6 (by decide +kernel)
theorem pd_t7 : ∀ q ∈ ([(21, 31, 0), (46, 103, 2)] : List (Nat × Nat × Nat)), ∃ is ic text names, mm_TH pd_TT pd_strs prog_1_method_5_code "PascalDesk" (pd_ex q.2.2) q.1 q.2.1 is ic text names := List.forall_mem_cons.mpr ⟨⟨97, 35, "a number is out of range", pd_names, pd_th pd_oa0 (by decide +kernel) (by decide +kernel) pd_w316 pd_w80 pd_w317 (by decide +kernel) pd_w360 (by decide +kernel) (by decide +kernel) (by decide +kernel) (by decide +kernel) (by decide +kernel)⟩, List.forall_mem_cons.mpr ⟨⟨105, 107, "the procedure is none", pd_names, pd_th pd_oa2 (by decide +kernel) (by decide +kernel) pd_w569 pd_w82 pd_w570 (by decide +kernel) pd_w579 (by decide +kernel) (by decide +kernel) (by decide +kernel) (by decide +kernel) (by decide +kernel)⟩, fun _ h => absurd h List.not_mem_nil⟩⟩
theorem pd_mk7 : pd_MOK pd_y7 prog_1_method_5_code (some .int) pd_m7 := pd_MOK.of (own := "PascalDesk") rfl pd_LO0 rfl pd_t7 (by decide +kernel)
theorem pd_t8 : ∀ q ∈ ([] : List (Nat × Nat × Nat)), ∃ is ic text names, mm_TH pd_TT pd_strs prog_1_method_12_code "PascalDesk" (pd_ex q.2.2) q.1 q.2.1 is ic text names := fun _ h => absurd h List.not_mem_nil
theorem pd_mk8 : pd_MOK pd_y8 prog_1_method_12_code (some .boolean) pd_m8 := pd_MOK.of (own := "PascalDesk") rfl pd_LO0 rfl pd_t8 (by decide +kernel)
theorem pd_t9 : ∀ q ∈ ([(7, 31, 0)] : List (Nat × Nat × Nat)), ∃ is ic text names, mm_TH pd_TT pd_strs prog_1_method_6_code "PascalDesk" (pd_ex q.2.2) q.1 q.2.1 is ic text names := List.forall_mem_cons.mpr ⟨⟨117, 35, "no such variable", pd_names, pd_th pd_oa0 (by decide +kernel) (by decide +kernel) pd_w316 pd_w80 pd_w317 (by decide +kernel) pd_w360 (by decide +kernel) (by decide +kernel) (by decide +kernel) (by decide +kernel) (by decide +kernel)⟩, fun _ h => absurd h List.not_mem_nil⟩
theorem pd_mk9 : pd_MOK pd_y9 prog_1_method_6_code (some .double) pd_m9 := pd_MOK.of (own := "PascalDesk") rfl pd_LO0 rfl pd_t9 (by decide +kernel)
theorem pd_t10 : ∀ q ∈ ([(35, 31, 0), (78, 31, 0)] : List (Nat × Nat × Nat)), ∃ is ic text names, mm_TH pd_TT pd_strs prog_1_method_7_code "PascalDesk" (pd_ex q.2.2) q.1 q.2.1 is ic text names := List.forall_mem_cons.mpr ⟨⟨97, 35, "a number is out of range", pd_names, pd_th pd_oa0 (by decide +kernel) (by decide +kernel) pd_w316 pd_w80 pd_w317 (by decide +kernel) pd_w360 (by decide +kernel) (by decide +kernel) (by decide +kernel) (by decide +kernel) (by decide +kernel)⟩, List.forall_mem_cons.mpr ⟨⟨134, 35, "an integer takes a whole number", pd_names, pd_th pd_oa0 (by decide +kernel) (by decide +kernel) pd_w316 pd_w80 pd_w317 (by decide +kernel) pd_w360 (by decide +kernel) (by decide +kernel) (by decide +kernel) (by decide +kernel) (by decide +kernel)⟩, fun _ h => absurd h List.not_mem_nil⟩⟩
theorem pd_mk10 : pd_MOK pd_y10 prog_1_method_7_code none pd_m10 := pd_MOK.of (own := "PascalDesk") rfl pd_LO0 rfl pd_t10 (by decide +kernel)
theorem pd_t11 : ∀ q ∈ ([(15, 103, 2)] : List (Nat × Nat × Nat)), ∃ is ic text names, mm_TH pd_TT pd_strs prog_1_method_8_code "PascalDesk" (pd_ex q.2.2) q.1 q.2.1 is ic text names := List.forall_mem_cons.mpr ⟨⟨139, 107, "no such number was written", pd_names, pd_th pd_oa2 (by decide +kernel) (by decide +kernel) pd_w569 pd_w82 pd_w570 (by decide +kernel) pd_w579 (by decide +kernel) (by decide +kernel) (by decide +kernel) (by decide +kernel) (by decide +kernel)⟩, fun _ h => absurd h List.not_mem_nil⟩
theorem pd_mk11 : pd_MOK pd_y11 prog_1_method_8_code (some .double) pd_m11 := pd_MOK.of (own := "PascalDesk") rfl pd_LO0 rfl pd_t11 (by decide +kernel)
theorem pd_t12 : ∀ q ∈ ([] : List (Nat × Nat × Nat)), ∃ is ic text names, mm_TH pd_TT pd_strs prog_3_method_1_code "PascalDesk$Code" (pd_ex q.2.2) q.1 q.2.1 is ic text names := fun _ h => absurd h List.not_mem_nil
theorem pd_mk12 : pd_MOK pd_y12 prog_3_method_1_code none pd_m12 := pd_MOK.of (own := "PascalDesk$Code") rfl pd_LO1 rfl pd_t12 (by decide +kernel)
theorem pd_t13 : ∀ q ∈ ([] : List (Nat × Nat × Nat)), ∃ is ic text names, mm_TH pd_TT pd_strs prog_3_method_2_code "PascalDesk$Code" (pd_ex q.2.2) q.1 q.2.1 is ic text names := fun _ h => absurd h List.not_mem_nil
theorem pd_mk13 : pd_MOK pd_y13 prog_3_method_2_code none pd_m13 := pd_MOK.of (own := "PascalDesk$Code") rfl pd_LO1 rfl pd_t13 (by decide +kernel)
theorem pd_t14 : ∀ q ∈ ([] : List (Nat × Nat × Nat)), ∃ is ic text names, mm_TH pd_TT pd_strs prog_3_method_4_code "PascalDesk$Code" (pd_ex q.2.2) q.1 q.2.1 is ic text names := fun _ h => absurd h List.not_mem_nil
theorem pd_mk14 : pd_MOK pd_y14 prog_3_method_4_code (some .int) pd_m14 := pd_MOK.of (own := "PascalDesk$Code") rfl pd_LO1 rfl pd_t14 (by decide +kernel)
theorem pd_t15 : ∀ q ∈ ([] : List (Nat × Nat × Nat)), ∃ is ic text names, mm_TH pd_TT pd_strs prog_3_method_5_code "PascalDesk$Code" (pd_ex q.2.2) q.1 q.2.1 is ic text names := fun _ h => absurd h List.not_mem_nil
theorem pd_mk15 : pd_MOK pd_y15 prog_3_method_5_code none pd_m15 := pd_MOK.of (own := "PascalDesk$Code") rfl pd_LO1 rfl pd_t15 (by decide +kernel)
theorem pd_t16 : ∀ q ∈ ([] : List (Nat × Nat × Nat)), ∃ is ic text names, mm_TH pd_TT pd_strs prog_3_method_3_code "PascalDesk$Code" (pd_ex q.2.2) q.1 q.2.1 is ic text names := fun _ h => absurd h List.not_mem_nil
theorem pd_mk16 : pd_MOK pd_y16 prog_3_method_3_code (some .int) pd_m16 := pd_MOK.of (own := "PascalDesk$Code") rfl pd_LO1 rfl pd_t16 (by decide +kernel)
theorem pd_t17 : ∀ q ∈ ([] : List (Nat × Nat × Nat)), ∃ is ic text names, mm_TH pd_TT pd_strs prog_3_method_6_code "PascalDesk$Code" (pd_ex q.2.2) q.1 q.2.1 is ic text names := fun _ h => absurd h List.not_mem_nil
theorem pd_mk17 : pd_MOK pd_y17 prog_3_method_6_code (some .int) pd_m17 := pd_MOK.of (own := "PascalDesk$Code") rfl pd_LO1 rfl pd_t17 (by decide +kernel)
theorem pd_t18 : ∀ q ∈ ([] : List (Nat × Nat × Nat)), ∃ is ic text names, mm_TH pd_TT pd_strs prog_3_method_7_code "PascalDesk$Code" (pd_ex q.2.2) q.1 q.2.1 is ic text names := fun _ h => absurd h List.not_mem_nil
theorem pd_mk18 : pd_MOK pd_y18 prog_3_method_7_code (some .int) pd_m18 := pd_MOK.of (own := "PascalDesk$Code") rfl pd_LO1 rfl pd_t18 (by decide +kernel)
theorem pd_t19 : ∀ q ∈ ([] : List (Nat × Nat × Nat)), ∃ is ic text names, mm_TH pd_TT pd_strs prog_5_method_1_code "PascalDesk$Reader" (pd_ex q.2.2) q.1 q.2.1 is ic text names := fun _ h => absurd h List.not_mem_nil
theorem pd_mk19 : pd_MOK pd_y19 prog_5_method_1_code none pd_m19 := pd_MOK.of (own := "PascalDesk$Reader") rfl pd_LO2 rfl pd_t19 (by decide +kernel)
theorem pd_t20 : ∀ q ∈ ([] : List (Nat × Nat × Nat)), ∃ is ic text names, mm_TH pd_TT pd_strs prog_5_method_2_code "PascalDesk$Reader" (pd_ex q.2.2) q.1 q.2.1 is ic text names := fun _ h => absurd h List.not_mem_nil
theorem pd_mk20 : pd_MOK pd_y20 prog_5_method_2_code (some .int) pd_m20 := pd_MOK.of (own := "PascalDesk$Reader") rfl pd_LO2 rfl pd_t20 (by decide +kernel)
theorem pd_t21 : ∀ q ∈ ([] : List (Nat × Nat × Nat)), ∃ is ic text names, mm_TH pd_TT pd_strs prog_5_method_3_code "PascalDesk$Reader" (pd_ex q.2.2) q.1 q.2.1 is ic text names := fun _ h => absurd h List.not_mem_nil
theorem pd_mk21 : pd_MOK pd_y21 prog_5_method_3_code none pd_m21 := pd_MOK.of (own := "PascalDesk$Reader") rfl pd_LO2 rfl pd_t21 (by decide +kernel)
theorem pd_t22 : ∀ q ∈ ([] : List (Nat × Nat × Nat)), ∃ is ic text names, mm_TH pd_TT pd_strs prog_5_method_4_code "PascalDesk$Reader" (pd_ex q.2.2) q.1 q.2.1 is ic text names := fun _ h => absurd h List.not_mem_nil
theorem pd_mk22 : pd_MOK pd_y22 prog_5_method_4_code (some .int) pd_m22 := pd_MOK.of (own := "PascalDesk$Reader") rfl pd_LO2 rfl pd_t22 (by decide +kernel)
theorem pd_t23 : ∀ q ∈ ([] : List (Nat × Nat × Nat)), ∃ is ic text names, mm_TH pd_TT pd_strs prog_5_method_11_code "PascalDesk$Reader" (pd_ex q.2.2) q.1 q.2.1 is ic text names := fun _ h => absurd h List.not_mem_nil
theorem pd_mk23 : pd_MOK pd_y23 prog_5_method_11_code none pd_m23 := pd_MOK.of (own := "PascalDesk$Reader") rfl pd_LO2 rfl pd_t23 (by decide +kernel)
theorem pd_t24 : ∀ q ∈ ([] : List (Nat × Nat × Nat)), ∃ is ic text names, mm_TH pd_TT pd_strs prog_5_method_12_code "PascalDesk$Reader" (pd_ex q.2.2) q.1 q.2.1 is ic text names := fun _ h => absurd h List.not_mem_nil
theorem pd_mk24 : pd_MOK pd_y24 prog_5_method_12_code none pd_m24 := pd_MOK.of (own := "PascalDesk$Reader") rfl pd_LO2 rfl pd_t24 (by decide +kernel)
theorem pd_t25 : ∀ q ∈ ([] : List (Nat × Nat × Nat)), ∃ is ic text names, mm_TH pd_TT pd_strs prog_5_method_5_code "PascalDesk$Reader" (pd_ex q.2.2) q.1 q.2.1 is ic text names := fun _ h => absurd h List.not_mem_nil
theorem pd_mk25 : pd_MOK pd_y25 prog_5_method_5_code (some .char) pd_m25 := pd_MOK.of (own := "PascalDesk$Reader") rfl pd_LO2 rfl pd_t25 (by decide +kernel)
theorem pd_t26 : ∀ q ∈ ([] : List (Nat × Nat × Nat)), ∃ is ic text names, mm_TH pd_TT pd_strs prog_5_method_28_code "PascalDesk$Reader" (pd_ex q.2.2) q.1 q.2.1 is ic text names := fun _ h => absurd h List.not_mem_nil
theorem pd_mk26 : pd_MOK pd_y26 prog_5_method_28_code (some .int) pd_m26 := pd_MOK.of (own := "PascalDesk$Reader") rfl pd_LO2 rfl pd_t26 (by decide +kernel)
theorem pd_t27 : ∀ q ∈ ([] : List (Nat × Nat × Nat)), ∃ is ic text names, mm_TH pd_TT pd_strs prog_5_method_13_code "PascalDesk$Reader" (pd_ex q.2.2) q.1 q.2.1 is ic text names := fun _ h => absurd h List.not_mem_nil
theorem pd_mk27 : pd_MOK pd_y27 prog_5_method_13_code none pd_m27 := pd_MOK.of (own := "PascalDesk$Reader") rfl pd_LO2 rfl pd_t27 (by decide +kernel)
theorem pd_t28 : ∀ q ∈ ([] : List (Nat × Nat × Nat)), ∃ is ic text names, mm_TH pd_TT pd_strs prog_5_method_7_code "PascalDesk$Reader" (pd_ex q.2.2) q.1 q.2.1 is ic text names := fun _ h => absurd h List.not_mem_nil
theorem pd_mk28 : pd_MOK pd_y28 prog_5_method_7_code (some .boolean) pd_m28 := pd_MOK.of (own := "PascalDesk$Reader") rfl pd_LO2 rfl pd_t28 (by decide +kernel)
theorem pd_t29 : ∀ q ∈ ([] : List (Nat × Nat × Nat)), ∃ is ic text names, mm_TH pd_TT pd_strs prog_5_method_6_code "PascalDesk$Reader" (pd_ex q.2.2) q.1 q.2.1 is ic text names := fun _ h => absurd h List.not_mem_nil
theorem pd_mk29 : pd_MOK pd_y29 prog_5_method_6_code (some .boolean) pd_m29 := pd_MOK.of (own := "PascalDesk$Reader") rfl pd_LO2 rfl pd_t29 (by decide +kernel)
theorem pd_t30 : ∀ q ∈ ([] : List (Nat × Nat × Nat)), ∃ is ic text names, mm_TH pd_TT pd_strs prog_5_method_19_code "PascalDesk$Reader" (pd_ex q.2.2) q.1 q.2.1 is ic text names := fun _ h => absurd h List.not_mem_nil
theorem pd_mk30 : pd_MOK pd_y30 prog_5_method_19_code (some .boolean) pd_m30 := pd_MOK.of (own := "PascalDesk$Reader") rfl pd_LO2 rfl pd_t30 (by decide +kernel)
theorem pd_t31 : ∀ q ∈ ([] : List (Nat × Nat × Nat)), ∃ is ic text names, mm_TH pd_TT pd_strs prog_5_method_20_code "PascalDesk$Reader" (pd_ex q.2.2) q.1 q.2.1 is ic text names := fun _ h => absurd h List.not_mem_nil
theorem pd_mk31 : pd_MOK pd_y31 prog_5_method_20_code (some .boolean) pd_m31 := pd_MOK.of (own := "PascalDesk$Reader") rfl pd_LO2 rfl pd_t31 (by decide +kernel)
theorem pd_t32 : ∀ q ∈ ([] : List (Nat × Nat × Nat)), ∃ is ic text names, mm_TH pd_TT pd_strs prog_5_method_21_code "PascalDesk$Reader" (pd_ex q.2.2) q.1 q.2.1 is ic text names := fun _ h => absurd h List.not_mem_nil
theorem pd_mk32 : pd_MOK pd_y32 prog_5_method_21_code (some .boolean) pd_m32 := pd_MOK.of (own := "PascalDesk$Reader") rfl pd_LO2 rfl pd_t32 (by decide +kernel)
theorem pd_t33 : ∀ q ∈ ([] : List (Nat × Nat × Nat)), ∃ is ic text names, mm_TH pd_TT pd_strs prog_5_method_22_code "PascalDesk$Reader" (pd_ex q.2.2) q.1 q.2.1 is ic text names := fun _ h => absurd h List.not_mem_nil
theorem pd_mk33 : pd_MOK pd_y33 prog_5_method_22_code (some .boolean) pd_m33 := pd_MOK.of (own := "PascalDesk$Reader") rfl pd_LO2 rfl pd_t33 (by decide +kernel)
theorem pd_t34 : ∀ q ∈ ([] : List (Nat × Nat × Nat)), ∃ is ic text names, mm_TH pd_TT pd_strs prog_5_method_27_code "PascalDesk$Reader" (pd_ex q.2.2) q.1 q.2.1 is ic text names := fun _ h => absurd h List.not_mem_nil
theorem pd_mk34 : pd_MOK pd_y34 prog_5_method_27_code (some .boolean) pd_m34 := pd_MOK.of (own := "PascalDesk$Reader") rfl pd_LO2 rfl pd_t34 (by decide +kernel)
theorem pd_t35 : ∀ q ∈ ([] : List (Nat × Nat × Nat)), ∃ is ic text names, mm_TH pd_TT pd_strs prog_5_method_23_code "PascalDesk$Reader" (pd_ex q.2.2) q.1 q.2.1 is ic text names := fun _ h => absurd h List.not_mem_nil
theorem pd_mk35 : pd_MOK pd_y35 prog_5_method_23_code none pd_m35 := pd_MOK.of (own := "PascalDesk$Reader") rfl pd_LO2 rfl pd_t35 (by decide +kernel)
theorem pd_t36 : ∀ q ∈ ([] : List (Nat × Nat × Nat)), ∃ is ic text names, mm_TH pd_TT pd_strs prog_5_method_9_code "PascalDesk$Reader" (pd_ex q.2.2) q.1 q.2.1 is ic text names := fun _ h => absurd h List.not_mem_nil
theorem pd_mk36 : pd_MOK pd_y36 prog_5_method_9_code (some .int) pd_m36 := pd_MOK.of (own := "PascalDesk$Reader") rfl pd_LO2 rfl pd_t36 (by decide +kernel)
theorem pd_t37 : ∀ q ∈ ([] : List (Nat × Nat × Nat)), ∃ is ic text names, mm_TH pd_TT pd_strs prog_5_method_24_code "PascalDesk$Reader" (pd_ex q.2.2) q.1 q.2.1 is ic text names := fun _ h => absurd h List.not_mem_nil
theorem pd_mk37 : pd_MOK pd_y37 prog_5_method_24_code none pd_m37 := pd_MOK.of (own := "PascalDesk$Reader") rfl pd_LO2 rfl pd_t37 (by decide +kernel)
theorem pd_t38 : ∀ q ∈ ([] : List (Nat × Nat × Nat)), ∃ is ic text names, mm_TH pd_TT pd_strs prog_5_method_8_code "PascalDesk$Reader" (pd_ex q.2.2) q.1 q.2.1 is ic text names := fun _ h => absurd h List.not_mem_nil
theorem pd_mk38 : pd_MOK pd_y38 prog_5_method_8_code (some .boolean) pd_m38 := pd_MOK.of (own := "PascalDesk$Reader") rfl pd_LO2 rfl pd_t38 (by decide +kernel)
theorem pd_t39 : ∀ q ∈ ([] : List (Nat × Nat × Nat)), ∃ is ic text names, mm_TH pd_TT pd_strs prog_5_method_10_code "PascalDesk$Reader" (pd_ex q.2.2) q.1 q.2.1 is ic text names := fun _ h => absurd h List.not_mem_nil
theorem pd_mk39 : pd_MOK pd_y39 prog_5_method_10_code none pd_m39 := pd_MOK.of (own := "PascalDesk$Reader") rfl pd_LO2 rfl pd_t39 (by decide +kernel)
theorem pd_t40 : ∀ q ∈ ([] : List (Nat × Nat × Nat)), ∃ is ic text names, mm_TH pd_TT pd_strs prog_5_method_25_code "PascalDesk$Reader" (pd_ex q.2.2) q.1 q.2.1 is ic text names := fun _ h => absurd h List.not_mem_nil
theorem pd_mk40 : pd_MOK pd_y40 prog_5_method_25_code (some .boolean) pd_m40 := pd_MOK.of (own := "PascalDesk$Reader") rfl pd_LO2 rfl pd_t40 (by decide +kernel)
theorem pd_t41 : ∀ q ∈ ([] : List (Nat × Nat × Nat)), ∃ is ic text names, mm_TH pd_TT pd_strs prog_5_method_26_code "PascalDesk$Reader" (pd_ex q.2.2) q.1 q.2.1 is ic text names := fun _ h => absurd h List.not_mem_nil
theorem pd_mk41 : pd_MOK pd_y41 prog_5_method_26_code none pd_m41 := pd_MOK.of (own := "PascalDesk$Reader") rfl pd_LO2 rfl pd_t41 (by decide +kernel)
theorem pd_t42 : ∀ q ∈ ([] : List (Nat × Nat × Nat)), ∃ is ic text names, mm_TH pd_TT pd_strs prog_5_method_14_code "PascalDesk$Reader" (pd_ex q.2.2) q.1 q.2.1 is ic text names := fun _ h => absurd h List.not_mem_nil
theorem pd_mk42 : pd_MOK pd_y42 prog_5_method_14_code none pd_m42 := pd_MOK.of (own := "PascalDesk$Reader") rfl pd_LO2 rfl pd_t42 (by decide +kernel)
theorem pd_t43 : ∀ q ∈ ([] : List (Nat × Nat × Nat)), ∃ is ic text names, mm_TH pd_TT pd_strs prog_5_method_15_code "PascalDesk$Reader" (pd_ex q.2.2) q.1 q.2.1 is ic text names := fun _ h => absurd h List.not_mem_nil
theorem pd_mk43 : pd_MOK pd_y43 prog_5_method_15_code none pd_m43 := pd_MOK.of (own := "PascalDesk$Reader") rfl pd_LO2 rfl pd_t43 (by decide +kernel)
theorem pd_t44 : ∀ q ∈ ([] : List (Nat × Nat × Nat)), ∃ is ic text names, mm_TH pd_TT pd_strs prog_5_method_17_code "PascalDesk$Reader" (pd_ex q.2.2) q.1 q.2.1 is ic text names := fun _ h => absurd h List.not_mem_nil
theorem pd_mk44 : pd_MOK pd_y44 prog_5_method_17_code none pd_m44 := pd_MOK.of (own := "PascalDesk$Reader") rfl pd_LO2 rfl pd_t44 (by decide +kernel)
theorem pd_t45 : ∀ q ∈ ([] : List (Nat × Nat × Nat)), ∃ is ic text names, mm_TH pd_TT pd_strs prog_5_method_16_code "PascalDesk$Reader" (pd_ex q.2.2) q.1 q.2.1 is ic text names := fun _ h => absurd h List.not_mem_nil
theorem pd_mk45 : pd_MOK pd_y45 prog_5_method_16_code none pd_m45 := pd_MOK.of (own := "PascalDesk$Reader") rfl pd_LO2 rfl pd_t45 (by decide +kernel)
theorem pd_t46 : ∀ q ∈ ([] : List (Nat × Nat × Nat)), ∃ is ic text names, mm_TH pd_TT pd_strs prog_5_method_18_code "PascalDesk$Reader" (pd_ex q.2.2) q.1 q.2.1 is ic text names := fun _ h => absurd h List.not_mem_nil
theorem pd_mk46 : pd_MOK pd_y46 prog_5_method_18_code none pd_m46 := pd_MOK.of (own := "PascalDesk$Reader") rfl pd_LO2 rfl pd_t46 (by decide +kernel)
theorem pd_t47 : ∀ q ∈ ([] : List (Nat × Nat × Nat)), ∃ is ic text names, mm_TH pd_TT pd_strs prog_6_method_1_code "PascalDesk$Runner" (pd_ex q.2.2) q.1 q.2.1 is ic text names := fun _ h => absurd h List.not_mem_nil
theorem pd_mk47 : pd_MOK pd_y47 prog_6_method_1_code none pd_m47 := pd_MOK.of (own := "PascalDesk$Runner") rfl pd_LO3 rfl pd_t47 (by decide +kernel)
theorem pd_t48 : ∀ q ∈ ([] : List (Nat × Nat × Nat)), ∃ is ic text names, mm_TH pd_TT pd_strs prog_6_method_3_code "PascalDesk$Runner" (pd_ex q.2.2) q.1 q.2.1 is ic text names := fun _ h => absurd h List.not_mem_nil
theorem pd_mk48 : pd_MOK pd_y48 prog_6_method_3_code (some .int) pd_m48 := pd_MOK.of (own := "PascalDesk$Runner") rfl pd_LO3 rfl pd_t48 (by decide +kernel)
theorem pd_t49 : ∀ q ∈ ([] : List (Nat × Nat × Nat)), ∃ is ic text names, mm_TH pd_TT pd_strs prog_6_method_2_code "PascalDesk$Runner" (pd_ex q.2.2) q.1 q.2.1 is ic text names := fun _ h => absurd h List.not_mem_nil
theorem pd_mk49 : pd_MOK pd_y49 prog_6_method_2_code (some (.object "PascalDesk$Code")) pd_m49 := pd_MOK.of (own := "PascalDesk$Runner") rfl pd_LO3 rfl pd_t49 (by decide +kernel)
theorem pd_t50 : ∀ q ∈ ([(50, 70, 1)] : List (Nat × Nat × Nat)), ∃ is ic text names, mm_TH pd_TT pd_strs prog_6_method_4_code "PascalDesk$Runner" (pd_ex q.2.2) q.1 q.2.1 is ic text names := List.forall_mem_cons.mpr ⟨⟨72, 74, "too many steps", pd_names, pd_th pd_oa1 (by decide +kernel) (by decide +kernel) pd_w609 pd_w81 pd_w391 (by decide +kernel) pd_w611 (by decide +kernel) (by decide +kernel) (by decide +kernel) (by decide +kernel) (by decide +kernel)⟩, fun _ h => absurd h List.not_mem_nil⟩
theorem pd_mk50 : pd_MOK pd_y50 prog_6_method_4_code (some .int) pd_m50 := pd_MOK.of (own := "PascalDesk$Runner") rfl pd_LO3 rfl pd_t50 (by decide +kernel)
theorem pd_t51 : ∀ q ∈ ([] : List (Nat × Nat × Nat)), ∃ is ic text names, mm_TH pd_TT pd_strs prog_6_method_5_code "PascalDesk$Runner" (pd_ex q.2.2) q.1 q.2.1 is ic text names := fun _ h => absurd h List.not_mem_nil
theorem pd_mk51 : pd_MOK pd_y51 prog_6_method_5_code none pd_m51 := pd_MOK.of (own := "PascalDesk$Runner") rfl pd_LO3 rfl pd_t51 (by decide +kernel)
theorem pd_t52 : ∀ q ∈ ([(35, 70, 1)] : List (Nat × Nat × Nat)), ∃ is ic text names, mm_TH pd_TT pd_strs prog_6_method_6_code "PascalDesk$Runner" (pd_ex q.2.2) q.1 q.2.1 is ic text names := List.forall_mem_cons.mpr ⟨⟨101, 74, "stuck", pd_names, pd_th pd_oa1 (by decide +kernel) (by decide +kernel) pd_w609 pd_w81 pd_w391 (by decide +kernel) pd_w611 (by decide +kernel) (by decide +kernel) (by decide +kernel) (by decide +kernel) (by decide +kernel)⟩, fun _ h => absurd h List.not_mem_nil⟩
theorem pd_mk52 : pd_MOK pd_y52 prog_6_method_6_code (some .int) pd_m52 := pd_MOK.of (own := "PascalDesk$Runner") rfl pd_LO3 rfl pd_t52 (by decide +kernel)
theorem pd_t53 : ∀ q ∈ ([] : List (Nat × Nat × Nat)), ∃ is ic text names, mm_TH pd_TT pd_strs prog_6_method_7_code "PascalDesk$Runner" (pd_ex q.2.2) q.1 q.2.1 is ic text names := fun _ h => absurd h List.not_mem_nil
theorem pd_mk53 : pd_MOK pd_y53 prog_6_method_7_code none pd_m53 := pd_MOK.of (own := "PascalDesk$Runner") rfl pd_LO3 rfl pd_t53 (by decide +kernel)
theorem pd_t54 : ∀ q ∈ ([] : List (Nat × Nat × Nat)), ∃ is ic text names, mm_TH pd_TT pd_strs prog_6_method_8_code "PascalDesk$Runner" (pd_ex q.2.2) q.1 q.2.1 is ic text names := fun _ h => absurd h List.not_mem_nil
theorem pd_mk54 : pd_MOK pd_y54 prog_6_method_8_code none pd_m54 := pd_MOK.of (own := "PascalDesk$Runner") rfl pd_LO3 rfl pd_t54 (by decide +kernel)
theorem pd_t55 : ∀ q ∈ ([(9, 70, 1)] : List (Nat × Nat × Nat)), ∃ is ic text names, mm_TH pd_TT pd_strs prog_6_method_9_code "PascalDesk$Runner" (pd_ex q.2.2) q.1 q.2.1 is ic text names := List.forall_mem_cons.mpr ⟨⟨159, 74, "too much is written", pd_names, pd_th pd_oa1 (by decide +kernel) (by decide +kernel) pd_w609 pd_w81 pd_w391 (by decide +kernel) pd_w611 (by decide +kernel) (by decide +kernel) (by decide +kernel) (by decide +kernel) (by decide +kernel)⟩, fun _ h => absurd h List.not_mem_nil⟩
theorem pd_mk55 : pd_MOK pd_y55 prog_6_method_9_code none pd_m55 := pd_MOK.of (own := "PascalDesk$Runner") rfl pd_LO3 rfl pd_t55 (by decide +kernel)
theorem pd_t56 : ∀ q ∈ ([] : List (Nat × Nat × Nat)), ∃ is ic text names, mm_TH pd_TT pd_strs prog_6_method_10_code "PascalDesk$Runner" (pd_ex q.2.2) q.1 q.2.1 is ic text names := fun _ h => absurd h List.not_mem_nil
theorem pd_mk56 : pd_MOK pd_y56 prog_6_method_10_code none pd_m56 := pd_MOK.of (own := "PascalDesk$Runner") rfl pd_LO3 rfl pd_t56 (by decide +kernel)
theorem pd_t57 : ∀ q ∈ ([] : List (Nat × Nat × Nat)), ∃ is ic text names, mm_TH pd_TT pd_strs prog_6_method_11_code "PascalDesk$Runner" (pd_ex q.2.2) q.1 q.2.1 is ic text names := fun _ h => absurd h List.not_mem_nil
theorem pd_mk57 : pd_MOK pd_y57 prog_6_method_11_code none pd_m57 := pd_MOK.of (own := "PascalDesk$Runner") rfl pd_LO3 rfl pd_t57 (by decide +kernel)
theorem pd_t58 : ∀ q ∈ ([] : List (Nat × Nat × Nat)), ∃ is ic text names, mm_TH pd_TT pd_strs prog_6_method_12_code "PascalDesk$Runner" (pd_ex q.2.2) q.1 q.2.1 is ic text names := fun _ h => absurd h List.not_mem_nil
theorem pd_mk58 : pd_MOK pd_y58 prog_6_method_12_code (some .int) pd_m58 := pd_MOK.of (own := "PascalDesk$Runner") rfl pd_LO3 rfl pd_t58 (by decide +kernel)
theorem pd_t59 : ∀ q ∈ ([(12, 170, 2), (30, 70, 1)] : List (Nat × Nat × Nat)), ∃ is ic text names, mm_TH pd_TT pd_strs prog_6_method_13_code "PascalDesk$Runner" (pd_ex q.2.2) q.1 q.2.1 is ic text names := List.forall_mem_cons.mpr ⟨⟨172, 174, "the called procedure is none", pd_names, pd_th pd_oa2 (by decide +kernel) (by decide +kernel) pd_w674 pd_w82 pd_w570 (by decide +kernel) pd_w676 (by decide +kernel) (by decide +kernel) (by decide +kernel) (by decide +kernel) (by decide +kernel)⟩, List.forall_mem_cons.mpr ⟨⟨179, 74, "too many calls in one another", pd_names, pd_th pd_oa1 (by decide +kernel) (by decide +kernel) pd_w609 pd_w81 pd_w391 (by decide +kernel) pd_w611 (by decide +kernel) (by decide +kernel) (by decide +kernel) (by decide +kernel) (by decide +kernel)⟩, fun _ h => absurd h List.not_mem_nil⟩⟩
theorem pd_mk59 : pd_MOK pd_y59 prog_6_method_13_code none pd_m59 := pd_MOK.of (own := "PascalDesk$Runner") rfl pd_LO3 rfl pd_t59 (by decide +kernel)
theorem pd_t60 : ∀ q ∈ ([(10, 70, 1)] : List (Nat × Nat × Nat)), ∃ is ic text names, mm_TH pd_TT pd_strs prog_6_method_14_code "PascalDesk$Runner" (pd_ex q.2.2) q.1 q.2.1 is ic text names := List.forall_mem_cons.mpr ⟨⟨181, 74, "too many processes", pd_names, pd_th pd_oa1 (by decide +kernel) (by decide +kernel) pd_w609 pd_w81 pd_w391 (by decide +kernel) pd_w611 (by decide +kernel) (by decide +kernel) (by decide +kernel) (by decide +kernel) (by decide +kernel)⟩, fun _ h => absurd h List.not_mem_nil⟩
theorem pd_mk60 : pd_MOK pd_y60 prog_6_method_14_code none pd_m60 := pd_MOK.of (own := "PascalDesk$Runner") rfl pd_LO3 rfl pd_t60 (by decide +kernel)
theorem pd_t61 : ∀ q ∈ ([] : List (Nat × Nat × Nat)), ∃ is ic text names, mm_TH pd_TT pd_strs prog_6_method_15_code "PascalDesk$Runner" (pd_ex q.2.2) q.1 q.2.1 is ic text names := fun _ h => absurd h List.not_mem_nil
theorem pd_mk61 : pd_MOK pd_y61 prog_6_method_15_code (some .int) pd_m61 := pd_MOK.of (own := "PascalDesk$Runner") rfl pd_LO3 rfl pd_t61 (by decide +kernel)
theorem pd_t62 : ∀ q ∈ ([] : List (Nat × Nat × Nat)), ∃ is ic text names, mm_TH pd_TT pd_strs prog_6_method_16_code "PascalDesk$Runner" (pd_ex q.2.2) q.1 q.2.1 is ic text names := fun _ h => absurd h List.not_mem_nil
theorem pd_mk62 : pd_MOK pd_y62 prog_6_method_16_code none pd_m62 := pd_MOK.of (own := "PascalDesk$Runner") rfl pd_LO3 rfl pd_t62 (by decide +kernel)
theorem pd_t63 : ∀ q ∈ ([] : List (Nat × Nat × Nat)), ∃ is ic text names, mm_TH pd_TT pd_strs prog_6_method_17_code "PascalDesk$Runner" (pd_ex q.2.2) q.1 q.2.1 is ic text names := fun _ h => absurd h List.not_mem_nil
theorem pd_mk63 : pd_MOK pd_y63 prog_6_method_17_code none pd_m63 := pd_MOK.of (own := "PascalDesk$Runner") rfl pd_LO3 rfl pd_t63 (by decide +kernel)
theorem pd_t64 : ∀ q ∈ ([] : List (Nat × Nat × Nat)), ∃ is ic text names, mm_TH pd_TT pd_strs prog_6_method_18_code "PascalDesk$Runner" (pd_ex q.2.2) q.1 q.2.1 is ic text names := fun _ h => absurd h List.not_mem_nil
theorem pd_mk64 : pd_MOK pd_y64 prog_6_method_18_code (some .boolean) pd_m64 := pd_MOK.of (own := "PascalDesk$Runner") rfl pd_LO3 rfl pd_t64 (by decide +kernel)
theorem pd_t65 : ∀ q ∈ ([] : List (Nat × Nat × Nat)), ∃ is ic text names, mm_TH pd_TT pd_strs prog_6_method_19_code "PascalDesk$Runner" (pd_ex q.2.2) q.1 q.2.1 is ic text names := fun _ h => absurd h List.not_mem_nil
theorem pd_mk65 : pd_MOK pd_y65 prog_6_method_19_code (some .int) pd_m65 := pd_MOK.of (own := "PascalDesk$Runner") rfl pd_LO3 rfl pd_t65 (by decide +kernel)
theorem pd_t66 : ∀ q ∈ ([] : List (Nat × Nat × Nat)), ∃ is ic text names, mm_TH pd_TT pd_strs prog_2_method_1_code "PascalDesk$Calculator" (pd_ex q.2.2) q.1 q.2.1 is ic text names := fun _ h => absurd h List.not_mem_nil
theorem pd_mk66 : pd_MOK pd_y66 prog_2_method_1_code none pd_m66 := pd_MOK.of (own := "PascalDesk$Calculator") rfl pd_LO4 rfl pd_t66 (by decide +kernel)
theorem pd_t67 : ∀ q ∈ ([] : List (Nat × Nat × Nat)), ∃ is ic text names, mm_TH pd_TT pd_strs prog_2_method_3_code "PascalDesk$Calculator" (pd_ex q.2.2) q.1 q.2.1 is ic text names := fun _ h => absurd h List.not_mem_nil
theorem pd_mk67 : pd_MOK pd_y67 prog_2_method_3_code (some .boolean) pd_m67 := pd_MOK.of (own := "PascalDesk$Calculator") rfl pd_LO4 rfl pd_t67 (by decide +kernel)
theorem pd_t68 : ∀ q ∈ ([] : List (Nat × Nat × Nat)), ∃ is ic text names, mm_TH pd_TT pd_strs prog_2_method_4_code "PascalDesk$Calculator" (pd_ex q.2.2) q.1 q.2.1 is ic text names := fun _ h => absurd h List.not_mem_nil
theorem pd_mk68 : pd_MOK pd_y68 prog_2_method_4_code none pd_m68 := pd_MOK.of (own := "PascalDesk$Calculator") rfl pd_LO4 rfl pd_t68 (by decide +kernel)
theorem pd_t69 : ∀ q ∈ ([] : List (Nat × Nat × Nat)), ∃ is ic text names, mm_TH pd_TT pd_strs prog_2_method_5_code "PascalDesk$Calculator" (pd_ex q.2.2) q.1 q.2.1 is ic text names := fun _ h => absurd h List.not_mem_nil
theorem pd_mk69 : pd_MOK pd_y69 prog_2_method_5_code (some .double) pd_m69 := pd_MOK.of (own := "PascalDesk$Calculator") rfl pd_LO4 rfl pd_t69 (by decide +kernel)
theorem pd_t70 : ∀ q ∈ ([] : List (Nat × Nat × Nat)), ∃ is ic text names, mm_TH pd_TT pd_strs prog_2_method_6_code "PascalDesk$Calculator" (pd_ex q.2.2) q.1 q.2.1 is ic text names := fun _ h => absurd h List.not_mem_nil
theorem pd_mk70 : pd_MOK pd_y70 prog_2_method_6_code none pd_m70 := pd_MOK.of (own := "PascalDesk$Calculator") rfl pd_LO4 rfl pd_t70 (by decide +kernel)
theorem pd_t71 : ∀ q ∈ ([] : List (Nat × Nat × Nat)), ∃ is ic text names, mm_TH pd_TT pd_strs prog_2_method_2_code "PascalDesk$Calculator" (pd_ex q.2.2) q.1 q.2.1 is ic text names := fun _ h => absurd h List.not_mem_nil
theorem pd_mk71 : pd_MOK pd_y71 prog_2_method_2_code (some .boolean) pd_m71 := pd_MOK.of (own := "PascalDesk$Calculator") rfl pd_LO4 rfl pd_t71 (by decide +kernel)
theorem pd_t72 : ∀ q ∈ ([] : List (Nat × Nat × Nat)), ∃ is ic text names, mm_TH pd_TT pd_strs prog_2_method_7_code "PascalDesk$Calculator" (pd_ex q.2.2) q.1 q.2.1 is ic text names := fun _ h => absurd h List.not_mem_nil
theorem pd_mk72 : pd_MOK pd_y72 prog_2_method_7_code none pd_m72 := pd_MOK.of (own := "PascalDesk$Calculator") rfl pd_LO4 rfl pd_t72 (by decide +kernel)
theorem pd_t73 : ∀ q ∈ ([] : List (Nat × Nat × Nat)), ∃ is ic text names, mm_TH pd_TT pd_strs prog_2_method_8_code "PascalDesk$Calculator" (pd_ex q.2.2) q.1 q.2.1 is ic text names := fun _ h => absurd h List.not_mem_nil
theorem pd_mk73 : pd_MOK pd_y73 prog_2_method_8_code none pd_m73 := pd_MOK.of (own := "PascalDesk$Calculator") rfl pd_LO4 rfl pd_t73 (by decide +kernel)
theorem pd_t74 : ∀ q ∈ ([] : List (Nat × Nat × Nat)), ∃ is ic text names, mm_TH pd_TT pd_strs prog_2_method_9_code "PascalDesk$Calculator" (pd_ex q.2.2) q.1 q.2.1 is ic text names := fun _ h => absurd h List.not_mem_nil
theorem pd_mk74 : pd_MOK pd_y74 prog_2_method_9_code none pd_m74 := pd_MOK.of (own := "PascalDesk$Calculator") rfl pd_LO4 rfl pd_t74 (by decide +kernel)
theorem pd_t75 : ∀ q ∈ ([] : List (Nat × Nat × Nat)), ∃ is ic text names, mm_TH pd_TT pd_strs prog_2_method_10_code "PascalDesk$Calculator" (pd_ex q.2.2) q.1 q.2.1 is ic text names := fun _ h => absurd h List.not_mem_nil
theorem pd_mk75 : pd_MOK pd_y75 prog_2_method_10_code none pd_m75 := pd_MOK.of (own := "PascalDesk$Calculator") rfl pd_LO4 rfl pd_t75 (by decide +kernel)
theorem pd_t76 : ∀ q ∈ ([(9, 50, 4)] : List (Nat × Nat × Nat)), ∃ is ic text names, mm_TH pd_TT pd_strs prog_2_method_11_code "PascalDesk$Calculator" (pd_ex q.2.2) q.1 q.2.1 is ic text names := List.forall_mem_cons.mpr ⟨⟨52, 54, "the row has 0 .. 3", pd_names, pd_th pd_oa4 (by decide +kernel) (by decide +kernel) pd_w713 pd_w84 pd_w714 (by decide +kernel) pd_w723 (by decide +kernel) (by decide +kernel) (by decide +kernel) (by decide +kernel) (by decide +kernel)⟩, fun _ h => absurd h List.not_mem_nil⟩
theorem pd_mk76 : pd_MOK pd_y76 prog_2_method_11_code (some .int) pd_m76 := pd_MOK.of (own := "PascalDesk$Calculator") rfl pd_LO4 rfl pd_t76 (by decide +kernel)
theorem pd_t77 : ∀ q ∈ ([] : List (Nat × Nat × Nat)), ∃ is ic text names, mm_TH pd_TT pd_strs prog_2_method_12_code "PascalDesk$Calculator" (pd_ex q.2.2) q.1 q.2.1 is ic text names := fun _ h => absurd h List.not_mem_nil
theorem pd_mk77 : pd_MOK pd_y77 prog_2_method_12_code (some .double) pd_m77 := pd_MOK.of (own := "PascalDesk$Calculator") rfl pd_LO4 rfl pd_t77 (by decide +kernel)
theorem pd_t78 : ∀ q ∈ ([(16, 69, 3)] : List (Nat × Nat × Nat)), ∃ is ic text names, mm_TH pd_TT pd_strs prog_2_method_15_code "PascalDesk$Calculator" (pd_ex q.2.2) q.1 q.2.1 is ic text names := List.forall_mem_cons.mpr ⟨⟨80, 73, "a real is too large", pd_names, pd_th pd_oa3 (by decide +kernel) (by decide +kernel) pd_w737 pd_w85 pd_w738 (by decide +kernel) pd_w747 (by decide +kernel) (by decide +kernel) (by decide +kernel) (by decide +kernel) (by decide +kernel)⟩, fun _ h => absurd h List.not_mem_nil⟩
theorem pd_mk78 : pd_MOK pd_y78 prog_2_method_15_code (some .double) pd_m78 := pd_MOK.of (own := "PascalDesk$Calculator") rfl pd_LO4 rfl pd_t78 (by decide +kernel)
theorem pd_t79 : ∀ q ∈ ([(6, 69, 3)] : List (Nat × Nat × Nat)), ∃ is ic text names, mm_TH pd_TT pd_strs prog_2_method_13_code "PascalDesk$Calculator" (pd_ex q.2.2) q.1 q.2.1 is ic text names := List.forall_mem_cons.mpr ⟨⟨71, 73, "/ by 0", pd_names, pd_th pd_oa3 (by decide +kernel) (by decide +kernel) pd_w737 pd_w85 pd_w738 (by decide +kernel) pd_w747 (by decide +kernel) (by decide +kernel) (by decide +kernel) (by decide +kernel) (by decide +kernel)⟩, fun _ h => absurd h List.not_mem_nil⟩
theorem pd_mk79 : pd_MOK pd_y79 prog_2_method_13_code (some .double) pd_m79 := pd_MOK.of (own := "PascalDesk$Calculator") rfl pd_LO4 rfl pd_t79 (by decide +kernel)
theorem pd_t80 : ∀ q ∈ ([(4, 69, 3)] : List (Nat × Nat × Nat)), ∃ is ic text names, mm_TH pd_TT pd_strs prog_2_method_14_code "PascalDesk$Calculator" (pd_ex q.2.2) q.1 q.2.1 is ic text names := List.forall_mem_cons.mpr ⟨⟨74, 73, "% by 0", pd_names, pd_th pd_oa3 (by decide +kernel) (by decide +kernel) pd_w737 pd_w85 pd_w738 (by decide +kernel) pd_w747 (by decide +kernel) (by decide +kernel) (by decide +kernel) (by decide +kernel) (by decide +kernel)⟩, fun _ h => absurd h List.not_mem_nil⟩
theorem pd_mk80 : pd_MOK pd_y80 prog_2_method_14_code (some .int) pd_m80 := pd_MOK.of (own := "PascalDesk$Calculator") rfl pd_LO4 rfl pd_t80 (by decide +kernel)
theorem pd_t81 : ∀ q ∈ ([] : List (Nat × Nat × Nat)), ∃ is ic text names, mm_TH pd_TT pd_strs prog_8_method_1_code "PascalDesk$Tape" (pd_ex q.2.2) q.1 q.2.1 is ic text names := fun _ h => absurd h List.not_mem_nil
theorem pd_mk81 : pd_MOK pd_y81 prog_8_method_1_code none pd_m81 := pd_MOK.of (own := "PascalDesk$Tape") rfl pd_LO5 rfl pd_t81 (by decide +kernel)
theorem pd_t82 : ∀ q ∈ ([] : List (Nat × Nat × Nat)), ∃ is ic text names, mm_TH pd_TT pd_strs prog_8_method_2_code "PascalDesk$Tape" (pd_ex q.2.2) q.1 q.2.1 is ic text names := fun _ h => absurd h List.not_mem_nil
theorem pd_mk82 : pd_MOK pd_y82 prog_8_method_2_code none pd_m82 := pd_MOK.of (own := "PascalDesk$Tape") rfl pd_LO5 rfl pd_t82 (by decide +kernel)
theorem pd_t83 : ∀ q ∈ ([] : List (Nat × Nat × Nat)), ∃ is ic text names, mm_TH pd_TT pd_strs prog_8_method_3_code "PascalDesk$Tape" (pd_ex q.2.2) q.1 q.2.1 is ic text names := fun _ h => absurd h List.not_mem_nil
theorem pd_mk83 : pd_MOK pd_y83 prog_8_method_3_code none pd_m83 := pd_MOK.of (own := "PascalDesk$Tape") rfl pd_LO5 rfl pd_t83 (by decide +kernel)
theorem pd_t84 : ∀ q ∈ ([] : List (Nat × Nat × Nat)), ∃ is ic text names, mm_TH pd_TT pd_strs prog_8_method_4_code "PascalDesk$Tape" (pd_ex q.2.2) q.1 q.2.1 is ic text names := fun _ h => absurd h List.not_mem_nil
theorem pd_mk84 : pd_MOK pd_y84 prog_8_method_4_code (some .int) pd_m84 := pd_MOK.of (own := "PascalDesk$Tape") rfl pd_LO5 rfl pd_t84 (by decide +kernel)
theorem pd_t85 : ∀ q ∈ ([] : List (Nat × Nat × Nat)), ∃ is ic text names, mm_TH pd_TT pd_strs prog_7_method_1_code "PascalDesk$Strand" (pd_ex q.2.2) q.1 q.2.1 is ic text names := fun _ h => absurd h List.not_mem_nil
theorem pd_mk85 : pd_MOK pd_y85 prog_7_method_1_code none pd_m85 := pd_MOK.of (own := "PascalDesk$Strand") rfl pd_LO6 rfl pd_t85 (by decide +kernel)
theorem pd_t86 : ∀ q ∈ ([] : List (Nat × Nat × Nat)), ∃ is ic text names, mm_TH pd_TT pd_strs prog_7_method_2_code "PascalDesk$Strand" (pd_ex q.2.2) q.1 q.2.1 is ic text names := fun _ h => absurd h List.not_mem_nil
theorem pd_mk86 : pd_MOK pd_y86 prog_7_method_2_code none pd_m86 := pd_MOK.of (own := "PascalDesk$Strand") rfl pd_LO6 rfl pd_t86 (by decide +kernel)
theorem pd_t87 : ∀ q ∈ ([] : List (Nat × Nat × Nat)), ∃ is ic text names, mm_TH pd_TT pd_strs prog_7_method_4_code "PascalDesk$Strand" (pd_ex q.2.2) q.1 q.2.1 is ic text names := fun _ h => absurd h List.not_mem_nil
theorem pd_mk87 : pd_MOK pd_y87 prog_7_method_4_code none pd_m87 := pd_MOK.of (own := "PascalDesk$Strand") rfl pd_LO6 rfl pd_t87 (by decide +kernel)
theorem pd_t88 : ∀ q ∈ ([] : List (Nat × Nat × Nat)), ∃ is ic text names, mm_TH pd_TT pd_strs prog_7_method_5_code "PascalDesk$Strand" (pd_ex q.2.2) q.1 q.2.1 is ic text names := fun _ h => absurd h List.not_mem_nil
theorem pd_mk88 : pd_MOK pd_y88 prog_7_method_5_code (some .boolean) pd_m88 := pd_MOK.of (own := "PascalDesk$Strand") rfl pd_LO6 rfl pd_t88 (by decide +kernel)
theorem pd_t89 : ∀ q ∈ ([] : List (Nat × Nat × Nat)), ∃ is ic text names, mm_TH pd_TT pd_strs prog_7_method_3_code "PascalDesk$Strand" (pd_ex q.2.2) q.1 q.2.1 is ic text names := fun _ h => absurd h List.not_mem_nil
theorem pd_mk89 : pd_MOK pd_y89 prog_7_method_3_code none pd_m89 := pd_MOK.of (own := "PascalDesk$Strand") rfl pd_LO6 rfl pd_t89 (by decide +kernel)
theorem pd_t90 : ∀ q ∈ ([] : List (Nat × Nat × Nat)), ∃ is ic text names, mm_TH pd_TT pd_strs prog_7_method_6_code "PascalDesk$Strand" (pd_ex q.2.2) q.1 q.2.1 is ic text names := fun _ h => absurd h List.not_mem_nil
theorem pd_mk90 : pd_MOK pd_y90 prog_7_method_6_code (some .boolean) pd_m90 := pd_MOK.of (own := "PascalDesk$Strand") rfl pd_LO6 rfl pd_t90 (by decide +kernel)
theorem pd_t91 : ∀ q ∈ ([] : List (Nat × Nat × Nat)), ∃ is ic text names, mm_TH pd_TT pd_strs prog_10_method_1_code "PascalDeskModel" (pd_ex q.2.2) q.1 q.2.1 is ic text names := fun _ h => absurd h List.not_mem_nil
theorem pd_mk91 : pd_MOK pd_y91 prog_10_method_1_code none pd_m91 := pd_MOK.of (own := "PascalDeskModel") rfl pd_LO7 rfl pd_t91 (by decide +kernel)
theorem pd_t92 : ∀ q ∈ ([] : List (Nat × Nat × Nat)), ∃ is ic text names, mm_TH pd_TT pd_strs prog_10_method_2_code "PascalDeskModel" (pd_ex q.2.2) q.1 q.2.1 is ic text names := fun _ h => absurd h List.not_mem_nil
theorem pd_mk92 : pd_MOK pd_y92 prog_10_method_2_code (some .int) pd_m92 := pd_MOK.of (own := "PascalDeskModel") rfl pd_LO7 rfl pd_t92 (by decide +kernel)
theorem pd_t93 : ∀ q ∈ ([] : List (Nat × Nat × Nat)), ∃ is ic text names, mm_TH pd_TT pd_strs prog_10_method_3_code "PascalDeskModel" (pd_ex q.2.2) q.1 q.2.1 is ic text names := fun _ h => absurd h List.not_mem_nil
theorem pd_mk93 : pd_MOK pd_y93 prog_10_method_3_code (some .int) pd_m93 := pd_MOK.of (own := "PascalDeskModel") rfl pd_LO7 rfl pd_t93 (by decide +kernel)
theorem pd_t94 : ∀ q ∈ ([] : List (Nat × Nat × Nat)), ∃ is ic text names, mm_TH pd_TT pd_strs prog_10_method_22_code "PascalDeskModel" (pd_ex q.2.2) q.1 q.2.1 is ic text names := fun _ h => absurd h List.not_mem_nil
theorem pd_mk94 : pd_MOK pd_y94 prog_10_method_22_code (some .int) pd_m94 := pd_MOK.of (own := "PascalDeskModel") rfl pd_LO7 rfl pd_t94 (by decide +kernel)
theorem pd_t95 : ∀ q ∈ ([] : List (Nat × Nat × Nat)), ∃ is ic text names, mm_TH pd_TT pd_strs prog_10_method_21_code "PascalDeskModel" (pd_ex q.2.2) q.1 q.2.1 is ic text names := fun _ h => absurd h List.not_mem_nil
theorem pd_mk95 : pd_MOK pd_y95 prog_10_method_21_code (some .int) pd_m95 := pd_MOK.of (own := "PascalDeskModel") rfl pd_LO7 rfl pd_t95 (by decide +kernel)
theorem pd_t96 : ∀ q ∈ ([] : List (Nat × Nat × Nat)), ∃ is ic text names, mm_TH pd_TT pd_strs prog_10_method_4_code "PascalDeskModel" (pd_ex q.2.2) q.1 q.2.1 is ic text names := fun _ h => absurd h List.not_mem_nil
theorem pd_mk96 : pd_MOK pd_y96 prog_10_method_4_code none pd_m96 := pd_MOK.of (own := "PascalDeskModel") rfl pd_LO7 rfl pd_t96 (by decide +kernel)
theorem pd_t97 : ∀ q ∈ ([] : List (Nat × Nat × Nat)), ∃ is ic text names, mm_TH pd_TT pd_strs prog_10_method_8_code "PascalDeskModel" (pd_ex q.2.2) q.1 q.2.1 is ic text names := fun _ h => absurd h List.not_mem_nil
theorem pd_mk97 : pd_MOK pd_y97 prog_10_method_8_code none pd_m97 := pd_MOK.of (own := "PascalDeskModel") rfl pd_LO7 rfl pd_t97 (by decide +kernel)
theorem pd_t98 : ∀ q ∈ ([] : List (Nat × Nat × Nat)), ∃ is ic text names, mm_TH pd_TT pd_strs prog_10_method_10_code "PascalDeskModel" (pd_ex q.2.2) q.1 q.2.1 is ic text names := fun _ h => absurd h List.not_mem_nil
theorem pd_mk98 : pd_MOK pd_y98 prog_10_method_10_code (some .int) pd_m98 := pd_MOK.of (own := "PascalDeskModel") rfl pd_LO7 rfl pd_t98 (by decide +kernel)
theorem pd_t99 : ∀ q ∈ ([] : List (Nat × Nat × Nat)), ∃ is ic text names, mm_TH pd_TT pd_strs prog_10_method_6_code "PascalDeskModel" (pd_ex q.2.2) q.1 q.2.1 is ic text names := fun _ h => absurd h List.not_mem_nil
theorem pd_mk99 : pd_MOK pd_y99 prog_10_method_6_code (some .int) pd_m99 := pd_MOK.of (own := "PascalDeskModel") rfl pd_LO7 rfl pd_t99 (by decide +kernel)
theorem pd_t100 : ∀ q ∈ ([] : List (Nat × Nat × Nat)), ∃ is ic text names, mm_TH pd_TT pd_strs prog_10_method_15_code "PascalDeskModel" (pd_ex q.2.2) q.1 q.2.1 is ic text names := fun _ h => absurd h List.not_mem_nil
theorem pd_mk100 : pd_MOK pd_y100 prog_10_method_15_code (some .int) pd_m100 := pd_MOK.of (own := "PascalDeskModel") rfl pd_LO7 rfl pd_t100 (by decide +kernel)
theorem pd_t101 : ∀ q ∈ ([] : List (Nat × Nat × Nat)), ∃ is ic text names, mm_TH pd_TT pd_strs prog_10_method_13_code "PascalDeskModel" (pd_ex q.2.2) q.1 q.2.1 is ic text names := fun _ h => absurd h List.not_mem_nil
theorem pd_mk101 : pd_MOK pd_y101 prog_10_method_13_code (some .boolean) pd_m101 := pd_MOK.of (own := "PascalDeskModel") rfl pd_LO7 rfl pd_t101 (by decide +kernel)
theorem pd_t102 : ∀ q ∈ ([] : List (Nat × Nat × Nat)), ∃ is ic text names, mm_TH pd_TT pd_strs prog_10_method_14_code "PascalDeskModel" (pd_ex q.2.2) q.1 q.2.1 is ic text names := fun _ h => absurd h List.not_mem_nil
theorem pd_mk102 : pd_MOK pd_y102 prog_10_method_14_code (some .boolean) pd_m102 := pd_MOK.of (own := "PascalDeskModel") rfl pd_LO7 rfl pd_t102 (by decide +kernel)
theorem pd_t103 : ∀ q ∈ ([] : List (Nat × Nat × Nat)), ∃ is ic text names, mm_TH pd_TT pd_strs prog_10_method_5_code "PascalDeskModel" (pd_ex q.2.2) q.1 q.2.1 is ic text names := fun _ h => absurd h List.not_mem_nil
theorem pd_mk103 : pd_MOK pd_y103 prog_10_method_5_code none pd_m103 := pd_MOK.of (own := "PascalDeskModel") rfl pd_LO7 rfl pd_t103 (by decide +kernel)
theorem pd_t104 : ∀ q ∈ ([] : List (Nat × Nat × Nat)), ∃ is ic text names, mm_TH pd_TT pd_strs prog_10_method_16_code "PascalDeskModel" (pd_ex q.2.2) q.1 q.2.1 is ic text names := fun _ h => absurd h List.not_mem_nil
theorem pd_mk104 : pd_MOK pd_y104 prog_10_method_16_code (some .int) pd_m104 := pd_MOK.of (own := "PascalDeskModel") rfl pd_LO7 rfl pd_t104 (by decide +kernel)
theorem pd_t105 : ∀ q ∈ ([] : List (Nat × Nat × Nat)), ∃ is ic text names, mm_TH pd_TT pd_strs prog_10_method_12_code "PascalDeskModel" (pd_ex q.2.2) q.1 q.2.1 is ic text names := fun _ h => absurd h List.not_mem_nil
theorem pd_mk105 : pd_MOK pd_y105 prog_10_method_12_code (some .int) pd_m105 := pd_MOK.of (own := "PascalDeskModel") rfl pd_LO7 rfl pd_t105 (by decide +kernel)
theorem pd_t106 : ∀ q ∈ ([] : List (Nat × Nat × Nat)), ∃ is ic text names, mm_TH pd_TT pd_strs prog_10_method_7_code "PascalDeskModel" (pd_ex q.2.2) q.1 q.2.1 is ic text names := fun _ h => absurd h List.not_mem_nil
theorem pd_mk106 : pd_MOK pd_y106 prog_10_method_7_code (some .int) pd_m106 := pd_MOK.of (own := "PascalDeskModel") rfl pd_LO7 rfl pd_t106 (by decide +kernel)
theorem pd_t107 : ∀ q ∈ ([] : List (Nat × Nat × Nat)), ∃ is ic text names, mm_TH pd_TT pd_strs prog_10_method_20_code "PascalDeskModel" (pd_ex q.2.2) q.1 q.2.1 is ic text names := fun _ h => absurd h List.not_mem_nil
theorem pd_mk107 : pd_MOK pd_y107 prog_10_method_20_code (some .int) pd_m107 := pd_MOK.of (own := "PascalDeskModel") rfl pd_LO7 rfl pd_t107 (by decide +kernel)
theorem pd_t108 : ∀ q ∈ ([] : List (Nat × Nat × Nat)), ∃ is ic text names, mm_TH pd_TT pd_strs prog_10_method_9_code "PascalDeskModel" (pd_ex q.2.2) q.1 q.2.1 is ic text names := fun _ h => absurd h List.not_mem_nil
theorem pd_mk108 : pd_MOK pd_y108 prog_10_method_9_code none pd_m108 := pd_MOK.of (own := "PascalDeskModel") rfl pd_LO7 rfl pd_t108 (by decide +kernel)
theorem pd_t109 : ∀ q ∈ ([] : List (Nat × Nat × Nat)), ∃ is ic text names, mm_TH pd_TT pd_strs prog_10_method_17_code "PascalDeskModel" (pd_ex q.2.2) q.1 q.2.1 is ic text names := fun _ h => absurd h List.not_mem_nil
theorem pd_mk109 : pd_MOK pd_y109 prog_10_method_17_code (some .int) pd_m109 := pd_MOK.of (own := "PascalDeskModel") rfl pd_LO7 rfl pd_t109 (by decide +kernel)
theorem pd_t110 : ∀ q ∈ ([] : List (Nat × Nat × Nat)), ∃ is ic text names, mm_TH pd_TT pd_strs prog_10_method_11_code "PascalDeskModel" (pd_ex q.2.2) q.1 q.2.1 is ic text names := fun _ h => absurd h List.not_mem_nil
theorem pd_mk110 : pd_MOK pd_y110 prog_10_method_11_code none pd_m110 := pd_MOK.of (own := "PascalDeskModel") rfl pd_LO7 rfl pd_t110 (by decide +kernel)
theorem pd_t111 : ∀ q ∈ ([] : List (Nat × Nat × Nat)), ∃ is ic text names, mm_TH pd_TT pd_strs prog_10_method_18_code "PascalDeskModel" (pd_ex q.2.2) q.1 q.2.1 is ic text names := fun _ h => absurd h List.not_mem_nil
theorem pd_mk111 : pd_MOK pd_y111 prog_10_method_18_code (some .int) pd_m111 := pd_MOK.of (own := "PascalDeskModel") rfl pd_LO7 rfl pd_t111 (by decide +kernel)
theorem pd_t112 : ∀ q ∈ ([] : List (Nat × Nat × Nat)), ∃ is ic text names, mm_TH pd_TT pd_strs prog_10_method_19_code "PascalDeskModel" (pd_ex q.2.2) q.1 q.2.1 is ic text names := fun _ h => absurd h List.not_mem_nil
theorem pd_mk112 : pd_MOK pd_y112 prog_10_method_19_code (some .int) pd_m112 := pd_MOK.of (own := "PascalDeskModel") rfl pd_LO7 rfl pd_t112 (by decide +kernel)
theorem pd_t113 : ∀ q ∈ ([] : List (Nat × Nat × Nat)), ∃ is ic text names, mm_TH pd_TT pd_strs prog_10_method_23_code "PascalDeskModel" (pd_ex q.2.2) q.1 q.2.1 is ic text names := fun _ h => absurd h List.not_mem_nil
theorem pd_mk113 : pd_MOK pd_y113 prog_10_method_23_code none pd_m113 := pd_MOK.of (own := "PascalDeskModel") rfl pd_LO7 rfl pd_t113 (by decide +kernel)
theorem pd_t114 : ∀ q ∈ ([] : List (Nat × Nat × Nat)), ∃ is ic text names, mm_TH pd_TT pd_strs prog_10_method_33_code "PascalDeskModel" (pd_ex q.2.2) q.1 q.2.1 is ic text names := fun _ h => absurd h List.not_mem_nil
theorem pd_mk114 : pd_MOK pd_y114 prog_10_method_33_code (some .int) pd_m114 := pd_MOK.of (own := "PascalDeskModel") rfl pd_LO7 rfl pd_t114 (by decide +kernel)
theorem pd_t115 : ∀ q ∈ ([] : List (Nat × Nat × Nat)), ∃ is ic text names, mm_TH pd_TT pd_strs prog_10_method_28_code "PascalDeskModel" (pd_ex q.2.2) q.1 q.2.1 is ic text names := fun _ h => absurd h List.not_mem_nil
theorem pd_mk115 : pd_MOK pd_y115 prog_10_method_28_code none pd_m115 := pd_MOK.of (own := "PascalDeskModel") rfl pd_LO7 rfl pd_t115 (by decide +kernel)
theorem pd_t116 : ∀ q ∈ ([] : List (Nat × Nat × Nat)), ∃ is ic text names, mm_TH pd_TT pd_strs prog_10_method_26_code "PascalDeskModel" (pd_ex q.2.2) q.1 q.2.1 is ic text names := fun _ h => absurd h List.not_mem_nil
theorem pd_mk116 : pd_MOK pd_y116 prog_10_method_26_code (some .int) pd_m116 := pd_MOK.of (own := "PascalDeskModel") rfl pd_LO7 rfl pd_t116 (by decide +kernel)
theorem pd_t117 : ∀ q ∈ ([] : List (Nat × Nat × Nat)), ∃ is ic text names, mm_TH pd_TT pd_strs prog_10_method_32_code "PascalDeskModel" (pd_ex q.2.2) q.1 q.2.1 is ic text names := fun _ h => absurd h List.not_mem_nil
theorem pd_mk117 : pd_MOK pd_y117 prog_10_method_32_code (some .int) pd_m117 := pd_MOK.of (own := "PascalDeskModel") rfl pd_LO7 rfl pd_t117 (by decide +kernel)
theorem pd_t118 : ∀ q ∈ ([] : List (Nat × Nat × Nat)), ∃ is ic text names, mm_TH pd_TT pd_strs prog_10_method_31_code "PascalDeskModel" (pd_ex q.2.2) q.1 q.2.1 is ic text names := fun _ h => absurd h List.not_mem_nil
theorem pd_mk118 : pd_MOK pd_y118 prog_10_method_31_code none pd_m118 := pd_MOK.of (own := "PascalDeskModel") rfl pd_LO7 rfl pd_t118 (by decide +kernel)
theorem pd_t119 : ∀ q ∈ ([] : List (Nat × Nat × Nat)), ∃ is ic text names, mm_TH pd_TT pd_strs prog_10_method_25_code "PascalDeskModel" (pd_ex q.2.2) q.1 q.2.1 is ic text names := fun _ h => absurd h List.not_mem_nil
theorem pd_mk119 : pd_MOK pd_y119 prog_10_method_25_code (some .int) pd_m119 := pd_MOK.of (own := "PascalDeskModel") rfl pd_LO7 rfl pd_t119 (by decide +kernel)
theorem pd_t120 : ∀ q ∈ ([] : List (Nat × Nat × Nat)), ∃ is ic text names, mm_TH pd_TT pd_strs prog_10_method_24_code "PascalDeskModel" (pd_ex q.2.2) q.1 q.2.1 is ic text names := fun _ h => absurd h List.not_mem_nil
theorem pd_mk120 : pd_MOK pd_y120 prog_10_method_24_code (some .double) pd_m120 := pd_MOK.of (own := "PascalDeskModel") rfl pd_LO7 rfl pd_t120 (by decide +kernel)
theorem pd_t121 : ∀ q ∈ ([] : List (Nat × Nat × Nat)), ∃ is ic text names, mm_TH pd_TT pd_strs prog_10_method_29_code "PascalDeskModel" (pd_ex q.2.2) q.1 q.2.1 is ic text names := fun _ h => absurd h List.not_mem_nil
theorem pd_mk121 : pd_MOK pd_y121 prog_10_method_29_code none pd_m121 := pd_MOK.of (own := "PascalDeskModel") rfl pd_LO7 rfl pd_t121 (by decide +kernel)
theorem pd_t122 : ∀ q ∈ ([] : List (Nat × Nat × Nat)), ∃ is ic text names, mm_TH pd_TT pd_strs prog_10_method_30_code "PascalDeskModel" (pd_ex q.2.2) q.1 q.2.1 is ic text names := fun _ h => absurd h List.not_mem_nil
theorem pd_mk122 : pd_MOK pd_y122 prog_10_method_30_code none pd_m122 := pd_MOK.of (own := "PascalDeskModel") rfl pd_LO7 rfl pd_t122 (by decide +kernel)
theorem pd_t123 : ∀ q ∈ ([] : List (Nat × Nat × Nat)), ∃ is ic text names, mm_TH pd_TT pd_strs prog_10_method_27_code "PascalDeskModel" (pd_ex q.2.2) q.1 q.2.1 is ic text names := fun _ h => absurd h List.not_mem_nil
theorem pd_mk123 : pd_MOK pd_y123 prog_10_method_27_code none pd_m123 := pd_MOK.of (own := "PascalDeskModel") rfl pd_LO7 rfl pd_t123 (by decide +kernel)
theorem pd_t124 : ∀ q ∈ ([] : List (Nat × Nat × Nat)), ∃ is ic text names, mm_TH pd_TT pd_strs prog_10_method_34_code "PascalDeskModel" (pd_ex q.2.2) q.1 q.2.1 is ic text names := fun _ h => absurd h List.not_mem_nil
theorem pd_mk124 : pd_MOK pd_y124 prog_10_method_34_code (some .double) pd_m124 := pd_MOK.of (own := "PascalDeskModel") rfl pd_LO7 rfl pd_t124 (by decide +kernel)
theorem pd_t125 : ∀ q ∈ ([] : List (Nat × Nat × Nat)), ∃ is ic text names, mm_TH pd_TT pd_strs prog_10_method_35_code "PascalDeskModel" (pd_ex q.2.2) q.1 q.2.1 is ic text names := fun _ h => absurd h List.not_mem_nil
theorem pd_mk125 : pd_MOK pd_y125 prog_10_method_35_code none pd_m125 := pd_MOK.of (own := "PascalDeskModel") rfl pd_LO7 rfl pd_t125 (by decide +kernel)
theorem pd_t126 : ∀ q ∈ ([] : List (Nat × Nat × Nat)), ∃ is ic text names, mm_TH pd_TT pd_strs prog_10_method_36_code "PascalDeskModel" (pd_ex q.2.2) q.1 q.2.1 is ic text names := fun _ h => absurd h List.not_mem_nil
theorem pd_mk126 : pd_MOK pd_y126 prog_10_method_36_code (some .double) pd_m126 := pd_MOK.of (own := "PascalDeskModel") rfl pd_LO7 rfl pd_t126 (by decide +kernel)
theorem pd_t127 : ∀ q ∈ ([] : List (Nat × Nat × Nat)), ∃ is ic text names, mm_TH pd_TT pd_strs prog_10_method_37_code "PascalDeskModel" (pd_ex q.2.2) q.1 q.2.1 is ic text names := fun _ h => absurd h List.not_mem_nil
theorem pd_mk127 : pd_MOK pd_y127 prog_10_method_37_code (some .int) pd_m127 := pd_MOK.of (own := "PascalDeskModel") rfl pd_LO7 rfl pd_t127 (by decide +kernel)
theorem pd_t128 : ∀ q ∈ ([] : List (Nat × Nat × Nat)), ∃ is ic text names, mm_TH pd_TT pd_strs method_3_code "PascalDeskLaw" (pd_ex q.2.2) q.1 q.2.1 is ic text names := fun _ h => absurd h List.not_mem_nil
theorem pd_mk128 : pd_MOK pd_y128 method_3_code (some .int) pd_m128 := pd_MOK.of (own := "PascalDeskLaw") rfl pd_LO8 rfl pd_t128 (by decide +kernel)
theorem pd_t129 : ∀ q ∈ ([] : List (Nat × Nat × Nat)), ∃ is ic text names, mm_TH pd_TT pd_strs method_4_code "PascalDeskLaw" (pd_ex q.2.2) q.1 q.2.1 is ic text names := fun _ h => absurd h List.not_mem_nil
theorem pd_mk129 : pd_MOK pd_y129 method_4_code (some .int) pd_m129 := pd_MOK.of (own := "PascalDeskLaw") rfl pd_LO8 rfl pd_t129 (by decide +kernel)
theorem pd_t130 : ∀ q ∈ ([] : List (Nat × Nat × Nat)), ∃ is ic text names, mm_TH pd_TT pd_strs method_5_code "PascalDeskLaw" (pd_ex q.2.2) q.1 q.2.1 is ic text names := fun _ h => absurd h List.not_mem_nil
theorem pd_mk130 : pd_MOK pd_y130 method_5_code (some .int) pd_m130 := pd_MOK.of (own := "PascalDeskLaw") rfl pd_LO8 rfl pd_t130 (by decide +kernel)
theorem pd_t131 : ∀ q ∈ ([] : List (Nat × Nat × Nat)), ∃ is ic text names, mm_TH pd_TT pd_strs method_6_code "PascalDeskLaw" (pd_ex q.2.2) q.1 q.2.1 is ic text names := fun _ h => absurd h List.not_mem_nil
theorem pd_mk131 : pd_MOK pd_y131 method_6_code (some .int) pd_m131 := pd_MOK.of (own := "PascalDeskLaw") rfl pd_LO8 rfl pd_t131 (by decide +kernel)
theorem pd_t132 : ∀ q ∈ ([] : List (Nat × Nat × Nat)), ∃ is ic text names, mm_TH pd_TT pd_strs method_7_code "PascalDeskLaw" (pd_ex q.2.2) q.1 q.2.1 is ic text names := fun _ h => absurd h List.not_mem_nil
theorem pd_mk132 : pd_MOK pd_y132 method_7_code (some .int) pd_m132 := pd_MOK.of (own := "PascalDeskLaw") rfl pd_LO8 rfl pd_t132 (by decide +kernel)
theorem pd_t133 : ∀ q ∈ ([] : List (Nat × Nat × Nat)), ∃ is ic text names, mm_TH pd_TT pd_strs method_8_code "PascalDeskLaw" (pd_ex q.2.2) q.1 q.2.1 is ic text names := fun _ h => absurd h List.not_mem_nil
theorem pd_mk133 : pd_MOK pd_y133 method_8_code (some .int) pd_m133 := pd_MOK.of (own := "PascalDeskLaw") rfl pd_LO8 rfl pd_t133 (by decide +kernel)
theorem pd_t134 : ∀ q ∈ ([] : List (Nat × Nat × Nat)), ∃ is ic text names, mm_TH pd_TT pd_strs method_9_code "PascalDeskLaw" (pd_ex q.2.2) q.1 q.2.1 is ic text names := fun _ h => absurd h List.not_mem_nil
theorem pd_mk134 : pd_MOK pd_y134 method_9_code (some .int) pd_m134 := pd_MOK.of (own := "PascalDeskLaw") rfl pd_LO8 rfl pd_t134 (by decide +kernel)
theorem pd_t135 : ∀ q ∈ ([] : List (Nat × Nat × Nat)), ∃ is ic text names, mm_TH pd_TT pd_strs prog_16_method_65_code "java/lang/Math" (pd_ex q.2.2) q.1 q.2.1 is ic text names := fun _ h => absurd h List.not_mem_nil
theorem pd_mk135 : pd_MOK pd_y135 prog_16_method_65_code (some .int) pd_m135 := pd_MOK.of (own := "java/lang/Math") rfl pd_LO9 rfl pd_t135 (by decide +kernel)
theorem pd_mkL : pd_MOK pd_yL code (some .boolean) pd_mL := pd_MOK.of (own := "PascalDeskLaw") (thr := []) rfl pd_LO8 rfl (fun _ h => absurd h List.not_mem_nil) (by decide +kernel)
end
section
/-! all methods (printed) -/
theorem pd_k0 : pd_okq pd_q0 := ⟨plainFor_of_name (by decide +kernel), pd_mk0, .inl ⟨rfl, rfl⟩⟩
theorem pd_k1 : pd_okq pd_q1 := ⟨plainFor_of_name (by decide +kernel), pd_mk1, .inl ⟨rfl, rfl⟩⟩
theorem pd_k2 : pd_okq pd_q2 := ⟨plainFor_of_name (by decide +kernel), pd_mk2, .inl ⟨rfl, rfl⟩⟩
theorem pd_k3 : pd_okq pd_q3 := ⟨plainFor_of_name (by decide +kernel), pd_mk3, .inl ⟨rfl, rfl⟩⟩
theorem pd_k4 : pd_okq pd_q4 := ⟨plainFor_of_name (by decide +kernel), pd_mk4, .inl ⟨rfl, rfl⟩⟩
theorem pd_k5 : pd_okq pd_q5 := ⟨plainFor_of_name (by decide +kernel), pd_mk5, .inl ⟨rfl, rfl⟩⟩
theorem pd_k6 : pd_okq pd_q6 := ⟨plainFor_of_name (by decide +kernel), pd_mk6, .inl ⟨rfl, rfl⟩⟩
theorem pd_k7 : pd_okq pd_q7 := ⟨plainFor_of_name (by decide +kernel), pd_mk7, .inl ⟨rfl, rfl⟩⟩
theorem pd_k8 : pd_okq pd_q8 := ⟨plainFor_of_name (by decide +kernel), pd_mk8, .inl ⟨rfl, rfl⟩⟩
theorem pd_k9 : pd_okq pd_q9 := ⟨plainFor_of_name (by decide +kernel), pd_mk9, .inl ⟨rfl, rfl⟩⟩
theorem pd_k10 : pd_okq pd_q10 := ⟨plainFor_of_name (by decide +kernel), pd_mk10, .inl ⟨rfl, rfl⟩⟩
theorem pd_k11 : pd_okq pd_q11 := ⟨plainFor_of_name (by decide +kernel), pd_mk11, .inl ⟨rfl, rfl⟩⟩
theorem pd_k12 : pd_okq pd_q12 := ⟨plainFor_of_name (by decide +kernel), pd_mk12, .inl ⟨rfl, rfl⟩⟩
theorem pd_k13 : pd_okq pd_q13 := ⟨plainFor_of_name (by decide +kernel), pd_mk13, .inl ⟨rfl, rfl⟩⟩
theorem pd_k14 : pd_okq pd_q14 := ⟨plainFor_of_name (by decide +kernel), pd_mk14, .inl ⟨rfl, rfl⟩⟩
theorem pd_k15 : pd_okq pd_q15 := ⟨plainFor_of_name (by decide +kernel), pd_mk15, .inl ⟨rfl, rfl⟩⟩
theorem pd_k16 : pd_okq pd_q16 := ⟨plainFor_of_name (by decide +kernel), pd_mk16, .inl ⟨rfl, rfl⟩⟩
theorem pd_k17 : pd_okq pd_q17 := ⟨plainFor_of_name (by decide +kernel), pd_mk17, .inl ⟨rfl, rfl⟩⟩
theorem pd_k18 : pd_okq pd_q18 := ⟨plainFor_of_name (by decide +kernel), pd_mk18, .inl ⟨rfl, rfl⟩⟩
theorem pd_k19 : pd_okq pd_q19 := ⟨plainFor_of_name (by decide +kernel), pd_mk19, .inl ⟨rfl, rfl⟩⟩
theorem pd_k20 : pd_okq pd_q20 := ⟨plainFor_of_name (by decide +kernel), pd_mk20, .inl ⟨rfl, rfl⟩⟩
theorem pd_k21 : pd_okq pd_q21 := ⟨plainFor_of_name (by decide +kernel), pd_mk21, .inl ⟨rfl, rfl⟩⟩
theorem pd_k22 : pd_okq pd_q22 := ⟨plainFor_of_name (by decide +kernel), pd_mk22, .inl ⟨rfl, rfl⟩⟩
theorem pd_k23 : pd_okq pd_q23 := ⟨plainFor_of_name (by decide +kernel), pd_mk23, .inl ⟨rfl, rfl⟩⟩
theorem pd_k24 : pd_okq pd_q24 := ⟨plainFor_of_name (by decide +kernel), pd_mk24, .inl ⟨rfl, rfl⟩⟩
theorem pd_k25 : pd_okq pd_q25 := ⟨plainFor_of_name (by decide +kernel), pd_mk25, .inl ⟨rfl, rfl⟩⟩
theorem pd_k26 : pd_okq pd_q26 := ⟨plainFor_of_name (by decide +kernel), pd_mk26, .inl ⟨rfl, rfl⟩⟩
theorem pd_k27 : pd_okq pd_q27 := ⟨plainFor_of_name (by decide +kernel), pd_mk27, .inl ⟨rfl, rfl⟩⟩
theorem pd_k28 : pd_okq pd_q28 := ⟨plainFor_of_name (by decide +kernel), pd_mk28, .inl ⟨rfl, rfl⟩⟩
theorem pd_k29 : pd_okq pd_q29 := ⟨plainFor_of_name (by decide +kernel), pd_mk29, .inl ⟨rfl, rfl⟩⟩
theorem pd_k30 : pd_okq pd_q30 := ⟨plainFor_of_name (by decide +kernel), pd_mk30, .inl ⟨rfl, rfl⟩⟩
theorem pd_k31 : pd_okq pd_q31 := ⟨plainFor_of_name (by decide +kernel), pd_mk31, .inl ⟨rfl, rfl⟩⟩
theorem pd_k32 : pd_okq pd_q32 := ⟨plainFor_of_name (by decide +kernel), pd_mk32, .inl ⟨rfl, rfl⟩⟩
theorem pd_k33 : pd_okq pd_q33 := ⟨plainFor_of_name (by decide +kernel), pd_mk33, .inl ⟨rfl, rfl⟩⟩
theorem pd_k34 : pd_okq pd_q34 := ⟨plainFor_of_name (by decide +kernel), pd_mk34, .inl ⟨rfl, rfl⟩⟩
theorem pd_k35 : pd_okq pd_q35 := ⟨plainFor_of_name (by decide +kernel), pd_mk35, .inl ⟨rfl, rfl⟩⟩
theorem pd_k36 : pd_okq pd_q36 := ⟨plainFor_of_name (by decide +kernel), pd_mk36, .inl ⟨rfl, rfl⟩⟩
theorem pd_k37 : pd_okq pd_q37 := ⟨plainFor_of_name (by decide +kernel), pd_mk37, .inl ⟨rfl, rfl⟩⟩
theorem pd_k38 : pd_okq pd_q38 := ⟨plainFor_of_name (by decide +kernel), pd_mk38, .inl ⟨rfl, rfl⟩⟩
theorem pd_k39 : pd_okq pd_q39 := ⟨plainFor_of_name (by decide +kernel), pd_mk39, .inl ⟨rfl, rfl⟩⟩
theorem pd_k40 : pd_okq pd_q40 := ⟨plainFor_of_name (by decide +kernel), pd_mk40, .inl ⟨rfl, rfl⟩⟩
theorem pd_k41 : pd_okq pd_q41 := ⟨plainFor_of_name (by decide +kernel), pd_mk41, .inl ⟨rfl, rfl⟩⟩
theorem pd_k42 : pd_okq pd_q42 := ⟨plainFor_of_name (by decide +kernel), pd_mk42, .inl ⟨rfl, rfl⟩⟩
theorem pd_k43 : pd_okq pd_q43 := ⟨plainFor_of_name (by decide +kernel), pd_mk43, .inl ⟨rfl, rfl⟩⟩
theorem pd_k44 : pd_okq pd_q44 := ⟨plainFor_of_name (by decide +kernel), pd_mk44, .inl ⟨rfl, rfl⟩⟩
theorem pd_k45 : pd_okq pd_q45 := ⟨plainFor_of_name (by decide +kernel), pd_mk45, .inl ⟨rfl, rfl⟩⟩
theorem pd_k46 : pd_okq pd_q46 := ⟨plainFor_of_name (by decide +kernel), pd_mk46, .inl ⟨rfl, rfl⟩⟩
theorem pd_k47 : pd_okq pd_q47 := ⟨plainFor_of_name (by decide +kernel), pd_mk47, .inl ⟨rfl, rfl⟩⟩
theorem pd_k48 : pd_okq pd_q48 := ⟨plainFor_of_name (by decide +kernel), pd_mk48, .inl ⟨rfl, rfl⟩⟩
theorem pd_k49 : pd_okq pd_q49 := ⟨plainFor_of_name (by decide +kernel), pd_mk49, .inl ⟨rfl, rfl⟩⟩
theorem pd_k50 : pd_okq pd_q50 := ⟨plainFor_of_name (by decide +kernel), pd_mk50, .inl ⟨rfl, rfl⟩⟩
theorem pd_k51 : pd_okq pd_q51 := ⟨plainFor_of_name (by decide +kernel), pd_mk51, .inl ⟨rfl, rfl⟩⟩
theorem pd_k52 : pd_okq pd_q52 := ⟨plainFor_of_name (by decide +kernel), pd_mk52, .inl ⟨rfl, rfl⟩⟩
theorem pd_k53 : pd_okq pd_q53 := ⟨plainFor_of_name (by decide +kernel), pd_mk53, .inl ⟨rfl, rfl⟩⟩
theorem pd_k54 : pd_okq pd_q54 := ⟨plainFor_of_name (by decide +kernel), pd_mk54, .inl ⟨rfl, rfl⟩⟩
theorem pd_k55 : pd_okq pd_q55 := ⟨plainFor_of_name (by decide +kernel), pd_mk55, .inl ⟨rfl, rfl⟩⟩
theorem pd_k56 : pd_okq pd_q56 := ⟨plainFor_of_name (by decide +kernel), pd_mk56, .inl ⟨rfl, rfl⟩⟩
theorem pd_k57 : pd_okq pd_q57 := ⟨plainFor_of_name (by decide +kernel), pd_mk57, .inl ⟨rfl, rfl⟩⟩
theorem pd_k58 : pd_okq pd_q58 := ⟨plainFor_of_name (by decide +kernel), pd_mk58, .inl ⟨rfl, rfl⟩⟩
theorem pd_k59 : pd_okq pd_q59 := ⟨plainFor_of_name (by decide +kernel), pd_mk59, .inl ⟨rfl, rfl⟩⟩
theorem pd_k60 : pd_okq pd_q60 := ⟨plainFor_of_name (by decide +kernel), pd_mk60, .inl ⟨rfl, rfl⟩⟩
theorem pd_k61 : pd_okq pd_q61 := ⟨plainFor_of_name (by decide +kernel), pd_mk61, .inl ⟨rfl, rfl⟩⟩
theorem pd_k62 : pd_okq pd_q62 := ⟨plainFor_of_name (by decide +kernel), pd_mk62, .inl ⟨rfl, rfl⟩⟩
theorem pd_k63 : pd_okq pd_q63 := ⟨plainFor_of_name (by decide +kernel), pd_mk63, .inl ⟨rfl, rfl⟩⟩
theorem pd_k64 : pd_okq pd_q64 := ⟨plainFor_of_name (by decide +kernel), pd_mk64, .inl ⟨rfl, rfl⟩⟩
theorem pd_k65 : pd_okq pd_q65 := ⟨plainFor_of_name (by decide +kernel), pd_mk65, .inl ⟨rfl, rfl⟩⟩
theorem pd_k66 : pd_okq pd_q66 := ⟨plainFor_of_name (by decide +kernel), pd_mk66, .inl ⟨rfl, rfl⟩⟩
theorem pd_k67 : pd_okq pd_q67 := ⟨plainFor_of_name (by decide +kernel), pd_mk67, .inl ⟨rfl, rfl⟩⟩
theorem pd_k68 : pd_okq pd_q68 := ⟨plainFor_of_name (by decide +kernel), pd_mk68, .inl ⟨rfl, rfl⟩⟩
theorem pd_k69 : pd_okq pd_q69 := ⟨plainFor_of_name (by decide +kernel), pd_mk69, .inl ⟨rfl, rfl⟩⟩
theorem pd_k70 : pd_okq pd_q70 := ⟨plainFor_of_name (by decide +kernel), pd_mk70, .inl ⟨rfl, rfl⟩⟩
theorem pd_k71 : pd_okq pd_q71 := ⟨plainFor_of_name (by decide +kernel), pd_mk71, .inl ⟨rfl, rfl⟩⟩
theorem pd_k72 : pd_okq pd_q72 := ⟨plainFor_of_name (by decide +kernel), pd_mk72, .inl ⟨rfl, rfl⟩⟩
theorem pd_k73 : pd_okq pd_q73 := ⟨plainFor_of_name (by decide +kernel), pd_mk73, .inl ⟨rfl, rfl⟩⟩
theorem pd_k74 : pd_okq pd_q74 := ⟨plainFor_of_name (by decide +kernel), pd_mk74, .inl ⟨rfl, rfl⟩⟩
theorem pd_k75 : pd_okq pd_q75 := ⟨plainFor_of_name (by decide +kernel), pd_mk75, .inl ⟨rfl, rfl⟩⟩
theorem pd_k76 : pd_okq pd_q76 := ⟨plainFor_of_name (by decide +kernel), pd_mk76, .inl ⟨rfl, rfl⟩⟩
theorem pd_k77 : pd_okq pd_q77 := ⟨plainFor_of_name (by decide +kernel), pd_mk77, .inl ⟨rfl, rfl⟩⟩
theorem pd_k78 : pd_okq pd_q78 := ⟨plainFor_of_name (by decide +kernel), pd_mk78, .inl ⟨rfl, rfl⟩⟩
theorem pd_k79 : pd_okq pd_q79 := ⟨plainFor_of_name (by decide +kernel), pd_mk79, .inl ⟨rfl, rfl⟩⟩
theorem pd_k80 : pd_okq pd_q80 := ⟨plainFor_of_name (by decide +kernel), pd_mk80, .inl ⟨rfl, rfl⟩⟩
theorem pd_k81 : pd_okq pd_q81 := ⟨plainFor_of_name (by decide +kernel), pd_mk81, .inl ⟨rfl, rfl⟩⟩
theorem pd_k82 : pd_okq pd_q82 := ⟨plainFor_of_name (by decide +kernel), pd_mk82, .inl ⟨rfl, rfl⟩⟩
theorem pd_k83 : pd_okq pd_q83 := ⟨plainFor_of_name (by decide +kernel), pd_mk83, .inl ⟨rfl, rfl⟩⟩
theorem pd_k84 : pd_okq pd_q84 := ⟨plainFor_of_name (by decide +kernel), pd_mk84, .inl ⟨rfl, rfl⟩⟩
theorem pd_k85 : pd_okq pd_q85 := ⟨plainFor_of_name (by decide +kernel), pd_mk85, .inl ⟨rfl, rfl⟩⟩
theorem pd_k86 : pd_okq pd_q86 := ⟨plainFor_of_name (by decide +kernel), pd_mk86, .inl ⟨rfl, rfl⟩⟩
theorem pd_k87 : pd_okq pd_q87 := ⟨plainFor_of_name (by decide +kernel), pd_mk87, .inl ⟨rfl, rfl⟩⟩
theorem pd_k88 : pd_okq pd_q88 := ⟨plainFor_of_name (by decide +kernel), pd_mk88, .inl ⟨rfl, rfl⟩⟩
theorem pd_k89 : pd_okq pd_q89 := ⟨plainFor_of_name (by decide +kernel), pd_mk89, .inl ⟨rfl, rfl⟩⟩
theorem pd_k90 : pd_okq pd_q90 := ⟨plainFor_of_name (by decide +kernel), pd_mk90, .inl ⟨rfl, rfl⟩⟩
theorem pd_k91 : pd_okq pd_q91 := ⟨plainFor_of_name (by decide +kernel), pd_mk91, .inl ⟨rfl, rfl⟩⟩
theorem pd_k92 : pd_okq pd_q92 := ⟨plainFor_of_name (by decide +kernel), pd_mk92, .inl ⟨rfl, rfl⟩⟩
theorem pd_k93 : pd_okq pd_q93 := ⟨plainFor_of_name (by decide +kernel), pd_mk93, .inl ⟨rfl, rfl⟩⟩
theorem pd_k94 : pd_okq pd_q94 := ⟨plainFor_of_name (by decide +kernel), pd_mk94, .inl ⟨rfl, rfl⟩⟩
theorem pd_k95 : pd_okq pd_q95 := ⟨plainFor_of_name (by decide +kernel), pd_mk95, .inl ⟨rfl, rfl⟩⟩
theorem pd_k96 : pd_okq pd_q96 := ⟨plainFor_of_name (by decide +kernel), pd_mk96, .inl ⟨rfl, rfl⟩⟩
theorem pd_k97 : pd_okq pd_q97 := ⟨plainFor_of_name (by decide +kernel), pd_mk97, .inl ⟨rfl, rfl⟩⟩
theorem pd_k98 : pd_okq pd_q98 := ⟨plainFor_of_name (by decide +kernel), pd_mk98, .inl ⟨rfl, rfl⟩⟩
theorem pd_k99 : pd_okq pd_q99 := ⟨plainFor_of_name (by decide +kernel), pd_mk99, .inl ⟨rfl, rfl⟩⟩
theorem pd_k100 : pd_okq pd_q100 := ⟨plainFor_of_name (by decide +kernel), pd_mk100, .inl ⟨rfl, rfl⟩⟩
theorem pd_k101 : pd_okq pd_q101 := ⟨plainFor_of_name (by decide +kernel), pd_mk101, .inl ⟨rfl, rfl⟩⟩
theorem pd_k102 : pd_okq pd_q102 := ⟨plainFor_of_name (by decide +kernel), pd_mk102, .inl ⟨rfl, rfl⟩⟩
theorem pd_k103 : pd_okq pd_q103 := ⟨plainFor_of_name (by decide +kernel), pd_mk103, .inl ⟨rfl, rfl⟩⟩
theorem pd_k104 : pd_okq pd_q104 := ⟨plainFor_of_name (by decide +kernel), pd_mk104, .inl ⟨rfl, rfl⟩⟩
theorem pd_k105 : pd_okq pd_q105 := ⟨plainFor_of_name (by decide +kernel), pd_mk105, .inl ⟨rfl, rfl⟩⟩
theorem pd_k106 : pd_okq pd_q106 := ⟨plainFor_of_name (by decide +kernel), pd_mk106, .inl ⟨rfl, rfl⟩⟩
theorem pd_k107 : pd_okq pd_q107 := ⟨plainFor_of_name (by decide +kernel), pd_mk107, .inl ⟨rfl, rfl⟩⟩
theorem pd_k108 : pd_okq pd_q108 := ⟨plainFor_of_name (by decide +kernel), pd_mk108, .inl ⟨rfl, rfl⟩⟩
theorem pd_k109 : pd_okq pd_q109 := ⟨plainFor_of_name (by decide +kernel), pd_mk109, .inl ⟨rfl, rfl⟩⟩
theorem pd_k110 : pd_okq pd_q110 := ⟨plainFor_of_name (by decide +kernel), pd_mk110, .inl ⟨rfl, rfl⟩⟩
theorem pd_k111 : pd_okq pd_q111 := ⟨plainFor_of_name (by decide +kernel), pd_mk111, .inl ⟨rfl, rfl⟩⟩
theorem pd_k112 : pd_okq pd_q112 := ⟨plainFor_of_name (by decide +kernel), pd_mk112, .inl ⟨rfl, rfl⟩⟩
theorem pd_k113 : pd_okq pd_q113 := ⟨plainFor_of_name (by decide +kernel), pd_mk113, .inl ⟨rfl, rfl⟩⟩
theorem pd_k114 : pd_okq pd_q114 := ⟨plainFor_of_name (by decide +kernel), pd_mk114, .inl ⟨rfl, rfl⟩⟩
theorem pd_k115 : pd_okq pd_q115 := ⟨plainFor_of_name (by decide +kernel), pd_mk115, .inl ⟨rfl, rfl⟩⟩
theorem pd_k116 : pd_okq pd_q116 := ⟨plainFor_of_name (by decide +kernel), pd_mk116, .inl ⟨rfl, rfl⟩⟩
theorem pd_k117 : pd_okq pd_q117 := ⟨plainFor_of_name (by decide +kernel), pd_mk117, .inl ⟨rfl, rfl⟩⟩
theorem pd_k118 : pd_okq pd_q118 := ⟨plainFor_of_name (by decide +kernel), pd_mk118, .inl ⟨rfl, rfl⟩⟩
theorem pd_k119 : pd_okq pd_q119 := ⟨plainFor_of_name (by decide +kernel), pd_mk119, .inl ⟨rfl, rfl⟩⟩
theorem pd_k120 : pd_okq pd_q120 := ⟨plainFor_of_name (by decide +kernel), pd_mk120, .inl ⟨rfl, rfl⟩⟩
theorem pd_k121 : pd_okq pd_q121 := ⟨plainFor_of_name (by decide +kernel), pd_mk121, .inl ⟨rfl, rfl⟩⟩
theorem pd_k122 : pd_okq pd_q122 := ⟨plainFor_of_name (by decide +kernel), pd_mk122, .inl ⟨rfl, rfl⟩⟩
theorem pd_k123 : pd_okq pd_q123 := ⟨plainFor_of_name (by decide +kernel), pd_mk123, .inl ⟨rfl, rfl⟩⟩
theorem pd_k124 : pd_okq pd_q124 := ⟨plainFor_of_name (by decide +kernel), pd_mk124, .inl ⟨rfl, rfl⟩⟩
theorem pd_k125 : pd_okq pd_q125 := ⟨plainFor_of_name (by decide +kernel), pd_mk125, .inl ⟨rfl, rfl⟩⟩
theorem pd_k126 : pd_okq pd_q126 := ⟨plainFor_of_name (by decide +kernel), pd_mk126, .inl ⟨rfl, rfl⟩⟩
theorem pd_k127 : pd_okq pd_q127 := ⟨plainFor_of_name (by decide +kernel), pd_mk127, .inl ⟨rfl, rfl⟩⟩
theorem pd_ho128 : mm_HOK pd_TT pd_nc pd_ex "PascalDeskLaw" pd_m128 := pd_HOK.of (hs := [(0, 9, 12, 13), (0, 9, 16, 15)]) rfl rfl (by decide +kernel)
theorem pd_k128 : pd_okq pd_q128 := ⟨plainFor_of_name (by decide +kernel), pd_mk128, .inr ⟨by decide, rfl, pd_allH (by decide +kernel), rfl, pd_ho128⟩⟩
theorem pd_ho129 : mm_HOK pd_TT pd_nc pd_ex "PascalDeskLaw" pd_m129 := pd_HOK.of (hs := [(0, 9, 12, 13)]) rfl rfl (by decide +kernel)
theorem pd_k129 : pd_okq pd_q129 := ⟨plainFor_of_name (by decide +kernel), pd_mk129, .inr ⟨by decide, rfl, pd_allH (by decide +kernel), rfl, pd_ho129⟩⟩
theorem pd_ho130 : mm_HOK pd_TT pd_nc pd_ex "PascalDeskLaw" pd_m130 := pd_HOK.of (hs := [(0, 6, 9, 13)]) rfl rfl (by decide +kernel)
theorem pd_k130 : pd_okq pd_q130 := ⟨plainFor_of_name (by decide +kernel), pd_mk130, .inr ⟨by decide, rfl, pd_allH (by decide +kernel), rfl, pd_ho130⟩⟩
theorem pd_ho131 : mm_HOK pd_TT pd_nc pd_ex "PascalDeskLaw" pd_m131 := pd_HOK.of (hs := [(0, 12, 15, 13), (0, 12, 19, 29), (0, 12, 23, 15), (0, 12, 27, 31), (0, 12, 31, 33)]) rfl rfl (by decide +kernel)
theorem pd_k131 : pd_okq pd_q131 := ⟨plainFor_of_name (by decide +kernel), pd_mk131, .inr ⟨by decide, rfl, pd_allH (by decide +kernel), rfl, pd_ho131⟩⟩
theorem pd_ho132 : mm_HOK pd_TT pd_nc pd_ex "PascalDeskLaw" pd_m132 := pd_HOK.of (hs := [(0, 8, 11, 13)]) rfl rfl (by decide +kernel)
theorem pd_k132 : pd_okq pd_q132 := ⟨plainFor_of_name (by decide +kernel), pd_mk132, .inr ⟨by decide, rfl, pd_allH (by decide +kernel), rfl, pd_ho132⟩⟩
theorem pd_ho133 : mm_HOK pd_TT pd_nc pd_ex "PascalDeskLaw" pd_m133 := pd_HOK.of (hs := [(0, 6, 9, 13)]) rfl rfl (by decide +kernel)
theorem pd_k133 : pd_okq pd_q133 := ⟨plainFor_of_name (by decide +kernel), pd_mk133, .inr ⟨by decide, rfl, pd_allH (by decide +kernel), rfl, pd_ho133⟩⟩
theorem pd_ho134 : mm_HOK pd_TT pd_nc pd_ex "PascalDeskLaw" pd_m134 := pd_HOK.of (hs := [(0, 8, 11, 29)]) rfl rfl (by decide +kernel)
theorem pd_k134 : pd_okq pd_q134 := ⟨plainFor_of_name (by decide +kernel), pd_mk134, .inr ⟨by decide, rfl, pd_allH (by decide +kernel), rfl, pd_ho134⟩⟩
theorem pd_k135 : pd_okq pd_q135 := ⟨by decide +kernel, pd_mk135, .inl ⟨rfl, rfl⟩⟩
theorem pd_ks : ∀ q ∈ pd_all, pd_okq q := List.forall_mem_cons.mpr ⟨pd_k0, List.forall_mem_cons.mpr ⟨pd_k1, List.forall_mem_cons.mpr ⟨pd_k2, List.forall_mem_cons.mpr ⟨pd_k3, List.forall_mem_cons.mpr ⟨pd_k4, List.forall_mem_cons.mpr ⟨pd_k5, List.forall_mem_cons.mpr ⟨pd_k6, List.forall_mem_cons.mpr ⟨pd_k7, List.forall_mem_cons.mpr ⟨pd_k8, List.forall_mem_cons.mpr ⟨pd_k9, List.forall_mem_cons.mpr ⟨pd_k10, List.forall_mem_cons.mpr ⟨pd_k11, List.forall_mem_cons.mpr ⟨pd_k12, List.forall_mem_cons.mpr ⟨pd_k13, List.forall_mem_cons.mpr ⟨pd_k14, List.forall_mem_cons.mpr ⟨pd_k15, List.forall_mem_cons.mpr ⟨pd_k16, List.forall_mem_cons.mpr ⟨pd_k17, List.forall_mem_cons.mpr ⟨pd_k18, List.forall_mem_cons.mpr ⟨pd_k19, List.forall_mem_cons.mpr ⟨pd_k20, List.forall_mem_cons.mpr ⟨pd_k21, List.forall_mem_cons.mpr ⟨pd_k22, List.forall_mem_cons.mpr ⟨pd_k23, List.forall_mem_cons.mpr ⟨pd_k24, List.forall_mem_cons.mpr ⟨pd_k25, List.forall_mem_cons.mpr ⟨pd_k26, List.forall_mem_cons.mpr ⟨pd_k27, List.forall_mem_cons.mpr ⟨pd_k28, List.forall_mem_cons.mpr ⟨pd_k29, List.forall_mem_cons.mpr ⟨pd_k30, List.forall_mem_cons.mpr ⟨pd_k31, List.forall_mem_cons.mpr ⟨pd_k32, List.forall_mem_cons.mpr ⟨pd_k33, List.forall_mem_cons.mpr ⟨pd_k34, List.forall_mem_cons.mpr ⟨pd_k35, List.forall_mem_cons.mpr ⟨pd_k36, List.forall_mem_cons.mpr ⟨pd_k37, List.forall_mem_cons.mpr ⟨pd_k38, List.forall_mem_cons.mpr ⟨pd_k39, List.forall_mem_cons.mpr ⟨pd_k40, List.forall_mem_cons.mpr ⟨pd_k41, List.forall_mem_cons.mpr ⟨pd_k42, List.forall_mem_cons.mpr ⟨pd_k43, List.forall_mem_cons.mpr ⟨pd_k44, List.forall_mem_cons.mpr ⟨pd_k45, List.forall_mem_cons.mpr ⟨pd_k46, List.forall_mem_cons.mpr ⟨pd_k47, List.forall_mem_cons.mpr ⟨pd_k48, List.forall_mem_cons.mpr ⟨pd_k49, List.forall_mem_cons.mpr ⟨pd_k50, List.forall_mem_cons.mpr ⟨pd_k51, List.forall_mem_cons.mpr ⟨pd_k52, List.forall_mem_cons.mpr ⟨pd_k53, List.forall_mem_cons.mpr ⟨pd_k54, List.forall_mem_cons.mpr ⟨pd_k55, List.forall_mem_cons.mpr ⟨pd_k56, List.forall_mem_cons.mpr ⟨pd_k57, List.forall_mem_cons.mpr ⟨pd_k58, List.forall_mem_cons.mpr ⟨pd_k59, List.forall_mem_cons.mpr ⟨pd_k60, List.forall_mem_cons.mpr ⟨pd_k61, List.forall_mem_cons.mpr ⟨pd_k62, List.forall_mem_cons.mpr ⟨pd_k63, List.forall_mem_cons.mpr ⟨pd_k64, List.forall_mem_cons.mpr ⟨pd_k65, List.forall_mem_cons.mpr ⟨pd_k66, List.forall_mem_cons.mpr ⟨pd_k67, List.forall_mem_cons.mpr ⟨pd_k68, List.forall_mem_cons.mpr ⟨pd_k69, List.forall_mem_cons.mpr ⟨pd_k70, List.forall_mem_cons.mpr ⟨pd_k71, List.forall_mem_cons.mpr ⟨pd_k72, List.forall_mem_cons.mpr ⟨pd_k73, List.forall_mem_cons.mpr ⟨pd_k74, List.forall_mem_cons.mpr ⟨pd_k75, List.forall_mem_cons.mpr ⟨pd_k76, List.forall_mem_cons.mpr ⟨pd_k77, List.forall_mem_cons.mpr ⟨pd_k78, List.forall_mem_cons.mpr ⟨pd_k79, List.forall_mem_cons.mpr ⟨pd_k80, List.forall_mem_cons.mpr ⟨pd_k81, List.forall_mem_cons.mpr ⟨pd_k82, List.forall_mem_cons.mpr ⟨pd_k83, List.forall_mem_cons.mpr ⟨pd_k84, List.forall_mem_cons.mpr ⟨pd_k85, List.forall_mem_cons.mpr ⟨pd_k86, List.forall_mem_cons.mpr ⟨pd_k87, List.forall_mem_cons.mpr ⟨pd_k88, List.forall_mem_cons.mpr ⟨pd_k89, List.forall_mem_cons.mpr ⟨pd_k90, List.forall_mem_cons.mpr ⟨pd_k91, List.forall_mem_cons.mpr ⟨pd_k92, List.forall_mem_cons.mpr ⟨pd_k93, List.forall_mem_cons.mpr ⟨pd_k94, List.forall_mem_cons.mpr ⟨pd_k95, List.forall_mem_cons.mpr ⟨pd_k96, List.forall_mem_cons.mpr ⟨pd_k97, List.forall_mem_cons.mpr ⟨pd_k98, List.forall_mem_cons.mpr ⟨pd_k99, List.forall_mem_cons.mpr ⟨pd_k100, List.forall_mem_cons.mpr ⟨pd_k101, List.forall_mem_cons.mpr ⟨pd_k102, List.forall_mem_cons.mpr ⟨pd_k103, List.forall_mem_cons.mpr ⟨pd_k104, List.forall_mem_cons.mpr ⟨pd_k105, List.forall_mem_cons.mpr ⟨pd_k106, List.forall_mem_cons.mpr ⟨pd_k107, List.forall_mem_cons.mpr ⟨pd_k108, List.forall_mem_cons.mpr ⟨pd_k109, List.forall_mem_cons.mpr ⟨pd_k110, List.forall_mem_cons.mpr ⟨pd_k111, List.forall_mem_cons.mpr ⟨pd_k112, List.forall_mem_cons.mpr ⟨pd_k113, List.forall_mem_cons.mpr ⟨pd_k114, List.forall_mem_cons.mpr ⟨pd_k115, List.forall_mem_cons.mpr ⟨pd_k116, List.forall_mem_cons.mpr ⟨pd_k117, List.forall_mem_cons.mpr ⟨pd_k118, List.forall_mem_cons.mpr ⟨pd_k119, List.forall_mem_cons.mpr ⟨pd_k120, List.forall_mem_cons.mpr ⟨pd_k121, List.forall_mem_cons.mpr ⟨pd_k122, List.forall_mem_cons.mpr ⟨pd_k123, List.forall_mem_cons.mpr ⟨pd_k124, List.forall_mem_cons.mpr ⟨pd_k125, List.forall_mem_cons.mpr ⟨pd_k126, List.forall_mem_cons.mpr ⟨pd_k127, List.forall_mem_cons.mpr ⟨pd_k128, List.forall_mem_cons.mpr ⟨pd_k129, List.forall_mem_cons.mpr ⟨pd_k130, List.forall_mem_cons.mpr ⟨pd_k131, List.forall_mem_cons.mpr ⟨pd_k132, List.forall_mem_cons.mpr ⟨pd_k133, List.forall_mem_cons.mpr ⟨pd_k134, List.forall_mem_cons.mpr ⟨pd_k135, fun _ h => absurd h List.not_mem_nil⟩⟩⟩⟩⟩⟩⟩⟩⟩⟩⟩⟩⟩⟩⟩⟩⟩⟩⟩⟩⟩⟩⟩⟩⟩⟩⟩⟩⟩⟩⟩⟩⟩⟩⟩⟩⟩⟩⟩⟩⟩⟩⟩⟩⟩⟩⟩⟩⟩⟩⟩⟩⟩⟩⟩⟩⟩⟩⟩⟩⟩⟩⟩⟩⟩⟩⟩⟩⟩⟩⟩⟩⟩⟩⟩⟩⟩⟩⟩⟩⟩⟩⟩⟩⟩⟩⟩⟩⟩⟩⟩⟩⟩⟩⟩⟩⟩⟩⟩⟩⟩⟩⟩⟩⟩⟩⟩⟩⟩⟩⟩⟩⟩⟩⟩⟩⟩⟩⟩⟩⟩⟩⟩⟩⟩⟩⟩⟩⟩⟩⟩⟩⟩⟩⟩⟩
end
section
/-! THE TABLES HOLD -/
theorem pd_ok (j : Nat) : mm_ok pd_cl pd_ak pd_TT pd_strs pd_nc pd_ex pd_yj pd_cw pd_bj pd_rj pd_mj j := by
  have h : pd_okq (pd_at j) := by
    unfold pd_at
    by_cases hj : j < pd_all.length
    · rw [List.getD_eq_getElem?_getD, List.getElem?_eq_getElem hj]
      exact pd_ks _ (List.getElem_mem hj)
    · rw [List.getD_eq_getElem?_getD, List.getElem?_eq_none (by omega)]
      exact pd_k0
  exact h
theorem pd_TTwd : ∀ w ∈ pd_TT, mm_wd w = true := fun _ h => (List.mem_filter.mp h).2
theorem pd_nm0 : ∀ q ∈ pd_cl, ∀ a, a < q.2.2 → ∀ b, b < q.2.2 → a ≠ b → (q.2.1 a).2.1 ≠ (q.2.1 b).2.1 := by decide +kernel
theorem pd_kts {ks : List Nat} {ct : Nat → FieldType} (h : ((List.range ks.length).all fun k => mm_kt (ks.getD k 0) (ct k)) = true) : ∀ k kd, ks[k]? = some kd → mm_kt kd (ct k) = true := by
  intro k kd hk
  have hl : k < ks.length := (List.getElem?_eq_some_iff.mp hk).1
  have h1 := List.all_eq_true.mp h k (List.mem_range.mpr hl)
  rw [List.getD_eq_getElem?_getD, hk] at h1
  exact h1
theorem pd_CK : mm_CK pd_cl pd_ck pd_ct pd_TT := by
  intro ci C T N h
  have hn := pd_nm0 _ (List.mem_of_getElem? h)
  match ci, h with
  | 0, h => cases h; exact ⟨pd_ws0, rfl, by decide +kernel, hn, pd_kts (by decide +kernel)⟩
  | 1, h => cases h; exact ⟨pd_ws1, rfl, by decide +kernel, hn, pd_kts (by decide +kernel)⟩
  | 2, h => cases h; exact ⟨pd_ws2, rfl, by decide +kernel, hn, pd_kts (by decide +kernel)⟩
  | 3, h => cases h; exact ⟨pd_ws3, rfl, by decide +kernel, hn, pd_kts (by decide +kernel)⟩
  | 4, h => cases h; exact ⟨pd_ws4, rfl, by decide +kernel, hn, pd_kts (by decide +kernel)⟩
  | 5, h => cases h; exact ⟨pd_ws5, rfl, by decide +kernel, hn, pd_kts (by decide +kernel)⟩
  | 6, h => cases h; exact ⟨pd_ws6, rfl, by decide +kernel, hn, pd_kts (by decide +kernel)⟩
  | 7, h => cases h; exact ⟨pd_ws7, rfl, by decide +kernel, hn, pd_kts (by decide +kernel)⟩
  | _ + 8, h => cases h
theorem pd_AO : mm_AO pd_cl pd_ak := by
  intro ci r h h5
  match ci, h, h5 with
  | 0, h, h5 => cases h5
  | 1, h, _ => cases h; rfl
  | 2, h, h5 => cases h5
  | 3, h, h5 => cases h5
  | 4, h, h5 => cases h5
  | 5, h, h5 => cases h5
  | 6, h, _ => cases h; rfl
  | 7, h, h5 => cases h5
  | _ + 8, h, _ => cases h
theorem pd_TB : mm_TB pd_cl pd_ck pd_ct pd_ak pd_TT := ⟨pd_CK, pd_AO, pd_TTwd, rfl, rfl, rfl, rfl, rfl⟩
end
section
/-! words of the classes (printed) -/
theorem pd_in0 : Cond.instantiable "PascalDesk" 3 ∈ pd_TT := pd_mem 87 (by decide +kernel) (by decide +kernel)
theorem pd_in1 : Cond.instantiable "PascalDesk$Code" 5 ∈ pd_TT := pd_mem 101 (by decide +kernel) (by decide +kernel)
theorem pd_in2 : Cond.instantiable "PascalDesk$Reader" 6 ∈ pd_TT := pd_mem 95 (by decide +kernel) (by decide +kernel)
theorem pd_in3 : Cond.instantiable "PascalDesk$Runner" 12 ∈ pd_TT := pd_mem 151 (by decide +kernel) (by decide +kernel)
theorem pd_in4 : Cond.instantiable "PascalDesk$Calculator" 3 ∈ pd_TT := pd_mem 160 (by decide +kernel) (by decide +kernel)
theorem pd_in5 : Cond.instantiable "PascalDesk$Tape" 3 ∈ pd_TT := pd_mem 178 (by decide +kernel) (by decide +kernel)
theorem pd_in6 : Cond.instantiable "PascalDesk$Strand" 11 ∈ pd_TT := pd_mem 195 (by decide +kernel) (by decide +kernel)
theorem pd_in7 : Cond.instantiable "PascalDeskModel" 40 ∈ pd_TT := pd_mem 811 (by decide +kernel) (by decide +kernel)
theorem pd_ao1 : Cond.arrayOver (.object "PascalDesk$Code") ∈ pd_TT := pd_mem 157 (by decide +kernel) (by decide +kernel)
theorem pd_ao6 : Cond.arrayOver (.object "PascalDesk$Strand") ∈ pd_TT := pd_mem 194 (by decide +kernel) (by decide +kernel)
theorem pd_strw : ∀ q ∈ pd_strs, Cond.stringRef q.1 q.2.1 q.2.2 ∈ lw_tbl := by decide +kernel
theorem pd_lsw : Cond.laysStatic Bundle.tN "UNASSIGNED_STACK" Bundle.steD ∈ lw_tbl ∧ Cond.laysStatic Bundle.tN "SUPPRESSED_SENTINEL" Bundle.listD ∈ lw_tbl := by decide +kernel
theorem pd_ncw : ∀ q ∈ pd_nc, Cond.not (.castable q.1 q.2) ∈ flatC (Jvm.Cond.and given_1 narrow_1) := by decide +kernel
theorem pd_nrw : Cond.isRef (.static Bundle.tN "UNASSIGNED_STACK" Bundle.steD) ∈ flatC (Jvm.Cond.and given_1 narrow_1) ∧ Cond.isRef (.static Bundle.tN "SUPPRESSED_SENTINEL" Bundle.listD) ∈ flatC (Jvm.Cond.and given_1 narrow_1) := by decide +kernel
end
section
/-! THE LAW's START -/
def pd_S0 : mm_St := ([], (fun _ _ => 0, fun _ _ => 0, fun _ _ => none, fun _ _ => 0), 0)
/-- THE CLAIM OF THE SMALL MACHINE: on the script xs of Ls ints the law comes to its end with 1, within the room -/
def pd_Main (xs : Nat → Int32) (Ls : Nat) : Prop := ∃ d S', d ≤ 1900 ∧ mm_R (mm_step (mm_ev xs Ls pd_ck pd_ak pd_mj d) xs Ls pd_ck pd_ak pd_mL) (0, mm_pad (mm_in [.retAddr 0]) 9, [], pd_S0) (.inl (some (.int 1)), S') ∧ mm_co S' ≤ 601024 ∧ mm_sl pd_ck S' ≤ 7293034
section START
variable {s : State} {args : Array Value}
theorem pd_arrP {ty : FieldType} (h : (Cond.arrayClass ty).before args s = true) : ∃ cA, ArrOfT s cA ty ∧ s.vm.findClass ("[" ++ ty.toString) = some cA := by
  obtain ⟨c, k, comp, h1, h2, h3⟩ := Cond.arrayClass_spec h
  exact ⟨c, fun n z => ⟨fun k h => (by cases h), k, h2, comp, h3⟩, h1⟩
theorem pd_arrO {C : String} (h : (Cond.arrayOver (.object C)).before args s = true) : ∃ cA, ArrOfT s cA (.object C) ∧ va_RA s cA (.object C) := by
  obtain ⟨comp, c, k, h1, -, h3, h4, h5⟩ := Cond.arrayOver_spec h
  exact ⟨c, fun n z => ⟨fun k h => (by cases h), k, h3, comp, h4⟩, k, comp, h3, h4, h1, h5⟩
theorem pd_known (hts : ∀ w ∈ pd_TT, w.before args s = true) : ∃ (D : va_G) (tys : List (ClassId × FieldType)) (dA : Nat → ClassId), va_K D pd_cl tys s ∧ mm_AT tys pd_ak dA := by
  have h1 : ∀ ci : Nat, ∃ p : ClassId × (Nat → Nat), ∀ q : vw_C, pd_cl[ci]? = some q → u_Kn s q.1 q.2.1 q.2.2 p.1 p.2 := by
    intro ci
    cases hq : pd_cl[ci]? with
    | none => exact ⟨(0, fun _ => 0), fun q h => by cases h⟩
    | some r =>
      have key : ∃ cC iS, u_Kn s r.1 r.2.1 r.2.2 cC iS := by
        match ci, hq with
        | 0, hq => cases hq; exact u_known hts pd_ws0 (hts _ pd_in0)
        | 1, hq => cases hq; exact u_known hts pd_ws1 (hts _ pd_in1)
        | 2, hq => cases hq; exact u_known hts pd_ws2 (hts _ pd_in2)
        | 3, hq => cases hq; exact u_known hts pd_ws3 (hts _ pd_in3)
        | 4, hq => cases hq; exact u_known hts pd_ws4 (hts _ pd_in4)
        | 5, hq => cases hq; exact u_known hts pd_ws5 (hts _ pd_in5)
        | 6, hq => cases hq; exact u_known hts pd_ws6 (hts _ pd_in6)
        | 7, hq => cases hq; exact u_known hts pd_ws7 (hts _ pd_in7)
        | _ + 8, hq => cases hq
      obtain ⟨cC, iS, hk⟩ := key
      exact ⟨(cC, iS), fun q h => by cases h; exact hk⟩
  have aI : ∃ cA, ArrOfT s cA .int ∧ va_RA s cA .int := pd_arrP (hts _ pd_wa_int)
  have aC : ∃ cA, ArrOfT s cA .char ∧ va_RA s cA .char := pd_arrP (hts _ pd_wa_char)
  have aD : ∃ cA, ArrOfT s cA .double ∧ va_RA s cA .double := pd_arrP (hts _ pd_wa_double)
  have aJ : ∃ cA, ArrOfT s cA .long ∧ va_RA s cA .long := pd_arrP (hts _ pd_wa_long)
  have aZ : ∃ cA, ArrOfT s cA .boolean ∧ va_RA s cA .boolean := pd_arrP (hts _ pd_wa_boolean)
  have o1 := pd_arrO (hts _ pd_ao1)
  have o6 := pd_arrO (hts _ pd_ao6)
  have h2 : ∀ t : Nat, ∃ cA, ArrOfT s cA (pd_ak t) ∧ va_RA s cA (pd_ak t) := by
    intro t
    match t with
    | 0 => exact aI
    | 1 => exact aC
    | 2 => exact aD
    | 3 => exact aJ
    | 4 => exact aZ
    | 5 => exact aI
    | 6 => exact aI
    | 7 => exact aI
    | 8 => exact aI
    | 9 => exact aI
    | 10 => exact aI
    | 11 => exact o1
    | 12 => exact aI
    | 13 => exact aI
    | 14 => exact aI
    | 15 => exact aI
    | 16 => exact o6
    | 17 => exact aI
    | t + 18 => exact aI
  obtain ⟨f, hf⟩ := Classical.axiomOfChoice h1
  obtain ⟨g, hg⟩ := Classical.axiomOfChoice h2
  refine ⟨(fun c => (f c).1, fun c => (f c).2), (List.range 18).map (fun t => (g t, pd_ak t)), fun t => g (if t < 18 then t else 0), ⟨fun c q hq => hf c q hq, fun k q hk => ?_⟩, fun t => ?_⟩
  · rw [List.getElem?_map] at hk
    cases hr : (List.range 18)[k]? with
    | none => rw [hr] at hk; cases hk
    | some t => rw [hr] at hk; cases hk; exact hg t
  · by_cases ht : t < 18
    · refine ⟨t, ?_⟩
      rw [List.getElem?_map, List.getElem?_range ht]
      show some (g t, pd_ak t) = some (g (if t < 18 then t else 0), pd_ak t)
      rw [if_pos ht]
    · refine ⟨0, ?_⟩
      rw [List.getElem?_map, List.getElem?_range (by omega)]
      show some (g 0, pd_ak 0) = some (g (if t < 18 then t else 0), pd_ak t)
      rw [if_neg ht]
      have : pd_ak t = .int := by
        unfold pd_ak
        rw [List.getD_eq_getElem?_getD, List.getElem?_eq_none (by show 18 ≤ t; omega)]
        rfl
      rw [this]
      rfl
theorem pd_str {own tx : String} {k : Nat} (h : (Cond.stringRef own k tx).before args s = true) : ∃ a, vk_R own k tx a s := by
  have h0 := h
  simp only [Cond.before, Cond.holds, Cond.value] at h0
  cases hc : s.vm.findClass own with
  | none => simp [hc] at h0
  | some cur =>
    cases hr : s.resolvedAt? own k with
    | none => simp [hc, hr] at h0
    | some r =>
      cases r with
      | string a =>
        refine ⟨a, vk_R.of h ?_⟩
        unfold State.resolvedAt? at hr
        rw [hc] at hr
        simp only [Term.eval, hc]
        cases hk : s.vm.classes[cur]? with
        | none => simp [hk] at hr
        | some K =>
          simp [hk] at hr ⊢
          simp [hr]
      | _ => simp [hc, hr] at h0
end START
end
section
/-! THE CLAIM OUT OF ONE WALK OF THE LAW'S BODY. Your part is whole_start (and what it stands on); all else here is the same for every law, but numbers. -/
def R_law : String := "PascalDeskLaw"
def lw_P (b : Addr) (xs : List Int32) (args : Array Value) (s : State) : Prop := args = #[.ref b] ∧ s.IntsAt b xs ∧ xs.length ≤ 2048 ∧ (Jvm.Cond.and given_1 narrow_1).before args s = true
def lw_Q (_ : Array Value) (s : State) (o : Outcome) (t : State) : Prop := o = .returned (some (.int 1)) ∧ Framed s o t [] 601024 7293034
def lw_Z (below : List Frame) (a : Array Value) (s : State) : State → Prop := fun t => ∃ o, t.status = .running ∧ Ended t below o ∧ lw_Q a s o t
/-- the law's own end, with 1 on the stack, nothing written that was there before, its room as the claim has it -/
theorem lw_ret {p : Program} {l : Launch} {e : Env} {s : State} {m : MethodId} {below : List Frame} {meth : Method} {c : Code} {b : Nat} (hx : p.tables.exec = Jvm.exec) (hb : c.code = code) (hr : meth.sig.returnType = ret) (hlocks : meth.locks = false) {pc : Nat} {H : Heap} {ls : Array Slot} (hdg : decode code pc = .ok (.ireturn, 1)) : W p l e room_1 s m #[Value.ref b] below meth c H [] 601024 7293034 (lw_Z below #[Value.ref b] s) (F0 m pc ls [.int 1]) := by
  intro T hT X
  obtain ⟨fs, hret, hrun, hended, hW, hframe⟩ := X.leave (v := some (.int 1)) (hlocks := hlocks) (fun h => by rw [hr] at h; cases h)
  have hmeth' : T.vm.method? m = some meth := X.method'
  refine ⟨T.setFrames fs, ?_, .returned (some (.int 1)), hrun, hended, rfl, ⟨_, rfl⟩, hW, hframe⟩
  jvm_step X.here [X.here.top, hx, hb, hdg, hmeth', hr, ret, narrow_b1]
  (try refine ⟨rfl, ?_⟩); (try refine ⟨rfl, ?_⟩)
  first | (intro acts; rw [hret _ acts rfl rfl rfl]) | rw [hret _ _ rfl rfl rfl]
  exact Steps.refl _
/-- what holds at the law's entry: the machine, the code, the tables' words (any of lw_tbl by 'hts w (by decide +kernel)'), the script of L ints xs at the cell b, what the Statement gives of the start (any of its parts by flat_of_before) -/
def lw_At (p : Program) (l : Launch) (s : State) (m : MethodId) (meth : Method) (c : Code) (b L : Nat) (xs : Nat → Int32) : Prop :=
  p.tables.exec = Jvm.exec ∧ c.code = code ∧ meth.sig.returnType = ret ∧ c.maxLocals = 9 ∧ s.vm.findClass R_law = some m.cls ∧ (∀ w ∈ lw_tbl, w.before #[Value.ref b] s = true) ∧ va_X b L xs s s.heap ∧ b < s.heap.size ∧ meth.locks = false ∧ (Jvm.Cond.and given_1 narrow_1).before #[Value.ref b] s = true ∧ l.stackTraces = false ∧ (∀ x ∈ c.exceptionTable.toList, False) ∧ meth.name = "law"
theorem pd_env {p : Program} {l : Launch} {s : State} {m : MethodId} {meth : Method} {c : Code} {b L : Nat} {xs : Nat → Int32} (C0 : lw_At p l s m meth c b L xs) : ∃ (D : va_G) (tys : List (ClassId × FieldType)) (dA : Nat → ClassId), mm_AT tys pd_ak dA ∧ mm_Env D pd_cl tys pd_TT pd_strs pd_nc s.heap.size b L xs s := by
  obtain ⟨-, -, -, -, -, hts, hX, hbl, -, hgv, -⟩ := C0
  have hT : ∀ w ∈ pd_TT, w.before #[Value.ref b] s = true := fun w hw => hts w (List.mem_filter.mp hw).1
  have hT0 : ∀ w ∈ pd_TT, w.before #[] s = true := fun w hw => mm_warm (State.WarmedH.refl s) (pd_TTwd w hw) (hT w hw)
  obtain ⟨D, tys, dA, hK, hA⟩ := pd_known hT
  have hs := flat_of_before _ hgv
  have nv : ∀ q ∈ pd_nc, (Cond.not (.castable q.1 q.2)).before #[Value.ref b] s = true := fun q hq => hs _ (pd_ncw q hq)
  exact ⟨D, tys, dA, hA, hT0, hK, mm_SF.of (Nat.le_refl _) (hts _ pd_lsw.1) (hs _ pd_nrw.1), mm_SF.of (Nat.le_refl _) (hts _ pd_lsw.2) (hs _ pd_nrw.2), fun q hq => pd_str (hts _ (pd_strw q hq)), fun q hq => va_Nc.of (nv q hq), hX, hbl, Nat.le_refl _⟩
theorem whole_start {p : Program} {e : Env} {s : State} {m : MethodId} {below : List Frame} {meth : Method} {c : Code} (l : Launch) {b L : Nat} {xs : Nat → Int32} (hM : pd_Main xs L) (C0 : lw_At p l s m meth c b L xs) : W p l e room_1 s m #[Value.ref b] below meth c s.heap [] 0 0 (lw_Z below #[Value.ref b] s) (entryFrame m ([Value.ref b] : List Value).toArray 9) := by
  obtain ⟨D, tys, dA, hA, hE⟩ := pd_env C0
  obtain ⟨hx, hc, hret, hml, hown, hts, hX, hbl, hlocks, hgv, hl, hexc, hname⟩ := C0
  obtain ⟨d, S', hd, ⟨n, hn⟩, hco, hsl⟩ := hM
  have hCt := mm_sim (l := l) (D := D) (tys := tys) (B := s.heap.size) (b := b) (Ls := L) (xs := xs) (dA := dA) hl pd_TB hA pd_ok d
  have hFR : mm_FR p l room_1 s m #[Value.ref b] meth c D pd_cl tys pd_ak dA pd_TT pd_strs pd_nc s.heap.size b L xs pd_S0 d pd_yL code (some .boolean) 9 :=
    ⟨⟨hx, hc, hml, hown, fun w hw => hts w (List.mem_filter.mp hw).1⟩, hE.2.1, hA, hE, Nat.le_refl _, fun _ => rfl, hret, hlocks, hname, hexc, hl, by show d + 9 ≤ 2048; omega, by show 40 * d + 240 ≤ 84000; omega, by show 7293034 ≤ 60000000; omega⟩
  have hJ := (mm_walk (e := e) (below := below) (mc := mm_co S') (ms := mm_sl pd_ck S') pd_TB pd_mkL hFR hCt rfl hco hsl (by show 0 + mm_co S' = mm_co S'; omega) (by show 0 + mm_sl pd_ck S' = mm_sl pd_ck S'; omega) n _ hn).2
  have hlv := lv_entry ([Value.retAddr 0].map (mm_v s.heap.size b)) (n := 9) (by rw [mm_sl_len]; decide)
  have hLR : mm_LR s.heap.size b ((lg_sl ([Value.retAddr 0].map (mm_v s.heap.size b)) ++ List.replicate (9 - (lg_sl ([Value.retAddr 0].map (mm_v s.heap.size b))).length) Slot.unset).toArray) 9 (mm_pad (mm_in [.retAddr 0]) 9) :=
    ⟨hlv.1, hlv.2.1, fun i v hv => hlv.2.2 (i, mm_v s.heap.size b v) (by have h9 := mm_in_args s.heap.size b [.retAddr 0] 0 i v (mm_pad_ld _ _ _ _ hv); rw [Nat.zero_add] at h9; exact h9)⟩
  have hW := hJ _ s.heap [] 0 0 hLR ⟨(by intro k q hq; cases hq), va_S.rf, rfl, rfl, Nat.le_refl _⟩
  have K : W p l e room_1 s m #[Value.ref b] below meth c s.heap [] 0 0 (mm_E below #[Value.ref b] s D pd_cl s.heap.size b pd_ck pd_ak dA pd_ex (.inl (some (.int 1)), S') (mm_co S') (mm_sl pd_ck S')) (entryFrame m ([Value.ref b] : List Value).toArray 9) := by
    rw [show ([Value.ref b] : List Value).toArray = ([Value.retAddr 0].map (mm_v s.heap.size b)).toArray from rfl, lg_entry_eq]
    exact hW
  intro T hT X
  obtain ⟨t, h1, oc, h2, h3, ho, -, -, hWm, Lc, hsame, hLc⟩ := K T hT X
  have ho : oc = .returned (some (.int 1)) := ho
  subst ho
  exact ⟨t, h1, _, h2, h3, rfl, ⟨_, rfl⟩, hWm, (hsame.weaken (fun y hy hlt => absurd (hLc y hy) (Nat.not_le.mpr hlt)) (Nat.le_refl _) (Nat.le_refl _)).mono hco hsl⟩
set_option maxHeartbeats 4000000 in
theorem lw_walk (hM : ∀ xs L, L ≤ 2048 → pd_Main xs L) (l : Launch) (hl : l.stackTraces = false) (b : Addr) (xs : List Int32) : MetFree l x (headSpec (Jvm.Cond.code x code maxLocals ret :: tables_1) room_1) (lw_P b xs) (fun _ _ _ _ _ => True) lw_Q := by
  refine MetFree.of_bodyS (code := code) (maxLocals := maxLocals) (ret := ret) (by decide) ?_ ?_
  · intro args s m h hn
    obtain ⟨meth, c, h1, h2, h3, h4, h5, h6, -, -⟩ := Cond.code_spec hn (atoms_spec (ws := Jvm.Cond.code x code maxLocals ret :: tables_1) h _ List.mem_cons_self)
    exact ⟨meth, c, h1, h2, h3, h4, h5, h6⟩
  · intro p e s m args below meth c s₁ B hml0 hP _
    obtain ⟨rfl, hx, hbd, hgv⟩ := hP
    obtain ⟨scr, harrAt, hlist, hof, hsmall⟩ := hx
    obtain ⟨hcb, hkn, -, -⟩ := State.arrayAt?_spec harrAt
    have hown : s.vm.findClass R_law = some m.cls := findClass_of_methodNamed B.named
    have hts0 : ∀ c ∈ (Jvm.Cond.code x code maxLocals ret :: tables_1), c.before #[Value.ref b] s = true := atoms_spec (ws := Jvm.Cond.code x code maxLocals ret :: tables_1) B.pre
    have hts : ∀ w ∈ lw_tbl, w.before #[Value.ref b] s = true := k2_hts_sels lw_privs (fun w hw => hts0 w (List.mem_cons_of_mem _ hw)) lw_privs_ok
    have hexc : ∀ x ∈ c.exceptionTable.toList, False := by
      obtain ⟨meth9, c9, h1, h2, -, -, -, -, h7, -⟩ := Cond.code_spec B.named (hts0 _ List.mem_cons_self)
      cases Option.some.inj (h1.symm.trans B.method)
      cases Option.some.inj (h2.symm.trans (Stand.of_body B).code)
      intro x hx
      rw [Array.isEmpty_iff.mp h7] at hx
      cases hx
    have hml : c.maxLocals = 9 := B.maxLocals_eq (hts0 _ List.mem_cons_self)
    have X₀ : Stand p l e room_1 s m #[Value.ref b] below meth c s₁ [] 0 0 := Stand.of_body B
    have hh0 : s₁.heap = s.heap := by rw [B.state]; rfl
    have hsz : scr.slots.size = xs.length := by rw [← Array.length_toList, hlist, List.length_map]
    have hval : ∀ j : Nat, j < xs.length → scr.slots[j]? = some (.int (xs.getD j 0)) := fun j hj => by
      rw [← Array.getElem?_toList, hlist]
      simp [hj]
    have hbl : b < s.heap.size := (Array.getElem?_eq_some_iff.mp hcb).1
    have hX : va_X b xs.length (fun j => xs.getD j 0) s s.heap := ⟨scr, hcb, hof, hkn, hsz, hval⟩
    have K : W p l e room_1 s m #[Value.ref b] below meth c s₁.heap [] 0 0 (lw_Z below #[Value.ref b] s) (entryFrame m ([Value.ref b] : List Value).toArray 9) := by
      rw [hh0]
      exact whole_start l (hM _ _ hbd) ⟨B.exec, B.bytes, B.returns, hml, hown, hts, hX, hbl, B.notSynchronized, hgv, hl, hexc, (name_of_methodNamed B.named B.method).1⟩
    obtain ⟨t, a1, o, b1, b2, b3⟩ := K s₁ rfl X₀
    exact ⟨t, o, a1, b1, b2, b3⟩
theorem lw_pre_spec {args : Array Value} {s : State} (h : (Jvm.Cond.and given_1 narrow_1).before args s = true) (hr : rest_1_c.before args s = true) : ∃ (b : Addr) (xs : List Int32), lw_P b xs args s := by
  have hs := flat_of_before _ h
  have hq := flat_of_before _ hr
  have hc : (Cond.count 1).before args s = true := hs _ (by decide +kernel)
  have harr : (Cond.arrayOf (.arg 0) .int).before args s = true := hs _ (by decide +kernel)
  have hle : (Cond.le (.length (.arg 0)) (.int 2048)).before args s = true := hs _ (by decide +kernel)
  have hlen : (Cond.isInt (.length (.arg 0))).before args s = true := hq _ (by decide +kernel)
  have hall : (Cond.all (.arg 0) (.isInt (.elem (.arg 0) (.index 0)))).before args s = true := hq _ (by decide +kernel)
  obtain ⟨b, xs, hb, hx⟩ := State.ints_of_pre rfl harr hlen hall
  have hsm : xs.length < 2 ^ 31 := hx.choose_spec.2.2.2
  have hev : (Term.length (.arg 0)).eval args s none [] s = some (.int xs.length.toInt32) := hx.length_eval hb
  have hv := Cond.le_ints hev (show (Term.int 2048).eval args s none [] s = some (.int 2048) from rfl)
  have hd : xs.length.toInt32 ≤ 2048 := by
    simpa [Cond.before, Cond.holds, hv] using hle
  have hN : xs.length ≤ 2048 := (Int32.ofNat_le_ofNat hsm (by decide)).mp (show Int32.ofNat xs.length ≤ Int32.ofNat 2048 from hd)
  exact ⟨b, xs, Cond.one_arg hc (show args[0]? = some (.ref b) from hb), hx, hN, h⟩
theorem lw_comes (hM : ∀ xs L, L ≤ 2048 → pd_Main xs L) (l : Launch) (hl : l.stackTraces = false) : Comes l x (Jvm.Cond.code x code maxLocals ret :: tables_1) room_1 (fun tb e args s => Calls_1 tb e args s ∧ rest_1 tb e args s ∧ Pre_1 tb e args s)
    (fun _ _ args s o t => lw_Q args s o t) := by
  intro p e ha hc hk s m args below hf hfit hheap happ hpre
  obtain ⟨b, xs, hP⟩ := lw_pre_spec hpre.2.2 hpre.2.1
  obtain ⟨k, o, h1, h2, h3, hQ⟩ := lw_walk hM l hl b xs p e ha hc hk s m args below hf ((Spec.applies_iff_loose hf).mp happ).1 hP trivial
  exact ⟨k, o, h1, h2, h3, hQ⟩
theorem lw_frame {s t : State} {o : Outcome} {args : Array Value} (h : Framed s o t [] 601024 7293034) :
    Framed s o t (fieldLocs frame_1_writes args s ++ arrayLocs frame_1_arrays args s ++ staticLocs frame_1_statics s) 601024 7293034 := h
theorem lw_limb (hM : ∀ xs L, L ≤ 2048 → pd_Main xs L) (L : Cond) (hL : ∀ (args : Array Value) (s t : State), L.after args s (.returned (some (.int 1))) t = true) :
    ArmFor flags0 classFile x code maxLocals ret World_1 tables_1 room_1 Calls_1 rest_1 Pre_1
      (fun tb e a s o t => postC L tb e a s o t ∧ Framed s o t (fieldLocs frame_1_writes a s ++ arrayLocs frame_1_arrays a s ++ staticLocs frame_1_statics s) 601024 7293034) := by
  intro l hfl _ _ p e ha hc hk s m args below hf hfit hheap happ hpre
  obtain ⟨k, o, h1, h2, h3, rfl, hF⟩ := lw_comes hM l (by unfold Launch.stackTraces; rw [hfl]; decide) p e ha hc hk s m args below hf hfit hheap happ hpre
  exact ⟨k, _, h1, h2, h3, hL args s _, lw_frame hF⟩
theorem pd_vc (hM : ∀ xs L, L ≤ 2048 → pd_Main xs L) : Claimed_1_1 ∧ Claimed_1_2 := ⟨lw_limb hM limb_1_1 (fun args s t => by simp [limb_1_1, Cond.after, Cond.holds, Cond.value]), lw_limb hM limb_1_2 (fun args s t => Cond.after_iff.mpr (by
  first | (rw [show limb_1_2 = Cond.eq .result (.int 1) from rfl, Cond.eq_ints (x := 1) (y := 1) rfl rfl]; simp; done) | (simp [limb_1_2, Cond.value, Term.eval]; done)))⟩
end
