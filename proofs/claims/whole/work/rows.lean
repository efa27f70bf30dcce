section
/-! PART A of the skeleton -/
/-- a private method of a class that the tables say can be made, by its rows of tables_1 -/
def lw_okq (q : MethodName × Nat) : Prop := (q.1.cls ≠ "java/lang/invoke/MethodHandle" ∧ q.1.cls ≠ "java/lang/invoke/VarHandle") ∧ Cond.instantiable q.1.cls q.2 ∈ tables_1 ∧ Cond.privateMethod q.1 ∈ tables_1 ∧ Cond.instanceMethod q.1 ∈ tables_1
theorem lw_p0 : lw_okq (⟨"java/lang/Throwable", "fillInStackTrace", "(I)Ljava/lang/Throwable;"⟩, 6) := ⟨⟨by decide +kernel, by decide +kernel⟩, List.mem_of_getElem? (i := 289) (by decide +kernel), List.mem_of_getElem? (i := 287) (by decide +kernel), List.mem_of_getElem? (i := 288) (by decide +kernel)⟩
theorem lw_p1 : lw_okq (⟨"PascalDesk$Reader", "body", "(I)V"⟩, 6) := ⟨⟨by decide +kernel, by decide +kernel⟩, List.mem_of_getElem? (i := 27) (by decide +kernel), List.mem_of_getElem? (i := 362) (by decide +kernel), List.mem_of_getElem? (i := 363) (by decide +kernel)⟩
theorem lw_p2 : lw_okq (⟨"PascalDesk$Reader", "statement", "(I)V"⟩, 6) := ⟨⟨by decide +kernel, by decide +kernel⟩, List.mem_of_getElem? (i := 27) (by decide +kernel), List.mem_of_getElem? (i := 366) (by decide +kernel), List.mem_of_getElem? (i := 367) (by decide +kernel)⟩
theorem lw_p3 : lw_okq (⟨"PascalDesk$Reader", "peek", "()C"⟩, 6) := ⟨⟨by decide +kernel, by decide +kernel⟩, List.mem_of_getElem? (i := 27) (by decide +kernel), List.mem_of_getElem? (i := 370) (by decide +kernel), List.mem_of_getElem? (i := 371) (by decide +kernel)⟩
theorem lw_p4 : lw_okq (⟨"PascalDesk$Reader", "setting", "(II)V"⟩, 6) := ⟨⟨by decide +kernel, by decide +kernel⟩, List.mem_of_getElem? (i := 27) (by decide +kernel), List.mem_of_getElem? (i := 377) (by decide +kernel), List.mem_of_getElem? (i := 378) (by decide +kernel)⟩
theorem lw_p5 : lw_okq (⟨"PascalDesk$Reader", "needs", "(C)Z"⟩, 6) := ⟨⟨by decide +kernel, by decide +kernel⟩, List.mem_of_getElem? (i := 27) (by decide +kernel), List.mem_of_getElem? (i := 381) (by decide +kernel), List.mem_of_getElem? (i := 382) (by decide +kernel)⟩
theorem lw_p6 : lw_okq (⟨"PascalDesk$Reader", "takes", "(C)Z"⟩, 6) := ⟨⟨by decide +kernel, by decide +kernel⟩, List.mem_of_getElem? (i := 27) (by decide +kernel), List.mem_of_getElem? (i := 385) (by decide +kernel), List.mem_of_getElem? (i := 386) (by decide +kernel)⟩
theorem lw_p7 : lw_okq (⟨"PascalDesk$Reader", "expression", "(I)Z"⟩, 6) := ⟨⟨by decide +kernel, by decide +kernel⟩, List.mem_of_getElem? (i := 27) (by decide +kernel), List.mem_of_getElem? (i := 389) (by decide +kernel), List.mem_of_getElem? (i := 390) (by decide +kernel)⟩
theorem lw_p8 : lw_okq (⟨"PascalDesk$Reader", "sum", "(I)Z"⟩, 6) := ⟨⟨by decide +kernel, by decide +kernel⟩, List.mem_of_getElem? (i := 27) (by decide +kernel), List.mem_of_getElem? (i := 393) (by decide +kernel), List.mem_of_getElem? (i := 394) (by decide +kernel)⟩
theorem lw_p9 : lw_okq (⟨"PascalDesk$Reader", "term", "(I)Z"⟩, 6) := ⟨⟨by decide +kernel, by decide +kernel⟩, List.mem_of_getElem? (i := 27) (by decide +kernel), List.mem_of_getElem? (i := 397) (by decide +kernel), List.mem_of_getElem? (i := 398) (by decide +kernel)⟩
theorem lw_p10 : lw_okq (⟨"PascalDesk$Reader", "unit", "(I)Z"⟩, 6) := ⟨⟨by decide +kernel, by decide +kernel⟩, List.mem_of_getElem? (i := 27) (by decide +kernel), List.mem_of_getElem? (i := 401) (by decide +kernel), List.mem_of_getElem? (i := 402) (by decide +kernel)⟩
theorem lw_p11 : lw_okq (⟨"PascalDesk$Reader", "number", "()V"⟩, 6) := ⟨⟨by decide +kernel, by decide +kernel⟩, List.mem_of_getElem? (i := 27) (by decide +kernel), List.mem_of_getElem? (i := 415) (by decide +kernel), List.mem_of_getElem? (i := 416) (by decide +kernel)⟩
theorem lw_p12 : lw_okq (⟨"PascalDesk$Reader", "digit", "(C)I"⟩, 6) := ⟨⟨by decide +kernel, by decide +kernel⟩, List.mem_of_getElem? (i := 27) (by decide +kernel), List.mem_of_getElem? (i := 419) (by decide +kernel), List.mem_of_getElem? (i := 420) (by decide +kernel)⟩
theorem lw_p13 : lw_okq (⟨"PascalDesk$Reader", "rowPlace", "(I)V"⟩, 6) := ⟨⟨by decide +kernel, by decide +kernel⟩, List.mem_of_getElem? (i := 27) (by decide +kernel), List.mem_of_getElem? (i := 423) (by decide +kernel), List.mem_of_getElem? (i := 424) (by decide +kernel)⟩
theorem lw_p14 : lw_okq (⟨"PascalDesk$Reader", "opens", "(CI)Z"⟩, 6) := ⟨⟨by decide +kernel, by decide +kernel⟩, List.mem_of_getElem? (i := 27) (by decide +kernel), List.mem_of_getElem? (i := 427) (by decide +kernel), List.mem_of_getElem? (i := 428) (by decide +kernel)⟩
theorem lw_p15 : lw_okq (⟨"PascalDesk$Reader", "needInteger", "(Z)V"⟩, 6) := ⟨⟨by decide +kernel, by decide +kernel⟩, List.mem_of_getElem? (i := 27) (by decide +kernel), List.mem_of_getElem? (i := 431) (by decide +kernel), List.mem_of_getElem? (i := 432) (by decide +kernel)⟩
def lw_privs_1 : List (MethodName × Nat) := [(⟨"java/lang/Throwable", "fillInStackTrace", "(I)Ljava/lang/Throwable;"⟩, 6), (⟨"PascalDesk$Reader", "body", "(I)V"⟩, 6), (⟨"PascalDesk$Reader", "statement", "(I)V"⟩, 6), (⟨"PascalDesk$Reader", "peek", "()C"⟩, 6), (⟨"PascalDesk$Reader", "setting", "(II)V"⟩, 6), (⟨"PascalDesk$Reader", "needs", "(C)Z"⟩, 6), (⟨"PascalDesk$Reader", "takes", "(C)Z"⟩, 6), (⟨"PascalDesk$Reader", "expression", "(I)Z"⟩, 6), (⟨"PascalDesk$Reader", "sum", "(I)Z"⟩, 6), (⟨"PascalDesk$Reader", "term", "(I)Z"⟩, 6), (⟨"PascalDesk$Reader", "unit", "(I)Z"⟩, 6), (⟨"PascalDesk$Reader", "number", "()V"⟩, 6), (⟨"PascalDesk$Reader", "digit", "(C)I"⟩, 6), (⟨"PascalDesk$Reader", "rowPlace", "(I)V"⟩, 6), (⟨"PascalDesk$Reader", "opens", "(CI)Z"⟩, 6), (⟨"PascalDesk$Reader", "needInteger", "(Z)V"⟩, 6)]
theorem lw_r1 : ∀ q ∈ lw_privs_1, lw_okq q := List.forall_mem_cons.mpr ⟨lw_p0, List.forall_mem_cons.mpr ⟨lw_p1, List.forall_mem_cons.mpr ⟨lw_p2, List.forall_mem_cons.mpr ⟨lw_p3, List.forall_mem_cons.mpr ⟨lw_p4, List.forall_mem_cons.mpr ⟨lw_p5, List.forall_mem_cons.mpr ⟨lw_p6, List.forall_mem_cons.mpr ⟨lw_p7, List.forall_mem_cons.mpr ⟨lw_p8, List.forall_mem_cons.mpr ⟨lw_p9, List.forall_mem_cons.mpr ⟨lw_p10, List.forall_mem_cons.mpr ⟨lw_p11, List.forall_mem_cons.mpr ⟨lw_p12, List.forall_mem_cons.mpr ⟨lw_p13, List.forall_mem_cons.mpr ⟨lw_p14, List.forall_mem_cons.mpr ⟨lw_p15, fun _ h => absurd h List.not_mem_nil⟩⟩⟩⟩⟩⟩⟩⟩⟩⟩⟩⟩⟩⟩⟩⟩
theorem lw_p16 : lw_okq (⟨"PascalDesk$Reader", "inParentheses", "(I)Z"⟩, 6) := ⟨⟨by decide +kernel, by decide +kernel⟩, List.mem_of_getElem? (i := 27) (by decide +kernel), List.mem_of_getElem? (i := 435) (by decide +kernel), List.mem_of_getElem? (i := 436) (by decide +kernel)⟩
theorem lw_p17 : lw_okq (⟨"PascalDesk$Reader", "whole", "(I)V"⟩, 6) := ⟨⟨by decide +kernel, by decide +kernel⟩, List.mem_of_getElem? (i := 27) (by decide +kernel), List.mem_of_getElem? (i := 439) (by decide +kernel), List.mem_of_getElem? (i := 440) (by decide +kernel)⟩
theorem lw_p18 : lw_okq (⟨"PascalDesk$Reader", "rowSetting", "(I)V"⟩, 6) := ⟨⟨by decide +kernel, by decide +kernel⟩, List.mem_of_getElem? (i := 27) (by decide +kernel), List.mem_of_getElem? (i := 443) (by decide +kernel), List.mem_of_getElem? (i := 444) (by decide +kernel)⟩
theorem lw_p19 : lw_okq (⟨"PascalDesk$Reader", "ifBody", "(I)V"⟩, 6) := ⟨⟨by decide +kernel, by decide +kernel⟩, List.mem_of_getElem? (i := 27) (by decide +kernel), List.mem_of_getElem? (i := 447) (by decide +kernel), List.mem_of_getElem? (i := 448) (by decide +kernel)⟩
theorem lw_p20 : lw_okq (⟨"PascalDesk$Reader", "block", "(I)V"⟩, 6) := ⟨⟨by decide +kernel, by decide +kernel⟩, List.mem_of_getElem? (i := 27) (by decide +kernel), List.mem_of_getElem? (i := 451) (by decide +kernel), List.mem_of_getElem? (i := 452) (by decide +kernel)⟩
theorem lw_p21 : lw_okq (⟨"PascalDesk$Reader", "loop", "(I)V"⟩, 6) := ⟨⟨by decide +kernel, by decide +kernel⟩, List.mem_of_getElem? (i := 27) (by decide +kernel), List.mem_of_getElem? (i := 459) (by decide +kernel), List.mem_of_getElem? (i := 460) (by decide +kernel)⟩
theorem lw_p22 : lw_okq (⟨"PascalDesk$Reader", "both", "(I)V"⟩, 6) := ⟨⟨by decide +kernel, by decide +kernel⟩, List.mem_of_getElem? (i := 27) (by decide +kernel), List.mem_of_getElem? (i := 467) (by decide +kernel), List.mem_of_getElem? (i := 468) (by decide +kernel)⟩
theorem lw_p23 : lw_okq (⟨"PascalDesk$Runner", "prepare", "(III)V"⟩, 12) := ⟨⟨by decide +kernel, by decide +kernel⟩, List.mem_of_getElem? (i := 83) (by decide +kernel), List.mem_of_getElem? (i := 522) (by decide +kernel), List.mem_of_getElem? (i := 523) (by decide +kernel)⟩
theorem lw_p24 : lw_okq (⟨"PascalDesk$Strand", "start", "(IIII)V"⟩, 11) := ⟨⟨by decide +kernel, by decide +kernel⟩, List.mem_of_getElem? (i := 127) (by decide +kernel), List.mem_of_getElem? (i := 534) (by decide +kernel), List.mem_of_getElem? (i := 535) (by decide +kernel)⟩
theorem lw_p25 : lw_okq (⟨"PascalDesk$Runner", "whoseTurn", "()I"⟩, 12) := ⟨⟨by decide +kernel, by decide +kernel⟩, List.mem_of_getElem? (i := 83) (by decide +kernel), List.mem_of_getElem? (i := 538) (by decide +kernel), List.mem_of_getElem? (i := 539) (by decide +kernel)⟩
theorem lw_p26 : lw_okq (⟨"PascalDesk$Runner", "step", "(I)V"⟩, 12) := ⟨⟨by decide +kernel, by decide +kernel⟩, List.mem_of_getElem? (i := 83) (by decide +kernel), List.mem_of_getElem? (i := 549) (by decide +kernel), List.mem_of_getElem? (i := 550) (by decide +kernel)⟩
theorem lw_p27 : lw_okq (⟨"PascalDesk$Runner", "finish", "(III)V"⟩, 12) := ⟨⟨by decide +kernel, by decide +kernel⟩, List.mem_of_getElem? (i := 83) (by decide +kernel), List.mem_of_getElem? (i := 565) (by decide +kernel), List.mem_of_getElem? (i := 566) (by decide +kernel)⟩
theorem lw_p28 : lw_okq (⟨"PascalDesk$Runner", "write", "(D)V"⟩, 12) := ⟨⟨by decide +kernel, by decide +kernel⟩, List.mem_of_getElem? (i := 83) (by decide +kernel), List.mem_of_getElem? (i := 586) (by decide +kernel), List.mem_of_getElem? (i := 587) (by decide +kernel)⟩
theorem lw_p29 : lw_okq (⟨"PascalDesk$Runner", "await", "(LPascalDesk$Strand;I)V"⟩, 12) := ⟨⟨by decide +kernel, by decide +kernel⟩, List.mem_of_getElem? (i := 83) (by decide +kernel), List.mem_of_getElem? (i := 591) (by decide +kernel), List.mem_of_getElem? (i := 592) (by decide +kernel)⟩
theorem lw_p30 : lw_okq (⟨"PascalDesk$Runner", "signal", "(I)V"⟩, 12) := ⟨⟨by decide +kernel, by decide +kernel⟩, List.mem_of_getElem? (i := 83) (by decide +kernel), List.mem_of_getElem? (i := 595) (by decide +kernel), List.mem_of_getElem? (i := 596) (by decide +kernel)⟩
theorem lw_p31 : lw_okq (⟨"PascalDesk$Runner", "firstWaiting", "(I)I"⟩, 12) := ⟨⟨by decide +kernel, by decide +kernel⟩, List.mem_of_getElem? (i := 83) (by decide +kernel), List.mem_of_getElem? (i := 599) (by decide +kernel), List.mem_of_getElem? (i := 600) (by decide +kernel)⟩
def lw_privs_2 : List (MethodName × Nat) := [(⟨"PascalDesk$Reader", "inParentheses", "(I)Z"⟩, 6), (⟨"PascalDesk$Reader", "whole", "(I)V"⟩, 6), (⟨"PascalDesk$Reader", "rowSetting", "(I)V"⟩, 6), (⟨"PascalDesk$Reader", "ifBody", "(I)V"⟩, 6), (⟨"PascalDesk$Reader", "block", "(I)V"⟩, 6), (⟨"PascalDesk$Reader", "loop", "(I)V"⟩, 6), (⟨"PascalDesk$Reader", "both", "(I)V"⟩, 6), (⟨"PascalDesk$Runner", "prepare", "(III)V"⟩, 12), (⟨"PascalDesk$Strand", "start", "(IIII)V"⟩, 11), (⟨"PascalDesk$Runner", "whoseTurn", "()I"⟩, 12), (⟨"PascalDesk$Runner", "step", "(I)V"⟩, 12), (⟨"PascalDesk$Runner", "finish", "(III)V"⟩, 12), (⟨"PascalDesk$Runner", "write", "(D)V"⟩, 12), (⟨"PascalDesk$Runner", "await", "(LPascalDesk$Strand;I)V"⟩, 12), (⟨"PascalDesk$Runner", "signal", "(I)V"⟩, 12), (⟨"PascalDesk$Runner", "firstWaiting", "(I)I"⟩, 12)]
theorem lw_r2 : ∀ q ∈ lw_privs_2, lw_okq q := List.forall_mem_cons.mpr ⟨lw_p16, List.forall_mem_cons.mpr ⟨lw_p17, List.forall_mem_cons.mpr ⟨lw_p18, List.forall_mem_cons.mpr ⟨lw_p19, List.forall_mem_cons.mpr ⟨lw_p20, List.forall_mem_cons.mpr ⟨lw_p21, List.forall_mem_cons.mpr ⟨lw_p22, List.forall_mem_cons.mpr ⟨lw_p23, List.forall_mem_cons.mpr ⟨lw_p24, List.forall_mem_cons.mpr ⟨lw_p25, List.forall_mem_cons.mpr ⟨lw_p26, List.forall_mem_cons.mpr ⟨lw_p27, List.forall_mem_cons.mpr ⟨lw_p28, List.forall_mem_cons.mpr ⟨lw_p29, List.forall_mem_cons.mpr ⟨lw_p30, List.forall_mem_cons.mpr ⟨lw_p31, fun _ h => absurd h List.not_mem_nil⟩⟩⟩⟩⟩⟩⟩⟩⟩⟩⟩⟩⟩⟩⟩⟩
theorem lw_p32 : lw_okq (⟨"PascalDesk$Runner", "call", "(LPascalDesk$Strand;I)V"⟩, 12) := ⟨⟨by decide +kernel, by decide +kernel⟩, List.mem_of_getElem? (i := 83) (by decide +kernel), List.mem_of_getElem? (i := 603) (by decide +kernel), List.mem_of_getElem? (i := 604) (by decide +kernel)⟩
theorem lw_p33 : lw_okq (⟨"PascalDesk$Runner", "part", "(II)V"⟩, 12) := ⟨⟨by decide +kernel, by decide +kernel⟩, List.mem_of_getElem? (i := 83) (by decide +kernel), List.mem_of_getElem? (i := 615) (by decide +kernel), List.mem_of_getElem? (i := 616) (by decide +kernel)⟩
theorem lw_p34 : lw_okq (⟨"PascalDesk$Runner", "leastFree", "()I"⟩, 12) := ⟨⟨by decide +kernel, by decide +kernel⟩, List.mem_of_getElem? (i := 83) (by decide +kernel), List.mem_of_getElem? (i := 620) (by decide +kernel), List.mem_of_getElem? (i := 621) (by decide +kernel)⟩
theorem lw_p35 : lw_okq (⟨"PascalDesk$Calculator", "push", "(D)V"⟩, 3) := ⟨⟨by decide +kernel, by decide +kernel⟩, List.mem_of_getElem? (i := 92) (by decide +kernel), List.mem_of_getElem? (i := 635) (by decide +kernel), List.mem_of_getElem? (i := 636) (by decide +kernel)⟩
theorem lw_p36 : lw_okq (⟨"PascalDesk$Calculator", "load", "(I)V"⟩, 3) := ⟨⟨by decide +kernel, by decide +kernel⟩, List.mem_of_getElem? (i := 92) (by decide +kernel), List.mem_of_getElem? (i := 639) (by decide +kernel), List.mem_of_getElem? (i := 640) (by decide +kernel)⟩
theorem lw_p37 : lw_okq (⟨"PascalDesk$Runner", "leaveWhatIsOver", "()V"⟩, 12) := ⟨⟨by decide +kernel, by decide +kernel⟩, List.mem_of_getElem? (i := 83) (by decide +kernel), List.mem_of_getElem? (i := 694) (by decide +kernel), List.mem_of_getElem? (i := 695) (by decide +kernel)⟩
theorem lw_p38 : lw_okq (⟨"PascalDesk$Runner", "goOn", "(I)V"⟩, 12) := ⟨⟨by decide +kernel, by decide +kernel⟩, List.mem_of_getElem? (i := 83) (by decide +kernel), List.mem_of_getElem? (i := 698) (by decide +kernel), List.mem_of_getElem? (i := 699) (by decide +kernel)⟩
theorem lw_p39 : lw_okq (⟨"PascalDesk$Runner", "findsNext", "(LPascalDesk$Strand;)Z"⟩, 12) := ⟨⟨by decide +kernel, by decide +kernel⟩, List.mem_of_getElem? (i := 83) (by decide +kernel), List.mem_of_getElem? (i := 702) (by decide +kernel), List.mem_of_getElem? (i := 703) (by decide +kernel)⟩
theorem lw_p40 : lw_okq (⟨"PascalDesk$Runner", "leave", "(LPascalDesk$Strand;)I"⟩, 12) := ⟨⟨by decide +kernel, by decide +kernel⟩, List.mem_of_getElem? (i := 83) (by decide +kernel), List.mem_of_getElem? (i := 710) (by decide +kernel), List.mem_of_getElem? (i := 711) (by decide +kernel)⟩
theorem lw_p41 : lw_okq (⟨"PascalDeskModel", "read", "()I"⟩, 40) := ⟨⟨by decide +kernel, by decide +kernel⟩, List.mem_of_getElem? (i := 743) (by decide +kernel), List.mem_of_getElem? (i := 883) (by decide +kernel), List.mem_of_getElem? (i := 884) (by decide +kernel)⟩
theorem lw_p42 : lw_okq (⟨"PascalDeskModel", "emit", "(II)V"⟩, 40) := ⟨⟨by decide +kernel, by decide +kernel⟩, List.mem_of_getElem? (i := 743) (by decide +kernel), List.mem_of_getElem? (i := 887) (by decide +kernel), List.mem_of_getElem? (i := 888) (by decide +kernel)⟩
theorem lw_p43 : lw_okq (⟨"PascalDeskModel", "operand", "(Z)V"⟩, 40) := ⟨⟨by decide +kernel, by decide +kernel⟩, List.mem_of_getElem? (i := 743) (by decide +kernel), List.mem_of_getElem? (i := 891) (by decide +kernel), List.mem_of_getElem? (i := 892) (by decide +kernel)⟩
theorem lw_p44 : lw_okq (⟨"PascalDeskModel", "over", "()I"⟩, 40) := ⟨⟨by decide +kernel, by decide +kernel⟩, List.mem_of_getElem? (i := 743) (by decide +kernel), List.mem_of_getElem? (i := 895) (by decide +kernel), List.mem_of_getElem? (i := 896) (by decide +kernel)⟩
theorem lw_p45 : lw_okq (⟨"PascalDeskModel", "above", "()I"⟩, 40) := ⟨⟨by decide +kernel, by decide +kernel⟩, List.mem_of_getElem? (i := 743) (by decide +kernel), List.mem_of_getElem? (i := 899) (by decide +kernel), List.mem_of_getElem? (i := 900) (by decide +kernel)⟩
theorem lw_p46 : lw_okq (⟨"PascalDeskModel", "statement", "(I)I"⟩, 40) := ⟨⟨by decide +kernel, by decide +kernel⟩, List.mem_of_getElem? (i := 743) (by decide +kernel), List.mem_of_getElem? (i := 903) (by decide +kernel), List.mem_of_getElem? (i := 904) (by decide +kernel)⟩
theorem lw_p47 : lw_okq (⟨"PascalDeskModel", "isWhole", "(I)Z"⟩, 40) := ⟨⟨by decide +kernel, by decide +kernel⟩, List.mem_of_getElem? (i := 743) (by decide +kernel), List.mem_of_getElem? (i := 907) (by decide +kernel), List.mem_of_getElem? (i := 908) (by decide +kernel)⟩
def lw_privs_3 : List (MethodName × Nat) := [(⟨"PascalDesk$Runner", "call", "(LPascalDesk$Strand;I)V"⟩, 12), (⟨"PascalDesk$Runner", "part", "(II)V"⟩, 12), (⟨"PascalDesk$Runner", "leastFree", "()I"⟩, 12), (⟨"PascalDesk$Calculator", "push", "(D)V"⟩, 3), (⟨"PascalDesk$Calculator", "load", "(I)V"⟩, 3), (⟨"PascalDesk$Runner", "leaveWhatIsOver", "()V"⟩, 12), (⟨"PascalDesk$Runner", "goOn", "(I)V"⟩, 12), (⟨"PascalDesk$Runner", "findsNext", "(LPascalDesk$Strand;)Z"⟩, 12), (⟨"PascalDesk$Runner", "leave", "(LPascalDesk$Strand;)I"⟩, 12), (⟨"PascalDeskModel", "read", "()I"⟩, 40), (⟨"PascalDeskModel", "emit", "(II)V"⟩, 40), (⟨"PascalDeskModel", "operand", "(Z)V"⟩, 40), (⟨"PascalDeskModel", "over", "()I"⟩, 40), (⟨"PascalDeskModel", "above", "()I"⟩, 40), (⟨"PascalDeskModel", "statement", "(I)I"⟩, 40), (⟨"PascalDeskModel", "isWhole", "(I)Z"⟩, 40)]
theorem lw_r3 : ∀ q ∈ lw_privs_3, lw_okq q := List.forall_mem_cons.mpr ⟨lw_p32, List.forall_mem_cons.mpr ⟨lw_p33, List.forall_mem_cons.mpr ⟨lw_p34, List.forall_mem_cons.mpr ⟨lw_p35, List.forall_mem_cons.mpr ⟨lw_p36, List.forall_mem_cons.mpr ⟨lw_p37, List.forall_mem_cons.mpr ⟨lw_p38, List.forall_mem_cons.mpr ⟨lw_p39, List.forall_mem_cons.mpr ⟨lw_p40, List.forall_mem_cons.mpr ⟨lw_p41, List.forall_mem_cons.mpr ⟨lw_p42, List.forall_mem_cons.mpr ⟨lw_p43, List.forall_mem_cons.mpr ⟨lw_p44, List.forall_mem_cons.mpr ⟨lw_p45, List.forall_mem_cons.mpr ⟨lw_p46, List.forall_mem_cons.mpr ⟨lw_p47, fun _ h => absurd h List.not_mem_nil⟩⟩⟩⟩⟩⟩⟩⟩⟩⟩⟩⟩⟩⟩⟩⟩
theorem lw_p48 : lw_okq (⟨"PascalDeskModel", "isReal", "(I)Z"⟩, 40) := ⟨⟨by decide +kernel, by decide +kernel⟩, List.mem_of_getElem? (i := 743) (by decide +kernel), List.mem_of_getElem? (i := 911) (by decide +kernel), List.mem_of_getElem? (i := 912) (by decide +kernel)⟩
theorem lw_p49 : lw_okq (⟨"PascalDeskModel", "push", "(I)V"⟩, 40) := ⟨⟨by decide +kernel, by decide +kernel⟩, List.mem_of_getElem? (i := 743) (by decide +kernel), List.mem_of_getElem? (i := 915) (by decide +kernel), List.mem_of_getElem? (i := 916) (by decide +kernel)⟩
theorem lw_p50 : lw_okq (⟨"PascalDeskModel", "unit", "(I)I"⟩, 40) := ⟨⟨by decide +kernel, by decide +kernel⟩, List.mem_of_getElem? (i := 743) (by decide +kernel), List.mem_of_getElem? (i := 919) (by decide +kernel), List.mem_of_getElem? (i := 920) (by decide +kernel)⟩
theorem lw_p51 : lw_okq (⟨"PascalDeskModel", "opened", "(I)I"⟩, 40) := ⟨⟨by decide +kernel, by decide +kernel⟩, List.mem_of_getElem? (i := 743) (by decide +kernel), List.mem_of_getElem? (i := 923) (by decide +kernel), List.mem_of_getElem? (i := 924) (by decide +kernel)⟩
theorem lw_p52 : lw_okq (⟨"PascalDeskModel", "rank", "(I)I"⟩, 40) := ⟨⟨by decide +kernel, by decide +kernel⟩, List.mem_of_getElem? (i := 743) (by decide +kernel), List.mem_of_getElem? (i := 927) (by decide +kernel), List.mem_of_getElem? (i := 928) (by decide +kernel)⟩
theorem lw_p53 : lw_okq (⟨"PascalDeskModel", "binary", "(I)I"⟩, 40) := ⟨⟨by decide +kernel, by decide +kernel⟩, List.mem_of_getElem? (i := 743) (by decide +kernel), List.mem_of_getElem? (i := 931) (by decide +kernel), List.mem_of_getElem? (i := 932) (by decide +kernel)⟩
theorem lw_p54 : lw_okq (⟨"PascalDeskModel", "reduce", "(I)V"⟩, 40) := ⟨⟨by decide +kernel, by decide +kernel⟩, List.mem_of_getElem? (i := 743) (by decide +kernel), List.mem_of_getElem? (i := 935) (by decide +kernel), List.mem_of_getElem? (i := 936) (by decide +kernel)⟩
theorem lw_p55 : lw_okq (⟨"PascalDeskModel", "closed", "(I)I"⟩, 40) := ⟨⟨by decide +kernel, by decide +kernel⟩, List.mem_of_getElem? (i := 743) (by decide +kernel), List.mem_of_getElem? (i := 939) (by decide +kernel), List.mem_of_getElem? (i := 940) (by decide +kernel)⟩
theorem lw_p56 : lw_okq (⟨"PascalDeskModel", "whole", "()V"⟩, 40) := ⟨⟨by decide +kernel, by decide +kernel⟩, List.mem_of_getElem? (i := 743) (by decide +kernel), List.mem_of_getElem? (i := 943) (by decide +kernel), List.mem_of_getElem? (i := 944) (by decide +kernel)⟩
theorem lw_p57 : lw_okq (⟨"PascalDeskModel", "ended", "(I)I"⟩, 40) := ⟨⟨by decide +kernel, by decide +kernel⟩, List.mem_of_getElem? (i := 743) (by decide +kernel), List.mem_of_getElem? (i := 947) (by decide +kernel), List.mem_of_getElem? (i := 948) (by decide +kernel)⟩
theorem lw_p58 : lw_okq (⟨"PascalDeskModel", "single", "(II)I"⟩, 40) := ⟨⟨by decide +kernel, by decide +kernel⟩, List.mem_of_getElem? (i := 743) (by decide +kernel), List.mem_of_getElem? (i := 951) (by decide +kernel), List.mem_of_getElem? (i := 952) (by decide +kernel)⟩
theorem lw_p59 : lw_okq (⟨"PascalDeskModel", "begin", "(II)V"⟩, 40) := ⟨⟨by decide +kernel, by decide +kernel⟩, List.mem_of_getElem? (i := 743) (by decide +kernel), List.mem_of_getElem? (i := 963) (by decide +kernel), List.mem_of_getElem? (i := 964) (by decide +kernel)⟩
theorem lw_p60 : lw_okq (⟨"PascalDeskModel", "processes", "()I"⟩, 40) := ⟨⟨by decide +kernel, by decide +kernel⟩, List.mem_of_getElem? (i := 743) (by decide +kernel), List.mem_of_getElem? (i := 967) (by decide +kernel), List.mem_of_getElem? (i := 968) (by decide +kernel)⟩
theorem lw_p61 : lw_okq (⟨"PascalDeskModel", "chosen", "(I)I"⟩, 40) := ⟨⟨by decide +kernel, by decide +kernel⟩, List.mem_of_getElem? (i := 743) (by decide +kernel), List.mem_of_getElem? (i := 971) (by decide +kernel), List.mem_of_getElem? (i := 972) (by decide +kernel)⟩
theorem lw_p62 : lw_okq (⟨"PascalDeskModel", "step", "(I)V"⟩, 40) := ⟨⟨by decide +kernel, by decide +kernel⟩, List.mem_of_getElem? (i := 743) (by decide +kernel), List.mem_of_getElem? (i := 975) (by decide +kernel), List.mem_of_getElem? (i := 976) (by decide +kernel)⟩
theorem lw_p63 : lw_okq (⟨"PascalDeskModel", "work", "(I)I"⟩, 40) := ⟨⟨by decide +kernel, by decide +kernel⟩, List.mem_of_getElem? (i := 743) (by decide +kernel), List.mem_of_getElem? (i := 979) (by decide +kernel), List.mem_of_getElem? (i := 980) (by decide +kernel)⟩
def lw_privs_4 : List (MethodName × Nat) := [(⟨"PascalDeskModel", "isReal", "(I)Z"⟩, 40), (⟨"PascalDeskModel", "push", "(I)V"⟩, 40), (⟨"PascalDeskModel", "unit", "(I)I"⟩, 40), (⟨"PascalDeskModel", "opened", "(I)I"⟩, 40), (⟨"PascalDeskModel", "rank", "(I)I"⟩, 40), (⟨"PascalDeskModel", "binary", "(I)I"⟩, 40), (⟨"PascalDeskModel", "reduce", "(I)V"⟩, 40), (⟨"PascalDeskModel", "closed", "(I)I"⟩, 40), (⟨"PascalDeskModel", "whole", "()V"⟩, 40), (⟨"PascalDeskModel", "ended", "(I)I"⟩, 40), (⟨"PascalDeskModel", "single", "(II)I"⟩, 40), (⟨"PascalDeskModel", "begin", "(II)V"⟩, 40), (⟨"PascalDeskModel", "processes", "()I"⟩, 40), (⟨"PascalDeskModel", "chosen", "(I)I"⟩, 40), (⟨"PascalDeskModel", "step", "(I)V"⟩, 40), (⟨"PascalDeskModel", "work", "(I)I"⟩, 40)]
theorem lw_r4 : ∀ q ∈ lw_privs_4, lw_okq q := List.forall_mem_cons.mpr ⟨lw_p48, List.forall_mem_cons.mpr ⟨lw_p49, List.forall_mem_cons.mpr ⟨lw_p50, List.forall_mem_cons.mpr ⟨lw_p51, List.forall_mem_cons.mpr ⟨lw_p52, List.forall_mem_cons.mpr ⟨lw_p53, List.forall_mem_cons.mpr ⟨lw_p54, List.forall_mem_cons.mpr ⟨lw_p55, List.forall_mem_cons.mpr ⟨lw_p56, List.forall_mem_cons.mpr ⟨lw_p57, List.forall_mem_cons.mpr ⟨lw_p58, List.forall_mem_cons.mpr ⟨lw_p59, List.forall_mem_cons.mpr ⟨lw_p60, List.forall_mem_cons.mpr ⟨lw_p61, List.forall_mem_cons.mpr ⟨lw_p62, List.forall_mem_cons.mpr ⟨lw_p63, fun _ h => absurd h List.not_mem_nil⟩⟩⟩⟩⟩⟩⟩⟩⟩⟩⟩⟩⟩⟩⟩⟩
theorem lw_p64 : lw_okq (⟨"PascalDeskModel", "number", "(IZDD)D"⟩, 40) := ⟨⟨by decide +kernel, by decide +kernel⟩, List.mem_of_getElem? (i := 743) (by decide +kernel), List.mem_of_getElem? (i := 984) (by decide +kernel), List.mem_of_getElem? (i := 985) (by decide +kernel)⟩
theorem lw_p65 : lw_okq (⟨"PascalDeskModel", "call", "(III)V"⟩, 40) := ⟨⟨by decide +kernel, by decide +kernel⟩, List.mem_of_getElem? (i := 743) (by decide +kernel), List.mem_of_getElem? (i := 990) (by decide +kernel), List.mem_of_getElem? (i := 991) (by decide +kernel)⟩
theorem lw_p66 : lw_okq (⟨"PascalDeskModel", "signal", "(I)V"⟩, 40) := ⟨⟨by decide +kernel, by decide +kernel⟩, List.mem_of_getElem? (i := 743) (by decide +kernel), List.mem_of_getElem? (i := 994) (by decide +kernel), List.mem_of_getElem? (i := 995) (by decide +kernel)⟩
theorem lw_p67 : lw_okq (⟨"PascalDeskModel", "settle", "(I)V"⟩, 40) := ⟨⟨by decide +kernel, by decide +kernel⟩, List.mem_of_getElem? (i := 743) (by decide +kernel), List.mem_of_getElem? (i := 998) (by decide +kernel), List.mem_of_getElem? (i := 999) (by decide +kernel)⟩
def lw_privs_5 : List (MethodName × Nat) := [(⟨"PascalDeskModel", "number", "(IZDD)D"⟩, 40), (⟨"PascalDeskModel", "call", "(III)V"⟩, 40), (⟨"PascalDeskModel", "signal", "(I)V"⟩, 40), (⟨"PascalDeskModel", "settle", "(I)V"⟩, 40)]
theorem lw_r5 : ∀ q ∈ lw_privs_5, lw_okq q := List.forall_mem_cons.mpr ⟨lw_p64, List.forall_mem_cons.mpr ⟨lw_p65, List.forall_mem_cons.mpr ⟨lw_p66, List.forall_mem_cons.mpr ⟨lw_p67, fun _ h => absurd h List.not_mem_nil⟩⟩⟩⟩
def lw_privs : List (MethodName × Nat) := lw_privs_1 ++ (lw_privs_2 ++ (lw_privs_3 ++ (lw_privs_4 ++ (lw_privs_5))))
def lw_tbl : List Cond := k2_sels lw_privs ++ tables_1
theorem lw_privs_ok : ∀ q ∈ lw_privs, lw_okq q := by
  show ∀ q ∈ lw_privs_1 ++ (lw_privs_2 ++ (lw_privs_3 ++ (lw_privs_4 ++ (lw_privs_5)))), lw_okq q
  exact List.forall_mem_append.mpr ⟨lw_r1, List.forall_mem_append.mpr ⟨lw_r2, List.forall_mem_append.mpr ⟨lw_r3, List.forall_mem_append.mpr ⟨lw_r4, lw_r5⟩⟩⟩⟩
end
section
/-! THE SMALL MACHINE. Values are the model's own, but that a reference is a small address (the machine's own count of cells), and the script is '.retAddr 0'. Cells lie in typed stores: address, slot. -/
/-- ints (and all that is an int), doubles, references, longs -/
abbrev mm_M : Type := (Nat → Nat → Int32) × (Nat → Nat → UInt64) × (Nat → Nat → Option Nat) × (Nat → Nat → Int64)
/-- what each cell is: an object of the class with that number, or an array of that type and length -/
abbrev mm_Sh : Type := List (Nat ⊕ (Nat × Nat))
/-- shapes, stores, how many throws there have been -/
abbrev mm_St : Type := mm_Sh × mm_M × Nat
/-- what a call comes to: a value or nothing, or a thrown class's number -/
abbrev mm_O : Type := (Option Value ⊕ Nat) × mm_St
abbrev mm_L : Type := List (Option Value)
def mm_u {α : Type} (f : Nat → Nat → α) (a k : Nat) (x : α) : Nat → Nat → α := fun b j => if b = a then (if j = k then x else f b j) else f b j
theorem mm_u_s {α : Type} (f : Nat → Nat → α) (a k : Nat) (x : α) : mm_u f a k x a k = x := by simp [mm_u]
theorem mm_u_a {α : Type} {f : Nat → Nat → α} {a k b j : Nat} {x : α} (h : b ≠ a) : mm_u f a k x b j = f b j := by simp [mm_u, h]
theorem mm_u_k {α : Type} {f : Nat → Nat → α} {a k b j : Nat} {x : α} (h : j ≠ k) : mm_u f a k x b j = f b j := by simp [mm_u, h]
def mm_c2 : Value → Bool
  | .long _ => true
  | .double _ => true
  | _ => false
def mm_o2 : Option Value → Bool
  | some v => mm_c2 v
  | none => false
/-- a local is set: what it covers is no more -/
def mm_sto : mm_L → Nat → Nat → Value → mm_L
  | [], _, _, _ => []
  | o :: L, j, i, v => cond (Nat.beq j i) (some v) (cond ((Nat.beq j (i + 1) && mm_c2 v) || (Nat.beq (j + 1) i && mm_o2 o)) none o) :: mm_sto L (j + 1) i v
/-- a local is forgotten (a caught exception goes there) -/
def mm_clr : mm_L → Nat → Nat → mm_L
  | [], _, _ => []
  | o :: L, j, i => cond (Nat.beq j i || (Nat.beq (j + 1) i && mm_o2 o)) none o :: mm_clr L (j + 1) i
def mm_ld (L : mm_L) (i : Nat) : Option Value := match L[i]? with
  | some o => o
  | none => none
/-- the locals at a method's begin -/
def mm_in : List Value → mm_L
  | [] => []
  | v :: vs => some v :: cond (mm_c2 v) (none :: mm_in vs) (mm_in vs)
def mm_pad : mm_L → Nat → mm_L
  | L, 0 => L
  | [], n + 1 => none :: mm_pad [] n
  | o :: L, n + 1 => o :: mm_pad L n
/-- kinds: 0 int, 1 double, 2 reference, 3 long, 4 boolean -/
def mm_rd (M : mm_M) (kd a k : Nat) : Value := match kd with
  | 1 => .double (M.2.1 a k)
  | 2 => va_rf (M.2.2.1 a k)
  | 3 => .long (M.2.2.2 a k)
  | _ => .int (M.1 a k)
/-- links of a class by pool index: (what, a, b, c)
 0 field: class a, field b, kind c · 1 instance method a with b arguments beside the receiver, of class c · 2 static method a with b arguments · 3 Object.<init> · 4 a class of ours (new): a · 5 a thrown class: a · 6 int constant · 7 long constant · 8 double constant · 10 constructor a with b arguments of class c · 14 static method a with b arguments that has handlers -/
abbrev mm_K : Type := Nat × Nat × Nat × Nat
/-- a method: decoded code by pc, links, handlers (from, to, target, pool index), how many locals, which ints it returns -/
abbrev mm_Me : Type := List (Option (Instr × Nat)) × (Nat → Option mm_K) × List (Nat × Nat × Nat × Nat) × Nat × Nat
abbrev mm_Me.dec (me : mm_Me) : List (Option (Instr × Nat)) := me.1
abbrev mm_Me.lk (me : mm_Me) : Nat → Option mm_K := me.2.1
abbrev mm_Me.hs (me : mm_Me) : List (Nat × Nat × Nat × Nat) := me.2.2.1
abbrev mm_Me.nL (me : mm_Me) : Nat := me.2.2.2.1
/-- what an int that is returned must be: 0 any, 1 a char, 4 a boolean -/
abbrev mm_Me.rk (me : mm_Me) : Nat := me.2.2.2.2
def mm_tg (pc : Nat) (off : Int) : Nat := ((pc : Int) + off).toNat
def mm_n64 (r : UInt64) : Bool := decide (r &&& 0x7fffffffffffffff ≤ 0x7ff0000000000000)
/-- where a method's frame stands: pc, locals, operand stack, all cells -/
abbrev mm_Z : Type := Nat × mm_L × List Value × mm_St
/-- what an instruction comes to: a next place, or the method's end -/
abbrev mm_N : Type := Option (mm_Z ⊕ mm_O)
abbrev mm_go (pc : Nat) (L : mm_L) (st : List Value) (S : mm_St) : mm_N := some (.inl (pc, L, st, S))
abbrev mm_end (o : Option Value ⊕ Nat) (S : mm_St) : mm_N := some (.inr (o, S))
def mm_tsw (x : Int32) (k : Int → mm_N) (d : Int) : Int → List Int → mm_N
  | _, [] => k d
  | lo, o :: os => if x = Int32.ofInt lo then k o else mm_tsw x k d (lo + 1) os
def mm_lsw (x : Int32) (k : Int → mm_N) (d : Int) : List (Int × Int) → mm_N
  | [] => k d
  | (a, o) :: os => if x = Int32.ofInt a then k o else mm_lsw x k d os
def mm_wt : List Value → Nat
  | [] => 0
  | v :: vs => cond (mm_c2 v) 2 1 + mm_wt vs
/-- takes n values off the stack, the last one first -/
def mm_pop : Nat → List Value → List Value → Option (List Value × List Value)
  | 0, acc, st => some (acc, st)
  | n + 1, acc, v :: st => mm_pop n (v :: acc) st
  | _ + 1, _, [] => none
def mm_z {α : Type} (f : Nat → Nat → α) (a : Nat) (d : α) : Nat → Nat → α := fun b j => if b = a then d else f b j
/-- a new cell -/
def mm_new (S : mm_St) (sh : Nat ⊕ (Nat × Nat)) : mm_St := (S.1 ++ [sh], (mm_z S.2.1.1 S.1.length 0, mm_z S.2.1.2.1 S.1.length 0, mm_z S.2.1.2.2.1 S.1.length none, mm_z S.2.1.2.2.2 S.1.length 0), S.2.2)
def mm_sI (S : mm_St) (a k : Nat) (x : Int32) : mm_St := (S.1, (mm_u S.2.1.1 a k x, S.2.1.2), S.2.2)
def mm_sD (S : mm_St) (a k : Nat) (x : UInt64) : mm_St := (S.1, (S.2.1.1, mm_u S.2.1.2.1 a k x, S.2.1.2.2), S.2.2)
def mm_sR (S : mm_St) (a k : Nat) (x : Option Nat) : mm_St := (S.1, (S.2.1.1, S.2.1.2.1, mm_u S.2.1.2.2.1 a k x, S.2.1.2.2.2), S.2.2)
def mm_sJ (S : mm_St) (a k : Nat) (x : Int64) : mm_St := (S.1, (S.2.1.1, S.2.1.2.1, S.2.1.2.2.1, mm_u S.2.1.2.2.2 a k x), S.2.2)
section MM
variable (call : Nat → List Value → mm_St → Option mm_O)
/-- a handler's row: its first instruction puts the exception away -/
def mm_hs (me : mm_Me) (pc : Nat) (L : mm_L) (E : Nat) (S : mm_St) : List (Nat × Nat × Nat × Nat) → mm_N
  | [] => none
  | (a, b, t, ix) :: hs => cond (Nat.ble a pc && Nat.ble (pc + 1) b) (match me.lk ix with
      | some (5, E', _, _) => cond (Nat.beq E E') (match me.dec[t]? with
          | some (some (.astore_n i, _)) => mm_go (t + 1) (mm_clr L 0 i) [] S
          | some (some (.astore i, _)) => mm_go (t + 2) (mm_clr L 0 i) [] S
          | _ => none) (mm_hs me pc L E S hs)
      | _ => none) (mm_hs me pc L E S hs)
def mm_back (me : mm_Me) (pc : Nat) (L : mm_L) (rest : List Value) (o : Option mm_O) : mm_N := match o with
  | none => none
  | some (.inl v, S) => mm_go (pc + 3) L (v.toList ++ rest) S
  | some (.inr E, S) => match me.hs with
    | [] => mm_end (.inr E) S
    | h :: hs => cond (Nat.ble (E + 1) 5) (mm_hs me pc L E S (h :: hs)) none
/-- an instance method or a constructor: j, n arguments, of class c -/
def mm_inv (me : mm_Me) (pc : Nat) (L : mm_L) (st : List Value) (S : mm_St) (j n c : Nat) : mm_N := match mm_pop n [] st with
  | some (as, .ref a :: rest) => match S.1[a]? with
    | some (.inl ci) => cond (Nat.beq ci c && Nat.ble (mm_wt rest) 8) (mm_back me pc L rest (call j (.ref a :: as) S)) none
    | _ => none
  | _ => none
def mm_invS (me : mm_Me) (pc : Nat) (L : mm_L) (st : List Value) (S : mm_St) (j n : Nat) : mm_N := match mm_pop n [] st with
  | some (as, rest) => cond (Nat.ble (mm_wt rest) 8) (mm_back me pc L rest (call j as S)) none
  | none => none
/-- a constructor's call: it doesn't throw -/
def mm_noT (r : mm_N) : mm_N := match r with
  | some (.inl z) => some (.inl z)
  | _ => none
def mm_getf (ck : Nat → List Nat) (pc : Nat) (L : mm_L) (st : List Value) (S : mm_St) (c k : Nat) : mm_N := match st with
  | .ref a :: r => match S.1[a]? with
    | some (.inl ci) => cond (Nat.beq ci c) (match (ck c)[k]? with
        | some kd => mm_go (pc + 3) L (mm_rd S.2.1 kd a k :: r) S
        | none => none) none
    | _ => none
  | _ => none
def mm_putv (pc : Nat) (L : mm_L) (r : List Value) (S : mm_St) (a k : Nat) (v : Value) (kd : Nat) : mm_N := match kd with
  | 0 => match v with
    | .int x => mm_go (pc + 3) L r (mm_sI S a k x)
    | _ => none
  | 1 => match v with
    | .double x => mm_go (pc + 3) L r (mm_sD S a k x)
    | _ => none
  | 2 => match v with
    | .ref x => mm_go (pc + 3) L r (mm_sR S a k (some x))
    | .null => mm_go (pc + 3) L r (mm_sR S a k none)
    | _ => none
  | 3 => match v with
    | .long x => mm_go (pc + 3) L r (mm_sJ S a k x)
    | _ => none
  | 4 => match v with
    | .int x => if x = 0 ∨ x = 1 then mm_go (pc + 3) L r (mm_sI S a k x) else none
    | _ => none
  | _ => none
def mm_putf (ck : Nat → List Nat) (pc : Nat) (L : mm_L) (st : List Value) (S : mm_St) (c k : Nat) : mm_N := match st with
  | v :: .ref a :: r => match S.1[a]? with
    | some (.inl ci) => cond (Nat.beq ci c) (match (ck c)[k]? with
        | some kd => mm_putv pc L r S a k v kd
        | none => none) none
    | _ => none
  | _ => none
def mm_icmp (c : ClassFile.Cond) (x y : Int32) (A B : mm_N) : mm_N := match c with
  | .eq => if x = y then A else B
  | .ne => if x = y then B else A
  | .lt => if x < y then A else B
  | .ge => if y ≤ x then A else B
  | .gt => if y < x then A else B
  | .le => if x ≤ y then A else B
/-- an index within -/
def mm_ix (i : Int32) (n : Nat) (A : mm_N) : mm_N := if i < 0 ∨ n ≤ i.toNatClampNeg then none else A
def mm_i (st : List Value) (f : Int32 → List Value → mm_N) : mm_N := match st with
  | .int x :: r => f x r
  | _ => none
def mm_ii (st : List Value) (f : Int32 → Int32 → List Value → mm_N) : mm_N := match st with
  | .int y :: .int x :: r => f x y r
  | _ => none
def mm_j (st : List Value) (f : Int64 → List Value → mm_N) : mm_N := match st with
  | .long x :: r => f x r
  | _ => none
def mm_jj (st : List Value) (f : Int64 → Int64 → List Value → mm_N) : mm_N := match st with
  | .long y :: .long x :: r => f x y r
  | _ => none
def mm_ji (st : List Value) (f : Int64 → Int32 → List Value → mm_N) : mm_N := match st with
  | .int y :: .long x :: r => f x y r
  | _ => none
def mm_d (st : List Value) (f : UInt64 → List Value → mm_N) : mm_N := match st with
  | .double x :: r => f x r
  | _ => none
def mm_dd (st : List Value) (f : UInt64 → UInt64 → List Value → mm_N) : mm_N := match st with
  | .double y :: .double x :: r => f x y r
  | _ => none
def mm_r (st : List Value) (f : Nat → List Value → mm_N) : mm_N := match st with
  | .ref a :: r => f a r
  | _ => none
def mm_1 (st : List Value) (f : Value → List Value → mm_N) : mm_N := match st with
  | v :: r => f v r
  | _ => none
def mm_2 (st : List Value) (f : Value → Value → List Value → mm_N) : mm_N := match st with
  | v :: w :: r => f v w r
  | _ => none
def mm_3 (st : List Value) (f : Value → Value → Value → List Value → mm_N) : mm_N := match st with
  | v :: w :: u :: r => f v w u r
  | _ => none
def mm_lI (L : mm_L) (n : Nat) (f : Int32 → mm_N) : mm_N := match mm_ld L n with
  | some (.int x) => f x
  | _ => none
def mm_lJ (L : mm_L) (n : Nat) (f : Int64 → mm_N) : mm_N := match mm_ld L n with
  | some (.long x) => f x
  | _ => none
def mm_lD (L : mm_L) (n : Nat) (f : UInt64 → mm_N) : mm_N := match mm_ld L n with
  | some (.double x) => f x
  | _ => none
def mm_lA (L : mm_L) (n : Nat) (f : Value → mm_N) : mm_N := match mm_ld L n with
  | some (.ref x) => f (.ref x)
  | some (.retAddr x) => f (.retAddr x)
  | _ => none
def mm_ty : FieldType → Nat
  | .int => 0
  | .char => 1
  | .double => 2
  | .long => 3
  | .boolean => 4
  | .object _ => 5
  | _ => 9
/-- the array at a: of the type with that code, of n places -/
def mm_ar (ak : Nat → FieldType) (S : mm_St) (a ty : Nat) (f : Nat → mm_N) : mm_N := match S.1[a]? with
  | some (.inr (t, n)) => cond (Nat.beq (mm_ty (ak t)) ty) (f n) none
  | _ => none
/-- .. and an index into it -/
def mm_ai (ak : Nat → FieldType) (S : mm_St) (st : List Value) (ty : Nat) (f : Int32 → Nat → List Value → mm_N) : mm_N := match st with
  | .int i :: .ref a :: r => mm_ar ak S a ty fun n => mm_ix i n (f i a r)
  | _ => none
/-- an object into an array of its class (types from 10 on: objects) -/
def mm_aas (ak : Nat → FieldType) (S : mm_St) (st : List Value) (f : Nat → Int32 → Nat → List Value → mm_N) : mm_N := match st with
  | .ref x :: .int i :: .ref a :: r => match S.1[x]? with
    | some (.inl ci) => match S.1[a]? with
      | some (.inr (t, n)) => cond (Nat.beq t (10 + ci) && Nat.beq (mm_ty (ak t)) 5) (mm_ix i n (f x i a r)) none
      | _ => none
    | _ => none
  | _ => none
def mm_lk (me : mm_Me) (ix : Nat) (f : mm_K → mm_N) : mm_N := match me.lk ix with
  | some k => f k
  | none => none
def mm_al (S : mm_St) (A : mm_N) : mm_N := match S.2.2 with
  | 0 => A
  | _ + 1 => none
def mm_ial (xs : Nat → Int32) (Ls : Nat) (ak : Nat → FieldType) (pc : Nat) (L : mm_L) (S : mm_St) (st : List Value) : mm_N := match st with
  | .int i :: .retAddr _ :: r => mm_ix i Ls (mm_go (pc + 1) L (.int (xs i.toNatClampNeg) :: r) S)
  | st => mm_ai ak S st 0 fun i a r => mm_go (pc + 1) L (.int (S.2.1.1 a i.toNatClampNeg) :: r) S
def mm_rI (me : mm_Me) (S : mm_St) (st : List Value) : mm_N := match st with
  | [.int x] => match me.rk with
    | 0 => mm_end (.inl (some (.int x))) S
    | 1 => if (x.toUInt32 % 65536).toInt32 = x then mm_end (.inl (some (.int x))) S else none
    | _ => if x = 0 ∨ x = 1 then mm_end (.inl (some (.int x))) S else none
  | _ => none
def mm_rJ (S : mm_St) (st : List Value) : mm_N := match st with
  | [.long x] => mm_end (.inl (some (.long x))) S
  | _ => none
def mm_rD (S : mm_St) (st : List Value) : mm_N := match st with
  | [.double x] => mm_end (.inl (some (.double x))) S
  | _ => none
def mm_rA (S : mm_St) (st : List Value) : mm_N := match st with
  | [.ref x] => mm_end (.inl (some (.ref x))) S
  | [.null] => mm_end (.inl (some .null)) S
  | _ => none
def mm_rV (S : mm_St) (st : List Value) : mm_N := match st with
  | [] => mm_end (.inl none) S
  | _ => none
def mm_do (xs : Nat → Int32) (Ls : Nat) (ck : Nat → List Nat) (ak : Nat → FieldType) (me : mm_Me) (pc : Nat) (L : mm_L) (st : List Value) (S : mm_St) (i : Instr) : mm_N := match i with
  | .iconst n => mm_go (pc + 1) L (.int (Int32.ofInt n) :: st) S
  | .bipush n => mm_go (pc + 2) L (.int (Int8.ofInt n).toInt32 :: st) S
  | .sipush n => mm_go (pc + 3) L (.int (Int16.ofInt n).toInt32 :: st) S
  | .lconst n => mm_go (pc + 1) L (.long (Int64.ofNat (n : Nat)) :: st) S
  | .dconst n => mm_go (pc + 1) L (.double (match n with | 0 => FP.dconst0 | 1 => FP.dconst1) :: st) S
  | .aconst_null => mm_go (pc + 1) L (.null :: st) S
  | .ldc ix => mm_lk me ix fun k => cond (Nat.beq k.1 6) (mm_go (pc + 2) L (.int (Int32.ofNat k.2.1) :: st) S) none
  | .ldc2_w ix => mm_lk me ix fun k => cond (Nat.beq k.1 7) (mm_go (pc + 3) L (.long (Int64.ofNat k.2.1) :: st) S) (cond (Nat.beq k.1 8) (mm_go (pc + 3) L (.double (UInt64.ofNat k.2.1) :: st) S) none)
  | .iload_n n => mm_lI L n fun x => mm_go (pc + 1) L (.int x :: st) S
  | .iload n => mm_lI L n fun x => mm_go (pc + 2) L (.int x :: st) S
  | .lload_n n => mm_lJ L n fun x => mm_go (pc + 1) L (.long x :: st) S
  | .lload n => mm_lJ L n fun x => mm_go (pc + 2) L (.long x :: st) S
  | .dload_n n => mm_lD L n fun x => mm_go (pc + 1) L (.double x :: st) S
  | .dload n => mm_lD L n fun x => mm_go (pc + 2) L (.double x :: st) S
  | .aload_n n => mm_lA L n fun v => mm_go (pc + 1) L (v :: st) S
  | .aload n => mm_lA L n fun v => mm_go (pc + 2) L (v :: st) S
  | .istore_n n => mm_i st fun x r => mm_go (pc + 1) (mm_sto L 0 n (.int x)) r S
  | .istore n => mm_i st fun x r => mm_go (pc + 2) (mm_sto L 0 n (.int x)) r S
  | .lstore_n n => mm_j st fun x r => mm_go (pc + 1) (mm_sto L 0 n (.long x)) r S
  | .lstore n => mm_j st fun x r => mm_go (pc + 2) (mm_sto L 0 n (.long x)) r S
  | .dstore_n n => mm_d st fun x r => mm_go (pc + 1) (mm_sto L 0 n (.double x)) r S
  | .dstore n => mm_d st fun x r => mm_go (pc + 2) (mm_sto L 0 n (.double x)) r S
  | .astore_n n => mm_r st fun x r => mm_go (pc + 1) (mm_sto L 0 n (.ref x)) r S
  | .astore n => mm_r st fun x r => mm_go (pc + 2) (mm_sto L 0 n (.ref x)) r S
  | .iinc n z => mm_lI L n fun x => mm_go (pc + 3) (mm_sto L 0 n (.int (x + Int32.ofInt z))) st S
  | .iadd => mm_ii st fun x y r => mm_go (pc + 1) L (.int (x + y) :: r) S
  | .isub => mm_ii st fun x y r => mm_go (pc + 1) L (.int (x - y) :: r) S
  | .imul => mm_ii st fun x y r => mm_go (pc + 1) L (.int (x * y) :: r) S
  | .idiv => mm_ii st fun x y r => if y = 0 then none else mm_go (pc + 1) L (.int (x / y) :: r) S
  | .irem => mm_ii st fun x y r => if y = 0 then none else mm_go (pc + 1) L (.int (x - x / y * y) :: r) S
  | .ineg => mm_i st fun x r => mm_go (pc + 1) L (.int (-x) :: r) S
  | .iand => mm_ii st fun x y r => mm_go (pc + 1) L (.int (x &&& y) :: r) S
  | .ior => mm_ii st fun x y r => mm_go (pc + 1) L (.int (x ||| y) :: r) S
  | .ixor => mm_ii st fun x y r => mm_go (pc + 1) L (.int (x ^^^ y) :: r) S
  | .ishl => mm_ii st fun x y r => mm_go (pc + 1) L (.int (x <<< (y &&& 31)) :: r) S
  | .ishr => mm_ii st fun x y r => mm_go (pc + 1) L (.int (x >>> (y &&& 31)) :: r) S
  | .iushr => mm_ii st fun x y r => mm_go (pc + 1) L (.int (x.toUInt32 >>> (y.toUInt32 &&& Int32.toUInt32 31)).toInt32 :: r) S
  | .ladd => mm_jj st fun x y r => mm_go (pc + 1) L (.long (x + y) :: r) S
  | .lsub => mm_jj st fun x y r => mm_go (pc + 1) L (.long (x - y) :: r) S
  | .land => mm_jj st fun x y r => mm_go (pc + 1) L (.long (x &&& y) :: r) S
  | .lor => mm_jj st fun x y r => mm_go (pc + 1) L (.long (x ||| y) :: r) S
  | .lushr => mm_ji st fun x y r => mm_go (pc + 1) L (.long (x.toUInt64 >>> (y.toInt64.toUInt64 &&& Int64.toUInt64 63)).toInt64 :: r) S
  | .lshr => mm_ji st fun x y r => mm_go (pc + 1) L (.long (x >>> (y.toInt64 &&& 63)) :: r) S
  | .lshl => mm_ji st fun x y r => mm_go (pc + 1) L (.long (x <<< (y.toInt64 &&& 63)) :: r) S
  | .i2l => mm_i st fun x r => mm_go (pc + 1) L (.long x.toInt64 :: r) S
  | .l2i => mm_j st fun x r => mm_go (pc + 1) L (.int x.toInt32 :: r) S
  | .i2c => mm_i st fun x r => mm_go (pc + 1) L (.int (x.toUInt32 % 65536).toInt32 :: r) S
  | .i2b => mm_i st fun x r => mm_go (pc + 1) L (.int x.toInt8.toInt32 :: r) S
  | .i2d => mm_i st fun x r => mm_go (pc + 1) L (.double (FP.i2d x) :: r) S
  | .d2i => mm_d st fun x r => mm_go (pc + 1) L (.int (FP.d2i x) :: r) S
  | .dadd => mm_dd st fun x y r => cond (mm_n64 (FP.dadd x y)) (mm_go (pc + 1) L (.double (FP.dadd x y) :: r) S) none
  | .dsub => mm_dd st fun x y r => cond (mm_n64 (FP.dsub x y)) (mm_go (pc + 1) L (.double (FP.dsub x y) :: r) S) none
  | .dmul => mm_dd st fun x y r => cond (mm_n64 (FP.dmul x y)) (mm_go (pc + 1) L (.double (FP.dmul x y) :: r) S) none
  | .ddiv => mm_dd st fun x y r => cond (mm_n64 (FP.ddiv x y)) (mm_go (pc + 1) L (.double (FP.ddiv x y) :: r) S) none
  | .dneg => mm_d st fun x r => mm_go (pc + 1) L (.double (FP.dneg x) :: r) S
  | .dcmp op => mm_dd st fun x y r => mm_go (pc + 1) L (.int (Op.cmpValue (FP.dcmp x y) op) :: r) S
  | .lcmp => mm_jj st fun x y r => mm_go (pc + 1) L (.int (lg_cmp x y) :: r) S
  | .dup => mm_1 st fun v r => cond (mm_c2 v) none (mm_go (pc + 1) L (v :: v :: r) S)
  | .pop => mm_1 st fun v r => cond (mm_c2 v) none (mm_go (pc + 1) L r S)
  | .dup_x1 => mm_2 st fun v w r => cond (mm_c2 v || mm_c2 w) none (mm_go (pc + 1) L (v :: w :: v :: r) S)
  | .dup_x2 => mm_3 st fun v w u r => cond (mm_c2 v || (mm_c2 w || mm_c2 u)) none (mm_go (pc + 1) L (v :: w :: u :: v :: r) S)
  | .dup2 => mm_2 st fun v w r => cond (mm_c2 v || mm_c2 w) none (mm_go (pc + 1) L (v :: w :: v :: w :: r) S)
  | .goto o => mm_go (mm_tg pc o) L st S
  | .ifCond c o => mm_i st fun x r => mm_icmp c x 0 (mm_go (mm_tg pc o) L r S) (mm_go (pc + 3) L r S)
  | .if_icmp c o => mm_ii st fun x y r => mm_icmp c x y (mm_go (mm_tg pc o) L r S) (mm_go (pc + 3) L r S)
  | .ifnull o => mm_1 st fun v r => match v with
    | .ref _ => mm_go (pc + 3) L r S
    | .null => mm_go (mm_tg pc o) L r S
    | _ => none
  | .ifnonnull o => mm_1 st fun v r => match v with
    | .ref _ => mm_go (mm_tg pc o) L r S
    | .null => mm_go (pc + 3) L r S
    | _ => none
  | .tableswitch d lo _ os => mm_i st fun x r => mm_tsw x (fun o => mm_go (mm_tg pc o) L r S) d lo os.toList
  | .lookupswitch d ps => mm_i st fun x r => mm_lsw x (fun o => mm_go (mm_tg pc o) L r S) d ps.toList
  | .getfield ix => mm_lk me ix fun k => cond (Nat.beq k.1 0) (mm_getf ck pc L st S k.2.1 k.2.2.1) none
  | .putfield ix => mm_lk me ix fun k => cond (Nat.beq k.1 0) (mm_putf ck pc L st S k.2.1 k.2.2.1) none
  | .arraylength => mm_1 st fun v r => match v with
    | .retAddr _ => mm_go (pc + 1) L (.int (Int32.ofNat Ls) :: r) S
    | .ref a => match S.1[a]? with
      | some (.inr (_, n)) => mm_go (pc + 1) L (.int (Int32.ofNat n) :: r) S
      | _ => none
    | _ => none
  | .iaload => mm_ial xs Ls ak pc L S st
  | .caload => mm_ai ak S st 1 fun i a r => mm_go (pc + 1) L (.int (S.2.1.1 a i.toNatClampNeg) :: r) S
  | .baload => mm_ai ak S st 4 fun i a r => mm_go (pc + 1) L (.int (S.2.1.1 a i.toNatClampNeg) :: r) S
  | .daload => mm_ai ak S st 2 fun i a r => mm_go (pc + 1) L (.double (S.2.1.2.1 a i.toNatClampNeg) :: r) S
  | .laload => mm_ai ak S st 3 fun i a r => mm_go (pc + 1) L (.long (S.2.1.2.2.2 a i.toNatClampNeg) :: r) S
  | .aaload => mm_ai ak S st 5 fun i a r => mm_go (pc + 1) L (va_rf (S.2.1.2.2.1 a i.toNatClampNeg) :: r) S
  | .iastore => mm_i st fun x st => mm_ai ak S st 0 fun i a r => mm_go (pc + 1) L r (mm_sI S a i.toNatClampNeg x)
  | .castore => mm_i st fun x st => mm_ai ak S st 1 fun i a r => mm_go (pc + 1) L r (mm_sI S a i.toNatClampNeg (vp_nar .char x))
  | .bastore => mm_i st fun x st => mm_ai ak S st 4 fun i a r => mm_go (pc + 1) L r (mm_sI S a i.toNatClampNeg (vp_nar .boolean x))
  | .dastore => mm_d st fun x st => mm_ai ak S st 2 fun i a r => mm_go (pc + 1) L r (mm_sD S a i.toNatClampNeg x)
  | .lastore => mm_j st fun x st => mm_ai ak S st 3 fun i a r => mm_go (pc + 1) L r (mm_sJ S a i.toNatClampNeg x)
  | .aastore => mm_aas ak S st fun x i a r => mm_go (pc + 1) L r (mm_sR S a i.toNatClampNeg (some x))
  | .new ix => mm_lk me ix fun k => cond (Nat.beq k.1 4) (mm_al S (mm_go (pc + 3) L (.ref S.1.length :: st) (mm_new S (.inl k.2.1)))) (cond (Nat.beq k.1 5 && Nat.ble (mm_wt st) 8) (match me.hs with
      | [] => mm_end (.inr k.2.1) (S.1, S.2.1, S.2.2 + 1)
      | _ :: _ => none) none)
  | .newarray t => mm_i st fun n r => mm_al S (if n < 0 then none else match t with
    | .int => mm_go (pc + 2) L (.ref S.1.length :: r) (mm_new S (.inr (0, n.toNatClampNeg)))
    | .char => mm_go (pc + 2) L (.ref S.1.length :: r) (mm_new S (.inr (1, n.toNatClampNeg)))
    | .double => mm_go (pc + 2) L (.ref S.1.length :: r) (mm_new S (.inr (2, n.toNatClampNeg)))
    | .long => mm_go (pc + 2) L (.ref S.1.length :: r) (mm_new S (.inr (3, n.toNatClampNeg)))
    | .boolean => mm_go (pc + 2) L (.ref S.1.length :: r) (mm_new S (.inr (4, n.toNatClampNeg)))
    | _ => none)
  | .anewarray ix => mm_i st fun n r => mm_lk me ix fun k => cond (Nat.beq k.1 4) (mm_al S (if n < 0 then none else mm_go (pc + 3) L (.ref S.1.length :: r) (mm_new S (.inr (10 + k.2.1, n.toNatClampNeg))))) none
  | .invokevirtual ix => mm_lk me ix fun k => cond (Nat.beq k.1 1) (mm_inv call me pc L st S k.2.1 k.2.2.1 k.2.2.2) none
  | .invokespecial ix => mm_lk me ix fun k => cond (Nat.beq k.1 10) (mm_noT (mm_inv call me pc L st S k.2.1 k.2.2.1 k.2.2.2)) (cond (Nat.beq k.1 3) (mm_r st fun _ r => cond (Nat.ble (mm_wt r) 8) (mm_go (pc + 3) L r S) none) none)
  | .invokestatic ix => mm_lk me ix fun k => cond (Nat.beq k.1 2) (mm_invS call me pc L st S k.2.1 k.2.2.1) (cond (Nat.beq k.1 14) (mm_noT (mm_invS call me pc L st S k.2.1 k.2.2.1)) none)
  | .ireturn => mm_rI me S st
  | .lreturn => mm_rJ S st
  | .dreturn => mm_rD S st
  | .areturn => mm_rA S st
  | .return_ => mm_rV S st
  | _ => none
def mm_step (xs : Nat → Int32) (Ls : Nat) (ck : Nat → List Nat) (ak : Nat → FieldType) (me : mm_Me) (z : mm_Z) : mm_N := match me.dec[z.1]? with
  | some (some i) => mm_do call xs Ls ck ak me z.1 z.2.1 z.2.2.1 z.2.2.2 i.1
  | _ => none
end MM
/-- n instructions of a method at most -/
def mm_ex (nx : mm_Z → mm_N) : Nat → mm_Z → Option mm_O
  | 0 => fun _ => none
  | n + 1 => fun z => match nx z with
    | some (.inl z') => mm_ex nx n z'
    | some (.inr o) => some o
    | none => none
theorem mm_ex_go {nx : mm_Z → mm_N} {n : Nat} {z z' : mm_Z} (h : nx z = some (.inl z')) : mm_ex nx (n + 1) z = mm_ex nx n z' := by
  show (match nx z with
    | some (.inl z') => mm_ex nx n z'
    | some (.inr o) => some o
    | none => none) = _
  rw [h]
theorem mm_ex_end {nx : mm_Z → mm_N} {n : Nat} {z : mm_Z} {o : mm_O} (h : nx z = some (.inr o)) : mm_ex nx (n + 1) z = some o := by
  show (match nx z with
    | some (.inl z') => mm_ex nx n z'
    | some (.inr o) => some o
    | none => none) = _
  rw [h]
/-- it comes to o -/
def mm_R (nx : mm_Z → mm_N) (z : mm_Z) (o : mm_O) : Prop := ∃ n, mm_ex nx n z = some o
theorem mm_R.go {nx : mm_Z → mm_N} {z z' : mm_Z} {o : mm_O} (h : nx z = some (.inl z')) (k : mm_R nx z' o) : mm_R nx z o := by
  obtain ⟨n, hn⟩ := k
  exact ⟨n + 1, by rw [mm_ex_go h]; exact hn⟩
theorem mm_R.end {nx : mm_Z → mm_N} {z : mm_Z} {o : mm_O} (h : nx z = some (.inr o)) : mm_R nx z o := ⟨1, mm_ex_end h⟩
/-- by the instruction that stands there -/
theorem mm_R.cs {nx : mm_Z → mm_N} {z : mm_Z} {o : mm_O} (h : mm_R nx z o) : (∃ z', nx z = some (.inl z') ∧ mm_R nx z' o) ∨ nx z = some (.inr o) := by
  obtain ⟨n, hn⟩ := h
  cases n with
  | zero => cases hn
  | succ n =>
    cases hz : nx z with
    | none =>
      rw [show mm_ex nx (n + 1) z = none by
        show (match nx z with
          | some (.inl z') => mm_ex nx n z'
          | some (.inr o) => some o
          | none => none) = _
        rw [hz]] at hn
      cases hn
    | some r =>
      cases r with
      | inl z' => exact Or.inl ⟨z', rfl, n, by rw [← mm_ex_go hz]; exact hn⟩
      | inr o' =>
        rw [mm_ex_end hz] at hn
        cases hn
        exact Or.inr rfl
theorem mm_R.one {nx : mm_Z → mm_N} : ∀ (n : Nat) (z : mm_Z) (o o' : mm_O), mm_ex nx n z = some o → mm_R nx z o' → o = o' := by
  intro n
  induction n with
  | zero => intro z o o' h; cases h
  | succ n ih =>
    intro z o o' h h'
    rcases h'.cs with ⟨z', hz, hr⟩ | hz
    · rw [mm_ex_go hz] at h
      exact ih z' o o' h hr
    · rw [mm_ex_end hz] at h
      exact (Option.some.inj h).symm
theorem mm_R.det {nx : mm_Z → mm_N} {z : mm_Z} {o o' : mm_O} (h : mm_R nx z o) (h' : mm_R nx z o') : o = o' := by
  obtain ⟨n, hn⟩ := h
  exact mm_R.one n z o o' hn h'
section
variable (xs : Nat → Int32) (Ls : Nat) (ck : Nat → List Nat) (ak : Nat → FieldType) (me : Nat → mm_Me)
/-- a call of the method j, d frames deep at most -/
noncomputable def mm_ev : Nat → Nat → List Value → mm_St → Option mm_O
  | 0 => fun _ _ _ => none
  | d + 1 => fun j as S => Classical.epsilon (fun r : Option mm_O => ∀ o, r = some o ↔ (mm_wt as ≤ (me j).nL ∧ mm_R (mm_step (mm_ev d) xs Ls ck ak (me j)) (0, mm_pad (mm_in as) (me j).nL, [], S) o))
theorem mm_ev_iff {d j : Nat} {as : List Value} {S : mm_St} {o : mm_O} : mm_ev xs Ls ck ak me (d + 1) j as S = some o ↔ (mm_wt as ≤ (me j).nL ∧ mm_R (mm_step (mm_ev xs Ls ck ak me d) xs Ls ck ak (me j)) (0, mm_pad (mm_in as) (me j).nL, [], S) o) := by
  have h : ∃ r : Option mm_O, ∀ o, r = some o ↔ (mm_wt as ≤ (me j).nL ∧ mm_R (mm_step (mm_ev xs Ls ck ak me d) xs Ls ck ak (me j)) (0, mm_pad (mm_in as) (me j).nL, [], S) o) := by
    by_cases hh : ∃ o, mm_wt as ≤ (me j).nL ∧ mm_R (mm_step (mm_ev xs Ls ck ak me d) xs Ls ck ak (me j)) (0, mm_pad (mm_in as) (me j).nL, [], S) o
    · obtain ⟨o1, h0, h1⟩ := hh
      exact ⟨some o1, fun o => ⟨fun e => by rw [← Option.some.inj e]; exact ⟨h0, h1⟩, fun h2 => by rw [h1.det h2.2]⟩⟩
    · exact ⟨none, fun o => ⟨fun e => (by cases e), fun h2 => absurd ⟨o, h2⟩ hh⟩⟩
  exact Classical.epsilon_spec h o
end
end
section
/-! THE SMALL MACHINE AND THE HEAP: a small address a is the cell B + a; the script is the cell b -/
def mm_v (B b : Nat) : Value → Value
  | .ref a => .ref (B + a)
  | .retAddr _ => .ref b
  | v => v
theorem mm_v_cat (B b : Nat) (v : Value) : (mm_v B b v).category = cond (mm_c2 v) 2 1 := by cases v <;> rfl
theorem mm_v_rf (B b : Nat) (r : Option Nat) : mm_v B b (va_rf r) = va_rf (r.map (B + ·)) := by cases r <;> rfl
theorem mm_wt_eq (B b : Nat) (st : List Value) : ((st.map (mm_v B b)).map fun v => v.category).sum = mm_wt st := by
  induction st with
  | nil => rfl
  | cons v vs ih =>
    simp only [List.map_cons, List.sum_cons, mm_v_cat, mm_wt] at ih ⊢
    rw [ih]
def mm_fs (M : mm_M) (B b a : Nat) (kds : List Nat) : List Value := (List.range kds.length).map fun k => mm_v B b (mm_rd M (kds.getD k 0) a k)
theorem mm_fs_at {M : mm_M} {B b a : Nat} {kds : List Nat} {k kd : Nat} (h : kds[k]? = some kd) : (mm_fs M B b a kds)[k]? = some (mm_v B b (mm_rd M kd a k)) := by
  have hk : k < kds.length := (List.getElem?_eq_some_iff.mp h).1
  have e : kds[k] = kd := (List.getElem?_eq_some_iff.mp h).2
  simp [mm_fs, hk, e]
theorem mm_fs_len (M : mm_M) (B b a : Nat) (kds : List Nat) : (mm_fs M B b a kds).length = kds.length := by simp [mm_fs]
/-- only what lies at the address a tells -/
theorem mm_fs_eq {M M' : mm_M} {B b a : Nat} {kds : List Nat} (h : ∀ k kd, kds[k]? = some kd → mm_rd M' kd a k = mm_rd M kd a k) : mm_fs M' B b a kds = mm_fs M B b a kds := by
  refine List.ext_getElem? fun i => ?_
  by_cases hi : i < kds.length
  · have e := List.getElem?_eq_getElem hi
    rw [mm_fs_at e, mm_fs_at e, h i _ e]
  · rw [List.getElem?_eq_none (by rw [mm_fs_len]; omega), List.getElem?_eq_none (by rw [mm_fs_len]; omega)]
theorem mm_fs_set {M M' : mm_M} {B b a : Nat} {kds : List Nat} {k kd : Nat} {v : Value} (hk : kds[k]? = some kd) (hv : mm_rd M' kd a k = v) (h : ∀ j kj, j ≠ k → kds[j]? = some kj → mm_rd M' kj a j = mm_rd M kj a j) :
    mm_fs M' B b a kds = (mm_fs M B b a kds).set k (mm_v B b v) := by
  have hlt : k < kds.length := (List.getElem?_eq_some_iff.mp hk).1
  refine List.ext_getElem? fun i => ?_
  rw [List.getElem?_set]
  by_cases hi : i < kds.length
  · have e := List.getElem?_eq_getElem hi
    by_cases hik : k = i
    · subst hik
      rw [if_pos rfl, if_pos (by rw [mm_fs_len]; exact hlt), mm_fs_at hk, hv]
    · rw [if_neg hik, mm_fs_at e, mm_fs_at e, h i _ (Ne.symm hik) e]
  · rw [if_neg (by omega), List.getElem?_eq_none (by rw [mm_fs_len]; omega), List.getElem?_eq_none (by rw [mm_fs_len]; omega)]
def mm_arr (ty : FieldType) (M : mm_M) (B a : Nat) : (Nat → Int32) ⊕ (Nat → Int64) ⊕ (Nat → UInt32) ⊕ (Nat → UInt64) ⊕ (Nat → Option Nat) := match ty with
  | .double => .inr (.inr (.inr (.inl (M.2.1 a))))
  | .long => .inr (.inl (M.2.2.2 a))
  | .object _ => .inr (.inr (.inr (.inr (fun j => (M.2.2.1 a j).map (B + ·)))))
  | _ => .inl (M.1 a)
section REL
variable (ck : Nat → List Nat) (ak : Nat → FieldType) (dA : Nat → ClassId) (B b : Nat)
def mm_cell (M : mm_M) (a : Nat) : Nat ⊕ (Nat × Nat) → va_E
  | .inl ci => .inr (ci, mm_fs M B b a (ck ci))
  | .inr (t, n) => .inl (dA t, n, mm_arr (ak t) M B a)
def mm_ws (Sh : mm_Sh) (M : mm_M) : va_W := (List.range Sh.length).map fun a => (B + a, mm_cell ck ak dA B b M a (Sh.getD a (.inl 0)))
variable {ck ak dA B b}
theorem mm_ws_at {Sh : mm_Sh} {M : mm_M} {a : Nat} {sh : Nat ⊕ (Nat × Nat)} (h : Sh[a]? = some sh) : (mm_ws ck ak dA B b Sh M)[a]? = some (B + a, mm_cell ck ak dA B b M a sh) := by
  have ha : a < Sh.length := (List.getElem?_eq_some_iff.mp h).1
  have e : Sh[a] = sh := (List.getElem?_eq_some_iff.mp h).2
  simp [mm_ws, ha, e]
theorem mm_ws_len (Sh : mm_Sh) (M : mm_M) : (mm_ws ck ak dA B b Sh M).length = Sh.length := by simp [mm_ws]
theorem mm_ws_of {Sh : mm_Sh} {M : mm_M} {a : Nat} {q : Nat × va_E} (h : (mm_ws ck ak dA B b Sh M)[a]? = some q) : q.1 = B + a ∧ a < Sh.length := by
  have ha : a < Sh.length := by
    have := (List.getElem?_eq_some_iff.mp h).1
    rwa [mm_ws_len] at this
  rw [mm_ws_at (List.getElem?_eq_getElem ha)] at h
  cases h
  exact ⟨rfl, ha⟩
theorem mm_ws_D {A : Nat → Prop} (hA : ∀ q, B ≤ q → A q) (Sh : mm_Sh) (M : mm_M) : va_D A (mm_ws ck ak dA B b Sh M) := by
  refine ⟨fun i j p q hp hq he => ?_, fun k q hk => ?_⟩
  · have h1 := (mm_ws_of hp).1
    have h2 := (mm_ws_of hq).1
    omega
  · exact hA _ (by have := (mm_ws_of hk).1; omega)
/-- a cell's change -/
theorem mm_ws_set {Sh : mm_Sh} {M M' : mm_M} {a : Nat} {sh : Nat ⊕ (Nat × Nat)} {e : va_E} (ha : Sh[a]? = some sh) (he : mm_cell ck ak dA B b M' a sh = e)
    (h : ∀ c, c ≠ a → ∀ sc, Sh[c]? = some sc → mm_cell ck ak dA B b M' c sc = mm_cell ck ak dA B b M c sc) : mm_ws ck ak dA B b Sh M' = (mm_ws ck ak dA B b Sh M).set a (B + a, e) := by
  have hlt : a < Sh.length := (List.getElem?_eq_some_iff.mp ha).1
  refine List.ext_getElem? fun i => ?_
  rw [List.getElem?_set]
  by_cases hi : i < Sh.length
  · have e0 := List.getElem?_eq_getElem hi
    by_cases hia : a = i
    · subst hia
      rw [if_pos rfl, if_pos (by rw [mm_ws_len]; exact hlt), mm_ws_at ha, he]
    · rw [if_neg hia, mm_ws_at e0, mm_ws_at e0, h i (Ne.symm hia) _ e0]
  · rw [if_neg (by omega), List.getElem?_eq_none (by rw [mm_ws_len]; omega), List.getElem?_eq_none (by rw [mm_ws_len]; omega)]
/-- stores that agree at an address -/
def mm_ag (M M' : mm_M) (c : Nat) : Prop := M'.1 c = M.1 c ∧ M'.2.1 c = M.2.1 c ∧ M'.2.2.1 c = M.2.2.1 c ∧ M'.2.2.2 c = M.2.2.2 c
theorem mm_rd_ag {M M' : mm_M} {c : Nat} (h : mm_ag M M' c) (kd k : Nat) : mm_rd M' kd c k = mm_rd M kd c k := by
  obtain ⟨h1, h2, h3, h4⟩ := h
  unfold mm_rd
  split <;> simp [h1, h2, h3, h4]
theorem mm_cell_ag {M M' : mm_M} {c : Nat} (h : mm_ag M M' c) (sc : Nat ⊕ (Nat × Nat)) : mm_cell ck ak dA B b M' c sc = mm_cell ck ak dA B b M c sc := by
  cases sc with
  | inl ci => simp only [mm_cell]; rw [mm_fs_eq fun k kd _ => mm_rd_ag h kd k]
  | inr tn =>
    obtain ⟨t, n⟩ := tn
    obtain ⟨h1, h2, h3, h4⟩ := h
    simp only [mm_cell, mm_arr, h1, h2, h3, h4]
theorem mm_u_ag {α : Type} {f : Nat → Nat → α} {a k c : Nat} {x : α} (h : c ≠ a) : mm_u f a k x c = f c := by
  funext j
  exact mm_u_a h
theorem mm_z_ag {α : Type} {f : Nat → Nat → α} {a c : Nat} {d : α} (h : c ≠ a) : mm_z f a d c = f c := by
  funext j
  simp [mm_z, h]
theorem mm_sI_ag {S : mm_St} {a k c : Nat} {x : Int32} (h : c ≠ a) : mm_ag S.2.1 (mm_sI S a k x).2.1 c := ⟨mm_u_ag h, rfl, rfl, rfl⟩
theorem mm_sD_ag {S : mm_St} {a k c : Nat} {x : UInt64} (h : c ≠ a) : mm_ag S.2.1 (mm_sD S a k x).2.1 c := ⟨rfl, mm_u_ag h, rfl, rfl⟩
theorem mm_sR_ag {S : mm_St} {a k c : Nat} {x : Option Nat} (h : c ≠ a) : mm_ag S.2.1 (mm_sR S a k x).2.1 c := ⟨rfl, rfl, mm_u_ag h, rfl⟩
theorem mm_sJ_ag {S : mm_St} {a k c : Nat} {x : Int64} (h : c ≠ a) : mm_ag S.2.1 (mm_sJ S a k x).2.1 c := ⟨rfl, rfl, rfl, mm_u_ag h⟩
/-- a field is set -/
theorem mm_ws_f {S : mm_St} {M' : mm_M} {a ci k kd : Nat} {v : Value} (ha : S.1[a]? = some (.inl ci)) (hk : (ck ci)[k]? = some kd) (hv : mm_rd M' kd a k = v) (hj : ∀ j kj, j ≠ k → mm_rd M' kj a j = mm_rd S.2.1 kj a j) (hag : ∀ c, c ≠ a → mm_ag S.2.1 M' c) :
    mm_ws ck ak dA B b S.1 M' = (mm_ws ck ak dA B b S.1 S.2.1).set a (B + a, .inr (ci, (mm_fs S.2.1 B b a (ck ci)).set k (mm_v B b v))) :=
  mm_ws_set ha (by simp only [mm_cell]; rw [mm_fs_set hk hv fun j kj hjk _ => hj j kj hjk]) fun c hc sc _ => mm_cell_ag (hag c hc) sc
theorem mm_u_row (f : Nat → Nat → Int32) (a k : Nat) (x : Int32) : mm_u f a k x a = upd (f a) k x := by
  funext j
  simp [mm_u, upd]
theorem mm_u_rowD (f : Nat → Nat → UInt64) (a k : Nat) (x : UInt64) : mm_u f a k x a = vf_upd (f a) k x := by
  funext j
  simp [mm_u, vf_upd]
theorem mm_u_rowJ (f : Nat → Nat → Int64) (a k : Nat) (x : Int64) : mm_u f a k x a = vp_updL (f a) k x := by
  funext j
  simp [mm_u, vp_updL]
theorem mm_u_rowR (f : Nat → Nat → Option Nat) (a k : Nat) (x : Option Nat) : (fun j => (mm_u f a k x a j).map (B + ·)) = va_up (fun j => (f a j).map (B + ·)) k (x.map (B + ·)) := by
  funext j
  by_cases h : j = k <;> simp [mm_u, va_up, h]
end REL
end
section
/-! ONE INSTRUCTION -/
def mm_len : Instr → Nat
  | .bipush _ | .iload _ | .lload _ | .dload _ | .aload _ | .istore _ | .lstore _ | .dstore _ | .astore _ | .ldc _ | .newarray _ => 2
  | .sipush _ | .ldc2_w _ | .ldc_w _ | .iinc _ _ | .goto _ | .ifCond _ _ | .if_icmp _ _ | .ifnull _ | .ifnonnull _ | .getfield _ | .putfield _ | .new _ | .anewarray _ | .invokevirtual _ | .invokespecial _ | .invokestatic _ => 3
  | .tableswitch _ _ _ _ | .lookupswitch _ _ => 0
  | _ => 1
def mm_offs : Instr → List Int
  | .goto o => [o]
  | .ifCond _ o => [o]
  | .if_icmp _ o => [o]
  | .ifnull o => [o]
  | .ifnonnull o => [o]
  | .tableswitch d _ _ os => d :: os.toList
  | .lookupswitch d ps => d :: ps.toList.map (·.2)
  | _ => []
theorem mm_tg_eq {pc : Nat} {o : Int} (h : 0 ≤ (pc : Int) + o) : (pc : Int) + o = (mm_tg pc o : Int) := (Int.toNat_of_nonneg h).symm
theorem mm_i_inv {st : List Value} {f : Int32 → List Value → mm_N} {z : mm_Z ⊕ mm_O} (h : mm_i st f = some z) : ∃ x r, st = .int x :: r ∧ f x r = some z := by
  unfold mm_i at h
  split at h
  · exact ⟨_, _, rfl, h⟩
  · cases h
theorem mm_ii_inv {st : List Value} {f : Int32 → Int32 → List Value → mm_N} {z : mm_Z ⊕ mm_O} (h : mm_ii st f = some z) : ∃ x y r, st = .int y :: .int x :: r ∧ f x y r = some z := by
  unfold mm_ii at h
  split at h
  · exact ⟨_, _, _, rfl, h⟩
  · cases h
theorem mm_j_inv {st : List Value} {f : Int64 → List Value → mm_N} {z : mm_Z ⊕ mm_O} (h : mm_j st f = some z) : ∃ x r, st = .long x :: r ∧ f x r = some z := by
  unfold mm_j at h
  split at h
  · exact ⟨_, _, rfl, h⟩
  · cases h
theorem mm_jj_inv {st : List Value} {f : Int64 → Int64 → List Value → mm_N} {z : mm_Z ⊕ mm_O} (h : mm_jj st f = some z) : ∃ x y r, st = .long y :: .long x :: r ∧ f x y r = some z := by
  unfold mm_jj at h
  split at h
  · exact ⟨_, _, _, rfl, h⟩
  · cases h
theorem mm_ji_inv {st : List Value} {f : Int64 → Int32 → List Value → mm_N} {z : mm_Z ⊕ mm_O} (h : mm_ji st f = some z) : ∃ x y r, st = .int y :: .long x :: r ∧ f x y r = some z := by
  unfold mm_ji at h
  split at h
  · exact ⟨_, _, _, rfl, h⟩
  · cases h
theorem mm_d_inv {st : List Value} {f : UInt64 → List Value → mm_N} {z : mm_Z ⊕ mm_O} (h : mm_d st f = some z) : ∃ x r, st = .double x :: r ∧ f x r = some z := by
  unfold mm_d at h
  split at h
  · exact ⟨_, _, rfl, h⟩
  · cases h
theorem mm_dd_inv {st : List Value} {f : UInt64 → UInt64 → List Value → mm_N} {z : mm_Z ⊕ mm_O} (h : mm_dd st f = some z) : ∃ x y r, st = .double y :: .double x :: r ∧ f x y r = some z := by
  unfold mm_dd at h
  split at h
  · exact ⟨_, _, _, rfl, h⟩
  · cases h
theorem mm_r_inv {st : List Value} {f : Nat → List Value → mm_N} {z : mm_Z ⊕ mm_O} (h : mm_r st f = some z) : ∃ a r, st = .ref a :: r ∧ f a r = some z := by
  unfold mm_r at h
  split at h
  · exact ⟨_, _, rfl, h⟩
  · cases h
theorem mm_1_inv {st : List Value} {f : Value → List Value → mm_N} {z : mm_Z ⊕ mm_O} (h : mm_1 st f = some z) : ∃ v r, st = v :: r ∧ f v r = some z := by
  unfold mm_1 at h
  split at h
  · exact ⟨_, _, rfl, h⟩
  · cases h
theorem mm_2_inv {st : List Value} {f : Value → Value → List Value → mm_N} {z : mm_Z ⊕ mm_O} (h : mm_2 st f = some z) : ∃ v w r, st = v :: w :: r ∧ f v w r = some z := by
  unfold mm_2 at h
  split at h
  · exact ⟨_, _, _, rfl, h⟩
  · cases h
theorem mm_3_inv {st : List Value} {f : Value → Value → Value → List Value → mm_N} {z : mm_Z ⊕ mm_O} (h : mm_3 st f = some z) : ∃ v w u r, st = v :: w :: u :: r ∧ f v w u r = some z := by
  unfold mm_3 at h
  split at h
  · exact ⟨_, _, _, _, rfl, h⟩
  · cases h
theorem mm_lI_inv {L : mm_L} {n : Nat} {f : Int32 → mm_N} {z : mm_Z ⊕ mm_O} (h : mm_lI L n f = some z) : ∃ x, mm_ld L n = some (.int x) ∧ f x = some z := by
  unfold mm_lI at h
  split at h
  next hx => exact ⟨_, hx, h⟩
  next => cases h
theorem mm_lJ_inv {L : mm_L} {n : Nat} {f : Int64 → mm_N} {z : mm_Z ⊕ mm_O} (h : mm_lJ L n f = some z) : ∃ x, mm_ld L n = some (.long x) ∧ f x = some z := by
  unfold mm_lJ at h
  split at h
  next hx => exact ⟨_, hx, h⟩
  next => cases h
theorem mm_lD_inv {L : mm_L} {n : Nat} {f : UInt64 → mm_N} {z : mm_Z ⊕ mm_O} (h : mm_lD L n f = some z) : ∃ x, mm_ld L n = some (.double x) ∧ f x = some z := by
  unfold mm_lD at h
  split at h
  next hx => exact ⟨_, hx, h⟩
  next => cases h
theorem mm_lA_inv {L : mm_L} {n : Nat} {f : Value → mm_N} {z : mm_Z ⊕ mm_O} (h : mm_lA L n f = some z) : (∃ x, mm_ld L n = some (.ref x) ∧ f (.ref x) = some z) ∨ (∃ x, mm_ld L n = some (.retAddr x) ∧ f (.retAddr x) = some z) := by
  unfold mm_lA at h
  split at h
  next hx => exact Or.inl ⟨_, hx, h⟩
  next hx => exact Or.inr ⟨_, hx, h⟩
  next => cases h
theorem mm_lk_inv {me : mm_Me} {ix : Nat} {f : mm_K → mm_N} {z : mm_Z ⊕ mm_O} (h : mm_lk me ix f = some z) : ∃ k, me.lk ix = some k ∧ f k = some z := by
  unfold mm_lk at h
  split at h
  next k hx => exact ⟨k, hx, h⟩
  next => cases h
theorem mm_cond_inv {q : Bool} {A : mm_N} {z : mm_Z ⊕ mm_O} (h : cond q A none = some z) : q = true ∧ A = some z := by
  cases q with
  | true => exact ⟨rfl, h⟩
  | false => cases h
theorem mm_cond2_inv {q : Bool} {A A' : mm_N} {z : mm_Z ⊕ mm_O} (h : cond q A A' = some z) : (q = true ∧ A = some z) ∨ (q = false ∧ A' = some z) := by
  cases q with
  | true => exact Or.inl ⟨rfl, h⟩
  | false => exact Or.inr ⟨rfl, h⟩
theorem mm_condn_inv {q : Bool} {A : mm_N} {z : mm_Z ⊕ mm_O} (h : cond q none A = some z) : q = false ∧ A = some z := by
  cases q with
  | true => cases h
  | false => exact ⟨rfl, h⟩
theorem mm_noT_inv {r : mm_N} {z : mm_Z ⊕ mm_O} (h : mm_noT r = some z) : r = some z ∧ ∃ z', z = .inl z' := by
  unfold mm_noT at h
  split at h
  next z' => cases h; exact ⟨rfl, z', rfl⟩
  next => cases h
theorem mm_al_inv {S : mm_St} {A : mm_N} {z : mm_Z ⊕ mm_O} (h : mm_al S A = some z) : S.2.2 = 0 ∧ A = some z := by
  unfold mm_al at h
  split at h
  next hx => exact ⟨hx, h⟩
  next => cases h
theorem mm_ix_inv {i : Int32} {n : Nat} {A : mm_N} {z : mm_Z ⊕ mm_O} (h : mm_ix i n A = some z) : vp_in i n ∧ A = some z := by
  unfold mm_ix at h
  split at h
  next => cases h
  next hx => exact ⟨hx, h⟩
theorem mm_ar_inv {ak : Nat → FieldType} {S : mm_St} {a ty : Nat} {f : Nat → mm_N} {z : mm_Z ⊕ mm_O} (h : mm_ar ak S a ty f = some z) : ∃ t n, S.1[a]? = some (.inr (t, n)) ∧ mm_ty (ak t) = ty ∧ f n = some z := by
  unfold mm_ar at h
  split at h
  next t n hx =>
    obtain ⟨h1, h2⟩ := mm_cond_inv h
    exact ⟨t, n, hx, Nat.eq_of_beq_eq_true h1, h2⟩
  next => cases h
theorem mm_ai_inv {ak : Nat → FieldType} {S : mm_St} {st : List Value} {ty : Nat} {f : Int32 → Nat → List Value → mm_N} {z : mm_Z ⊕ mm_O} (h : mm_ai ak S st ty f = some z) : ∃ i a r t n, st = .int i :: .ref a :: r ∧ S.1[a]? = some (.inr (t, n)) ∧ mm_ty (ak t) = ty ∧ vp_in i n ∧ f i a r = some z := by
  unfold mm_ai at h
  split at h
  next i a r =>
    obtain ⟨t, n, h1, h2, h3⟩ := mm_ar_inv h
    obtain ⟨h4, h5⟩ := mm_ix_inv h3
    exact ⟨i, a, r, t, n, rfl, h1, h2, h4, h5⟩
  next => cases h
/-! locals -/
def mm_LR (B b : Nat) (ls : Array Slot) (n : Nat) (L : mm_L) : Prop := ls.size = n ∧ lv_wf ls ∧ ∀ i v, mm_ld L i = some v → ls[i]? = some (.val (mm_v B b v))
def mm_as (B b : Nat) (L : mm_L) : List (Nat × Value) := (List.range L.length).filterMap fun i => (mm_ld L i).map fun v => (i, mm_v B b v)
theorem mm_ld_lt {L : mm_L} {i : Nat} {v : Value} (h : mm_ld L i = some v) : i < L.length := by
  unfold mm_ld at h
  split at h
  next hx => exact (List.getElem?_eq_some_iff.mp hx).1
  next => cases h
theorem mm_as_mem {B b : Nat} {L : mm_L} {i : Nat} {v : Value} (h : mm_ld L i = some v) : (i, mm_v B b v) ∈ mm_as B b L :=
  List.mem_filterMap.mpr ⟨i, List.mem_range.mpr (mm_ld_lt h), by rw [h]; rfl⟩
theorem mm_as_of {B b : Nat} {L : mm_L} {q : Nat × Value} (h : q ∈ mm_as B b L) : ∃ v, mm_ld L q.1 = some v ∧ q.2 = mm_v B b v := by
  obtain ⟨i, -, h2⟩ := List.mem_filterMap.mp h
  cases hv : mm_ld L i with
  | none => rw [hv] at h2; cases h2
  | some v =>
    rw [hv] at h2
    cases h2
    exact ⟨v, hv, rfl⟩
theorem mm_LR.has {B b : Nat} {ls : Array Slot} {n : Nat} {L : mm_L} (h : mm_LR B b ls n L) : lv_has ls n (mm_as B b L) := ⟨h.1, h.2.1, fun q hq => by
  obtain ⟨v, h1, h2⟩ := mm_as_of hq
  rw [h2]
  exact h.2.2 _ _ h1⟩
theorem mm_sto_at (L : mm_L) : ∀ (j k i : Nat) (v : Value), (mm_sto L j i v)[k]? = (L[k]?).map fun o => cond (Nat.beq (j + k) i) (some v) (cond ((Nat.beq (j + k) (i + 1) && mm_c2 v) || (Nat.beq (j + k + 1) i && mm_o2 o)) none o) := by
  induction L with
  | nil => intro j k i v; rfl
  | cons o L ih =>
    intro j k i v
    cases k with
    | zero => rfl
    | succ k =>
      have h := ih (j + 1) k i v
      rw [show j + 1 + k = j + (k + 1) by omega] at h
      exact h
theorem mm_sto_ld {L : mm_L} {i j : Nat} {v w : Value} (h : mm_ld (mm_sto L 0 i v) j = some w) : (j = i ∧ w = v) ∨ (mm_ld L j = some w ∧ j ≠ i ∧ (mm_c2 v = true → j ≠ i + 1) ∧ (mm_c2 w = true → j + 1 ≠ i)) := by
  unfold mm_ld at h
  rw [mm_sto_at] at h
  cases ho : L[j]? with
  | none => rw [ho] at h; cases h
  | some o =>
    rw [ho] at h
    simp only [Option.map_some, Nat.zero_add] at h
    by_cases e1 : j = i
    · subst e1
      rw [Nat.beq_refl] at h
      cases h
      exact Or.inl ⟨rfl, rfl⟩
    · have b1 : Nat.beq j i = false := by
        cases hb : Nat.beq j i
        · rfl
        · exact absurd (Nat.eq_of_beq_eq_true hb) e1
      rw [b1] at h
      cases hq : ((Nat.beq j (i + 1) && mm_c2 v) || (Nat.beq (j + 1) i && mm_o2 o)) with
      | true => rw [hq] at h; cases h
      | false =>
        rw [hq] at h
        have h : o = some w := h
        subst h
        refine Or.inr ⟨by unfold mm_ld; rw [ho], e1, fun hc e => ?_, fun hc e => ?_⟩
        · subst e
          rw [Nat.beq_refl, hc] at hq
          cases hq
        · rw [e, Nat.beq_refl] at hq
          simp only [mm_o2, hc, Bool.and_self, Bool.or_true] at hq
          cases hq
theorem mm_LR.st1 {B b : Nat} {ls : Array Slot} {n i : Nat} {L : mm_L} {v : Value} (hc : mm_c2 v = false)
    (h : lv_has ls n ((i, mm_v B b v) :: (mm_as B b L).filter (fun q => !(q.1 == i) && !(q.1 + 1 == i && q.2.category == 2)))) : mm_LR B b ls n (mm_sto L 0 i v) := by
  refine ⟨h.1, h.2.1, fun j w hw => ?_⟩
  rcases mm_sto_ld hw with ⟨rfl, rfl⟩ | ⟨h1, h2, -, h4⟩
  · exact h.2.2 (j, mm_v B b w) List.mem_cons_self
  · refine h.2.2 (j, mm_v B b w) (List.mem_cons_of_mem _ (List.mem_filter.mpr ⟨mm_as_mem h1, ?_⟩))
    have e1 : (j == i) = false := by simp [h2]
    have e2 : (j + 1 == i && (mm_v B b w).category == 2) = false := by
      cases hw2 : mm_c2 w with
      | true => simp [h4 hw2]
      | false => simp [mm_v_cat, hw2]
    simp only [e1, e2]
    rfl
theorem mm_LR.st2 {B b : Nat} {ls : Array Slot} {n i : Nat} {L : mm_L} {v : Value} (hc : mm_c2 v = true)
    (h : lv_has ls n ((i, mm_v B b v) :: (mm_as B b L).filter (fun q => !(q.1 == i) && (!(q.1 == i + 1) && !(q.1 + 1 == i && q.2.category == 2))))) : mm_LR B b ls n (mm_sto L 0 i v) := by
  refine ⟨h.1, h.2.1, fun j w hw => ?_⟩
  rcases mm_sto_ld hw with ⟨rfl, rfl⟩ | ⟨h1, h2, h3, h4⟩
  · exact h.2.2 (j, mm_v B b w) List.mem_cons_self
  · refine h.2.2 (j, mm_v B b w) (List.mem_cons_of_mem _ (List.mem_filter.mpr ⟨mm_as_mem h1, ?_⟩))
    have e1 : (j == i) = false := by simp [h2]
    have e3 : (j == i + 1) = false := by simp [h3 hc]
    have e2 : (j + 1 == i && (mm_v B b w).category == 2) = false := by
      cases hw2 : mm_c2 w with
      | true => simp [h4 hw2]
      | false => simp [mm_v_cat, hw2]
    simp only [e1, e2, e3]
    rfl
end
section
section SIM
variable {p : Program} {l : Launch} {e : Env} {R : Room} {s : State} {m : MethodId} {args : Array Value} {below : List Frame} {meth : Method} {c : Code} {Q : State → Prop}
/-- from where the small machine stands the JVM comes to Q -/
def mm_J (p : Program) (l : Launch) (e : Env) (R : Room) (s : State) (m : MethodId) (args : Array Value) (below : List Frame) (meth : Method) (c : Code) (Q : State → Prop) (B b nL : Nat) (Rz : mm_St → Heap → List Loc → Nat → Nat → Prop) (z : mm_Z) : Prop :=
  ∀ (ls : Array Slot) (H : Heap) (locs : List Loc) (cells slots : Nat), mm_LR B b ls nL z.2.1 → Rz z.2.2.2 H locs cells slots → W p l e R s m args below meth c H locs cells slots Q (F0 m z.1 ls (z.2.2.1.map (mm_v B b)))
/-- how many locals an instruction needs -/
def mm_sti : Instr → Nat
  | .istore n | .astore n => n + 1
  | .istore_n n | .astore_n n => n.val + 1
  | .iinc n _ => n + 1
  | .lstore n | .dstore n => n + 2
  | .lstore_n n | .dstore_n n => n.val + 2
  | _ => 0
/-- the instructions that leave the cells alone -/
def mm_isP : Instr → Bool
  | .iconst _ | .bipush _ | .sipush _ | .lconst _ | .dconst _ | .aconst_null | .iload_n _ | .iload _ | .lload_n _ | .lload _ | .dload_n _ | .dload _ | .aload_n _ | .aload _ => true
  | .istore_n _ | .istore _ | .lstore_n _ | .lstore _ | .dstore_n _ | .dstore _ | .astore_n _ | .astore _ | .iinc _ _ => true
  | .iadd | .isub | .imul | .idiv | .irem | .ineg | .iand | .ior | .ixor | .ishl | .ishr | .iushr | .ladd | .lsub | .land | .lor | .lushr | .lshr | .lshl | .i2l | .l2i | .i2c | .i2b | .i2d | .d2i => true
  | .dadd | .dsub | .dmul | .ddiv | .dneg | .dcmp _ | .lcmp | .dup | .pop | .dup_x1 | .dup_x2 | .dup2 | .goto _ | .ifCond _ _ | .if_icmp _ _ | .ifnull _ | .ifnonnull _ | .tableswitch _ _ _ _ | .lookupswitch _ _ => true
  | _ => false
theorem mm_tsw_at {x : Int32} {k : Int → mm_N} {d lo : Int} {os : List Int} {z : mm_Z ⊕ mm_O} (h : mm_tsw x k d lo os = some z) (hlo : -2147483648 ≤ lo) (hhi : lo + os.length ≤ 2147483648) :
    ((x.toInt < lo ∨ lo + os.length ≤ x.toInt) ∧ k d = some z) ∨ (∃ o, ¬ x.toInt < lo ∧ os[(x.toInt - lo).toNat]? = some o ∧ k o = some z) := by
  induction os generalizing lo with
  | nil => exact Or.inl ⟨by simp only [List.length_nil]; omega, h⟩
  | cons o os ih =>
    have hl : ((o :: os).length : Int) = os.length + 1 := by simp
    rw [hl] at hhi
    have hlt : (Int32.ofInt lo).toInt = lo := by
      rw [Int32.toInt_ofInt_of_le (by omega) (by omega)]
    unfold mm_tsw at h
    split at h
    next hx =>
      have hx2 : x.toInt = lo := by rw [hx, hlt]
      exact Or.inr ⟨o, by omega, by rw [hx2, Int.sub_self]; rfl, h⟩
    next hx =>
      have hne : x.toInt ≠ lo := fun q => hx (Int32.toInt_inj.mp (by rw [hlt]; exact q))
      rcases ih h (by omega) (by omega) with ⟨h1, h2⟩ | ⟨o2, h1, h2, h3⟩
      · exact Or.inl ⟨by rw [hl]; omega, h2⟩
      · refine Or.inr ⟨o2, by omega, ?_, h3⟩
        rw [show (x.toInt - lo).toNat = (x.toInt - (lo + 1)).toNat + 1 by omega]
        exact h2
theorem mm_lsw_at {x : Int32} {k : Int → mm_N} {d : Int} {ps : List (Int × Int)} {z : mm_Z ⊕ mm_O} (h : mm_lsw x k d ps = some z) (hp : ∀ q ∈ ps, (Int32.ofInt q.1).toInt = q.1) : k (Op.lookupswitch.offset ps d x.toInt) = some z ∧ (Op.lookupswitch.offset ps d x.toInt = d ∨ ∃ q ∈ ps, q.2 = Op.lookupswitch.offset ps d x.toInt) := by
  induction ps with
  | nil => exact ⟨h, Or.inl rfl⟩
  | cons q ps ih =>
    obtain ⟨a, o⟩ := q
    have hq : (Int32.ofInt a).toInt = a := hp (a, o) List.mem_cons_self
    unfold mm_lsw at h
    rw [Op.lookupswitch.offset_cons]
    split at h
    next hx =>
      have hx2 : x.toInt = a := by rw [hx, hq]
      rw [if_pos hx2.symm]
      exact ⟨h, Or.inr ⟨(a, o), List.mem_cons_self, rfl⟩⟩
    next hx =>
      have hne : ¬ a = x.toInt := fun q => hx (Int32.toInt_inj.mp (by rw [hq]; exact q.symm))
      rw [if_neg hne]
      obtain ⟨h1, h2⟩ := ih h fun q hq => hp q (List.mem_cons_of_mem _ hq)
      refine ⟨h1, ?_⟩
      rcases h2 with h2 | ⟨q, hq, h2⟩
      · exact Or.inl h2
      · exact Or.inr ⟨q, List.mem_cons_of_mem _ hq, h2⟩
/-- what a switch must be: its numbers are ints, in order -/
def mm_swok : Instr → Bool
  | .tableswitch _ lo hi os => decide (-2147483648 ≤ lo) && decide (lo + os.toList.length ≤ 2147483648) && decide (lo + os.toList.length = hi + 1)
  | .lookupswitch _ ps => (ps.toList.all fun q => decide ((Int32.ofInt q.1).toInt = q.1)) && (ps.toList.zip (ps.toList.drop 1)).all (fun (a, next) => a.1 < next.1)
  | _ => true
set_option maxHeartbeats 4000000 in
set_option maxRecDepth 100000 in
theorem mm_pure {call : Nat → List Value → mm_St → Option mm_O} {xs : Nat → Int32} {Ls : Nat} {ck : Nat → List Nat} {ak : Nat → FieldType} {me : mm_Me} {cc : ByteArray} {B b nL pc : Nat} {L : mm_L} {st : List Value} {S : mm_St} {z' : mm_Z} {Rz : mm_St → Heap → List Loc → Nat → Nat → Prop}
    (hx : p.tables.exec = Jvm.exec) (hb : c.code = cc) (i : Instr) (hd0 : ∃ n, decode cc pc = .ok (i, n)) (hd : mm_len i ≠ 0 → decode cc pc = .ok (i, mm_len i)) (ht : ∀ o ∈ mm_offs i, 0 ≤ (pc : Int) + o) (hn : mm_sti i ≤ nL) (hsw : mm_swok i = true) (hp : mm_isP i = true)
    (h : mm_do call xs Ls ck ak me pc L st S i = some (.inl z')) (k : mm_J p l e R s m args below meth c Q B b nL Rz z') : mm_J p l e R s m args below meth c Q B b nL Rz (pc, L, st, S) := by
  cases i with
  | iconst n =>
    cases h
    exact fun ls H locs cells slots hL hR => lv_iconst hx hb (hd (by simp [mm_len])) rfl (k ls H locs cells slots hL hR)
  | bipush n =>
    cases h
    exact fun ls H locs cells slots hL hR => lv_bipush hx hb (hd (by simp [mm_len])) rfl (k ls H locs cells slots hL hR)
  | sipush n =>
    cases h
    exact fun ls H locs cells slots hL hR => lv_sipush hx hb (hd (by simp [mm_len])) rfl (k ls H locs cells slots hL hR)
  | lconst n =>
    cases h
    exact fun ls H locs cells slots hL hR => lv_lconst hx hb (hd (by simp [mm_len])) rfl (k ls H locs cells slots hL hR)
  | dconst n =>
    cases h
    match n, hd, k with
    | 0, hd, k => exact fun ls H locs cells slots hL hR => lv_dconst0 hx hb (hd (by simp [mm_len])) (k ls H locs cells slots hL hR)
    | 1, hd, k => exact fun ls H locs cells slots hL hR => lv_dconst1 hx hb (hd (by simp [mm_len])) (k ls H locs cells slots hL hR)
  | aconst_null =>
    cases h
    exact fun ls H locs cells slots hL hR => lv_null hx hb (hd (by simp [mm_len])) (k ls H locs cells slots hL hR)
  | iload_n n =>
    obtain ⟨x, hv, h⟩ := mm_lI_inv h
    cases h
    exact fun ls H locs cells slots hL hR => lv_iload_n hx hb (hd (by simp [mm_len])) rfl (hL.2.2 _ _ hv) (k ls H locs cells slots hL hR)
  | iload n =>
    obtain ⟨x, hv, h⟩ := mm_lI_inv h
    cases h
    exact fun ls H locs cells slots hL hR => lv_iload hx hb (hd (by simp [mm_len])) (hL.2.2 _ _ hv) (k ls H locs cells slots hL hR)
  | lload_n n =>
    obtain ⟨x, hv, h⟩ := mm_lJ_inv h
    cases h
    exact fun ls H locs cells slots hL hR => lv_lload_n hx hb (hd (by simp [mm_len])) rfl (hL.2.2 _ _ hv) (k ls H locs cells slots hL hR)
  | lload n =>
    obtain ⟨x, hv, h⟩ := mm_lJ_inv h
    cases h
    exact fun ls H locs cells slots hL hR => lv_lload hx hb (hd (by simp [mm_len])) (hL.2.2 _ _ hv) (k ls H locs cells slots hL hR)
  | dload_n n =>
    obtain ⟨x, hv, h⟩ := mm_lD_inv h
    cases h
    exact fun ls H locs cells slots hL hR => lv_dload_n hx hb (hd (by simp [mm_len])) rfl (hL.2.2 _ _ hv) (k ls H locs cells slots hL hR)
  | dload n =>
    obtain ⟨x, hv, h⟩ := mm_lD_inv h
    cases h
    exact fun ls H locs cells slots hL hR => lv_dload hx hb (hd (by simp [mm_len])) (hL.2.2 _ _ hv) (k ls H locs cells slots hL hR)
  | aload_n n =>
    have h : (mm_lA L n fun v => mm_go (pc + 1) L (v :: st) S) = some (.inl z') := h
    rcases mm_lA_inv h with ⟨x, hv, h⟩ | ⟨x, hv, h⟩
    · cases h
      exact fun ls H locs cells slots hL hR => lv_aload_n hx hb (hd (by simp [mm_len])) rfl (hL.2.2 _ _ hv) (k ls H locs cells slots hL hR)
    · cases h
      exact fun ls H locs cells slots hL hR => lv_aload_n hx hb (hd (by simp [mm_len])) rfl (hL.2.2 _ _ hv) (k ls H locs cells slots hL hR)
  | aload n =>
    have h : (mm_lA L n fun v => mm_go (pc + 2) L (v :: st) S) = some (.inl z') := h
    rcases mm_lA_inv h with ⟨x, hv, h⟩ | ⟨x, hv, h⟩
    · cases h
      exact fun ls H locs cells slots hL hR => lv_aload hx hb (hd (by simp [mm_len])) (hL.2.2 _ _ hv) (k ls H locs cells slots hL hR)
    · cases h
      exact fun ls H locs cells slots hL hR => lv_aload hx hb (hd (by simp [mm_len])) (hL.2.2 _ _ hv) (k ls H locs cells slots hL hR)
  | istore_n n =>
    obtain ⟨x, r, rfl, h⟩ := mm_i_inv h
    cases h
    exact fun ls H locs cells slots hL hR => lv_istore_n hx hb (hd (by simp [mm_len])) rfl hL.has (by simp only [mm_sti] at hn; omega) rfl (fun ls' hl' => k ls' H locs cells slots (mm_LR.st1 (v := .int x) rfl hl') hR)
  | istore n =>
    obtain ⟨x, r, rfl, h⟩ := mm_i_inv h
    cases h
    exact fun ls H locs cells slots hL hR => lv_istore hx hb (hd (by simp [mm_len])) hL.has (by simp only [mm_sti] at hn; omega) rfl (fun ls' hl' => k ls' H locs cells slots (mm_LR.st1 (v := .int x) rfl hl') hR)
  | astore_n n =>
    obtain ⟨x, r, rfl, h⟩ := mm_r_inv h
    cases h
    exact fun ls H locs cells slots hL hR => lv_astore_n hx hb (hd (by simp [mm_len])) rfl hL.has (by simp only [mm_sti] at hn; omega) rfl (fun ls' hl' => k ls' H locs cells slots (mm_LR.st1 (v := .ref x) rfl hl') hR)
  | astore n =>
    obtain ⟨x, r, rfl, h⟩ := mm_r_inv h
    cases h
    exact fun ls H locs cells slots hL hR => lv_astore hx hb (hd (by simp [mm_len])) hL.has (by simp only [mm_sti] at hn; omega) rfl (fun ls' hl' => k ls' H locs cells slots (mm_LR.st1 (v := .ref x) rfl hl') hR)
  | lstore_n n =>
    obtain ⟨x, r, rfl, h⟩ := mm_j_inv h
    cases h
    exact fun ls H locs cells slots hL hR => lv_lstore_n hx hb (hd (by simp [mm_len])) rfl hL.has (by simp only [mm_sti] at hn; omega) rfl (fun ls' hl' => k ls' H locs cells slots (mm_LR.st2 (v := .long x) rfl hl') hR)
  | lstore n =>
    obtain ⟨x, r, rfl, h⟩ := mm_j_inv h
    cases h
    exact fun ls H locs cells slots hL hR => lv_lstore hx hb (hd (by simp [mm_len])) hL.has (by simp only [mm_sti] at hn; omega) rfl (fun ls' hl' => k ls' H locs cells slots (mm_LR.st2 (v := .long x) rfl hl') hR)
  | dstore_n n =>
    obtain ⟨x, r, rfl, h⟩ := mm_d_inv h
    cases h
    exact fun ls H locs cells slots hL hR => lv_dstore_n hx hb (hd (by simp [mm_len])) rfl hL.has (by simp only [mm_sti] at hn; omega) rfl (fun ls' hl' => k ls' H locs cells slots (mm_LR.st2 (v := .double x) rfl hl') hR)
  | dstore n =>
    obtain ⟨x, r, rfl, h⟩ := mm_d_inv h
    cases h
    exact fun ls H locs cells slots hL hR => lv_dstore hx hb (hd (by simp [mm_len])) hL.has (by simp only [mm_sti] at hn; omega) rfl (fun ls' hl' => k ls' H locs cells slots (mm_LR.st2 (v := .double x) rfl hl') hR)
  | iinc n z =>
    obtain ⟨x, hv, h⟩ := mm_lI_inv h
    cases h
    intro ls H locs cells slots hL hR
    obtain ⟨j, hj⟩ := List.getElem?_of_mem (mm_as_mem (B := B) (b := b) hv)
    exact lv_iinc hx hb (hd (by simp [mm_len])) hL.has hj rfl (by simp only [mm_sti] at hn; omega) rfl (fun ls' hl' => k ls' H locs cells slots (mm_LR.st1 (v := .int (x + Int32.ofInt z)) rfl hl') hR)
  | iadd =>
    obtain ⟨x, y, r, rfl, h⟩ := mm_ii_inv h
    cases h
    exact fun ls H locs cells slots hL hR => lv_iadd hx hb (hd (by simp [mm_len])) (k ls H locs cells slots hL hR)
  | isub =>
    obtain ⟨x, y, r, rfl, h⟩ := mm_ii_inv h
    cases h
    exact fun ls H locs cells slots hL hR => lv_isub hx hb (hd (by simp [mm_len])) (k ls H locs cells slots hL hR)
  | imul =>
    obtain ⟨x, y, r, rfl, h⟩ := mm_ii_inv h
    cases h
    exact fun ls H locs cells slots hL hR => lv_imul hx hb (hd (by simp [mm_len])) (k ls H locs cells slots hL hR)
  | iand =>
    obtain ⟨x, y, r, rfl, h⟩ := mm_ii_inv h
    cases h
    exact fun ls H locs cells slots hL hR => lv_iand hx hb (hd (by simp [mm_len])) (k ls H locs cells slots hL hR)
  | ior =>
    obtain ⟨x, y, r, rfl, h⟩ := mm_ii_inv h
    cases h
    exact fun ls H locs cells slots hL hR => lv_ior hx hb (hd (by simp [mm_len])) (k ls H locs cells slots hL hR)
  | ixor =>
    obtain ⟨x, y, r, rfl, h⟩ := mm_ii_inv h
    cases h
    exact fun ls H locs cells slots hL hR => lv_ixor hx hb (hd (by simp [mm_len])) (k ls H locs cells slots hL hR)
  | ishl =>
    obtain ⟨x, y, r, rfl, h⟩ := mm_ii_inv h
    cases h
    exact fun ls H locs cells slots hL hR => lv_ishl hx hb (hd (by simp [mm_len])) (k ls H locs cells slots hL hR)
  | ishr =>
    obtain ⟨x, y, r, rfl, h⟩ := mm_ii_inv h
    cases h
    exact fun ls H locs cells slots hL hR => lv_ishr hx hb (hd (by simp [mm_len])) (k ls H locs cells slots hL hR)
  | iushr =>
    obtain ⟨x, y, r, rfl, h⟩ := mm_ii_inv h
    cases h
    exact fun ls H locs cells slots hL hR => lv_iushr hx hb (hd (by simp [mm_len])) rfl (k ls H locs cells slots hL hR)
  | idiv =>
    obtain ⟨x, y, r, rfl, h⟩ := mm_ii_inv h
    have h : (if y = 0 then none else mm_go (pc + 1) L (.int (x / y) :: r) S) = some (.inl z') := h
    by_cases hy : y = 0
    · rw [if_pos hy] at h; cases h
    · rw [if_neg hy] at h
      cases h
      exact fun ls H locs cells slots hL hR => lv_idiv hx hb (hd (by simp [mm_len])) hy (k ls H locs cells slots hL hR)
  | irem =>
    obtain ⟨x, y, r, rfl, h⟩ := mm_ii_inv h
    have h : (if y = 0 then none else mm_go (pc + 1) L (.int (x - x / y * y) :: r) S) = some (.inl z') := h
    by_cases hy : y = 0
    · rw [if_pos hy] at h; cases h
    · rw [if_neg hy] at h
      cases h
      exact fun ls H locs cells slots hL hR => lv_irem hx hb (hd (by simp [mm_len])) hy (k ls H locs cells slots hL hR)
  | ineg =>
    obtain ⟨x, r, rfl, h⟩ := mm_i_inv h
    cases h
    exact fun ls H locs cells slots hL hR => lv_ineg hx hb (hd (by simp [mm_len])) (k ls H locs cells slots hL hR)
  | ladd =>
    obtain ⟨x, y, r, rfl, h⟩ := mm_jj_inv h
    cases h
    exact fun ls H locs cells slots hL hR => lv_ladd hx hb (hd (by simp [mm_len])) (k ls H locs cells slots hL hR)
  | lsub =>
    obtain ⟨x, y, r, rfl, h⟩ := mm_jj_inv h
    cases h
    exact fun ls H locs cells slots hL hR => lv_lsub hx hb (hd (by simp [mm_len])) (k ls H locs cells slots hL hR)
  | land =>
    obtain ⟨x, y, r, rfl, h⟩ := mm_jj_inv h
    cases h
    exact fun ls H locs cells slots hL hR => lv_land hx hb (hd (by simp [mm_len])) (k ls H locs cells slots hL hR)
  | lor =>
    obtain ⟨x, y, r, rfl, h⟩ := mm_jj_inv h
    cases h
    exact fun ls H locs cells slots hL hR => lv_lor hx hb (hd (by simp [mm_len])) (k ls H locs cells slots hL hR)
  | lcmp =>
    obtain ⟨x, y, r, rfl, h⟩ := mm_jj_inv h
    cases h
    exact fun ls H locs cells slots hL hR => W.lcmp hx hb (hd (by simp [mm_len])) (k ls H locs cells slots hL hR)
  | lushr =>
    obtain ⟨x, y, r, rfl, h⟩ := mm_ji_inv h
    cases h
    exact fun ls H locs cells slots hL hR => lv_lushr hx hb (hd (by simp [mm_len])) rfl (k ls H locs cells slots hL hR)
  | lshr =>
    obtain ⟨x, y, r, rfl, h⟩ := mm_ji_inv h
    cases h
    exact fun ls H locs cells slots hL hR => lv_lshr hx hb (hd (by simp [mm_len])) rfl (k ls H locs cells slots hL hR)
  | lshl =>
    obtain ⟨x, y, r, rfl, h⟩ := mm_ji_inv h
    cases h
    exact fun ls H locs cells slots hL hR => lv_lshl hx hb (hd (by simp [mm_len])) rfl (k ls H locs cells slots hL hR)
  | i2l =>
    obtain ⟨x, r, rfl, h⟩ := mm_i_inv h
    cases h
    exact fun ls H locs cells slots hL hR => lv_i2l hx hb (hd (by simp [mm_len])) rfl (k ls H locs cells slots hL hR)
  | l2i =>
    obtain ⟨x, r, rfl, h⟩ := mm_j_inv h
    cases h
    exact fun ls H locs cells slots hL hR => lv_l2i hx hb (hd (by simp [mm_len])) rfl (k ls H locs cells slots hL hR)
  | i2c =>
    obtain ⟨x, r, rfl, h⟩ := mm_i_inv h
    cases h
    exact fun ls H locs cells slots hL hR => lv_i2c hx hb (hd (by simp [mm_len])) rfl (k ls H locs cells slots hL hR)
  | i2b =>
    obtain ⟨x, r, rfl, h⟩ := mm_i_inv h
    cases h
    exact fun ls H locs cells slots hL hR => lv_i2b hx hb (hd (by simp [mm_len])) rfl (k ls H locs cells slots hL hR)
  | i2d =>
    obtain ⟨x, r, rfl, h⟩ := mm_i_inv h
    cases h
    exact fun ls H locs cells slots hL hR => lv_i2d hx hb (hd (by simp [mm_len])) (k ls H locs cells slots hL hR)
  | d2i =>
    obtain ⟨x, r, rfl, h⟩ := mm_d_inv h
    cases h
    exact fun ls H locs cells slots hL hR => lv_d2i hx hb (hd (by simp [mm_len])) (k ls H locs cells slots hL hR)
  | dneg =>
    obtain ⟨x, r, rfl, h⟩ := mm_d_inv h
    cases h
    exact fun ls H locs cells slots hL hR => lv_dneg hx hb (hd (by simp [mm_len])) (k ls H locs cells slots hL hR)
  | dadd =>
    obtain ⟨x, y, r, rfl, h⟩ := mm_dd_inv h
    obtain ⟨hq, h⟩ := mm_cond_inv h
    cases h
    exact fun ls H locs cells slots hL hR => lv_dadd hx hb (hd (by simp [mm_len])) (show vf_n64 _ from of_decide_eq_true (p := FP.dadd x y &&& 0x7fffffffffffffff ≤ 0x7ff0000000000000) hq) (k ls H locs cells slots hL hR)
  | dsub =>
    obtain ⟨x, y, r, rfl, h⟩ := mm_dd_inv h
    obtain ⟨hq, h⟩ := mm_cond_inv h
    cases h
    exact fun ls H locs cells slots hL hR => lv_dsub hx hb (hd (by simp [mm_len])) (show vf_n64 _ from of_decide_eq_true (p := FP.dsub x y &&& 0x7fffffffffffffff ≤ 0x7ff0000000000000) hq) (k ls H locs cells slots hL hR)
  | dmul =>
    obtain ⟨x, y, r, rfl, h⟩ := mm_dd_inv h
    obtain ⟨hq, h⟩ := mm_cond_inv h
    cases h
    exact fun ls H locs cells slots hL hR => lv_dmul hx hb (hd (by simp [mm_len])) (show vf_n64 _ from of_decide_eq_true (p := FP.dmul x y &&& 0x7fffffffffffffff ≤ 0x7ff0000000000000) hq) (k ls H locs cells slots hL hR)
  | ddiv =>
    obtain ⟨x, y, r, rfl, h⟩ := mm_dd_inv h
    obtain ⟨hq, h⟩ := mm_cond_inv h
    cases h
    exact fun ls H locs cells slots hL hR => lv_ddiv hx hb (hd (by simp [mm_len])) (show vf_n64 _ from of_decide_eq_true (p := FP.ddiv x y &&& 0x7fffffffffffffff ≤ 0x7ff0000000000000) hq) (k ls H locs cells slots hL hR)
  | dcmp op =>
    obtain ⟨x, y, r, rfl, h⟩ := mm_dd_inv h
    cases h
    exact fun ls H locs cells slots hL hR => lv_dcmp hx hb (hd (by simp [mm_len])) (k ls H locs cells slots hL hR)
  | dup =>
    obtain ⟨v, r, rfl, h⟩ := mm_1_inv h
    obtain ⟨hv, h⟩ := mm_condn_inv h
    cases h
    exact fun ls H locs cells slots hL hR => lv_dup hx hb (hd (by simp [mm_len])) (by rw [mm_v_cat, hv]; rfl) (k ls H locs cells slots hL hR)
  | pop =>
    obtain ⟨v, r, rfl, h⟩ := mm_1_inv h
    obtain ⟨hv, h⟩ := mm_condn_inv h
    cases h
    exact fun ls H locs cells slots hL hR => lv_pop hx hb (hd (by simp [mm_len])) (by rw [mm_v_cat, hv]; rfl) (k ls H locs cells slots hL hR)
  | dup_x1 =>
    obtain ⟨v, w, r, rfl, h⟩ := mm_2_inv h
    obtain ⟨hv, h⟩ := mm_condn_inv h
    rw [Bool.or_eq_false_iff] at hv
    cases h
    exact fun ls H locs cells slots hL hR => lv_dup_x1 hx hb (hd (by simp [mm_len])) (by rw [mm_v_cat, hv.1]; rfl) (by rw [mm_v_cat, hv.2]; rfl) (k ls H locs cells slots hL hR)
  | dup2 =>
    obtain ⟨v, w, r, rfl, h⟩ := mm_2_inv h
    obtain ⟨hv, h⟩ := mm_condn_inv h
    rw [Bool.or_eq_false_iff] at hv
    cases h
    exact fun ls H locs cells slots hL hR => lv_dup2_11 hx hb (hd (by simp [mm_len])) (by rw [mm_v_cat, hv.1]; rfl) (by rw [mm_v_cat, hv.2]; rfl) (k ls H locs cells slots hL hR)
  | dup_x2 =>
    obtain ⟨v, w, u, r, rfl, h⟩ := mm_3_inv h
    obtain ⟨hv, h⟩ := mm_condn_inv h
    rw [Bool.or_eq_false_iff, Bool.or_eq_false_iff] at hv
    cases h
    exact fun ls H locs cells slots hL hR => lv_dup_x2 hx hb (hd (by simp [mm_len])) (by rw [mm_v_cat, hv.1]; rfl) (by rw [mm_v_cat, hv.2.1]; rfl) (by rw [mm_v_cat, hv.2.2]; rfl) (k ls H locs cells slots hL hR)
  | goto o =>
    cases h
    exact fun ls H locs cells slots hL hR => lv_goto hx hb (hd (by simp [mm_len])) (mm_tg_eq (ht o (by simp [mm_offs]))) (k ls H locs cells slots hL hR)
  | ifCond cn o =>
    obtain ⟨x, r, rfl, h⟩ := mm_i_inv h
    cases cn with
    | eq =>
      have h : (if x = 0 then mm_go (mm_tg pc o) L r S else mm_go (pc + 3) L r S) = some (.inl z') := h
      by_cases hc : x = 0
      · rw [if_pos hc] at h
        cases h
        exact fun ls H locs cells slots hL hR => lv_if_eq hx hb (hd (by simp [mm_len])) (mm_tg_eq (ht o (by simp [mm_offs]))) (fun _ => (k ls H locs cells slots hL hR)) (fun q => absurd hc q)
      · rw [if_neg hc] at h
        cases h
        exact fun ls H locs cells slots hL hR => lv_if_eq hx hb (hd (by simp [mm_len])) (mm_tg_eq (ht o (by simp [mm_offs]))) (fun q => absurd q hc) (fun _ => (k ls H locs cells slots hL hR))
    | ne =>
      have h : (if x = 0 then mm_go (pc + 3) L r S else mm_go (mm_tg pc o) L r S) = some (.inl z') := h
      by_cases hc : x = 0
      · rw [if_pos hc] at h
        cases h
        exact fun ls H locs cells slots hL hR => lv_if_ne hx hb (hd (by simp [mm_len])) (mm_tg_eq (ht o (by simp [mm_offs]))) (fun q => absurd hc q) (fun _ => (k ls H locs cells slots hL hR))
      · rw [if_neg hc] at h
        cases h
        exact fun ls H locs cells slots hL hR => lv_if_ne hx hb (hd (by simp [mm_len])) (mm_tg_eq (ht o (by simp [mm_offs]))) (fun _ => (k ls H locs cells slots hL hR)) (fun q => absurd q hc)
    | lt =>
      have h : (if x < 0 then mm_go (mm_tg pc o) L r S else mm_go (pc + 3) L r S) = some (.inl z') := h
      by_cases hc : x < 0
      · rw [if_pos hc] at h
        cases h
        exact fun ls H locs cells slots hL hR => lv_if_lt hx hb (hd (by simp [mm_len])) (mm_tg_eq (ht o (by simp [mm_offs]))) (fun _ => (k ls H locs cells slots hL hR)) (fun q => absurd hc q)
      · rw [if_neg hc] at h
        cases h
        exact fun ls H locs cells slots hL hR => lv_if_lt hx hb (hd (by simp [mm_len])) (mm_tg_eq (ht o (by simp [mm_offs]))) (fun q => absurd q hc) (fun _ => (k ls H locs cells slots hL hR))
    | ge =>
      have h : (if 0 ≤ x then mm_go (mm_tg pc o) L r S else mm_go (pc + 3) L r S) = some (.inl z') := h
      by_cases hc : 0 ≤ x
      · rw [if_pos hc] at h
        cases h
        exact fun ls H locs cells slots hL hR => lv_if_ge hx hb (hd (by simp [mm_len])) (mm_tg_eq (ht o (by simp [mm_offs]))) (fun _ => (k ls H locs cells slots hL hR)) (fun q => absurd hc q)
      · rw [if_neg hc] at h
        cases h
        exact fun ls H locs cells slots hL hR => lv_if_ge hx hb (hd (by simp [mm_len])) (mm_tg_eq (ht o (by simp [mm_offs]))) (fun q => absurd q hc) (fun _ => (k ls H locs cells slots hL hR))
    | gt =>
      have h : (if 0 < x then mm_go (mm_tg pc o) L r S else mm_go (pc + 3) L r S) = some (.inl z') := h
      by_cases hc : 0 < x
      · rw [if_pos hc] at h
        cases h
        exact fun ls H locs cells slots hL hR => lv_if_gt hx hb (hd (by simp [mm_len])) (mm_tg_eq (ht o (by simp [mm_offs]))) (fun _ => (k ls H locs cells slots hL hR)) (fun q => absurd hc q)
      · rw [if_neg hc] at h
        cases h
        exact fun ls H locs cells slots hL hR => lv_if_gt hx hb (hd (by simp [mm_len])) (mm_tg_eq (ht o (by simp [mm_offs]))) (fun q => absurd q hc) (fun _ => (k ls H locs cells slots hL hR))
    | le =>
      have h : (if x ≤ 0 then mm_go (mm_tg pc o) L r S else mm_go (pc + 3) L r S) = some (.inl z') := h
      by_cases hc : x ≤ 0
      · rw [if_pos hc] at h
        cases h
        exact fun ls H locs cells slots hL hR => lv_if_le hx hb (hd (by simp [mm_len])) (mm_tg_eq (ht o (by simp [mm_offs]))) (fun _ => (k ls H locs cells slots hL hR)) (fun q => absurd hc q)
      · rw [if_neg hc] at h
        cases h
        exact fun ls H locs cells slots hL hR => lv_if_le hx hb (hd (by simp [mm_len])) (mm_tg_eq (ht o (by simp [mm_offs]))) (fun q => absurd q hc) (fun _ => (k ls H locs cells slots hL hR))
  | if_icmp cn o =>
    obtain ⟨x, y, r, rfl, h⟩ := mm_ii_inv h
    cases cn with
    | eq =>
      have h : (if x = y then mm_go (mm_tg pc o) L r S else mm_go (pc + 3) L r S) = some (.inl z') := h
      by_cases hc : x = y
      · rw [if_pos hc] at h
        cases h
        exact fun ls H locs cells slots hL hR => lv_icmp_eq hx hb (hd (by simp [mm_len])) (mm_tg_eq (ht o (by simp [mm_offs]))) (fun _ => (k ls H locs cells slots hL hR)) (fun q => absurd hc q)
      · rw [if_neg hc] at h
        cases h
        exact fun ls H locs cells slots hL hR => lv_icmp_eq hx hb (hd (by simp [mm_len])) (mm_tg_eq (ht o (by simp [mm_offs]))) (fun q => absurd q hc) (fun _ => (k ls H locs cells slots hL hR))
    | ne =>
      have h : (if x = y then mm_go (pc + 3) L r S else mm_go (mm_tg pc o) L r S) = some (.inl z') := h
      by_cases hc : x = y
      · rw [if_pos hc] at h
        cases h
        exact fun ls H locs cells slots hL hR => lv_icmp_ne hx hb (hd (by simp [mm_len])) (mm_tg_eq (ht o (by simp [mm_offs]))) (fun q => absurd hc q) (fun _ => (k ls H locs cells slots hL hR))
      · rw [if_neg hc] at h
        cases h
        exact fun ls H locs cells slots hL hR => lv_icmp_ne hx hb (hd (by simp [mm_len])) (mm_tg_eq (ht o (by simp [mm_offs]))) (fun _ => (k ls H locs cells slots hL hR)) (fun q => absurd q hc)
    | lt =>
      have h : (if x < y then mm_go (mm_tg pc o) L r S else mm_go (pc + 3) L r S) = some (.inl z') := h
      by_cases hc : x < y
      · rw [if_pos hc] at h
        cases h
        exact fun ls H locs cells slots hL hR => lv_icmp_lt hx hb (hd (by simp [mm_len])) (mm_tg_eq (ht o (by simp [mm_offs]))) (fun _ => (k ls H locs cells slots hL hR)) (fun q => absurd hc q)
      · rw [if_neg hc] at h
        cases h
        exact fun ls H locs cells slots hL hR => lv_icmp_lt hx hb (hd (by simp [mm_len])) (mm_tg_eq (ht o (by simp [mm_offs]))) (fun q => absurd q hc) (fun _ => (k ls H locs cells slots hL hR))
    | ge =>
      have h : (if y ≤ x then mm_go (mm_tg pc o) L r S else mm_go (pc + 3) L r S) = some (.inl z') := h
      by_cases hc : y ≤ x
      · rw [if_pos hc] at h
        cases h
        exact fun ls H locs cells slots hL hR => lv_icmp_ge hx hb (hd (by simp [mm_len])) (mm_tg_eq (ht o (by simp [mm_offs]))) (fun _ => (k ls H locs cells slots hL hR)) (fun q => absurd hc q)
      · rw [if_neg hc] at h
        cases h
        exact fun ls H locs cells slots hL hR => lv_icmp_ge hx hb (hd (by simp [mm_len])) (mm_tg_eq (ht o (by simp [mm_offs]))) (fun q => absurd q hc) (fun _ => (k ls H locs cells slots hL hR))
    | gt =>
      have h : (if y < x then mm_go (mm_tg pc o) L r S else mm_go (pc + 3) L r S) = some (.inl z') := h
      by_cases hc : y < x
      · rw [if_pos hc] at h
        cases h
        exact fun ls H locs cells slots hL hR => lv_icmp_gt hx hb (hd (by simp [mm_len])) (mm_tg_eq (ht o (by simp [mm_offs]))) (fun _ => (k ls H locs cells slots hL hR)) (fun q => absurd hc q)
      · rw [if_neg hc] at h
        cases h
        exact fun ls H locs cells slots hL hR => lv_icmp_gt hx hb (hd (by simp [mm_len])) (mm_tg_eq (ht o (by simp [mm_offs]))) (fun q => absurd q hc) (fun _ => (k ls H locs cells slots hL hR))
    | le =>
      have h : (if x ≤ y then mm_go (mm_tg pc o) L r S else mm_go (pc + 3) L r S) = some (.inl z') := h
      by_cases hc : x ≤ y
      · rw [if_pos hc] at h
        cases h
        exact fun ls H locs cells slots hL hR => lv_icmp_le hx hb (hd (by simp [mm_len])) (mm_tg_eq (ht o (by simp [mm_offs]))) (fun _ => (k ls H locs cells slots hL hR)) (fun q => absurd hc q)
      · rw [if_neg hc] at h
        cases h
        exact fun ls H locs cells slots hL hR => lv_icmp_le hx hb (hd (by simp [mm_len])) (mm_tg_eq (ht o (by simp [mm_offs]))) (fun q => absurd q hc) (fun _ => (k ls H locs cells slots hL hR))
  | ifnull o =>
    obtain ⟨v, r, rfl, h⟩ := mm_1_inv h
    cases v with
    | ref a =>
      cases h
      exact fun ls H locs cells slots hL hR => lv_ifnull hx hb (hd (by simp [mm_len])) (k ls H locs cells slots hL hR)
    | null =>
      cases h
      exact fun ls H locs cells slots hL hR => lv_ifnullN hx hb (hd (by simp [mm_len])) (mm_tg_eq (ht o (by simp [mm_offs]))) (k ls H locs cells slots hL hR)
    | _ => cases h
  | ifnonnull o =>
    obtain ⟨v, r, rfl, h⟩ := mm_1_inv h
    cases v with
    | ref a =>
      cases h
      exact fun ls H locs cells slots hL hR => lv_ifnonnull hx hb (hd (by simp [mm_len])) (mm_tg_eq (ht o (by simp [mm_offs]))) (k ls H locs cells slots hL hR)
    | null =>
      cases h
      exact fun ls H locs cells slots hL hR => lv_ifnonnullN hx hb (hd (by simp [mm_len])) (k ls H locs cells slots hL hR)
    | _ => cases h
  | tableswitch d lo hi os =>
    obtain ⟨x, r, rfl, h⟩ := mm_i_inv h
    obtain ⟨n, hd0⟩ := hd0
    simp only [mm_swok, Bool.and_eq_true, decide_eq_true_eq] at hsw
    obtain ⟨⟨h1, h2⟩, h3⟩ := hsw
    rcases mm_tsw_at h h1 h2 with ⟨hr, h⟩ | ⟨o, hr, ho, h⟩
    · cases h
      exact fun ls H locs cells slots hL hR => lv_tableOut hx hb hd0 (by rcases hr with q | q; exact Or.inl q; exact Or.inr (by omega)) (mm_tg_eq (ht d (by simp [mm_offs]))) (k ls H locs cells slots hL hR)
    · cases h
      have hin : (x.toInt - lo).toNat < os.toList.length := (List.getElem?_eq_some_iff.mp ho).1
      exact fun ls H locs cells slots hL hR => lv_tableIn hx hb hd0 hr (by omega) (by rw [← Array.getElem?_toList]; exact ho) (mm_tg_eq (ht o (by simp only [mm_offs]; exact List.mem_cons_of_mem _ (List.mem_of_getElem? ho)))) (k ls H locs cells slots hL hR)
  | lookupswitch d ps =>
    obtain ⟨x, r, rfl, h⟩ := mm_i_inv h
    obtain ⟨n, hd0⟩ := hd0
    simp only [mm_swok, Bool.and_eq_true] at hsw
    obtain ⟨h1, h2⟩ := hsw
    obtain ⟨h, ho⟩ := mm_lsw_at h (fun q hq => of_decide_eq_true (List.all_eq_true.mp h1 q hq))
    cases h
    refine fun ls H locs cells slots hL hR => lv_lookup hx hb hd0 h2 rfl (mm_tg_eq (ht _ ?_)) (k ls H locs cells slots hL hR)
    simp only [mm_offs]
    rcases ho with ho | ⟨q, hq, ho⟩
    · rw [ho]; exact List.mem_cons_self
    · rw [← ho]; exact List.mem_cons_of_mem _ (List.mem_map.mpr ⟨q, hq, rfl⟩)
  | _ => cases hp
end SIM
end
section
/-! THE INSTRUCTIONS ON CELLS -/
/-- cells made, throws -/
def mm_co (S : mm_St) : Nat := S.1.length + S.2.2
def mm_sz (ck : Nat → List Nat) : mm_Sh → Nat
  | [] => 0
  | .inl ci :: r => (ck ci).length + mm_sz ck r
  | .inr (_, n) :: r => n + mm_sz ck r
def mm_sl (ck : Nat → List Nat) (S : mm_St) : Nat := mm_sz ck S.1 + 6 * S.2.2
/-- the kind of a field and its type -/
def mm_kt (kd : Nat) (ty : FieldType) : Bool := match kd, ty with
  | 0, .int => true
  | 1, .double => true
  | 2, .object _ => true
  | 2, .array _ => true
  | 3, .long => true
  | 4, .boolean => true
  | _, _ => false
/-- the classes' tables -/
def mm_CK (cl : List vw_C) (ck : Nat → List Nat) (ct : Nat → Nat → FieldType) (TT : List Cond) : Prop :=
  ∀ (ci : Nat) (C : String) (T : u_T) (N : Nat), cl[ci]? = some (C, T, N) → (∀ w ∈ u_ws C T N, w ∈ TT) ∧ (ck ci).length = N ∧ (∀ k, k < N → parseFieldDescriptor (T k).2.2.1 = some (ct ci k)) ∧ (∀ a, a < N → ∀ b, b < N → a ≠ b → (T a).2.1 ≠ (T b).2.1) ∧ ∀ k kd, (ck ci)[k]? = some kd → mm_kt kd (ct ci k) = true
/-- a field's link -/
def mm_FL (cl : List vw_C) (TT : List Cond) (own : String) (ix ci k : Nat) (C : String) (T : u_T) (N : Nat) : Prop :=
  cl[ci]? = some (C, T, N) ∧ k < N ∧ Cond.fieldLink own ix (T k).1 (T k).2.1 (T k).2.2.1 ∈ TT
section HEAP
variable {p : Program} {l : Launch} {e : Env} {R : Room} {s : State} {m : MethodId} {args : Array Value} {below : List Frame} {meth : Method} {c : Code} {Q : State → Prop}
variable {D : va_G} {cl : List vw_C} {tys : List (ClassId × FieldType)} {ck : Nat → List Nat} {ct : Nat → Nat → FieldType} {ak : Nat → FieldType} {dA : Nat → ClassId} {B b Ls nL pc : Nat} {xs : Nat → Int32} {TT : List Cond} {cc : ByteArray} {own : String} {me : mm_Me} {L : mm_L} {st : List Value} {S S0 : mm_St} {z' : mm_Z}
/-- the heap holds the small machine's cells; nothing below B has changed; so many cells are new -/
def mm_Rz (D : va_G) (cl : List vw_C) (ck : Nat → List Nat) (ak : Nat → FieldType) (dA : Nat → ClassId) (B b : Nat) (H0 : Heap) (S0 : mm_St) (S : mm_St) (H : Heap) (locs : List Loc) (cells slots : Nat) : Prop :=
  va_P D cl (mm_ws ck ak dA B b S.1 S.2.1) H ∧ va_S (fun q => B ≤ q) H0 H locs ∧ mm_co S0 + cells = mm_co S ∧ mm_sl ck S0 + slots = mm_sl ck S ∧ S0.2.2 ≤ S.2.2
theorem mm_k_getf {ix ci k : Nat} {C : String} {T : u_T} {N : Nat} (X : CallFix p m c cc nL s args TT own) (hK : va_K D cl tys s) (hCK : mm_CK cl ck ct TT) (hl : mm_FL cl TT own ix ci k C T N) (hd : decode cc pc = .ok (.getfield ix, 3))
    (h : mm_getf ck pc L st S ci k = some (.inl z')) (kJ : mm_J p l e R s m args below meth c Q B b nL (mm_Rz D cl ck ak dA B b s.heap S0) z') : mm_J p l e R s m args below meth c Q B b nL (mm_Rz D cl ck ak dA B b s.heap S0) (pc, L, st, S) := by
  obtain ⟨hx, hb, hml, hown, hts⟩ := X
  obtain ⟨hc1, hkN, hlk⟩ := hl
  obtain ⟨hin, hlen, hty, hnm, hkt⟩ := hCK ci C T N hc1
  unfold mm_getf at h
  split at h
  next a r =>
    split at h
    next cj ha =>
      obtain ⟨hq, h⟩ := mm_cond_inv h
      have hq := Nat.eq_of_beq_eq_true hq
      subst hq
      split at h
      next kd hkd =>
        cases h
        intro ls H locs cells slots hL hR
        have hP := hR.1
        exact va_get hx hb hts hin hown hK hP a (mm_ws_at ha) hc1 k hkN (hts _ hlk) (fun _ h9 => h9) (mm_fs_at hkd) hd (kJ ls H locs cells slots hL hR)
      next => cases h
    next => cases h
  next => cases h
/-- a write of a field: the new cells -/
theorem mm_put_at {ix ci k a kd : Nat} {C : String} {T : u_T} {N : Nat} {v : Value} {r : List Value} {S' : mm_St} (X : CallFix p m c cc nL s args TT own) (hK : va_K D cl tys s) (hCK : mm_CK cl ck ct TT) (hl : mm_FL cl TT own ix ci k C T N) (hfin : (T k).2.2.2 = false ∨ (meth.name = "<init>" ∧ (T k).1 = own)) (hd : decode cc pc = .ok (.putfield ix, 3))
    (ha : S.1[a]? = some (.inl ci)) (hkd : (ck ci)[k]? = some kd) (hn : narrow (ct ci k) (mm_v B b v) = mm_v B b v) (hfit : fits (ct ci k) (mm_v B b v) = true) (hS1 : S'.1 = S.1) (hS2 : S'.2.2 = S.2.2)
    (hv : mm_rd S'.2.1 kd a k = v) (hj : ∀ j kj, j ≠ k → mm_rd S'.2.1 kj a j = mm_rd S.2.1 kj a j) (hag : ∀ c, c ≠ a → mm_ag S.2.1 S'.2.1 c)
    (kJ : mm_J p l e R s m args below meth c Q B b nL (mm_Rz D cl ck ak dA B b s.heap S0) (pc + 3, L, r, S')) : mm_J p l e R s m args below meth c Q B b nL (mm_Rz D cl ck ak dA B b s.heap S0) (pc, L, v :: .ref a :: r, S) := by
  obtain ⟨hx, hb, hml, hown, hts⟩ := X
  obtain ⟨hc1, hkN, hlk⟩ := hl
  obtain ⟨hin, hlen, hty, hnm, hkt⟩ := hCK ci C T N hc1
  intro ls H locs cells slots hL hR
  obtain ⟨hP, hS, hco, hsl, hnx⟩ := hR
  have hws := mm_ws_f (ak := ak) (dA := dA) (B := B) (b := b) ha hkd hv hj hag
  have hkl : k < (mm_fs S.2.1 B b a (ck ci)).length := by rw [mm_fs_len, hlen]; exact hkN
  have hD : va_D (fun q => B ≤ q) (mm_ws ck ak dA B b S.1 S.2.1) := mm_ws_D (fun q h => h) _ _
  have fin : ∀ (H1 : Heap) (locs1 : List Loc), va_P D cl ((mm_ws ck ak dA B b S.1 S.2.1).set a (B + a, .inr (ci, (mm_fs S.2.1 B b a (ck ci)).set k (mm_v B b v)))) H1 → va_S (fun q => B ≤ q) s.heap H1 locs1 → W p l e R s m args below meth c H1 locs1 cells slots Q (F0 m (pc + 3) ls (r.map (mm_v B b))) := by
    intro H1 locs1 hP1 hS1'
    refine kJ ls H1 locs1 cells slots hL ⟨?_, hS1', ?_, ?_, ?_⟩
    · show va_P D cl (mm_ws ck ak dA B b S'.1 S'.2.1) H1
      rw [hS1, hws]; exact hP1
    · show mm_co S0 + cells = S'.1.length + S'.2.2
      rw [hS1, hS2]; exact hco
    · show mm_sl ck S0 + slots = mm_sz ck S'.1 + 6 * S'.2.2
      rw [hS1, hS2]; exact hsl
    · show S0.2.2 ≤ S'.2.2
      rw [hS2]; exact hnx
  cases hf : (T k).2.2.2 with
  | false => exact va_put hx hb hts hin (ct ci) hty hnm hown hK hP hD hS a (mm_ws_at ha) hc1 k hkN (hts _ hlk) (fun _ h9 => h9) hf (hty k hkN) hn hfit hkl hd (fun H1 locs1 h1 _ h3 => fin H1 locs1 h1 h3)
  | true =>
    rcases hfin with hfin | ⟨hi1, hi2⟩
    · rw [hf] at hfin; cases hfin
    · exact va_putF hx hb hts hin (ct ci) hty hnm hown hK hP hD hS a (mm_ws_at ha) hc1 k hkN (hts _ hlk) (fun _ h9 => h9) hf hi1 hi2 (hty k hkN) hn hfit hkl hd (fun H1 locs1 h1 _ h3 => fin H1 locs1 h1 h3)
theorem mm_kt0 {ty : FieldType} (h : mm_kt 0 ty = true) : ty = .int := by cases ty <;> first | rfl | cases h
theorem mm_kt1 {ty : FieldType} (h : mm_kt 1 ty = true) : ty = .double := by cases ty <;> first | rfl | cases h
theorem mm_kt2 {ty : FieldType} (h : mm_kt 2 ty = true) : (∃ n, ty = .object n) ∨ ∃ t, ty = .array t := by cases ty <;> first | exact Or.inl ⟨_, rfl⟩ | exact Or.inr ⟨_, rfl⟩ | cases h
theorem mm_kt3 {ty : FieldType} (h : mm_kt 3 ty = true) : ty = .long := by cases ty <;> first | rfl | cases h
theorem mm_kt4 {ty : FieldType} (h : mm_kt 4 ty = true) : ty = .boolean := by cases ty <;> first | rfl | cases h
theorem mm_rd_uI {M : mm_M} {a k j : Nat} {x : Int32} (h : j ≠ k) (kj : Nat) : mm_rd (mm_u M.1 a k x, M.2) kj a j = mm_rd M kj a j := by
  unfold mm_rd
  split <;> simp [mm_u_k h]
theorem mm_rd_uD {M : mm_M} {a k j : Nat} {x : UInt64} (h : j ≠ k) (kj : Nat) : mm_rd (M.1, mm_u M.2.1 a k x, M.2.2) kj a j = mm_rd M kj a j := by
  unfold mm_rd
  split <;> simp [mm_u_k h]
theorem mm_rd_uR {M : mm_M} {a k j : Nat} {x : Option Nat} (h : j ≠ k) (kj : Nat) : mm_rd (M.1, M.2.1, mm_u M.2.2.1 a k x, M.2.2.2) kj a j = mm_rd M kj a j := by
  unfold mm_rd
  split <;> simp [mm_u_k h]
theorem mm_rd_uJ {M : mm_M} {a k j : Nat} {x : Int64} (h : j ≠ k) (kj : Nat) : mm_rd (M.1, M.2.1, M.2.2.1, mm_u M.2.2.2 a k x) kj a j = mm_rd M kj a j := by
  unfold mm_rd
  split <;> simp [mm_u_k h]
theorem mm_k_putf {ix ci k : Nat} {C : String} {T : u_T} {N : Nat} (X : CallFix p m c cc nL s args TT own) (hK : va_K D cl tys s) (hCK : mm_CK cl ck ct TT) (hl : mm_FL cl TT own ix ci k C T N) (hfin : (T k).2.2.2 = false ∨ (meth.name = "<init>" ∧ (T k).1 = own)) (hd : decode cc pc = .ok (.putfield ix, 3))
    (h : mm_putf ck pc L st S ci k = some (.inl z')) (kJ : mm_J p l e R s m args below meth c Q B b nL (mm_Rz D cl ck ak dA B b s.heap S0) z') : mm_J p l e R s m args below meth c Q B b nL (mm_Rz D cl ck ak dA B b s.heap S0) (pc, L, st, S) := by
  have hkt := (hCK ci C T N hl.1).2.2.2.2
  unfold mm_putf at h
  split at h
  next v a r =>
    split at h
    next cj ha =>
      obtain ⟨hq, h⟩ := mm_cond_inv h
      have hq := Nat.eq_of_beq_eq_true hq
      subst hq
      split at h
      next kd hkd =>
        have hk9 := hkt k _ hkd
        match kd, hkd, hk9, h with
        | 0, hkd, hk9, h =>
          have hty := mm_kt0 hk9
          cases v with
          | int x =>
            cases h
            exact mm_put_at (kd := 0) (v := .int x) (S' := mm_sI S a k x) X hK hCK hl hfin hd ha hkd (by rw [hty]; rfl) (by rw [hty]; rfl) rfl rfl (by simp [mm_rd, mm_sI, mm_u_s]) (fun j kj hj => mm_rd_uI hj kj) (fun c hc => mm_sI_ag hc) kJ
          | _ => cases h
        | 1, hkd, hk9, h =>
          have hty := mm_kt1 hk9
          cases v with
          | double x =>
            cases h
            exact mm_put_at (kd := 1) (v := .double x) (S' := mm_sD S a k x) X hK hCK hl hfin hd ha hkd (by rw [hty]; rfl) (by rw [hty]; rfl) rfl rfl (by simp [mm_rd, mm_sD, mm_u_s]) (fun j kj hj => mm_rd_uD hj kj) (fun c hc => mm_sD_ag hc) kJ
          | _ => cases h
        | 2, hkd, hk9, h =>
          cases v with
          | ref x =>
            cases h
            rcases mm_kt2 hk9 with ⟨n, hty⟩ | ⟨t, hty⟩
            · exact mm_put_at (kd := 2) (v := .ref x) (S' := mm_sR S a k (some x)) X hK hCK hl hfin hd ha hkd (by rw [hty]; rfl) (by rw [hty]; rfl) rfl rfl (by simp [mm_rd, mm_sR, mm_u_s, va_rf]) (fun j kj hj => mm_rd_uR hj kj) (fun c hc => mm_sR_ag hc) kJ
            · exact mm_put_at (kd := 2) (v := .ref x) (S' := mm_sR S a k (some x)) X hK hCK hl hfin hd ha hkd (by rw [hty]; rfl) (by rw [hty]; rfl) rfl rfl (by simp [mm_rd, mm_sR, mm_u_s, va_rf]) (fun j kj hj => mm_rd_uR hj kj) (fun c hc => mm_sR_ag hc) kJ
          | null =>
            cases h
            rcases mm_kt2 hk9 with ⟨n, hty⟩ | ⟨t, hty⟩
            · exact mm_put_at (kd := 2) (v := .null) (S' := mm_sR S a k none) X hK hCK hl hfin hd ha hkd (by rw [hty]; rfl) (by rw [hty]; rfl) rfl rfl (by simp [mm_rd, mm_sR, mm_u_s, va_rf]) (fun j kj hj => mm_rd_uR hj kj) (fun c hc => mm_sR_ag hc) kJ
            · exact mm_put_at (kd := 2) (v := .null) (S' := mm_sR S a k none) X hK hCK hl hfin hd ha hkd (by rw [hty]; rfl) (by rw [hty]; rfl) rfl rfl (by simp [mm_rd, mm_sR, mm_u_s, va_rf]) (fun j kj hj => mm_rd_uR hj kj) (fun c hc => mm_sR_ag hc) kJ
          | _ => cases h
        | 3, hkd, hk9, h =>
          have hty := mm_kt3 hk9
          cases v with
          | long x =>
            cases h
            exact mm_put_at (kd := 3) (v := .long x) (S' := mm_sJ S a k x) X hK hCK hl hfin hd ha hkd (by rw [hty]; rfl) (by rw [hty]; rfl) rfl rfl (by simp [mm_rd, mm_sJ, mm_u_s]) (fun j kj hj => mm_rd_uJ hj kj) (fun c hc => mm_sJ_ag hc) kJ
          | _ => cases h
        | 4, hkd, hk9, h =>
          have hty := mm_kt4 hk9
          cases v with
          | int x =>
            have h : (if x = 0 ∨ x = 1 then mm_go (pc + 3) L r (mm_sI S a k x) else none) = some (.inl z') := h
            by_cases h01 : x = 0 ∨ x = 1
            · rw [if_pos h01] at h
              cases h
              exact mm_put_at (kd := 4) (v := .int x) (S' := mm_sI S a k x) X hK hCK hl hfin hd ha hkd (by rw [hty]; rcases h01 with h | h <;> (subst h; rfl)) (by rw [hty]; rcases h01 with h | h <;> (subst h; rfl)) rfl rfl (by simp [mm_rd, mm_sI, mm_u_s]) (fun j kj hj => mm_rd_uI hj kj) (fun c hc => mm_sI_ag hc) kJ
            · rw [if_neg h01] at h
              cases h
          | _ => cases h
        | n + 5, hkd, hk9, h => cases h
      next => cases h
    next => cases h
  next => cases h
end HEAP
end
section
section ARR
variable {p : Program} {l : Launch} {e : Env} {R : Room} {s : State} {m : MethodId} {args : Array Value} {below : List Frame} {meth : Method} {c : Code} {Q : State → Prop}
variable {D : va_G} {cl : List vw_C} {tys : List (ClassId × FieldType)} {ck : Nat → List Nat} {ct : Nat → Nat → FieldType} {ak : Nat → FieldType} {dA : Nat → ClassId} {B b Ls nL pc : Nat} {xs : Nat → Int32} {TT : List Cond} {cc : ByteArray} {own : String} {me : mm_Me} {L : mm_L} {st : List Value} {S S0 : mm_St} {z' : mm_Z}
theorem mm_ty0 {ty : FieldType} (h : mm_ty ty = 0) : ty = .int := by cases ty <;> first | rfl | cases h
theorem mm_ty1 {ty : FieldType} (h : mm_ty ty = 1) : ty = .char := by cases ty <;> first | rfl | cases h
theorem mm_ty2 {ty : FieldType} (h : mm_ty ty = 2) : ty = .double := by cases ty <;> first | rfl | cases h
theorem mm_ty3 {ty : FieldType} (h : mm_ty ty = 3) : ty = .long := by cases ty <;> first | rfl | cases h
theorem mm_ty4 {ty : FieldType} (h : mm_ty ty = 4) : ty = .boolean := by cases ty <;> first | rfl | cases h
theorem mm_ty5 {ty : FieldType} (h : mm_ty ty = 5) : ∃ C, ty = .object C := by cases ty <;> first | exact ⟨_, rfl⟩ | cases h
/-- the arrays' classes -/
def mm_AT (tys : List (ClassId × FieldType)) (ak : Nat → FieldType) (dA : Nat → ClassId) : Prop := ∀ t, ∃ t0 : Nat, tys[t0]? = some (dA t, ak t)
theorem mm_ws_ar {t n a : Nat} {ty : FieldType} (ha : S.1[a]? = some (.inr (t, n))) (hty : ak t = ty) : (mm_ws ck ak dA B b S.1 S.2.1)[a]? = some (B + a, .inl (dA t, n, mm_arr ty S.2.1 B a)) := by
  have h := mm_ws_at (ck := ck) (ak := ak) (dA := dA) (B := B) (b := b) (M := S.2.1) ha
  simp only [mm_cell, hty] at h
  exact h
theorem mm_ws_ar_set {t n a : Nat} {ty : FieldType} {M' : mm_M} {x} (ha : S.1[a]? = some (.inr (t, n))) (hty : ak t = ty) (hx : mm_arr ty M' B a = x) (hag : ∀ c, c ≠ a → mm_ag S.2.1 M' c) :
    mm_ws ck ak dA B b S.1 M' = (mm_ws ck ak dA B b S.1 S.2.1).set a (B + a, .inl (dA t, n, x)) :=
  mm_ws_set ha (by simp only [mm_cell, hty, hx]) fun c hc sc _ => mm_cell_ag (hag c hc) sc

theorem mm_k_iald (X : CallFix p m c cc nL s args TT own) (hK : va_K D cl tys s) (hT : mm_AT tys ak dA) (hd : decode cc pc = .ok (.iaload, 1))
    (h : (mm_ai ak S st 0 fun i a r => mm_go (pc + 1) L (.int (S.2.1.1 a i.toNatClampNeg) :: r) S) = some (.inl z')) (kJ : mm_J p l e R s m args below meth c Q B b nL (mm_Rz D cl ck ak dA B b s.heap S0) z') : mm_J p l e R s m args below meth c Q B b nL (mm_Rz D cl ck ak dA B b s.heap S0) (pc, L, st, S) := by
  obtain ⟨hx, hb, hml, hown, hts⟩ := X
  obtain ⟨i, a, r, t, n, rfl, ha, ht, hi, h⟩ := mm_ai_inv h
  cases h
  obtain ⟨t0, h0⟩ := hT t
  have hty := mm_ty0 ht
  rw [hty] at h0
  exact fun ls H locs cells slots hL hR => va_iald hx hb hK hR.1 a t0 (mm_ws_ar ha hty) h0 hi hd (kJ ls H locs cells slots hL hR)
theorem mm_k_cald (X : CallFix p m c cc nL s args TT own) (hK : va_K D cl tys s) (hT : mm_AT tys ak dA) (hd : decode cc pc = .ok (.caload, 1))
    (h : (mm_ai ak S st 1 fun i a r => mm_go (pc + 1) L (.int (S.2.1.1 a i.toNatClampNeg) :: r) S) = some (.inl z')) (kJ : mm_J p l e R s m args below meth c Q B b nL (mm_Rz D cl ck ak dA B b s.heap S0) z') : mm_J p l e R s m args below meth c Q B b nL (mm_Rz D cl ck ak dA B b s.heap S0) (pc, L, st, S) := by
  obtain ⟨hx, hb, hml, hown, hts⟩ := X
  obtain ⟨i, a, r, t, n, rfl, ha, ht, hi, h⟩ := mm_ai_inv h
  cases h
  obtain ⟨t0, h0⟩ := hT t
  have hty := mm_ty1 ht
  rw [hty] at h0
  exact fun ls H locs cells slots hL hR => va_cald hx hb hK hR.1 a t0 (mm_ws_ar ha hty) h0 hi hd (kJ ls H locs cells slots hL hR)
theorem mm_k_zald (X : CallFix p m c cc nL s args TT own) (hK : va_K D cl tys s) (hT : mm_AT tys ak dA) (hd : decode cc pc = .ok (.baload, 1))
    (h : (mm_ai ak S st 4 fun i a r => mm_go (pc + 1) L (.int (S.2.1.1 a i.toNatClampNeg) :: r) S) = some (.inl z')) (kJ : mm_J p l e R s m args below meth c Q B b nL (mm_Rz D cl ck ak dA B b s.heap S0) z') : mm_J p l e R s m args below meth c Q B b nL (mm_Rz D cl ck ak dA B b s.heap S0) (pc, L, st, S) := by
  obtain ⟨hx, hb, hml, hown, hts⟩ := X
  obtain ⟨i, a, r, t, n, rfl, ha, ht, hi, h⟩ := mm_ai_inv h
  cases h
  obtain ⟨t0, h0⟩ := hT t
  have hty := mm_ty4 ht
  rw [hty] at h0
  exact fun ls H locs cells slots hL hR => va_zald hx hb hK hR.1 a t0 (mm_ws_ar ha hty) h0 hi hd (kJ ls H locs cells slots hL hR)
theorem mm_k_dald (X : CallFix p m c cc nL s args TT own) (hK : va_K D cl tys s) (hT : mm_AT tys ak dA) (hd : decode cc pc = .ok (.daload, 1))
    (h : (mm_ai ak S st 2 fun i a r => mm_go (pc + 1) L (.double (S.2.1.2.1 a i.toNatClampNeg) :: r) S) = some (.inl z')) (kJ : mm_J p l e R s m args below meth c Q B b nL (mm_Rz D cl ck ak dA B b s.heap S0) z') : mm_J p l e R s m args below meth c Q B b nL (mm_Rz D cl ck ak dA B b s.heap S0) (pc, L, st, S) := by
  obtain ⟨hx, hb, hml, hown, hts⟩ := X
  obtain ⟨i, a, r, t, n, rfl, ha, ht, hi, h⟩ := mm_ai_inv h
  cases h
  obtain ⟨t0, h0⟩ := hT t
  have hty := mm_ty2 ht
  rw [hty] at h0
  exact fun ls H locs cells slots hL hR => va_dald hx hb hK hR.1 a t0 (mm_ws_ar ha hty) h0 hi hd (kJ ls H locs cells slots hL hR)
theorem mm_k_lald (X : CallFix p m c cc nL s args TT own) (hK : va_K D cl tys s) (hT : mm_AT tys ak dA) (hd : decode cc pc = .ok (.laload, 1))
    (h : (mm_ai ak S st 3 fun i a r => mm_go (pc + 1) L (.long (S.2.1.2.2.2 a i.toNatClampNeg) :: r) S) = some (.inl z')) (kJ : mm_J p l e R s m args below meth c Q B b nL (mm_Rz D cl ck ak dA B b s.heap S0) z') : mm_J p l e R s m args below meth c Q B b nL (mm_Rz D cl ck ak dA B b s.heap S0) (pc, L, st, S) := by
  obtain ⟨hx, hb, hml, hown, hts⟩ := X
  obtain ⟨i, a, r, t, n, rfl, ha, ht, hi, h⟩ := mm_ai_inv h
  cases h
  obtain ⟨t0, h0⟩ := hT t
  have hty := mm_ty3 ht
  rw [hty] at h0
  exact fun ls H locs cells slots hL hR => va_lald hx hb hK hR.1 a t0 (mm_ws_ar ha hty) h0 hi hd (kJ ls H locs cells slots hL hR)
theorem mm_k_aald (X : CallFix p m c cc nL s args TT own) (hK : va_K D cl tys s) (hT : mm_AT tys ak dA) (hd : decode cc pc = .ok (.aaload, 1))
    (h : (mm_ai ak S st 5 fun i a r => mm_go (pc + 1) L (va_rf (S.2.1.2.2.1 a i.toNatClampNeg) :: r) S) = some (.inl z')) (kJ : mm_J p l e R s m args below meth c Q B b nL (mm_Rz D cl ck ak dA B b s.heap S0) z') : mm_J p l e R s m args below meth c Q B b nL (mm_Rz D cl ck ak dA B b s.heap S0) (pc, L, st, S) := by
  obtain ⟨hx, hb, hml, hown, hts⟩ := X
  obtain ⟨i, a, r, t, n, rfl, ha, ht, hi, h⟩ := mm_ai_inv h
  cases h
  obtain ⟨t0, h0⟩ := hT t
  obtain ⟨C, hty⟩ := mm_ty5 ht
  rw [hty] at h0
  intro ls H locs cells slots hL hR
  have k9 := kJ ls H locs cells slots hL hR
  simp only [List.map_cons, mm_v_rf] at k9
  exact va_aldq hx hb hK hR.1 a t0 (mm_ws_ar ha hty) h0 hi hd k9
theorem mm_k_iast (X : CallFix p m c cc nL s args TT own) (hK : va_K D cl tys s) (hT : mm_AT tys ak dA) (hd : decode cc pc = .ok (.iastore, 1))
    (h : (mm_i st fun x st => mm_ai ak S st 0 fun i a r => mm_go (pc + 1) L r (mm_sI S a i.toNatClampNeg x)) = some (.inl z')) (kJ : mm_J p l e R s m args below meth c Q B b nL (mm_Rz D cl ck ak dA B b s.heap S0) z') : mm_J p l e R s m args below meth c Q B b nL (mm_Rz D cl ck ak dA B b s.heap S0) (pc, L, st, S) := by
  obtain ⟨hx, hb, hml, hown, hts⟩ := X
  obtain ⟨x, st, rfl, h⟩ := mm_i_inv h
  obtain ⟨i, a, r, t, n, rfl, ha, ht, hi, h⟩ := mm_ai_inv h
  cases h
  obtain ⟨t0, h0⟩ := hT t
  have hty := mm_ty0 ht
  rw [hty] at h0
  intro ls H locs cells slots hL hR
  obtain ⟨hP, hS, hco, hsl, hnx⟩ := hR
  refine va_iast hx hb hK hP (mm_ws_D (fun q h => h) _ _) hS a t0 (mm_ws_ar ha hty) h0 hi hd (fun H1 locs1 hP1 _ hS1 => kJ ls H1 locs1 cells slots hL ⟨?_, hS1, hco, hsl, hnx⟩)
  show va_P D cl (mm_ws ck ak dA B b S.1 (mm_sI S a i.toNatClampNeg x).2.1) H1
  rw [mm_ws_ar_set ha hty (M' := (mm_sI S a i.toNatClampNeg x).2.1) rfl (fun c hc => mm_sI_ag hc)]
  have e9 : mm_arr (.int) (mm_sI S a i.toNatClampNeg x).2.1 B a = .inl (upd (S.2.1.1 a) i.toNatClampNeg x) := by
    simp only [mm_arr, mm_sI, mm_u_row]
  rw [e9]
  exact hP1
theorem mm_k_cast (X : CallFix p m c cc nL s args TT own) (hK : va_K D cl tys s) (hT : mm_AT tys ak dA) (hd : decode cc pc = .ok (.castore, 1))
    (h : (mm_i st fun x st => mm_ai ak S st 1 fun i a r => mm_go (pc + 1) L r (mm_sI S a i.toNatClampNeg (vp_nar .char x))) = some (.inl z')) (kJ : mm_J p l e R s m args below meth c Q B b nL (mm_Rz D cl ck ak dA B b s.heap S0) z') : mm_J p l e R s m args below meth c Q B b nL (mm_Rz D cl ck ak dA B b s.heap S0) (pc, L, st, S) := by
  obtain ⟨hx, hb, hml, hown, hts⟩ := X
  obtain ⟨x, st, rfl, h⟩ := mm_i_inv h
  obtain ⟨i, a, r, t, n, rfl, ha, ht, hi, h⟩ := mm_ai_inv h
  cases h
  obtain ⟨t0, h0⟩ := hT t
  have hty := mm_ty1 ht
  rw [hty] at h0
  intro ls H locs cells slots hL hR
  obtain ⟨hP, hS, hco, hsl, hnx⟩ := hR
  refine va_cast hx hb hK hP (mm_ws_D (fun q h => h) _ _) hS a t0 (mm_ws_ar ha hty) h0 hi hd (fun H1 locs1 hP1 _ hS1 => kJ ls H1 locs1 cells slots hL ⟨?_, hS1, hco, hsl, hnx⟩)
  show va_P D cl (mm_ws ck ak dA B b S.1 (mm_sI S a i.toNatClampNeg (vp_nar .char x)).2.1) H1
  rw [mm_ws_ar_set ha hty (M' := (mm_sI S a i.toNatClampNeg (vp_nar .char x)).2.1) rfl (fun c hc => mm_sI_ag hc)]
  have e9 : mm_arr (.char) (mm_sI S a i.toNatClampNeg (vp_nar .char x)).2.1 B a = .inl (upd (S.2.1.1 a) i.toNatClampNeg (vp_nar .char x)) := by
    simp only [mm_arr, mm_sI, mm_u_row]
  rw [e9]
  exact hP1
theorem mm_k_zast (X : CallFix p m c cc nL s args TT own) (hK : va_K D cl tys s) (hT : mm_AT tys ak dA) (hd : decode cc pc = .ok (.bastore, 1))
    (h : (mm_i st fun x st => mm_ai ak S st 4 fun i a r => mm_go (pc + 1) L r (mm_sI S a i.toNatClampNeg (vp_nar .boolean x))) = some (.inl z')) (kJ : mm_J p l e R s m args below meth c Q B b nL (mm_Rz D cl ck ak dA B b s.heap S0) z') : mm_J p l e R s m args below meth c Q B b nL (mm_Rz D cl ck ak dA B b s.heap S0) (pc, L, st, S) := by
  obtain ⟨hx, hb, hml, hown, hts⟩ := X
  obtain ⟨x, st, rfl, h⟩ := mm_i_inv h
  obtain ⟨i, a, r, t, n, rfl, ha, ht, hi, h⟩ := mm_ai_inv h
  cases h
  obtain ⟨t0, h0⟩ := hT t
  have hty := mm_ty4 ht
  rw [hty] at h0
  intro ls H locs cells slots hL hR
  obtain ⟨hP, hS, hco, hsl, hnx⟩ := hR
  refine va_zast hx hb hK hP (mm_ws_D (fun q h => h) _ _) hS a t0 (mm_ws_ar ha hty) h0 hi hd (fun H1 locs1 hP1 _ hS1 => kJ ls H1 locs1 cells slots hL ⟨?_, hS1, hco, hsl, hnx⟩)
  show va_P D cl (mm_ws ck ak dA B b S.1 (mm_sI S a i.toNatClampNeg (vp_nar .boolean x)).2.1) H1
  rw [mm_ws_ar_set ha hty (M' := (mm_sI S a i.toNatClampNeg (vp_nar .boolean x)).2.1) rfl (fun c hc => mm_sI_ag hc)]
  have e9 : mm_arr (.boolean) (mm_sI S a i.toNatClampNeg (vp_nar .boolean x)).2.1 B a = .inl (upd (S.2.1.1 a) i.toNatClampNeg (vp_nar .boolean x)) := by
    simp only [mm_arr, mm_sI, mm_u_row]
  rw [e9]
  exact hP1
theorem mm_k_dast (X : CallFix p m c cc nL s args TT own) (hK : va_K D cl tys s) (hT : mm_AT tys ak dA) (hd : decode cc pc = .ok (.dastore, 1))
    (h : (mm_d st fun x st => mm_ai ak S st 2 fun i a r => mm_go (pc + 1) L r (mm_sD S a i.toNatClampNeg x)) = some (.inl z')) (kJ : mm_J p l e R s m args below meth c Q B b nL (mm_Rz D cl ck ak dA B b s.heap S0) z') : mm_J p l e R s m args below meth c Q B b nL (mm_Rz D cl ck ak dA B b s.heap S0) (pc, L, st, S) := by
  obtain ⟨hx, hb, hml, hown, hts⟩ := X
  obtain ⟨x, st, rfl, h⟩ := mm_d_inv h
  obtain ⟨i, a, r, t, n, rfl, ha, ht, hi, h⟩ := mm_ai_inv h
  cases h
  obtain ⟨t0, h0⟩ := hT t
  have hty := mm_ty2 ht
  rw [hty] at h0
  intro ls H locs cells slots hL hR
  obtain ⟨hP, hS, hco, hsl, hnx⟩ := hR
  refine va_dast hx hb hK hP (mm_ws_D (fun q h => h) _ _) hS a t0 (mm_ws_ar ha hty) h0 hi hd (fun H1 locs1 hP1 _ hS1 => kJ ls H1 locs1 cells slots hL ⟨?_, hS1, hco, hsl, hnx⟩)
  show va_P D cl (mm_ws ck ak dA B b S.1 (mm_sD S a i.toNatClampNeg x).2.1) H1
  rw [mm_ws_ar_set ha hty (M' := (mm_sD S a i.toNatClampNeg x).2.1) rfl (fun c hc => mm_sD_ag hc)]
  have e9 : mm_arr (.double) (mm_sD S a i.toNatClampNeg x).2.1 B a = .inr (.inr (.inr (.inl (vf_upd (S.2.1.2.1 a) i.toNatClampNeg x)))) := by
    simp only [mm_arr, mm_sD, mm_u_rowD]
  rw [e9]
  exact hP1
theorem mm_k_last (X : CallFix p m c cc nL s args TT own) (hK : va_K D cl tys s) (hT : mm_AT tys ak dA) (hd : decode cc pc = .ok (.lastore, 1))
    (h : (mm_j st fun x st => mm_ai ak S st 3 fun i a r => mm_go (pc + 1) L r (mm_sJ S a i.toNatClampNeg x)) = some (.inl z')) (kJ : mm_J p l e R s m args below meth c Q B b nL (mm_Rz D cl ck ak dA B b s.heap S0) z') : mm_J p l e R s m args below meth c Q B b nL (mm_Rz D cl ck ak dA B b s.heap S0) (pc, L, st, S) := by
  obtain ⟨hx, hb, hml, hown, hts⟩ := X
  obtain ⟨x, st, rfl, h⟩ := mm_j_inv h
  obtain ⟨i, a, r, t, n, rfl, ha, ht, hi, h⟩ := mm_ai_inv h
  cases h
  obtain ⟨t0, h0⟩ := hT t
  have hty := mm_ty3 ht
  rw [hty] at h0
  intro ls H locs cells slots hL hR
  obtain ⟨hP, hS, hco, hsl, hnx⟩ := hR
  refine va_last hx hb hK hP (mm_ws_D (fun q h => h) _ _) hS a t0 (mm_ws_ar ha hty) h0 hi hd (fun H1 locs1 hP1 _ hS1 => kJ ls H1 locs1 cells slots hL ⟨?_, hS1, hco, hsl, hnx⟩)
  show va_P D cl (mm_ws ck ak dA B b S.1 (mm_sJ S a i.toNatClampNeg x).2.1) H1
  rw [mm_ws_ar_set ha hty (M' := (mm_sJ S a i.toNatClampNeg x).2.1) rfl (fun c hc => mm_sJ_ag hc)]
  have e9 : mm_arr (.long) (mm_sJ S a i.toNatClampNeg x).2.1 B a = .inr (.inl (vp_updL (S.2.1.2.2.2 a) i.toNatClampNeg x)) := by
    simp only [mm_arr, mm_sJ, mm_u_rowJ]
  rw [e9]
  exact hP1
end ARR
end
section
section NEW
variable {p : Program} {l : Launch} {e : Env} {R : Room} {s : State} {m : MethodId} {args : Array Value} {below : List Frame} {meth : Method} {c : Code} {Q : State → Prop}
variable {D : va_G} {cl : List vw_C} {tys : List (ClassId × FieldType)} {ck : Nat → List Nat} {ct : Nat → Nat → FieldType} {ak : Nat → FieldType} {dA : Nat → ClassId} {B b Ls nL pc : Nat} {xs : Nat → Int32} {TT : List Cond} {cc : ByteArray} {own : String} {me : mm_Me} {L : mm_L} {st : List Value} {S S0 : mm_St} {z' : mm_Z}
theorem mm_aas_inv {f : Nat → Int32 → Nat → List Value → mm_N} {z : mm_Z ⊕ mm_O} (h : mm_aas ak S st f = some z) : ∃ x i a r ci n, st = .ref x :: .int i :: .ref a :: r ∧ S.1[x]? = some (.inl ci) ∧ S.1[a]? = some (.inr (10 + ci, n)) ∧ vp_in i n ∧ f x i a r = some z ∧ mm_ty (ak (10 + ci)) = 5 := by
  unfold mm_aas at h
  split at h
  next x i a r =>
    split at h
    next ci hci =>
      split at h
      next t n ht =>
        obtain ⟨hq, h9⟩ := mm_cond_inv h
        rw [Bool.and_eq_true] at hq
        have hq5 := Nat.eq_of_beq_eq_true hq.2
        have hq := Nat.eq_of_beq_eq_true hq.1
        subst hq
        obtain ⟨h1, h2⟩ := mm_ix_inv h9
        exact ⟨x, i, a, r, ci, n, rfl, hci, ht, h1, h2, hq5⟩
      next => cases h
    next => cases h
  next => cases h
/-- types from 10 on are arrays of objects -/
def mm_AO (cl : List vw_C) (ak : Nat → FieldType) : Prop := ∀ (ci : Nat) (r : vw_C), cl[ci]? = some r → mm_ty (ak (10 + ci)) = 5 → ak (10 + ci) = .object r.1
theorem mm_k_aast (X : CallFix p m c cc nL s args TT own) (hK : va_K D cl tys s) (hT : mm_AT tys ak dA) (hO : mm_AO cl ak) (hd : decode cc pc = .ok (.aastore, 1))
    (h : (mm_aas ak S st fun x i a r => mm_go (pc + 1) L r (mm_sR S a i.toNatClampNeg (some x))) = some (.inl z')) (kJ : mm_J p l e R s m args below meth c Q B b nL (mm_Rz D cl ck ak dA B b s.heap S0) z') : mm_J p l e R s m args below meth c Q B b nL (mm_Rz D cl ck ak dA B b s.heap S0) (pc, L, st, S) := by
  obtain ⟨hx, hb, hml, hown, hts⟩ := X
  obtain ⟨x, i, a, r, ci, n, rfl, hxc, ha, hi, h, h5⟩ := mm_aas_inv h
  cases h
  obtain ⟨t0, h0⟩ := hT (10 + ci)
  intro ls H locs cells slots hL hR
  obtain ⟨hP, hS, hco, hsl, hnx⟩ := hR
  obtain ⟨rc, hrc, -⟩ := hP _ _ (mm_ws_at (ck := ck) (ak := ak) (dA := dA) (B := B) (b := b) (M := S.2.1) hxc)
  have hty := hO ci rc hrc h5
  rw [hty] at h0
  refine va_astq hx hb hK hP (mm_ws_D (fun q h => h) _ _) hS a t0 x ci (mm_ws_ar ha hty) h0 (mm_ws_at hxc) hrc hi hd (fun H1 locs1 hP1 _ hS1 => kJ ls H1 locs1 cells slots hL ⟨?_, hS1, hco, hsl, hnx⟩)
  show va_P D cl (mm_ws ck ak dA B b S.1 (mm_sR S a i.toNatClampNeg (some x)).2.1) H1
  rw [mm_ws_ar_set ha hty (M' := (mm_sR S a i.toNatClampNeg (some x)).2.1) rfl (fun c hc => mm_sR_ag hc)]
  have e9 : mm_arr (.object rc.1) (mm_sR S a i.toNatClampNeg (some x)).2.1 B a = .inr (.inr (.inr (.inr (va_up (fun j => (S.2.1.2.2.1 a j).map (B + ·)) i.toNatClampNeg (some (B + x)))))) := by
    simp only [mm_arr, mm_sR]
    rw [mm_u_rowR]
    rfl
  rw [e9]
  exact hP1
theorem mm_ws_new {Sh : mm_Sh} {M M' : mm_M} {sh : Nat ⊕ (Nat × Nat)} (h : ∀ c, c ≠ Sh.length → mm_ag M M' c) : mm_ws ck ak dA B b (Sh ++ [sh]) M' = mm_ws ck ak dA B b Sh M ++ [(B + Sh.length, mm_cell ck ak dA B b M' Sh.length sh)] := by
  refine List.ext_getElem? fun i => ?_
  by_cases hi : i < Sh.length
  · have e := List.getElem?_eq_getElem hi
    have e' : (Sh ++ [sh])[i]? = some Sh[i] := by rw [List.getElem?_append_left hi]; exact e
    rw [mm_ws_at e', List.getElem?_append_left (by rw [mm_ws_len]; exact hi), mm_ws_at e, mm_cell_ag (h i (by omega))]
  · by_cases hi2 : i = Sh.length
    · subst hi2
      have e' : (Sh ++ [sh])[Sh.length]? = some sh := by simp
      rw [mm_ws_at e', List.getElem?_append_right (by rw [mm_ws_len]; exact Nat.le_refl _), mm_ws_len, Nat.sub_self]
      rfl
    · rw [List.getElem?_eq_none (by rw [mm_ws_len, List.length_append, List.length_singleton]; omega), List.getElem?_eq_none (by rw [List.length_append, mm_ws_len, List.length_singleton]; omega)]
theorem mm_fresh {Sh : mm_Sh} {M : mm_M} {q : Nat} {x : va_E} {H1 : Heap} (hP : va_P D cl (mm_ws ck ak dA B b Sh M ++ [(q, x)]) H1) (hD : va_D (fun q => B ≤ q) (mm_ws ck ak dA B b Sh M ++ [(q, x)])) (hz : H1.size ≤ B + Sh.length + 1) : q = B + Sh.length := by
  have hlast : (mm_ws ck ak dA B b Sh M ++ [(q, x)])[Sh.length]? = some (q, x) := by
    rw [List.getElem?_append_right (by rw [mm_ws_len]; exact Nat.le_refl _), mm_ws_len, Nat.sub_self]
    rfl
  have h1 : q < H1.size := (hP _ _ hlast).lt
  have h2 : B ≤ q := hD.2 _ _ hlast
  by_cases h3 : q < B + Sh.length
  · have ha : q - B < Sh.length := by omega
    have e := mm_ws_at (ck := ck) (ak := ak) (dA := dA) (B := B) (b := b) (M := M) (List.getElem?_eq_getElem ha)
    have e2 := (List.getElem?_append_left (l₂ := [(q, x)]) (by rw [mm_ws_len]; exact ha)).trans e
    have e3 := hD.1 _ _ _ _ e2 hlast (by show B + (q - B) = q; omega)
    omega
  · omega
theorem mm_new_ag (S : mm_St) (sh : Nat ⊕ (Nat × Nat)) : ∀ c, c ≠ S.1.length → mm_ag S.2.1 (mm_new S sh).2.1 c := fun c hc => ⟨mm_z_ag hc, mm_z_ag hc, mm_z_ag hc, mm_z_ag hc⟩
theorem mm_sz_app (ck : Nat → List Nat) (a b : mm_Sh) : mm_sz ck (a ++ b) = mm_sz ck a + mm_sz ck b := by
  induction a with
  | nil => simp [mm_sz]
  | cons x a ih =>
    cases x with
    | inl ci => simp only [List.cons_append, mm_sz, ih]; omega
    | inr tn => simp only [List.cons_append, mm_sz, ih]; omega
theorem mm_new_rd (S : mm_St) (sh : Nat ⊕ (Nat × Nat)) {kd : Nat} {ty : FieldType} (h : mm_kt kd ty = true) (k : Nat) : mm_v B b (mm_rd (mm_new S sh).2.1 kd S.1.length k) = defaultValue ty := by
  have z1 : ∀ {α : Type} (f : Nat → Nat → α) (d : α), mm_z f S.1.length d S.1.length k = d := fun f d => by simp [mm_z]
  match kd, h with
  | 0, h => rw [mm_kt0 h]; simp [mm_rd, mm_new, z1, mm_v, defaultValue]
  | 1, h => rw [mm_kt1 h]; simp [mm_rd, mm_new, z1, mm_v, defaultValue]
  | 2, h =>
    rcases mm_kt2 h with ⟨n, h⟩ | ⟨t, h⟩
    · rw [h]; simp [mm_rd, mm_new, z1, mm_v, va_rf, defaultValue]
    · rw [h]; simp [mm_rd, mm_new, z1, mm_v, va_rf, defaultValue]
  | 3, h => rw [mm_kt3 h]; simp [mm_rd, mm_new, z1, mm_v, defaultValue]
  | 4, h => rw [mm_kt4 h]; simp [mm_rd, mm_new, z1, mm_v, defaultValue]
  | n + 5, h => cases ty <;> cases h
theorem mm_k_new {ix ci : Nat} {C : String} {T : u_T} {N : Nat} (X : CallFix p m c cc nL s args TT own) (hK : va_K D cl tys s) (hCK : mm_CK cl ck ct TT) (hc1 : cl[ci]? = some (C, T, N)) (w1 : Cond.classLink own ix C ∈ TT) (w2 : Cond.instantiable C N ∈ TT) (w3 : Cond.initialized C ∈ TT) (hd : decode cc pc = .ok (.new ix, 3)) (hB : B ≤ s.heap.size) (hex : S0.2.2 = 0 → s.heap.size = B + S0.1.length)
    (h0 : S.2.2 = 0) (hRc : mm_co (mm_new S (.inl ci)) ≤ mm_co S0 + R.cells) (hRs : mm_sl ck (mm_new S (.inl ci)) ≤ mm_sl ck S0 + R.slots)
    (kJ : mm_J p l e R s m args below meth c Q B b nL (mm_Rz D cl ck ak dA B b s.heap S0) (pc + 3, L, .ref S.1.length :: st, mm_new S (.inl ci))) : mm_J p l e R s m args below meth c Q B b nL (mm_Rz D cl ck ak dA B b s.heap S0) (pc, L, st, S) := by
  obtain ⟨hx, hb, hml, hown, hts⟩ := X
  obtain ⟨hin, hlen, hty, hnm, hkt⟩ := hCK ci C T N hc1
  intro ls H locs cells slots hL hR
  obtain ⟨hP, hS, hco, hsl, hnx⟩ := hR
  have hl1 : (mm_new S (.inl ci)).1.length = S.1.length + 1 := by simp [mm_new]
  have hz1 : mm_sz ck (mm_new S (.inl ci)).1 = mm_sz ck S.1 + N := by
    show mm_sz ck (S.1 ++ [.inl ci]) = _
    rw [mm_sz_app]
    simp only [mm_sz, hlen, Nat.add_zero]
  have hn1 : (mm_new S (.inl ci)).2.2 = S.2.2 := rfl
  have hRc : S.1.length + 1 + S.2.2 ≤ S0.1.length + S0.2.2 + R.cells := by
    have := hRc
    simp only [mm_co, hl1, hn1] at this
    exact this
  have hRs : mm_sz ck S.1 + N + 6 * S.2.2 ≤ mm_sz ck S0.1 + 6 * S0.2.2 + R.slots := by
    have := hRs
    simp only [mm_sl, hz1, hn1] at this
    exact this
  have hco : S0.1.length + S0.2.2 + cells = S.1.length + S.2.2 := hco
  have hsl : mm_sz ck S0.1 + 6 * S0.2.2 + slots = mm_sz ck S.1 + 6 * S.2.2 := hsl
  have hnx : S0.2.2 ≤ S.2.2 := hnx
  refine va_new (ci := ci) (fs := mm_fs (mm_new S (.inl ci)).2.1 B b S.1.length (ck ci)) hx hb hts hin (ct ci) hty hown (hts _ w1) (hts _ w2) (hts _ w3) hK hP (mm_ws_D (fun q h => h) _ _) hS (fun q h => Nat.le_trans hB h) hc1 ?_ (by omega) (by omega) hd (fun q H1 hP1 hD1 hS1 => ?_)
  · intro j hj
    have hj2 : j < (ck ci).length := by rw [hlen]; exact hj
    have e := List.getElem?_eq_getElem hj2
    rw [vp_V, List.getD_eq_getElem?_getD, mm_fs_at e, Option.getD_some, mm_new_rd S _ (hkt j _ e) j]
  · intro T9 hT9 X9
    have hsz := X9.heapSize
    rw [hT9] at hsz
    have hs0 := hex (by omega)
    have hq := mm_fresh (Sh := S.1) (M := S.2.1) hP1 hD1 (by omega)
    subst hq
    refine kJ ls H1 locs (cells + 1) (slots + N) hL ⟨?_, hS1, ?_, ?_, hnx⟩ T9 hT9 X9
    · show va_P D cl (mm_ws ck ak dA B b (S.1 ++ [.inl ci]) (mm_new S (.inl ci)).2.1) H1
      rw [mm_ws_new (mm_new_ag S _)]
      exact hP1
    · simp only [mm_co, hl1, hn1]; omega
    · simp only [mm_sl, hz1, hn1]; omega
theorem mm_RA_one {ty : FieldType} {c1 c2 : ClassId} (h1 : va_RA s c1 ty) (h2 : va_RA s c2 ty) : c1 = c2 := by
  cases ty with
  | object C =>
    obtain ⟨k1, m1, -, -, -, h1⟩ := h1
    obtain ⟨k2, m2, -, -, -, h2⟩ := h2
    exact Option.some.inj (h1.symm.trans h2)
  | _ => exact Option.some.inj (Eq.trans (Eq.symm h1) h2)
theorem mm_new_arr (S : mm_St) (sh : Nat ⊕ (Nat × Nat)) (n : Nat) {ty : FieldType} (h : mm_ty ty < 6) (cA : ClassId) : vp_cell cA (n, mm_arr ty (mm_new S sh).2.1 B S.1.length) = arrV cA n (fun _ => defaultValue ty) := by
  have z1 : ∀ {α : Type} (f : Nat → Nat → α) (d : α), mm_z f S.1.length d S.1.length = fun _ => d := fun f d => by funext k; simp [mm_z]
  cases ty with
  | int => simp [mm_arr, mm_new, z1, vp_cell, defaultValue]
  | char => simp [mm_arr, mm_new, z1, vp_cell, defaultValue]
  | double => simp [mm_arr, mm_new, z1, vp_cell, defaultValue]
  | long => simp [mm_arr, mm_new, z1, vp_cell, defaultValue]
  | boolean => simp [mm_arr, mm_new, z1, vp_cell, defaultValue]
  | object C => simp [mm_arr, mm_new, z1, vp_cell, defaultValue, va_rf]
  | _ => simp [mm_ty] at h
theorem mm_k_newa {atype : ArrayType} {t : Nat} {n : Int32} (X : CallFix p m c cc nL s args TT own) (hK : va_K D cl tys s) (hT : mm_AT tys ak dA) (hty : newarray.typeOf atype = ak t) (ht6 : mm_ty (ak t) < 6) (hby : componentBytes (ak t) ≤ 8) (w1 : Cond.arrayClass (newarray.typeOf atype) ∈ TT) (hd : decode cc pc = .ok (.newarray atype, 2)) (hB : B ≤ s.heap.size) (hex : S0.2.2 = 0 → s.heap.size = B + S0.1.length)
    (h0 : S.2.2 = 0) (hn : ¬ n < 0) (hRb : R.slots ≤ 60000000) (hRc : mm_co (mm_new S (.inr (t, n.toNatClampNeg))) ≤ mm_co S0 + R.cells) (hRs : mm_sl ck (mm_new S (.inr (t, n.toNatClampNeg))) ≤ mm_sl ck S0 + R.slots)
    (kJ : mm_J p l e R s m args below meth c Q B b nL (mm_Rz D cl ck ak dA B b s.heap S0) (pc + 2, L, .ref S.1.length :: st, mm_new S (.inr (t, n.toNatClampNeg)))) : mm_J p l e R s m args below meth c Q B b nL (mm_Rz D cl ck ak dA B b s.heap S0) (pc, L, .int n :: st, S) := by
  obtain ⟨hx, hb, hml, hown, hts⟩ := X
  obtain ⟨t0, ht0⟩ := hT t
  intro ls H locs cells slots hL hR
  obtain ⟨hP, hS, hco, hsl, hnx⟩ := hR
  generalize hN : n.toNatClampNeg = N at hRc hRs kJ
  have hl1 : (mm_new S (.inr (t, N))).1.length = S.1.length + 1 := by simp [mm_new]
  have hz1 : mm_sz ck (mm_new S (.inr (t, N))).1 = mm_sz ck S.1 + N := by
    show mm_sz ck (S.1 ++ [.inr (t, N)]) = _
    rw [mm_sz_app]
    simp only [mm_sz, Nat.add_zero]
  have hn1 : (mm_new S (.inr (t, N))).2.2 = S.2.2 := rfl
  have hRc : S.1.length + 1 + S.2.2 ≤ S0.1.length + S0.2.2 + R.cells := by
    have := hRc
    simp only [mm_co, hl1, hn1] at this
    exact this
  have hRs : mm_sz ck S.1 + N + 6 * S.2.2 ≤ mm_sz ck S0.1 + 6 * S0.2.2 + R.slots := by
    have := hRs
    simp only [mm_sl, hz1, hn1] at this
    exact this
  have hco : S0.1.length + S0.2.2 + cells = S.1.length + S.2.2 := hco
  have hsl : mm_sz ck S0.1 + 6 * S0.2.2 + slots = mm_sz ck S.1 + 6 * S.2.2 := hsl
  have hnx : S0.2.2 ≤ S.2.2 := hnx
  have hNb : N * componentBytes (ak t) ≤ N * 8 := Nat.mul_le_mul_left _ hby
  refine va_newa (a0 := (N, mm_arr (ak t) (mm_new S (.inr (t, N))).2.1 B S.1.length)) hx hb (hts _ w1) hty hK hP (mm_ws_D (fun q h => h) _ _) hS (fun q h => Nat.le_trans hB h) (fun cA => mm_new_arr S _ N ht6 cA) hn hN (by omega) (by omega) (by omega) hd (fun q cA H1 hK1 hP1 hD1 hS1 => ?_)
  intro T9 hT9 X9
  have hsz := X9.heapSize
  rw [hT9] at hsz
  have hs0 := hex (by omega)
  have hq := mm_fresh (Sh := S.1) (M := S.2.1) hP1 hD1 (by omega)
  subst hq
  have hcA : cA = dA t := mm_RA_one (hK1.2 tys.length (cA, ak t) (by simp)).2 (hK.2 t0 _ ht0).2
  subst hcA
  refine kJ ls H1 locs (cells + 1) (slots + N) hL ⟨?_, hS1, ?_, ?_, hnx⟩ T9 hT9 X9
  · show va_P D cl (mm_ws ck ak dA B b (S.1 ++ [.inr (t, N)]) (mm_new S (.inr (t, N))).2.1) H1
    rw [mm_ws_new (mm_new_ag S _)]
    exact hP1
  · simp only [mm_co, hl1, hn1]; omega
  · simp only [mm_sl, hz1, hn1]; omega
theorem mm_k_newq {ix t : Nat} {C : String} {n : Int32} (X : CallFix p m c cc nL s args TT own) (hK : va_K D cl tys s) (hT : mm_AT tys ak dA) (hty : ak t = .object C) (w1 : Cond.classLink own ix C ∈ TT) (w2 : va_AO C s) (hd : decode cc pc = .ok (.anewarray ix, 3)) (hB : B ≤ s.heap.size) (hex : S0.2.2 = 0 → s.heap.size = B + S0.1.length)
    (h0 : S.2.2 = 0) (hn : ¬ n < 0) (hRb : R.slots ≤ 60000000) (hRc : mm_co (mm_new S (.inr (t, n.toNatClampNeg))) ≤ mm_co S0 + R.cells) (hRs : mm_sl ck (mm_new S (.inr (t, n.toNatClampNeg))) ≤ mm_sl ck S0 + R.slots)
    (kJ : mm_J p l e R s m args below meth c Q B b nL (mm_Rz D cl ck ak dA B b s.heap S0) (pc + 3, L, .ref S.1.length :: st, mm_new S (.inr (t, n.toNatClampNeg)))) : mm_J p l e R s m args below meth c Q B b nL (mm_Rz D cl ck ak dA B b s.heap S0) (pc, L, .int n :: st, S) := by
  obtain ⟨hx, hb, hml, hown, hts⟩ := X
  obtain ⟨t0, ht0⟩ := hT t
  intro ls H locs cells slots hL hR
  obtain ⟨hP, hS, hco, hsl, hnx⟩ := hR
  generalize hN : n.toNatClampNeg = N at hRc hRs kJ
  have hl1 : (mm_new S (.inr (t, N))).1.length = S.1.length + 1 := by simp [mm_new]
  have hz1 : mm_sz ck (mm_new S (.inr (t, N))).1 = mm_sz ck S.1 + N := by
    show mm_sz ck (S.1 ++ [.inr (t, N)]) = _
    rw [mm_sz_app]
    simp only [mm_sz, Nat.add_zero]
  have hn1 : (mm_new S (.inr (t, N))).2.2 = S.2.2 := rfl
  have hRc : S.1.length + 1 + S.2.2 ≤ S0.1.length + S0.2.2 + R.cells := by
    have := hRc
    simp only [mm_co, hl1, hn1] at this
    exact this
  have hRs : mm_sz ck S.1 + N + 6 * S.2.2 ≤ mm_sz ck S0.1 + 6 * S0.2.2 + R.slots := by
    have := hRs
    simp only [mm_sl, hz1, hn1] at this
    exact this
  have hco : S0.1.length + S0.2.2 + cells = S.1.length + S.2.2 := hco
  have hsl : mm_sz ck S0.1 + 6 * S0.2.2 + slots = mm_sz ck S.1 + 6 * S.2.2 := hsl
  have hnx : S0.2.2 ≤ S.2.2 := hnx
  refine va_newq hx hb hown (hts _ w1) w2 hK hP (mm_ws_D (fun q h => h) _ _) hS (fun q h => Nat.le_trans hB h) hn hN (by omega) (by omega) (by omega) hd (fun q cA H1 hK1 hP1 hD1 hS1 => ?_)
  intro T9 hT9 X9
  have hsz := X9.heapSize
  rw [hT9] at hsz
  have hs0 := hex (by omega)
  have hq := mm_fresh (Sh := S.1) (M := S.2.1) hP1 hD1 (by omega)
  subst hq
  rw [hty] at ht0
  have hcA : cA = dA t := mm_RA_one (hK1.2 tys.length (cA, .object C) (by simp)).2 (hK.2 t0 _ ht0).2
  subst hcA
  refine kJ ls H1 locs (cells + 1) (slots + N) hL ⟨?_, hS1, ?_, ?_, hnx⟩ T9 hT9 X9
  · show va_P D cl (mm_ws ck ak dA B b (S.1 ++ [.inr (t, N)]) (mm_new S (.inr (t, N))).2.1) H1
    rw [mm_ws_new (mm_new_ag S _)]
    have e9 : mm_cell ck ak dA B b (mm_new S (.inr (t, N))).2.1 S.1.length (.inr (t, N)) = .inl (dA t, N, .inr (.inr (.inr (.inr (fun _ => none))))) := by
      have z1 : ∀ {α : Type} (f : Nat → Nat → α) (d : α), mm_z f S.1.length d S.1.length = fun _ => d := fun f d => by funext k; simp [mm_z]
      simp [mm_cell, hty, mm_arr, mm_new, z1]
    rw [e9]
    exact hP1
  · simp only [mm_co, hl1, hn1]; omega
  · simp only [mm_sl, hz1, hn1]; omega
end NEW
end
section
/-! A CALLEE THAT THROWS, for contracts in free form -/
section THR
variable {p : Program} {l : Launch} {e : Env} {R : Room} {s : State} {m : MethodId} {args : Array Value} {below : List Frame} {meth : Method} {c : Code} {T : State} {locs : List Loc} {cells slots : Nat}
variable {ws : List Cond} {rm : Room} {Pc : Array Value → State → Prop} {Qo : Array Value → State → Outcome → State → Prop} {y : MethodName} {bytes : ByteArray} {maxL mc ms : Nat} {ret : Option FieldType} {free : Addr → Prop} {own : String} {index : Nat}
/-- the contract's end is a throw; so many cells are new, only free ones have changed -/
def mm_QT (Qo : Array Value → State → Outcome → State → Prop) (mc ms : Nat) (free : Addr → Prop) : Prop := ∀ (a : Array Value) (st : State) (o : Outcome) (t : State), Qo a st o t → ∃ q, o = .threw q ∧ st.WarmedH t.vm ∧ ∃ L, st.sameButNew ({ t with vm := st.vm } : State) L mc ms ∧ ∀ z ∈ L, free z.base
/-- what a caller asks of its room and of the callee's words -/
def mm_CR (R : Room) (s : State) (args : Array Value) (y : MethodName) (bytes : ByteArray) (maxL : Nat) (ret : Option FieldType) (ws : List Cond) (rm : Room) (mc ms : Nat) : Prop :=
  rm.cells = mc ∧ rm.slots = ms ∧ rm.frames + 1 ≤ R.frames ∧ 8 + (maxL + 11) + rm.locals ≤ R.locals ∧ (∀ w ∈ ws, ∀ (a' : Array Value) (U : State), s.WarmedH U.vm → w.before a' U = true) ∧ Cond.code y bytes maxL ret ∈ ws ∧ ∀ (a' : Array Value) (U : State), s.WarmedH U.vm → (Cond.initialized y.cls).before a' U = true
theorem mm_thr (X : Stand p l e R s m args below meth c T locs cells slots) (hM : MetFree l y (headSpec ws rm) Pc (fun _ _ _ _ _ => True) Qo) (hQ : mm_QT Qo mc ms free) (hbl : FrameBlind Pc) (hC : mm_CR R s args y bytes maxL ret ws rm mc ms)
    {g : JFrame} (hg : g.method = m) (hsize : g.locals.size = c.maxLocals) {ig : Instr} {len : Nat} (hdg : decode c.code g.pc = .ok (ig, len)) (hW : 2 * g.monitorRoom + (g.stack.map fun v => v.category).sum ≤ 8) {mk : MethodId} (hn : T.methodNamed? y = some mk) {a : Array Value} (hf : cells + mc ≤ R.cells ∧ slots + ms ≤ R.slots) (hP : Pc a T) :
    ∃ (q : Addr) (t T' : State) (L : List Loc), Stand p l e R s m args below meth c T' (locs ++ L) (cells + mc) (slots + ms) ∧ (∀ z ∈ L, free z.base) ∧ T'.heap = t.heap ∧ T'.vm = t.vm ∧ Qo a (T.calling g mk a) (.threw q) t ∧ Steps p.tables e below (doInvoke e (T.setTop g) [] mk a).1 ((T'.setTop g).pushFrame (.throwing q)) := by
  obtain ⟨hrc, hrs, hfr, hlo, hws, hcode, hini⟩ := hC
  obtain ⟨methY, cY, hmY, hcY, -, hlY, -, -, -, -⟩ := Cond.code_spec hn (hws _ hcode a T X.warmed)
  obtain ⟨kY, hkY, -⟩ := className_of_methodNamed hn
  have hinitY : kY.init = .initialized := Cond.initialized_spec (findClass_of_methodNamed hn) hkY (hini a T X.warmed)
  have h : At T g.method c below := by rw [hg]; exact X.here
  have happ : (headSpec ws rm).appliesLoose y e.platform (T.calling g mk a) = true :=
    Spec.appliesLoose_calling (g := g) h hdg hn hkY hinitY
      (X.room_calling (g := g) (R' := (headSpec ws rm).room) hsize hmY hcY hfr (by rw [hlY]; show _ + (maxL + 11) + rm.locals ≤ _; omega) (by show cells + rm.cells ≤ _; rw [hrc]; exact hf.1) (by show slots + rm.slots ≤ _; rw [hrs]; exact hf.2))
      (atoms_intro fun w hw => hws w hw _ _ X.warmed)
  obtain ⟨mid, hmid⟩ := h.above
  have hfr9 : (T.setTop g).frames = (.java g :: mid) ++ below := by rw [State.frames_setTop' g h.top, hmid]; rfl
  obtain ⟨o, s₂, hsteps, -, hend, hq⟩ := Steps.callFree hM p X.admits X.cas X.clock (acts := []) hfr9 happ (hbl _ _ _ _ hP) trivial
  have hq : Qo a (T.calling g mk a) o s₂ := hq
  obtain ⟨q, rfl, hW₂, L, hsm, hL⟩ := hQ _ _ _ _ hq
  rw [State.frames_setTop' g h.top] at hend
  obtain ⟨g₀, hg0⟩ := Option.isSome_iff_exists.mp h.top
  obtain ⟨r, hr⟩ := State.topJava?_eq_some.mp hg0
  have hr' : (({ T with heap := s₂.heap, slotsUsed := s₂.slotsUsed } : State).setVm s₂.vm).frames = .java g₀ :: r := hr
  obtain ⟨e2, q2, q3, q4, q5, q6⟩ := id hsm
  have e3 : s₂ = ({ (T.calling g mk a).setFrames s₂.frames with heap := s₂.heap, slotsUsed := s₂.slotsUsed } : State).setVm s₂.vm := by
    have e0 : s₂ = ({ s₂ with vm := (T.calling g mk a).vm } : State).setVm s₂.vm := rfl
    rw [e2] at e0
    exact e0
  have hf₂ : s₂.frames = .throwing q :: .java g :: T.frames.tail := hend
  have hW' : T.WarmedH s₂.vm := hW₂
  have hs₂ : s₂ = ((({ T with heap := s₂.heap, slotsUsed := s₂.slotsUsed } : State).setVm s₂.vm).setTop g).pushFrame (.throwing q) := by
    refine e3.trans ?_
    rw [hf₂, State.calling_eq h.top, State.setFrames_setFrames, State.pushFrame, State.frames_setTop _ hr', State.setTop_of_frames _ hr', State.setFrames_setFrames, hr]
    rfl
  have hsame : T.sameButNew ({ T with heap := s₂.heap, slotsUsed := s₂.slotsUsed } : State) L mc ms := by
    refine ⟨?_, q2, q3, q4, q5, q6⟩
    obtain ⟨t9, ht9, -⟩ := State.frames_cons hr
    show ({ T with heap := s₂.heap, slotsUsed := s₂.slotsUsed } : State) = { T.setFrames T.frames with heap := s₂.heap, slotsUsed := s₂.slotsUsed }
    rw [State.setFrames_self ht9]
  subst hg
  refine ⟨q, s₂, ({ T with heap := s₂.heap, slotsUsed := s₂.slotsUsed } : State).setVm s₂.vm, L,
    ⟨X.admits, X.cas, X.clock, X.frames, X.room, X.hears, X.method, X.code, (X.here.setHeapUsed s₂.heap s₂.slotsUsed).setVm hW'.alike, X.tail, State.WarmedH.trans X.warmed hW', X.limits, X.bytes, X.same.trans (hsame.setVm s.vm)⟩, hL, rfl, rfl, hq, ?_⟩
  rw [← hs₂]
  exact hsteps
/-- .. called by invokevirtual -/
theorem mm_thrV (X : Stand p l e R s m args below meth c T locs cells slots) (hexec : p.tables.exec = Jvm.exec) {C : String} (hown : s.vm.findClass own = some m.cls) (hlink : (Cond.methodLink own index y).before args s = true) (hinst : (Cond.instanceMethod y).before args s = true) (hsel : (Cond.selects C y y).before args s = true) (hy : y.cls ≠ "java/lang/invoke/MethodHandle" ∧ y.cls ≠ "java/lang/invoke/VarHandle")
    (hM : MetFree l y (headSpec ws rm) Pc (fun _ _ _ _ _ => True) Qo) (hQ : mm_QT Qo mc ms free) (hbl : FrameBlind Pc) (hC : mm_CR R s args y bytes maxL ret ws rm mc ms) {b : Addr} {cellB : Cell} (hcell : T.heap[b]? = some cellB) (hobj : cellB.vm.isStatics = false) (hcls : s.vm.findClass C = some cellB.cls)
    {g : JFrame} (hg : g.method = m) (hsize : g.locals.size = c.maxLocals) {argsL rest : List Value} (hlen : ∀ sig, parseMethodDescriptor y.desc = some sig → argsL.length = sig.parameters.length) (hstack : g.stack = argsL.reverse ++ .ref b :: rest) (hW : 2 * g.monitorRoom + (rest.map fun v => v.category).sum ≤ 8) (hdg : decode c.code g.pc = .ok (.invokevirtual index, 3)) (hf : cells + mc ≤ R.cells ∧ slots + ms ≤ R.slots) (hP : ∀ U : State, U.heap = T.heap → s.WarmedH U.vm → Pc (Value.ref b :: argsL).toArray U) :
    ∃ (q : Addr) (st t T' : State) (L : List Loc), st.heap = T.heap ∧ s.WarmedH st.vm ∧ Stand p l e R s m args below meth c T' (locs ++ L) (cells + mc) (slots + ms) ∧ (∀ z ∈ L, free z.base) ∧ T'.heap = t.heap ∧ T'.vm = t.vm ∧ Qo (Value.ref b :: argsL).toArray st (.threw q) t ∧ Steps p.tables e below (T.setTop g) ((T'.setTop { g with stack := rest }).pushFrame (.throwing q)) := by
  have hcode : (Cond.code y bytes maxL ret).before args s = true := hC.2.2.2.2.1 _ hC.2.2.2.2.2.1 args s (State.WarmedH.refl s)
  obtain ⟨mk, methM, hnamed, hmethM, hstM, habM⟩ := Cond.instanceMethod_spec hinst
  obtain ⟨methM', cM, hmethM', -, -, -, -, -, -, hsigM⟩ := Cond.code_spec hnamed hcode
  cases hmethM.symm.trans hmethM'
  obtain ⟨c2, r2, m2, q1, q2, q3, q4, kP, hkP, hkPi⟩ := Cond.selects_spec hsel
  cases hcls.symm.trans q1
  cases (State.methodFound?_of_named hnamed hy).symm.trans q2
  cases hnamed.symm.trans q3
  have hselP : selectMethod e.platform s.vm cellB.cls mk = .method mk := by rw [Launch.admits_selectMethod X.admits]; exact q4
  obtain ⟨vm₁, X₁, hstep₁⟩ := X.invokevirtual hexec hown hlink hnamed hmethM hstM hkP hkPi hy (a := b) (cell := cellB) hcell (fun z h => by rw [h] at hobj; cases hobj) hselP hmethM habM hkP hkPi (g := g) hg (argsL := argsL) (rest := rest) (hlen _ hsigM) hstack hdg
  obtain ⟨q, t, T', L, X', hL, e1, e2, hq, st⟩ := mm_thr X₁ hM hQ hbl hC (g := { g with stack := rest }) hg hsize hdg hW (X₁.named hnamed) hf (hP _ rfl X₁.warmed)
  exact ⟨q, (T.setVm vm₁).calling { g with stack := rest } mk (Value.ref b :: argsL).toArray, t, T', L, rfl, X₁.warmed, X', hL, e1, e2, hq, hstep₁ _ fun acts => by rw [doInvoke_state]; exact st⟩
/-- .. called by invokestatic -/
theorem mm_thrS (X : Stand p l e R s m args below meth c T locs cells slots) (hexec : p.tables.exec = Jvm.exec) (hown : s.vm.findClass own = some m.cls) (hlink : (Cond.methodLink own index y).before args s = true) (hstat : (Cond.static y).before args s = true) (hy : y.cls ≠ "java/lang/invoke/MethodHandle" ∧ y.cls ≠ "java/lang/invoke/VarHandle")
    (hM : MetFree l y (headSpec ws rm) Pc (fun _ _ _ _ _ => True) Qo) (hQ : mm_QT Qo mc ms free) (hbl : FrameBlind Pc) (hC : mm_CR R s args y bytes maxL ret ws rm mc ms)
    {g : JFrame} (hg : g.method = m) (hsize : g.locals.size = c.maxLocals) {argsL rest : List Value} (hlen : ∀ sig, parseMethodDescriptor y.desc = some sig → argsL.length = sig.parameters.length) (hstack : g.stack = argsL.reverse ++ rest) (hW : 2 * g.monitorRoom + (rest.map fun v => v.category).sum ≤ 8) (hdg : decode c.code g.pc = .ok (.invokestatic index, 3)) (hf : cells + mc ≤ R.cells ∧ slots + ms ≤ R.slots) (hP : ∀ U : State, U.heap = T.heap → s.WarmedH U.vm → Pc argsL.toArray U) :
    ∃ (q : Addr) (st t T' : State) (L : List Loc), st.heap = T.heap ∧ s.WarmedH st.vm ∧ Stand p l e R s m args below meth c T' (locs ++ L) (cells + mc) (slots + ms) ∧ (∀ z ∈ L, free z.base) ∧ T'.heap = t.heap ∧ T'.vm = t.vm ∧ Qo argsL.toArray st (.threw q) t ∧ Steps p.tables e below (T.setTop g) ((T'.setTop { g with stack := rest }).pushFrame (.throwing q)) := by
  have hcode : (Cond.code y bytes maxL ret).before args s = true := hC.2.2.2.2.1 _ hC.2.2.2.2.2.1 args s (State.WarmedH.refl s)
  have hinit : (Cond.initialized y.cls).before args s = true := hC.2.2.2.2.2.2 args s (State.WarmedH.refl s)
  obtain ⟨mk, hnamed⟩ := Cond.code_named hcode
  obtain ⟨methM, cM, hmethM, -, -, -, -, -, -, hsigM⟩ := Cond.code_spec hnamed hcode
  have hstatic : methM.isStatic = true := Cond.static_spec hnamed hmethM hstat
  obtain ⟨kP, hkP, -⟩ := className_of_methodNamed hnamed
  have hinitP : kP.init = .initialized := Cond.initialized_spec (findClass_of_methodNamed hnamed) hkP hinit
  obtain ⟨vm₁, X₁, hstep₁⟩ := X.invokestatic hexec hown hlink hnamed hmethM hstatic hkP hinitP hy (g := g) hg (argsL := argsL) (rest := rest) (hlen _ hsigM) hstack hdg
  obtain ⟨q, t, T', L, X', hL, e1, e2, hq, st⟩ := mm_thr X₁ hM hQ hbl hC (g := { g with stack := rest }) hg hsize hdg hW (X₁.named hnamed) hf (hP _ rfl X₁.warmed)
  exact ⟨q, (T.setVm vm₁).calling { g with stack := rest } mk argsL.toArray, t, T', L, rfl, X₁.warmed, X', hL, e1, e2, hq, hstep₁ _ fun acts => by rw [doInvoke_state]; exact st⟩
end THR
end
section
/-! 'throw new E("text")' -/
/-- a static field that holds null or a reference, in a cell that none of ours is -/
def mm_SF (C n d : String) (B : Nat) (U : State) (H : Heap) : Prop := ∃ (c : ClassId) (k : Class) (i : Nat) (f : Field) (a : Nat) (cell : Cell) (v : Value), U.vm.findClass C = some c ∧ U.fieldFound? C n d = some (c, k, i, f) ∧ f.isStatic = true ∧ k.statics = some a ∧ H[a]? = some cell ∧ cell.vm.isStatics = true ∧ cell.cls = c ∧ f.slot < cell.slots.size ∧ k.staticTypes[f.slot]? = some f.type ∧ a < B ∧ cell.slots[f.slot]? = some v ∧ v.isRef = true
theorem mm_SF.to {C n d : String} {B : Nat} {u U : State} {H H1 : Heap} (hvm : u.vm.Alike U.vm) (hk : ∀ a : Nat, a < B → H1[a]? = H[a]?) (h : mm_SF C n d B u H) : mm_SF C n d B U H1 := by
  obtain ⟨c, k, i, f, a, cell, v, h1, h2, h3, h4, h5, h6, h7, h8, h9, h10, h11, h12⟩ := h
  obtain ⟨k', hi', he⟩ := State.fieldFound?_setVm hvm h2
  exact ⟨c, k', i, f, a, cell, v, by rw [hvm.findClass]; exact h1, hi', h3, by rw [he]; exact h4, by rw [hk a h10]; exact h5, h6, h7, h8, by rw [he]; exact h9, h10, h11, h12⟩
theorem mm_SF.lays {C n d : String} {B : Nat} {U : State} {args : Array Value} (h : mm_SF C n d B U U.heap) : (Cond.laysStatic C n d).before args U = true := by
  obtain ⟨c, k, i, f, a, cell, v, h1, h2, h3, h4, h5, h6, h7, h8, h9, -⟩ := h
  show (Cond.laysStatic C n d).holds args U none U [] = true
  exact Cond.laysStatic_of h1 h2 h3 h4 h5 h6 h7 h8 h9
theorem mm_SF.ref {C n d : String} {B : Nat} {U : State} {args : Array Value} (h : mm_SF C n d B U U.heap) : (Cond.isRef (.static C n d)).before args U = true := by
  obtain ⟨c, k, i, f, a, cell, v, h1, h2, h3, h4, h5, h6, h7, h8, h9, -, h11, h12⟩ := h
  have he : (Term.static C n d).eval args U none [] U = some v := by
    simp [Term.eval, State.fieldNamed?, h2, h3, h4, h5, h6, h11]
  simp only [Cond.before, Cond.holds, Cond.value, he]
  cases v <;> simp_all [Value.isRef]
theorem mm_SF.of {C n d : String} {B : Nat} {U : State} {args : Array Value} (hB : U.heap.size ≤ B) (hl : (Cond.laysStatic C n d).before args U = true) (hr : (Cond.isRef (.static C n d)).before args U = true) : mm_SF C n d B U U.heap := by
  obtain ⟨c, k, i, f, a, cell, h1, h2, h3, h4, h5, h6, h7, h8, h9⟩ := Cond.laysStatic_spec hl
  have ha := (Array.getElem?_eq_some_iff.mp h5).1
  have hv : cell.slots[f.slot]? = some cell.slots[f.slot] := Array.getElem?_eq_getElem h8
  have he : (Term.static C n d).eval args U none [] U = some cell.slots[f.slot] := by
    simp [Term.eval, State.fieldNamed?, h2, h3, h4, h5, h6, hv]
  refine ⟨c, k, i, f, a, cell, _, h1, h2, h3, h4, h5, h6, h7, h8, h9, Nat.lt_of_lt_of_le ha hB, hv, ?_⟩
  simp only [Cond.before, Cond.holds, Cond.value, he] at hr
  revert hr
  generalize cell.slots[f.slot] = w
  intro hr
  cases w <;> simp_all [Value.isRef]
section THROW
variable {p : Program} {l : Launch} {e : Env} {R : Room} {s : State} {m : MethodId} {args : Array Value} {below : List Frame} {meth : Method} {c : Code} {locs : List Loc} {cells slots : Nat}
/-- the frame as if its method had been called just now, with what room is left -/
theorem mm_anew {T : State} (X : Stand p l e R s m args below meth c T locs cells slots) (hc : cells + 1 ≤ R.cells) (hs : slots + 6 ≤ R.slots) :
    ∃ s' : State, s'.vm = s.vm ∧ s'.heap = T.heap ∧ Stand p l e { frames := R.frames, locals := R.locals, cells := 1, slots := 6 } s' m args below meth c T [] 0 0 ∧
      ∀ U : State, s'.sameButNew ({ U with vm := s'.vm } : State) [] 1 6 → s.sameButNew ({ U with vm := s.vm } : State) locs (cells + 1) (slots + 6) := by
  obtain ⟨g₀, hgt⟩ := X.frames_eq
  have hcur : (T.setVm s.vm).cur < (T.setVm s.vm).threads.size := State.cur_lt_of_frames (s := T.setVm s.vm) hgt
  have hfr : ((T.setVm s.vm).setFrames (.invoking m args :: below)).frames = .invoking m args :: below := State.frames_setFrames _ hcur
  obtain ⟨t9, ht9, -⟩ := State.frames_cons (s := T.setVm s.vm) hgt
  have hdrop : (T.heap.toList.drop T.heap.size).map (·.slots.size) = [] := by rw [List.drop_eq_nil_of_le (by simp)]; rfl
  have hloc : ((T.setVm s.vm).setFrames (.invoking m args :: below)).localsInUse = s.localsInUse := (State.localsInUse_invoking hfr (meth := meth) (c := c) X.method X.code).trans (State.localsInUse_invoking X.frames X.method X.code).symm
  have hlim : e.platform.stackLimits ((T.setVm s.vm).setFrames (.invoking m args :: below)).me = e.platform.stackLimits s.me := (State.stackLimits_setFrames _ _ _).trans X.limits
  have hbyt : ((T.setVm s.vm).setFrames (.invoking m args :: below)).me.stackBytes = s.me.stackBytes := (State.stackBytes_setFrames _ _).trans X.bytes
  refine ⟨(T.setVm s.vm).setFrames (.invoking m args :: below), rfl, rfl, ?_, fun U hU => ?_⟩
  · refine ⟨X.admits, X.cas, X.clock, hfr, ?_, X.hears, X.method, X.code, X.here, X.tail, X.warmed, X.limits.trans hlim.symm, X.bytes.trans hbyt.symm, ?_⟩
    · have h := X.room
      have h1 := X.heapSize
      have h2 := X.used
      unfold State.hasRoom at h ⊢
      rw [hloc, hfr, hlim, hbyt]
      rw [X.frames] at h
      simp only [Bool.and_eq_true, decide_eq_true_eq] at h ⊢
      obtain ⟨⟨⟨⟨a1, a2, a3, a4, a5, a6⟩, a7⟩, a8⟩, a9⟩ := h
      refine ⟨⟨⟨⟨a1, a2, a3, a4, a5, a6⟩, ?_⟩, ?_⟩, X.book⟩
      · show T.heap.size + 1 ≤ _
        omega
      · show T.slotsUsed + 6 ≤ _
        omega
    · refine ⟨?_, Nat.le_refl _, Nat.le_refl _, ?_, ?_, fun a c9 h9 => ⟨c9, h9, rfl, rfl, fun _ _ => rfl⟩⟩
      · show T.setVm s.vm = { ((T.setVm s.vm).setFrames (.invoking m args :: below)).setFrames (T.setVm s.vm).frames with heap := T.heap, slotsUsed := T.slotsUsed }
        rw [State.setFrames_setFrames, State.setFrames_self ht9]
        rfl
      · show T.slotsUsed = T.slotsUsed + ((T.heap.toList.drop T.heap.size).map (·.slots.size)).sum
        rw [hdrop]
        rfl
      · show ((T.heap.toList.drop T.heap.size).map (·.slots.size)).sum ≤ 0
        rw [hdrop]
        exact Nat.le_refl _
  · obtain ⟨e1, e2⟩ := hU
    rw [State.setFrames_setFrames] at e1
    have h2 : (T.setVm s.vm).sameButNew ({ U with vm := s.vm } : State) [] 1 6 := ⟨e1, e2⟩
    have h3 := X.same.trans h2
    rw [List.append_nil] at h3
    exact h3
end THROW
end
section
/-! CALLS, AND A METHOD'S END -/
/-- a word that stays when entries are resolved -/
def mm_wd : Cond → Bool
  | .castable _ _ => true
  | .declares _ => true
  | .arrayOver (.object _) => true
  | w => goodWord w
theorem mm_warm {args a' : Array Value} {s U : State} {w : Cond} (hW : s.WarmedH U.vm) (hw : mm_wd w = true) (h : w.before args s = true) : w.before a' U = true := by
  unfold mm_wd at hw
  split at hw
  next C T => exact va_Nw.use rfl (va_Nw.warmC hW (va_Nw.of rfl h))
  next x => exact va_Nw.use rfl (va_Nw.warmD hW (va_Nw.of rfl h))
  next C => exact va_AO.use (va_AO.moved hW.alike (va_AO.of h))
  next => exact word_at hW (good_of_word hw) h
/-- the words of a throw that speak of the heap -/
def mm_HW : List Cond := [.isRef (.static Bundle.tN "UNASSIGNED_STACK" Bundle.steD), .isRef (.static Bundle.tN "SUPPRESSED_SENTINEL" Bundle.listD), .laysStatic Bundle.tN "UNASSIGNED_STACK" Bundle.steD, .laysStatic Bundle.tN "SUPPRESSED_SENTINEL" Bundle.listD]
/-- what stands at every call: the tables' words, the classes, what a throw needs, the script, classes that are no casts of each other -/
def mm_Env (D : va_G) (cl : List vw_C) (tys : List (ClassId × FieldType)) (TT : List Cond) (strs : List (String × Nat × String)) (nc : List (String × String)) (B b Ls : Nat) (xs : Nat → Int32) (U : State) : Prop :=
  (∀ w ∈ TT, w.before #[] U = true) ∧ va_K D cl tys U ∧ mm_SF Bundle.tN "UNASSIGNED_STACK" Bundle.steD B U U.heap ∧ mm_SF Bundle.tN "SUPPRESSED_SENTINEL" Bundle.listD B U U.heap ∧ (∀ q ∈ strs, ∃ a, vk_R q.1 q.2.1 q.2.2 a U) ∧ (∀ q ∈ nc, va_Nc q.1 q.2 U) ∧ va_X b Ls xs U U.heap ∧ b < B ∧ B ≤ U.heap.size
section CALL
variable {p : Program} {l : Launch} {e : Env} {R : Room} {s : State} {m : MethodId} {args : Array Value} {below : List Frame} {meth : Method} {c : Code} {Q : State → Prop} {H : Heap} {locs : List Loc} {cells slots : Nat} {ls : Array Slot}
variable {D : va_G} {cl : List vw_C} {tys : List (ClassId × FieldType)} {ck : Nat → List Nat} {ct : Nat → Nat → FieldType} {ak : Nat → FieldType} {dA : Nat → ClassId} {B b Ls nL pc : Nat} {xs : Nat → Int32} {TT : List Cond} {strs : List (String × Nat × String)} {nc : List (String × String)} {cc : ByteArray} {own : String} {me : mm_Me} {L : mm_L} {st : List Value} {S S0 : mm_St} {z' : mm_Z} {ex : Nat → String} {mc ms : Nat}
theorem mm_Env.moved {U : State} (hTT : ∀ w ∈ TT, mm_wd w = true) (hW : s.WarmedH U.vm) (hU : U.heap = H) (hS : va_S (fun q => B ≤ q) s.heap H locs) (h : mm_Env D cl tys TT strs nc B b Ls xs s) : mm_Env D cl tys TT strs nc B b Ls xs U := by
  obtain ⟨h1, h2, h3, h4, h5, h6, h7, h8, h9⟩ := h
  subst hU
  have hk : ∀ a : Nat, a < B → U.heap[a]? = s.heap[a]? := fun a ha => hS.2.1 a (by omega) (by show ¬ B ≤ a; omega)
  refine ⟨fun w hw => mm_warm hW (hTT w hw) (h1 w hw), va_K.moved hW.alike h2, h3.to hW.alike hk, h4.to hW.alike hk, fun q hq => ?_, fun q hq => (h6 q hq).moved hW.alike, va_X.moved hW.alike (h7.kept (hk b h8)), h8, Nat.le_trans h9 hS.1⟩
  obtain ⟨a, ha⟩ := h5 q hq
  exact ⟨a, vk_R.warm hW ha⟩
theorem mm_Env.HW {U : State} (h : mm_Env D cl tys TT strs nc B b Ls xs U) : ∀ w ∈ mm_HW, ∀ a : Array Value, w.before a U = true := by
  obtain ⟨-, -, h3, h4, -⟩ := h
  intro w hw a
  simp only [mm_HW, List.mem_cons, List.mem_nil_iff, or_false] at hw
  rcases hw with rfl | rfl | rfl | rfl
  · exact h3.ref
  · exact h4.ref
  · exact h3.lays
  · exact h4.lays
def mm_Pc (D : va_G) (cl : List vw_C) (tys : List (ClassId × FieldType)) (TT : List Cond) (strs : List (String × Nat × String)) (nc : List (String × String)) (B b Ls : Nat) (xs : Nat → Int32) (ck : Nat → List Nat) (ak : Nat → FieldType) (dA : Nat → ClassId) (as : List Value) (S : mm_St) : Array Value → State → Prop := fun a U =>
  a = (as.map (mm_v B b)).toArray ∧ mm_Env D cl tys TT strs nc B b Ls xs U ∧ va_P D cl (mm_ws ck ak dA B b S.1 S.2.1) U.heap ∧ (S.2.2 = 0 → U.heap.size = B + S.1.length)
/-- how a method has ended, as the small machine has it -/
def mm_Out (B b : Nat) (ex : Nat → String) (r : Option Value ⊕ Nat) (oc : Outcome) (st t : State) : Prop := match r with
  | .inl v => oc = .returned (v.map (mm_v B b))
  | .inr n => ∃ (q : Addr) (ce : Cell), oc = .threw q ∧ t.heap[q]? = some ce ∧ ce.vm = .none ∧ st.vm.findClass (ex n) = some ce.cls
def mm_QO (D : va_G) (cl : List vw_C) (B b : Nat) (ck : Nat → List Nat) (ak : Nat → FieldType) (dA : Nat → ClassId) (ex : Nat → String) (o : mm_O) (mc ms : Nat) : Array Value → State → Outcome → State → Prop := fun _ st oc t =>
  mm_Out B b ex o.1 oc st t ∧ va_P D cl (mm_ws ck ak dA B b o.2.1 o.2.2.1) t.heap ∧ va_F (fun q => B ≤ q) st t ∧ st.WarmedH t.vm ∧ ∃ Lc, st.sameButNew ({ t with vm := st.vm } : State) Lc mc ms ∧ ∀ z ∈ Lc, B ≤ z.base
/-- what a method's frame comes to -/
def mm_E (below : List Frame) (args : Array Value) (s : State) (D : va_G) (cl : List vw_C) (B b : Nat) (ck : Nat → List Nat) (ak : Nat → FieldType) (dA : Nat → ClassId) (ex : Nat → String) (o : mm_O) (mc ms : Nat) : State → Prop := fun t => ∃ oc, t.status = .running ∧ Ended t below oc ∧ mm_QO D cl B b ck ak dA ex o mc ms args s oc t
theorem mm_Pc.blind (hTT : ∀ w ∈ TT, mm_wd w = true) (as : List Value) (S : mm_St) : FrameBlind (mm_Pc D cl tys TT strs nc B b Ls xs ck ak dA as S) := by
  intro a U g mk h
  obtain ⟨h1, h2, h3, h4⟩ := h
  exact ⟨h1, mm_Env.moved (s := U) (U := U.calling g mk a) (locs := []) hTT (State.WarmedH.refl U) rfl va_S.rf h2, h3, h4⟩
/-- the kit's end of a method that returns -/
theorem mm_ret {v : Option Value} {g : JFrame} (hR : mm_Rz D cl ck ak dA B b s.heap S0 S H locs cells slots) (hmc : cells ≤ mc) (hms : slots ≤ ms)
    (k : ∀ Qc : Array Value → State → Outcome → State → Prop, (∀ t : State, t.heap = H → s.WarmedH t.vm → Qc args s (.returned (v.map (mm_v B b))) t) → W p l e R s m args below meth c H locs cells slots (MQ below Qc args s cells slots (fun q => B ≤ q)) g) :
    W p l e R s m args below meth c H locs cells slots (mm_E below args s D cl B b ck ak dA ex (.inl v, S) mc ms) g := by
  have k1 := k (fun _ st oc t => oc = .returned (v.map (mm_v B b)) ∧ t.heap = H ∧ st.WarmedH t.vm) (fun t ht hW => ⟨rfl, ht, hW⟩)
  intro T hT X
  obtain ⟨t, a1, oc, b1, b2, ⟨b3, b4, b5⟩, Lc, ⟨-, b6, b7⟩, b8⟩ := k1 T hT X
  exact ⟨t, a1, oc, b1, b2, b3, by rw [b4]; exact hR.1, hR.2.1.F b4, b5, Lc, b7.mono hmc hms, b8⟩
theorem mm_cs (hR : mm_Rz D cl ck ak dA B b s.heap S0 S H locs cells slots) (hmc : mm_co S0 + mc = mm_co S) (hms : mm_sl ck S0 + ms = mm_sl ck S) : cells ≤ mc ∧ slots ≤ ms := by
  have h1 := hR.2.2.1
  have h2 := hR.2.2.2.1
  omega
theorem mm_k_ireturn {x : Int32} {ty : FieldType} (X : CallFix p m c cc nL s args TT own) (hr : meth.sig.returnType = some ty) (hty : narrow ty (.int x) = .int x) (hlocks : meth.locks = false) (hmc : mm_co S0 + mc = mm_co S) (hms : mm_sl ck S0 + ms = mm_sl ck S) (hd : decode cc pc = .ok (.ireturn, 1)) :
    mm_J p l e R s m args below meth c (mm_E below args s D cl B b ck ak dA ex (.inl (some (.int x)), S) mc ms) B b nL (mm_Rz D cl ck ak dA B b s.heap S0) (pc, L, [.int x], S) := by
  intro ls H locs cells slots hL hR
  obtain ⟨hx, hb, hml, hown, hts⟩ := X
  obtain ⟨e1, e2⟩ := mm_cs hR hmc hms
  exact mm_ret hR e1 e2 (fun Qc hq => W.zret (v := x) hx hb hr hty hq hR.2.1.2.2 hd)
theorem mm_k_lreturn {x : Int64} (X : CallFix p m c cc nL s args TT own) (hr : meth.sig.returnType = some .long) (hlocks : meth.locks = false) (hmc : mm_co S0 + mc = mm_co S) (hms : mm_sl ck S0 + ms = mm_sl ck S) (hd : decode cc pc = .ok (.lreturn, 1)) :
    mm_J p l e R s m args below meth c (mm_E below args s D cl B b ck ak dA ex (.inl (some (.long x)), S) mc ms) B b nL (mm_Rz D cl ck ak dA B b s.heap S0) (pc, L, [.long x], S) := by
  intro ls H locs cells slots hL hR
  obtain ⟨hx, hb, hml, hown, hts⟩ := X
  obtain ⟨e1, e2⟩ := mm_cs hR hmc hms
  exact mm_ret hR e1 e2 (fun Qc hq => W.lret (v := x) hx hb hr hq hR.2.1.2.2 hd)
theorem mm_k_dreturn {x : UInt64} (X : CallFix p m c cc nL s args TT own) (hr : meth.sig.returnType = some .double) (hlocks : meth.locks = false) (hmc : mm_co S0 + mc = mm_co S) (hms : mm_sl ck S0 + ms = mm_sl ck S) (hd : decode cc pc = .ok (.dreturn, 1)) :
    mm_J p l e R s m args below meth c (mm_E below args s D cl B b ck ak dA ex (.inl (some (.double x)), S) mc ms) B b nL (mm_Rz D cl ck ak dA B b s.heap S0) (pc, L, [.double x], S) := by
  intro ls H locs cells slots hL hR
  obtain ⟨hx, hb, hml, hown, hts⟩ := X
  obtain ⟨e1, e2⟩ := mm_cs hR hmc hms
  exact mm_ret hR e1 e2 (fun Qc hq => W.dret (v := x) hx hb hr hq hR.2.1.2.2 hd)
theorem mm_k_areturn {v : Value} {rt : FieldType} (hv : v = .null ∨ ∃ a, v = .ref a) (X : CallFix p m c cc nL s args TT own) (hr : meth.sig.returnType = some rt) (hrt : (∃ n, rt = .object n) ∨ ∃ t, rt = .array t) (hlocks : meth.locks = false) (hmc : mm_co S0 + mc = mm_co S) (hms : mm_sl ck S0 + ms = mm_sl ck S) (hd : decode cc pc = .ok (.areturn, 1)) :
    mm_J p l e R s m args below meth c (mm_E below args s D cl B b ck ak dA ex (.inl (some v), S) mc ms) B b nL (mm_Rz D cl ck ak dA B b s.heap S0) (pc, L, [v], S) := by
  intro ls H locs cells slots hL hR
  obtain ⟨hx, hb, hml, hown, hts⟩ := X
  obtain ⟨e1, e2⟩ := mm_cs hR hmc hms
  exact mm_ret hR e1 e2 (fun Qc hq => W.aret (v := mm_v B b v) hx hb hr hrt (by rcases hv with rfl | ⟨a, rfl⟩; exact Or.inl rfl; exact Or.inr ⟨_, rfl⟩) hq hR.2.1.2.2 hd)
theorem mm_k_return (X : CallFix p m c cc nL s args TT own) (hr : meth.sig.returnType = none) (hlocks : meth.locks = false) (hmc : mm_co S0 + mc = mm_co S) (hms : mm_sl ck S0 + ms = mm_sl ck S) (hd : decode cc pc = .ok (.return_, 1)) :
    mm_J p l e R s m args below meth c (mm_E below args s D cl B b ck ak dA ex (.inl none, S) mc ms) B b nL (mm_Rz D cl ck ak dA B b s.heap S0) (pc, L, [], S) := by
  intro ls H locs cells slots hL hR
  obtain ⟨hx, hb, hml, hown, hts⟩ := X
  obtain ⟨e1, e2⟩ := mm_cs hR hmc hms
  exact mm_ret hR e1 e2 (fun Qc hq => W.vret hx hb hr hq hR.2.1.2.2 hd)
end CALL
end
section
/-! A THROW BY A CONSTRUCTOR WITH A MESSAGE whose own code is any 'pass the message on' (the library's ctorThrowS is of one pool index) -/
def mm_tl (own : String) (ic : Nat) (X : String) : List Cond :=
  [.methodLink own ic (Bundle.initS X), .instantiable X 6, .castable X X, .selects X Bundle.tFill0 Bundle.tFill0, .selects X Bundle.tFill Bundle.tFill,
   .lays X Bundle.tN "cause" "Ljava/lang/Throwable;", .lays X Bundle.tN "stackTrace" Bundle.steD, .lays X Bundle.tN "suppressedExceptions" Bundle.listD, .lays X Bundle.tN "detailMessage" "Ljava/lang/String;",
   .isRef (.static Bundle.tN "UNASSIGNED_STACK" Bundle.steD), .isRef (.static Bundle.tN "SUPPRESSED_SENTINEL" Bundle.listD),
   .fieldLink Bundle.tN 198 Bundle.tN "backtrace" "Ljava/lang/Object;", .lays Bundle.tN Bundle.tN "backtrace" "Ljava/lang/Object;", .lays X Bundle.tN "backtrace" "Ljava/lang/Object;"]
def mm_oa (own : String) (ic : Nat) (X : String) (ix : Nat) (rx : ByteArray) (Y : String) (r : List String) : List Cond :=
  (Bundle.throwableAtoms ++ Bundle.throwableSAtoms) ++ ((Bundle.passSAtoms X Y ix rx ++ Bundle.chainSAtoms Y r) ++ mm_tl own ic X)
section CTORX
variable {p : Program} {l : Launch} {e : Env} {R : Room} {s : State} {m₀ : MethodId} {args : Array Value} {below : List Frame} {meth : Method} {c : Code} {W : State} {locs : List Loc} {cells slots : Nat}
set_option maxHeartbeats 2000000 in
theorem mm_ctorX (X : Stand p l e R s m₀ args below meth c W locs cells slots) (hexec : p.tables.exec = Jvm.exec) (htr : e.platform.stackTraces = false) {own cls Y0 : String} {r0 : List String} {ic ix : Nat} {rx : ByteArray}
    (x0 : decode rx 0 = .ok (.aload_n 0, 1)) (x1 : decode rx 1 = .ok (.aload_n 1, 1)) (x2 : decode rx 2 = .ok (.invokespecial ix, 3)) (x5 : decode rx 5 = .ok (.return_, 1))
    (hown : s.vm.findClass own = some m₀.cls) (hcls : Bundle.fit cls = true) (hnames : ∀ n ∈ Y0 :: r0, Bundle.fit n = true)
    (h : ∀ a ∈ mm_oa own ic cls ix rx Y0 r0, a.before args s = true)
    (hlocs : ∀ x ∈ locs, ∀ cell, s.heap[x.base]? = some cell → cell.vm.isStatics = false)
    {a : Addr} {cX : ClassId} {kX : Class} (hfoundX : s.vm.findClass cls = some cX) (hkX : s.vm.classes[cX]? = some kX) (hcell : W.heap[a]? = some (freshCell cX kX)) (hnew : s.heap.size ≤ a)
    {msg : Value} (hmsg : msg.isRef = true)
    {g : JFrame} (hg : g.method = m₀) (hsize : g.locals.size = c.maxLocals) (hlocked : g.locked = none) (hentered : g.entered = []) {rest : List Value} (hstack : g.stack = msg :: .ref a :: .ref a :: rest)
    (hd6 : decode c.code g.pc = .ok (.invokespecial ic, 3)) (hd9 : decode c.code (g.pc + 3) = .ok (.athrow, 1)) (hout : ∀ x ∈ c.exceptionTable.toList, covers x (g.pc + 3) = false)
    (hRframes : (Y0 :: r0).length + 3 < R.frames) (hRlocals : 2 * g.monitorRoom + ((Value.ref a :: rest).map fun v => v.category).sum + (13 * ((Y0 :: r0).length + 1) + 42) ≤ R.locals) (hlocks : meth.locks = false) :
    ∃ U : State, Steps p.tables e below (W.setTop g) U ∧ U.status = .running ∧ Ended U below (.threw a) ∧ s.WarmedH U.vm ∧ s.sameButNew ({ U with vm := s.vm } : State) locs cells slots ∧
      ∃ ce, U.heap[a]? = some ce ∧ s.vm.findClass cls = some ce.cls ∧ ce.vm = .none := by
  have howns : e.platform.frameOwnsMonitors = true := by rw [X.admits.platform]
  have hfin : e.platform.finalization = false := by rw [X.admits.platform]
  have hpl : e.platform.magicAccessors = ({} : Platform).magicAccessors := by rw [X.admits.platform]
  have hA : ∀ x ∈ Bundle.throwableAtoms, x.before args s = true := fun x hx => h x (List.mem_append.mpr (.inl (List.mem_append.mpr (.inl hx))))
  have hB : ∀ x ∈ Bundle.throwableSAtoms, x.before args s = true := fun x hx => h x (List.mem_append.mpr (.inl (List.mem_append.mpr (.inr hx))))
  have hC : ∀ x ∈ Bundle.passSAtoms cls Y0 ix rx, x.before args s = true := fun x hx => h x (List.mem_append.mpr (.inr (List.mem_append.mpr (.inl (List.mem_append.mpr (.inl hx))))))
  have hD : ∀ x ∈ Bundle.chainSAtoms Y0 r0, x.before args s = true := fun x hx => h x (List.mem_append.mpr (.inr (List.mem_append.mpr (.inl (List.mem_append.mpr (.inr hx))))))
  have a' : ∀ x, x ∈ mm_tl own ic cls → x.holds args s none s [] = true := fun x hx => h x (List.mem_append.mpr (.inr (List.mem_append.mpr (.inr hx))))
  obtain ⟨T, Z0, L, -, Y⟩ := ThrowableC.of_atoms (args := args) howns hfin hpl hA
  obtain ⟨Z, M, LZ, LM, hnZ⟩ := Init0T.ofS_atoms (args := args) hpl L Y hB
  obtain ⟨P1, L1, hP1m, hs1⟩ := PassC.ofS_atoms (args := args) (s := s) hpl (X := cls) (Y := Y0) (Bundle.fit_spec hcls).1 (Bundle.fit_spec (hnames Y0 List.mem_cons_self)).2 x0 x1 x2 x5 hC
  obtain ⟨P', Ps, hlen, L', hL, hm', hsup, hpass⟩ := Bundle.chainS (args := args) hpl hnZ r0 Y0 (hnames Y0 List.mem_cons_self) (fun n hn' => hnames n (List.mem_cons_of_mem _ hn')) hD
  have hlink1 := Option.some.inj (hs1.symm.trans hm')
  have hfound : s.vm.findClass cls = some P1.m.cls := findClass_of_methodNamed hP1m
  cases Option.some.inj (hfoundX.symm.trans hfound)
  obtain ⟨c1, kX', hc1, hk, hord, -, -, hn6⟩ := Cond.instantiable_spec (a' (.instantiable cls 6) (by simp [mm_tl]))
  cases Option.some.inj (hc1.symm.trans hfound)
  cases Option.some.inj (hkX.symm.trans hk)
  have hsel0 : selectMethod e.platform s.vm P1.m.cls T.fill0 = .method T.fill0 := by
    obtain ⟨c2, r2, m2, q1, q2, q3, q4, -⟩ := Cond.selects_spec (a' (.selects cls Bundle.tFill0 Bundle.tFill0) (by simp [mm_tl]))
    cases Option.some.inj (q1.symm.trans hfound)
    cases Option.some.inj (q2.symm.trans (State.methodFound?_of_named Y.fill0 (by decide)))
    cases Option.some.inj (q3.symm.trans Y.fill0)
    rw [Launch.admits_selectMethod X.admits]; exact q4
  have hselF : selectMethod e.platform s.vm P1.m.cls T.fill = .method T.fill := by
    obtain ⟨c2, r2, m2, q1, q2, q3, q4, -⟩ := Cond.selects_spec (a' (.selects cls Bundle.tFill Bundle.tFill) (by simp [mm_tl]))
    cases Option.some.inj (q1.symm.trans hfound)
    cases Option.some.inj (q2.symm.trans (State.methodFound?_of_named Y.fill (by decide)))
    cases Option.some.inj (q3.symm.trans Y.fill)
    rw [Launch.admits_selectMethod X.admits]; exact q4
  obtain ⟨cellS0, hcS0, hiss⟩ := Y.statics
  obtain ⟨u0, hu0⟩ := Cond.staticRefV Y.unassigned L.unassignedStatic L.statics hcS0 hiss (a' (.isRef (.static Bundle.tN "UNASSIGNED_STACK" Bundle.steD)) (by simp [mm_tl]))
  obtain ⟨sen, hsen⟩ := Cond.staticRefV Y.sentinel L.sentinelStatic L.statics hcS0 hiss (a' (.isRef (.static Bundle.tN "SUPPRESSED_SENTINEL" Bundle.listD)) (by simp [mm_tl]))
  obtain ⟨ci198, i198, fB, hk198, hg198, ha198, hsB, -, hnB, htB, hffB⟩ := Cond.ownField (t := .object "java/lang/Object") Y.found L.cls (by decide +kernel) (a' (.fieldLink Bundle.tN 198 Bundle.tN "backtrace" "Ljava/lang/Object;") (by simp [mm_tl])) (a' (.lays Bundle.tN Bundle.tN "backtrace" "Ljava/lang/Object;") (by simp [mm_tl])) e.platform hpl
  obtain ⟨cellS, hcS', heS, -, hkeep⟩ := X.same.2.2.2.2.2 T.aS cellS0 hcS0
  have hcellS : W.heap[T.aS]? = some cellS := hcS'
  have hout' : ∀ i, (⟨T.aS, i⟩ : Loc) ∉ locs := fun i hmem => by
    have := hlocs _ hmem cellS0 hcS0
    rw [hiss] at this; cases this
  have hknownS : cellS.vm ≠ .unknown := by
    rw [heS]; intro hu
    rw [show cellS0.vm = .unknown from hu] at hiss
    cases hiss
  have hneS : T.aS ≠ a := Nat.ne_of_lt (Nat.lt_of_lt_of_le (Array.getElem?_eq_some_iff.mp hcS0).1 hnew)
  obtain ⟨iM, hffM⟩ := Y.msg
  obtain ⟨tyC, dC, hdC, hdnC⟩ := Cond.laysAt hfound hk Y.cause (a' (.lays cls Bundle.tN "cause" "Ljava/lang/Throwable;") (by simp [mm_tl]))
  obtain ⟨tyS, dS, hdS, hdnS⟩ := Cond.laysAt hfound hk Y.stack (a' (.lays cls Bundle.tN "stackTrace" Bundle.steD) (by simp [mm_tl]))
  obtain ⟨tyP, dP, hdP, hdnP⟩ := Cond.laysAt hfound hk Y.supp (a' (.lays cls Bundle.tN "suppressedExceptions" Bundle.listD) (by simp [mm_tl]))
  obtain ⟨tyM, dM, hdM, hdnM⟩ := Cond.laysAt hfound hk hffM (a' (.lays cls Bundle.tN "detailMessage" "Ljava/lang/String;") (by simp [mm_tl]))
  obtain ⟨tyB, dB, hdB, hdnB⟩ := Cond.laysAt hfound hk hffB (a' (.lays cls Bundle.tN "backtrace" "Ljava/lang/Object;") (by simp [mm_tl]))
  have bC := Cond.laysApart hdB hdC hdnB hdnC (by rw [hnB, Y.causeName]; decide)
  have bS := Cond.laysApart hdB hdS hdnB hdnS (by rw [hnB, Y.stackName]; decide)
  have bP := Cond.laysApart hdB hdP hdnB hdnP (by rw [hnB, Y.suppName]; decide)
  have hskip : SkipFacts T e.platform s (fun u => u) u0 ((preparedCellV T.toThrowableT (freshCell P1.m.cls kX) a u0 sen).withEntry W.cur) :=
    ⟨{ ci198 := ci198, i198 := i198, fBack := fB }, ⟨hk198, hg198, ha198, hsB⟩, by
      have := fresh_default (c := P1.m.cls) tyB
      rw [htB] at this
      simpa [preparedCellV, Cell.setSlot, Cell.withEntry, Array.getElem?_setIfInBounds, bC, bS, bP, bC.symm, bS.symm, bP.symm, defaultValue] using this, fun _ _ => rfl⟩
  obtain ⟨tm, methC, cdC, kC, vm₁, hnC, -, -, -, -, -, -, -, hW₁, st1⟩ := Steps.initColdS (tb := p.tables) (e := e) (below := below) (s := s) (U := W) X.here hexec X.warmed hpl hown (t := Bundle.initS cls) rfl rfl (Bundle.fit_spec hcls).2
    (a' (.methodLink own ic (Bundle.initS cls)) (by simp [mm_tl])) (hC (.instanceMethod (Bundle.initS cls)) (by simp [Bundle.passSAtoms])) (bytes := rx) (maxL := 2) (hC (.code (Bundle.initS cls) rx 2 none) (by simp [Bundle.passSAtoms]))
    (f := g) hg (a := a) (msg := msg) (rest := .ref a :: rest) hstack hd6
  cases Option.some.inj (hnC.symm.trans hP1m)
  have X₁ := X.noted hW₁
  have hl2 : (P1 :: P' :: Ps).length = (Y0 :: r0).length + 1 := by simp only [List.length_cons, hlen]
  obtain ⟨vm₂, X₂, st2⟩ := X₁.ctorMessageOffV hexec (g := { g with stack := .ref a :: rest }) hg hsize T L Z LZ M LM (P1 :: P' :: Ps)
    (fun P hP => by rcases List.mem_cons.mp hP with rfl | hP; exact L1; rcases List.mem_cons.mp hP with rfl | hP; exact L'; exact hL P hP) ⟨hlink1, hsup, hpass⟩ (u0 := u0) (sen := sen) (self := a) hmsg (cell := freshCell P1.m.cls kX) (cellS := cellS)
    hcell (fun _ => by simp) (by simp) rfl rfl hsel0 hselF hcellS hneS hknownS (by rw [hkeep _ (hout' _)]; exact hu0) (by rw [hkeep _ (hout' _)]; exact hsen)
    (Takes.of_laid hk hord tyC (by rw [Y.causeType]; rfl)) (Takes.of_laid hk hord tyS (by rw [Y.stackType]; exact fits_refV_array _ u0)) (Takes.of_laid hk hord tyP (by rw [Y.suppType]; exact fits_refV_object _ sen))
    (Takes.of_laid hk hord tyM (by rw [Y.msgType]; exact fits_refV_object _ ⟨msg, hmsg⟩)) Y.objLocals hskip htr [] hd6
    (by rw [hl2]; omega) (by rw [hl2]; exact hRlocals)
  obtain ⟨hwalk, hrun, hended, hWU, hsame⟩ := X₂.athrowLeaves hexec (g := { g with stack := .ref a :: rest, pc := g.pc + 3 }) hg hlocked hentered hout (a := a) (rest := rest) rfl hd9
  have hlt : a < ((W.setVm vm₁).setVm vm₂).heap.size := (Array.getElem?_eq_some_iff.mp hcell).1
  have hU := heapAt_setCell_self (s := (W.setVm vm₁).setVm vm₂) (plainBareV T.toThrowableT (freshCell P1.m.cls kX) a u0 sen msg) hlt
  refine ⟨_, st1 _ (fun acts => ?_), hrun, hended, hWU, hsame.weaken (fun y hy hlt' => ?_) (Nat.le_refl _) (Nat.le_refl _), _, hU, hfound, rfl⟩
  · rw [doInvoke_state]
    exact st2 _ hwalk
  · rcases List.mem_append.mp hy with h1 | h1
    · exact h1
    · exfalso
      have hb : y.base = a := by
        simp only [List.mem_cons, List.not_mem_nil, or_false] at h1
        rcases h1 with rfl | rfl | rfl | rfl | rfl <;> rfl
      rw [hb] at hlt'
      exact Nat.not_lt.mpr hnew hlt'
end CTORX
end
section
/-! 'throw new E("text")' IN THE SMALL MACHINE'S WORDS -/
/-- what a throw's rows are -/
def mm_TH (TT : List Cond) (strs : List (String × Nat × String)) (cc : ByteArray) (own cls : String) (pc ik is ic : Nat) (text : String) (names : List String) : Prop :=
  Bundle.fit cls = true ∧ (∀ n ∈ names, Bundle.fit n = true) ∧ Cond.classLink own ik cls ∈ TT ∧ Cond.initialized cls ∈ TT ∧ Cond.instantiable cls 6 ∈ TT ∧ (own, is, text) ∈ strs ∧ (∃ ix rx Y r, names = Y :: r ∧ decode rx 0 = .ok (.aload_n 0, 1) ∧ decode rx 1 = .ok (.aload_n 1, 1) ∧ decode rx 2 = .ok (.invokespecial ix, 3) ∧ decode rx 5 = .ok (.return_, 1) ∧ ∀ w ∈ mm_oa own ic cls ix rx Y r, w ∈ TT ∨ w ∈ mm_HW) ∧ names.length ≤ 4 ∧
  decode cc pc = .ok (.new ik, 3) ∧ decode cc (pc + 3) = .ok (.dup, 1) ∧ decode cc (pc + 4) = .ok (.ldc is, 2) ∧ decode cc (pc + 6) = .ok (.invokespecial ic, 3) ∧ decode cc (pc + 9) = .ok (.athrow, 1)
section THROWS
variable {p : Program} {l : Launch} {e : Env} {R : Room} {s : State} {m : MethodId} {args : Array Value} {below : List Frame} {meth : Method} {c : Code} {Q : State → Prop} {H : Heap} {locs : List Loc} {cells slots : Nat} {ls : Array Slot}
variable {D : va_G} {cl : List vw_C} {tys : List (ClassId × FieldType)} {ck : Nat → List Nat} {ct : Nat → Nat → FieldType} {ak : Nat → FieldType} {dA : Nat → ClassId} {B b Ls nL pc : Nat} {xs : Nat → Int32} {TT : List Cond} {strs : List (String × Nat × String)} {nc : List (String × String)} {cc : ByteArray} {own : String} {me : mm_Me} {L : mm_L} {st : List Value} {S S0 : mm_St} {z' : mm_Z} {ex : Nat → String} {mc ms : Nat}
/-- nothing old has changed -/
theorem mm_kept {u U : State} {k n : Nat} (h : u.sameButNew ({ U with vm := u.vm } : State) [] k n) : u.heap.size ≤ U.heap.size ∧ ∀ q : Nat, q < u.heap.size → U.heap[q]? = u.heap[q]? := by
  obtain ⟨-, h2, -, -, -, h6⟩ := h
  refine ⟨h2, fun q hq => ?_⟩
  have e0 := Array.getElem?_eq_getElem hq
  obtain ⟨c9, e1, e2, e3, e4⟩ := h6 q _ e0
  have hs : c9.slots = (u.heap[q]).slots := Array.ext_getElem? fun i => e4 i (by simp)
  rw [hs] at e2
  have e5 : c9 = u.heap[q] := e2
  have e6 : U.heap[q]? = some c9 := e1
  rw [e6, e5, e0]
set_option maxHeartbeats 4000000 in
theorem mm_k_throw {E ik is ic : Nat} {text : String} {names : List String} (X : CallFix p m c cc nL s args TT own) (hl : l.stackTraces = false) (hTT : ∀ w ∈ TT, mm_wd w = true) (hE : mm_Env D cl tys TT strs nc B b Ls xs s) (hth : mm_TH TT strs cc own (ex E) pc ik is ic text names) (hexc : ∀ x ∈ c.exceptionTable.toList, False) (hlocks : meth.locks = false) (hwt : mm_wt st ≤ 8) (hfr : 8 ≤ R.frames) (hlo : 200 ≤ R.locals) (hRc : mc ≤ R.cells) (hRs : ms ≤ R.slots)
    (hmc : mm_co S0 + mc = mm_co S + 1) (hms : mm_sl ck S0 + ms = mm_sl ck S + 6) : mm_J p l e R s m args below meth c (mm_E below args s D cl B b ck ak dA ex (.inr E, (S.1, S.2.1, S.2.2 + 1)) mc ms) B b nL (mm_Rz D cl ck ak dA B b s.heap S0) (pc, L, st, S) := by
  obtain ⟨hx, hb, hml, hown, hts⟩ := X
  obtain ⟨h1, h2, h3, h4, h4b, h5, ⟨ix9, rx9, Y9, r9, rfl, x0, x1, x2, x5, h6⟩, h8, d0, d3, d4, d6, d9⟩ := hth
  intro ls H locs cells slots hL hR
  obtain ⟨hP, hS, hco, hsl, hnx⟩ := hR
  have hco : mm_co S0 + cells = mm_co S := hco
  have hsl : mm_sl ck S0 + slots = mm_sl ck S := hsl
  intro T hT X
  have htr : e.platform.stackTraces = false := (show e.platform.stackTraces = l.stackTraces by rw [X.admits.platform]).trans hl
  obtain ⟨s', hv', hh', X', hback⟩ := mm_anew X (by omega) (by omega)
  have hW0 : s.WarmedH s'.vm := by rw [hv']; exact State.WarmedH.refl s
  have hE' : mm_Env D cl tys TT strs nc B b Ls xs s' := hE.moved hTT hW0 (hh'.trans hT) hS
  have hts' : ∀ w ∈ TT, w.before args s' = true := fun w hw => mm_warm hW0 (hTT w hw) (hts w hw)
  have hown' : s'.vm.findClass own = some m.cls := by rw [hv']; exact hown
  have hat : ∀ w ∈ mm_oa own ic (ex E) ix9 rx9 Y9 r9, w.before args s' = true := fun w hw => (h6 w hw).elim (hts' w) (fun q => hE'.HW w q args)
  obtain ⟨sa, hsa⟩ := hE'.2.2.2.2.1 _ h5
  have K : W p l e { frames := R.frames, locals := R.locals, cells := 1, slots := 6 } s' m args below meth c T.heap [] 0 0 (mm_E below args s D cl B b ck ak dA ex (.inr E, (S.1, S.2.1, S.2.2 + 1)) mc ms) (F0 m pc ls (st.map (mm_v B b))) := by
    refine W.newc hx hb hown' (hts' _ h3) (hts' _ h4b) (hts' _ h4) (g := F0 m pc ls (st.map (mm_v B b))) rfl d0 (Nat.le_refl _) (Nat.le_refl _) (fun cC kC k1 k2 k3 k4 => ?_)
    refine lv_dup (pc := pc + 3) hx hb d3 rfl ?_
    refine va_ldcS (pc := pc + 4) hx hb hown' hsa d4 ?_
    intro T2 hT2 X2
    obtain ⟨U, hsteps, hrun, hend, hW, hsame, ce, hce, hO⟩ := mm_ctorX X2 hx htr (own := own) (cls := ex E) (Y0 := Y9) (r0 := r9) (ic := ic) x0 x1 x2 x5 hown' h1 h2 hat (fun x hx => nomatch hx) k1 k2 (a := T.heap.size) (by rw [hT2, Array.getElem?_push_size]) (by rw [hh']; exact Nat.le_refl _) (msg := .ref sa) rfl
      (g := F0 m (pc + 6) ls (.ref sa :: .ref T.heap.size :: .ref T.heap.size :: st.map (mm_v B b))) rfl (hL.1.trans hml.symm) rfl rfl (rest := st.map (mm_v B b)) rfl (by rw [hb]; exact d6) (by rw [hb]; exact d9) (fun x hx => (hexc x hx).elim) (by show (Y9 :: r9).length + 3 < R.frames; omega)
      (by
        have hw := mm_wt_eq B b st
        simp only [List.map_cons, List.sum_cons] at hw ⊢
        rw [hw]
        show 0 + (1 + mm_wt st) + (13 * ((Y9 :: r9).length + 1) + 42) ≤ R.locals
        omega) hlocks
    obtain ⟨f1, f2⟩ := mm_kept hsame
    rw [hh'] at f1 f2
    rw [hT] at f1 f2
    have hcl : s.vm.findClass (ex E) = some ce.cls := by
      have h9 := hO.1
      rw [hv'] at h9
      exact h9
    refine ⟨U, hsteps, .threw T.heap.size, hrun, hend, ⟨T.heap.size, ce, rfl, hce, hO.2, hcl⟩, ?_, ⟨Nat.le_trans hS.1 f1, fun q hq hA => (f2 q (Nat.lt_of_lt_of_le hq hS.1)).trans (hS.2.1 q hq hA)⟩, State.WarmedH.trans hW0 hW, locs, (hback U hsame).mono (by omega) (by omega), fun z hz => hS.2.2 z hz⟩
    exact hP.kept fun k q hk => f2 q.1 (hP k q hk).lt
  exact K T rfl X'
end THROWS
end
section
/-! CALLS IN THE SMALL MACHINE'S WORDS -/
def mm_rm (d mc ms : Nat) : Room := { frames := d + 8, cells := mc, slots := ms, locals := 40 * d + 200 }
theorem mm_free_mono {l : Launch} {y : MethodName} {S : Spec} {P : Array Value → State → Prop} {K : Program → Env → List Frame → State → Array Value → Prop} {Q Q' : Array Value → State → Outcome → State → Prop} (h : MetFree l y S P K Q) (hq : ∀ a st o t, Q a st o t → Q' a st o t) : MetFree l y S P K Q' := by
  intro p e ha hc hk s m args below hf happ hP hK
  obtain ⟨n, o, h1, h2, h3, h4⟩ := h p e ha hc hk s m args below hf happ hP hK
  exact ⟨n, o, h1, h2, h3, hq _ _ _ _ h4⟩
theorem mm_pop_spec : ∀ (n : Nat) (acc st as r : List Value), mm_pop n acc st = some (as, r) → ∃ ys, as = ys ++ acc ∧ st = ys.reverse ++ r ∧ ys.length = n := by
  intro n
  induction n with
  | zero =>
    intro acc st as r h
    unfold mm_pop at h
    cases h
    exact ⟨[], rfl, rfl, rfl⟩
  | succ n ih =>
    intro acc st as r h
    cases st with
    | nil => cases h
    | cons v st =>
      obtain ⟨ys, h1, h2, h3⟩ := ih (v :: acc) st as r h
      refine ⟨ys ++ [v], by rw [h1]; simp, by rw [h2]; simp, by simp [h3]⟩
section CALLS
variable {p : Program} {l : Launch} {e : Env} {R : Room} {s : State} {m : MethodId} {args : Array Value} {below : List Frame} {meth : Method} {c : Code} {Q : State → Prop} {H : Heap} {locs : List Loc} {cells slots : Nat} {ls : Array Slot}
variable {D : va_G} {cl : List vw_C} {tys : List (ClassId × FieldType)} {ck : Nat → List Nat} {ct : Nat → Nat → FieldType} {ak : Nat → FieldType} {dA : Nat → ClassId} {B b Ls nL pc : Nat} {xs : Nat → Int32} {TT : List Cond} {strs : List (String × Nat × String)} {nc : List (String × String)} {cc : ByteArray} {own : String} {me : mm_Me} {L : mm_L} {st : List Value} {S S0 : mm_St} {z' : mm_Z} {ex : Nat → String} {mc ms : Nat}
/-- the places written so far, when a callee has come back -/
theorem mm_after {st₀ t T' : State} {L1 : List Loc} {H0 : Heap} (h0 : st₀.heap = H) (e1 : T'.heap = t.heap) (hS : va_S (fun q => B ≤ q) H0 H locs) (hL : ∀ z ∈ L1, B ≤ z.base) (hF : va_F (fun q => B ≤ q) st₀ t) : va_S (fun q => B ≤ q) H0 T'.heap (locs ++ L1) := by
  obtain ⟨hz, hk⟩ := hF
  rw [h0] at hz hk
  rw [e1]
  refine ⟨Nat.le_trans hS.1 hz, fun q h1 h2 => (hk q (Nat.lt_of_lt_of_le h1 hS.1) h2).trans (hS.2.1 q h1 h2), fun q hq => ?_⟩
  rcases List.mem_append.mp hq with h | h
  · exact hS.2.2 q h
  · exact hL q h
theorem mm_run_ret {mc' ms' : Nat} {o : mm_O} {v : Option Value} {a : Array Value} {st0 rest : List Value} (hr : va_Run p l e R s m args below meth c H locs cells slots mc' ms' (F0 m pc ls st0) rest (mm_QO D cl B b ck ak dA ex o mc' ms' a) (fun q => B ≤ q)) (ho : o.1 = .inl v) (hS : va_S (fun q => B ≤ q) s.heap H locs)
    (k : ∀ (H1 : Heap) (locs1 : List Loc), va_P D cl (mm_ws ck ak dA B b o.2.1 o.2.2.1) H1 → va_S (fun q => B ≤ q) s.heap H1 locs1 → W p l e R s m args below meth c H1 locs1 (cells + mc') (slots + ms') Q (F0 m (pc + 3) ls ((v.toList ++ []).map (mm_v B b) ++ rest))) : W p l e R s m args below meth c H locs cells slots Q (F0 m pc ls st0) := by
  intro T hT X
  obtain ⟨v1, st₀, t, T', L1, h0, X', hL, e1, e2, ⟨ho1, hP1, hF, -⟩, st⟩ := hr T hT X
  rw [ho] at ho1
  have ho2 : Outcome.returned v1 = .returned (v.map (mm_v B b)) := ho1
  cases ho2
  obtain ⟨t2, a1, b1⟩ := k T'.heap (locs ++ L1) (by rw [e1]; exact hP1) (mm_after h0 e1 hS hL hF) T' rfl X'
  refine ⟨t2, st t2 ?_, b1⟩
  have e9 : (v.toList ++ []).map (mm_v B b) = (v.map (mm_v B b)).toList := by cases v <;> rfl
  rw [e9] at a1
  exact a1
/-- out of a caller without handlers, when its callee has thrown -/
theorem mm_out {T T' st₀ t : State} {L1 : List Loc} {q : Addr} {n mc' ms' : Nat} {o : mm_O} {a : Array Value} {rest : List Value} (ho : o.1 = .inr n) (hT : T.heap = H) (h0 : st₀.heap = T.heap) (hW : s.WarmedH st₀.vm) (X' : Stand p l e R s m args below meth c T' (locs ++ L1) (cells + mc') (slots + ms')) (hL : ∀ z ∈ L1, B ≤ z.base) (e1 : T'.heap = t.heap) (e2 : T'.vm = t.vm)
    (hq : mm_QO D cl B b ck ak dA ex o mc' ms' a st₀ (.threw q) t) (hS : va_S (fun q => B ≤ q) s.heap H locs) (hexc : ∀ x ∈ c.exceptionTable.toList, False) (hlocks : meth.locks = false) (hmc : cells + mc' ≤ mc) (hms : slots + ms' ≤ ms) :
    ∃ t2, Steps p.tables e below ((T'.setTop (F0 m pc ls rest)).pushFrame (.throwing q)) t2 ∧ mm_E below args s D cl B b ck ak dA ex o mc ms t2 := by
  obtain ⟨ho1, hP1, hF, -⟩ := hq
  rw [ho] at ho1
  obtain ⟨q2, ce, hq2, hce, hcv, hcl⟩ := ho1
  cases hq2
  obtain ⟨st1, hrun, hend, hW9, hsm⟩ := X'.leaveThrown q (g := F0 m pc ls rest) rfl rfl rfl (fun x hx => (hexc x hx).elim) hlocks
  have hS' := mm_after (h0.trans hT) e1 hS hL hF
  have hcl9 : s.vm.findClass (ex n) = some ce.cls := by rw [← hcl, hW.alike.findClass]
  refine ⟨_, st1, .threw q, hrun, hend, ?_, ?_, hS'.F (t := T'.setFrames (.throwing q :: below)) rfl, hW9, _, hsm.mono hmc hms, fun z hz => hS'.2.2 z hz⟩
  · rw [ho]
    exact ⟨q, ce, rfl, by show T'.heap[q]? = _; rw [e1]; exact hce, hcv, hcl9⟩
  · show va_P D cl _ T'.heap
    rw [e1]; exact hP1
/-- how large the heap is, while nothing has been thrown -/
theorem mm_size {T : State} (X : Stand p l e R s m args below meth c T locs cells slots) (hT : T.heap = H) (hR : mm_Rz D cl ck ak dA B b s.heap S0 S H locs cells slots) (hB : B ≤ s.heap.size) (hex : S0.2.2 = 0 → s.heap.size = B + S0.1.length) : S.2.2 = 0 → H.size = B + S.1.length := by
  intro h0
  obtain ⟨hP, hS, hco, hsl, hnx⟩ := hR
  have h1 := hex (by omega)
  have h2 := X.heapSize
  rw [hT] at h2
  have h3 : S0.1.length + S0.2.2 + cells = S.1.length + S.2.2 := hco
  have h4 : B + S.1.length ≤ H.size := by
    by_cases hz : S.1.length = 0
    · have := hS.1
      omega
    · have e := mm_ws_at (ck := ck) (ak := ak) (dA := dA) (B := B) (b := b) (M := S.2.1) (List.getElem?_eq_getElem (show S.1.length - 1 < S.1.length by omega))
      have h5 : B + (S.1.length - 1) < H.size := (hP _ _ e).lt
      omega
  omega
/-- the contracts of all methods: names, bytes, what they return, their code's words -/
def mm_Ct (l : Launch) (D : va_G) (cl : List vw_C) (tys : List (ClassId × FieldType)) (TT : List Cond) (strs : List (String × Nat × String)) (nc : List (String × String)) (B b Ls : Nat) (xs : Nat → Int32) (ck : Nat → List Nat) (ak : Nat → FieldType) (dA : Nat → ClassId) (ex : Nat → String) (yj : Nat → MethodName) (cw : Nat → Cond) (d : Nat) (call : Nat → List Value → mm_St → Option mm_O) : Prop :=
  ∀ j as S o, call j as S = some o → mm_co S ≤ mm_co o.2 ∧ mm_sl ck S ≤ mm_sl ck o.2 ∧ S.2.2 ≤ o.2.2.2 ∧ ∀ mc ms, ms ≤ 60000000 → mm_co S + mc = mm_co o.2 → mm_sl ck S + ms = mm_sl ck o.2 →
    MetFree l (yj j) (headSpec [cw j] (mm_rm d mc ms)) (mm_Pc D cl tys TT strs nc B b Ls xs ck ak dA as S) (fun _ _ _ _ _ => True) (mm_QO D cl B b ck ak dA ex o mc ms)
/-- a callee's words, but how it is linked -/
def mm_CE (TT : List Cond) (y : MethodName) (bytes : ByteArray) (maxL n : Nat) (ret : Option FieldType) : Prop :=
  Cond.code y bytes maxL ret ∈ TT ∧ goodWord (.code y bytes maxL ret) = true ∧ Cond.initialized y.cls ∈ TT ∧ (y.cls ≠ "java/lang/invoke/MethodHandle" ∧ y.cls ≠ "java/lang/invoke/VarHandle") ∧ (parseMethodDescriptor y.desc).map (fun d => d.parameters.length) = some n ∧ maxL ≤ 21
theorem mm_CE.toB {y : MethodName} {bytes : ByteArray} {maxL n ix d mc' ms' : Nat} {ret : Option FieldType} (h : mm_CE TT y bytes maxL n ret) (hts : ∀ w ∈ TT, w.before args s = true) (hl : Cond.methodLink own ix y ∈ TT) (hRf : d + 9 ≤ R.frames) (hRl : 40 * d + 240 ≤ R.locals) :
    CallB R s args own ix y bytes maxL ret [.code y bytes maxL ret] (mm_rm d mc' ms') mc' ms' n := by
  obtain ⟨h1, h2, h3, h4, h5, h6⟩ := h
  exact callB_of n hts (fun w hw => by rw [List.mem_singleton] at hw; subst hw; exact ⟨h1, good_of_word h2⟩) rfl rfl rfl (hts _ h3) (hts _ hl) ⟨h4.1, h4.2, h5⟩ ⟨by show d + 8 + 1 ≤ _; omega, by show 8 + (maxL + 11) + (40 * d + 200) ≤ _; omega⟩
theorem mm_CE.toR {y : MethodName} {bytes : ByteArray} {maxL n d mc' ms' : Nat} {ret : Option FieldType} (h : mm_CE TT y bytes maxL n ret) (hTT : ∀ w ∈ TT, mm_wd w = true) (hts : ∀ w ∈ TT, w.before args s = true) (hRf : d + 9 ≤ R.frames) (hRl : 40 * d + 240 ≤ R.locals) :
    mm_CR R s args y bytes maxL ret [.code y bytes maxL ret] (mm_rm d mc' ms') mc' ms' := by
  obtain ⟨h1, h2, h3, h4, h5, h6⟩ := h
  exact ⟨rfl, rfl, by show d + 8 + 1 ≤ _; omega, by show 8 + (maxL + 11) + (40 * d + 200) ≤ _; omega, fun w hw a' U hW => by rw [List.mem_singleton] at hw; subst hw; exact mm_warm hW (hTT _ h1) (hts _ h1), List.mem_singleton.mpr rfl, fun a' U hW => mm_warm hW (hTT _ h3) (hts _ h3)⟩
theorem mm_QO.met {y : MethodName} {ws : List Cond} {rm : Room} {P : Array Value → State → Prop} {o : mm_O} {v : Option Value} (ho : o.1 = .inl v) (h : MetFree l y (headSpec ws rm) P (fun _ _ _ _ _ => True) (mm_QO D cl B b ck ak dA ex o mc ms)) : Met l y ws rm P (mm_QO D cl B b ck ak dA ex o mc ms) mc ms (fun q => B ≤ q) :=
  mm_free_mono h fun a st oc t hq => ⟨hq, by
    obtain ⟨h1, -, -, h4, Lc, h5, h6⟩ := hq
    rw [ho] at h1
    exact ⟨Lc, ⟨⟨_, h1⟩, h4, h5⟩, h6⟩⟩
theorem mm_QO.thr {o : mm_O} {n : Nat} (ho : o.1 = .inr n) : mm_QT (mm_QO D cl B b ck ak dA ex o mc ms) mc ms (fun q => B ≤ q) := by
  intro a st oc t hq
  obtain ⟨h1, -, -, h4, Lc, h5, h6⟩ := hq
  rw [ho] at h1
  obtain ⟨q, ce, h1, -⟩ := h1
  exact ⟨q, h1, h4, Lc, h5, h6⟩
end CALLS
end
section
section INV
variable {p : Program} {l : Launch} {e : Env} {R : Room} {s : State} {m : MethodId} {args : Array Value} {below : List Frame} {meth : Method} {c : Code} {Q : State → Prop} {H : Heap} {locs : List Loc} {cells slots : Nat} {ls : Array Slot}
variable {D : va_G} {cl : List vw_C} {tys : List (ClassId × FieldType)} {ck : Nat → List Nat} {ct : Nat → Nat → FieldType} {ak : Nat → FieldType} {dA : Nat → ClassId} {B b Ls nL pc : Nat} {xs : Nat → Int32} {TT : List Cond} {strs : List (String × Nat × String)} {nc : List (String × String)} {cc : ByteArray} {own : String} {me : mm_Me} {L : mm_L} {st : List Value} {S S0 : mm_St} {z' : mm_Z} {ex : Nat → String} {mc ms : Nat}
variable {call : Nat → List Value → mm_St → Option mm_O} {yj : Nat → MethodName} {cw : Nat → Cond} {d : Nat}
theorem mm_inv_inv {j n ci : Nat} {r : mm_Z ⊕ mm_O} (h : mm_inv call me pc L st S j n ci = some r) : ∃ as a rest, st = as.reverse ++ .ref a :: rest ∧ as.length = n ∧ S.1[a]? = some (.inl ci) ∧ mm_wt rest ≤ 8 ∧ mm_back me pc L rest (call j (.ref a :: as) S) = some r := by
  unfold mm_inv at h
  split at h
  next as a rest hp =>
    split at h
    next cj ha =>
      obtain ⟨hq, h9⟩ := mm_cond_inv h
      rw [Bool.and_eq_true] at hq
      have hq1 := Nat.eq_of_beq_eq_true hq.1
      subst hq1
      obtain ⟨ys, e1, e2, e3⟩ := mm_pop_spec _ _ _ _ _ hp
      rw [List.append_nil] at e1
      subst e1
      exact ⟨as, a, rest, e2, e3, ha, Nat.le_of_ble_eq_true hq.2, h9⟩
    next => cases h
  next => cases h
theorem mm_invS_inv {j n : Nat} {r : mm_Z ⊕ mm_O} (h : mm_invS call me pc L st S j n = some r) : ∃ as rest, st = as.reverse ++ rest ∧ as.length = n ∧ mm_wt rest ≤ 8 ∧ mm_back me pc L rest (call j as S) = some r := by
  unfold mm_invS at h
  split at h
  next as rest hp =>
    obtain ⟨hq, h9⟩ := mm_cond_inv h
    obtain ⟨ys, e1, e2, e3⟩ := mm_pop_spec _ _ _ _ _ hp
    rw [List.append_nil] at e1
    subst e1
    exact ⟨as, rest, e2, e3, Nat.le_of_ble_eq_true hq, h9⟩
  next => cases h
/-- a caller without handlers -/
theorem mm_back_inv {rest : List Value} {o : Option mm_O} {r : mm_Z ⊕ mm_O} (hh : me.hs = []) (h : mm_back me pc L rest o = some r) : (∃ v S', o = some (.inl v, S') ∧ r = .inl (pc + 3, L, v.toList ++ rest, S')) ∨ (∃ E S', o = some (.inr E, S') ∧ r = .inr (.inr E, S')) := by
  unfold mm_back at h
  split at h
  next => cases h
  next v S' => cases h; exact Or.inl ⟨v, S', rfl, rfl⟩
  next E S' =>
    rw [hh] at h
    cases h
    exact Or.inr ⟨E, S', rfl, rfl⟩
/-- what a call by an instance rests on -/
def mm_ML (TT : List Cond) (cl : List vw_C) (own : String) (ix ci : Nat) (y : MethodName) : Prop := Cond.methodLink own ix y ∈ TT ∧ Cond.instanceMethod y ∈ TT ∧ ∃ q, cl[ci]? = some q ∧ Cond.selects q.1 y y ∈ TT
theorem mm_pre {T : State} {as : List Value} (hTT : ∀ w ∈ TT, mm_wd w = true) (hE : mm_Env D cl tys TT strs nc B b Ls xs s) (hR : mm_Rz D cl ck ak dA B b s.heap S0 S H locs cells slots) (hsz : S.2.2 = 0 → H.size = B + S.1.length) : ∀ U : State, U.heap = H → s.WarmedH U.vm → mm_Pc D cl tys TT strs nc B b Ls xs ck ak dA as S (as.map (mm_v B b)).toArray U :=
  fun U hU hW => ⟨rfl, hE.moved hTT hW hU hR.2.1, by rw [hU]; exact hR.1, by rw [hU]; exact hsz⟩
theorem mm_map_args (as rest : List Value) (a : Nat) : (as.reverse ++ .ref a :: rest).map (mm_v B b) = (as.map (mm_v B b)).reverse ++ .ref (B + a) :: rest.map (mm_v B b) := by
  simp [mm_v]
/-- an instance method that returns -/
theorem mm_k_inv {ix ci j n maxL : Nat} {y : MethodName} {bytes : ByteArray} {ret : Option FieldType} (X : CallFix p m c cc nL s args TT own) (hK : va_K D cl tys s) (hTT : ∀ w ∈ TT, mm_wd w = true) (hE : mm_Env D cl tys TT strs nc B b Ls xs s) (hB : B ≤ s.heap.size) (hex : S0.2.2 = 0 → s.heap.size = B + S0.1.length) (hCt : mm_Ct l D cl tys TT strs nc B b Ls xs ck ak dA ex yj cw d call) (hy : yj j = y) (hcw : cw j = .code y bytes maxL ret)
    (hCE : mm_CE TT y bytes maxL n ret) (hML : mm_ML TT cl own ix ci y) (hRb : R.slots ≤ 60000000) (hRf : d + 9 ≤ R.frames) (hRl : 40 * d + 240 ≤ R.locals) (hRc : mm_co z'.2.2.2 ≤ mm_co S0 + R.cells) (hRs : mm_sl ck z'.2.2.2 ≤ mm_sl ck S0 + R.slots) (hd : decode cc pc = .ok (.invokevirtual ix, 3)) (hh : me.hs = [])
    (h : mm_inv call me pc L st S j n ci = some (.inl z')) (kJ : mm_J p l e R s m args below meth c Q B b nL (mm_Rz D cl ck ak dA B b s.heap S0) z') : mm_J p l e R s m args below meth c Q B b nL (mm_Rz D cl ck ak dA B b s.heap S0) (pc, L, st, S) := by
  obtain ⟨as, a, rest, rfl, hn, ha, hwt, h⟩ := mm_inv_inv h
  rcases mm_back_inv hh h with ⟨v, S', hcall, hz⟩ | ⟨E, S', hcall, hz⟩
  · cases hz
    obtain ⟨m1, m2, m3, hM⟩ := hCt _ _ _ _ hcall
    obtain ⟨mc', hmc'⟩ := Nat.le.dest m1
    obtain ⟨ms', hms'⟩ := Nat.le.dest m2
    have hM0 := fun q => hM mc' ms' q hmc' hms'
    have hmc' : mm_co S + mc' = mm_co S' := hmc'
    have hms' : mm_sl ck S + ms' = mm_sl ck S' := hms'
    obtain ⟨l1, l2, ⟨C, T9, N9⟩, hc1, l3⟩ := hML
    have hX := X
    obtain ⟨hx, hb, hml, hown, hts⟩ := X
    intro ls H locs cells slots hL hR T hT XT
    have hsz := mm_size XT hT hR hB hex
    obtain ⟨hP, hS, hco, hsl, hnx⟩ := id hR
    have hco : mm_co S0 + cells = mm_co S := hco
    have hsl : mm_sl ck S0 + slots = mm_sl ck S := hsl
    have hM := hM0 (by have : mm_sl ck S' ≤ mm_sl ck S0 + R.slots := hRs; omega)
    rw [hy, hcw] at hM
    have hr := va_runV (e := e) (below := below) (meth := meth) (H := H) (locs := locs) (cells := cells) (slots := slots) (C := C) (As := as.map (mm_v B b)) (rest := rest.map (mm_v B b)) (b := B + a) (n := n) (g := F0 m pc ls ((as.reverse ++ .ref a :: rest).map (mm_v B b))) hX (mm_QO.met (v := v) rfl hM) ⟨hCE.toB hts l1 hRf hRl, hts _ l2, hts _ l3⟩
      ⟨mm_Pc.blind hTT _ _, va_recv hK hP hc1 (mm_ws_at ha), mm_pre (T := T) (as := .ref a :: as) hTT hE hR hsz⟩ rfl (by simp [hn]) hL.1 (mm_map_args _ _ _) (lv_room (by rw [mm_wt_eq]; exact hwt)) hd
      ⟨by have : mm_co S' ≤ mm_co S0 + R.cells := hRc; omega, by have : mm_sl ck S' ≤ mm_sl ck S0 + R.slots := hRs; omega⟩
    refine mm_run_ret (Q := Q) (v := v) hr rfl hS (fun H1 locs1 hP1 hS1 => ?_) T hT XT
    have k9 := kJ ls H1 locs1 (cells + mc') (slots + ms') hL ⟨hP1, hS1, by show mm_co S0 + (cells + mc') = mm_co S'; omega, by show mm_sl ck S0 + (slots + ms') = mm_sl ck S'; omega, by show S0.2.2 ≤ S'.2.2; have : S0.2.2 ≤ S.2.2 := hnx; have : S.2.2 ≤ S'.2.2 := m3; omega⟩
    have e9 : (v.toList ++ []).map (mm_v B b) ++ rest.map (mm_v B b) = (v.toList ++ rest).map (mm_v B b) := by simp
    rw [e9]
    exact k9
  · cases hz
/-- an instance method that throws -/
theorem mm_k_invT {ix ci j n maxL : Nat} {y : MethodName} {bytes : ByteArray} {ret : Option FieldType} {o : mm_O} (X : CallFix p m c cc nL s args TT own) (hK : va_K D cl tys s) (hTT : ∀ w ∈ TT, mm_wd w = true) (hE : mm_Env D cl tys TT strs nc B b Ls xs s) (hB : B ≤ s.heap.size) (hex : S0.2.2 = 0 → s.heap.size = B + S0.1.length) (hCt : mm_Ct l D cl tys TT strs nc B b Ls xs ck ak dA ex yj cw d call) (hy : yj j = y) (hcw : cw j = .code y bytes maxL ret)
    (hCE : mm_CE TT y bytes maxL n ret) (hML : mm_ML TT cl own ix ci y) (hRb : R.slots ≤ 60000000) (hRf : d + 9 ≤ R.frames) (hRl : 40 * d + 240 ≤ R.locals) (hRc : mc ≤ R.cells) (hRs : ms ≤ R.slots) (hmc : mm_co S0 + mc = mm_co o.2) (hms : mm_sl ck S0 + ms = mm_sl ck o.2) (hexc : ∀ x ∈ c.exceptionTable.toList, False) (hlocks : meth.locks = false) (hd : decode cc pc = .ok (.invokevirtual ix, 3)) (hh : me.hs = [])
    (h : mm_inv call me pc L st S j n ci = some (.inr o)) : mm_J p l e R s m args below meth c (mm_E below args s D cl B b ck ak dA ex o mc ms) B b nL (mm_Rz D cl ck ak dA B b s.heap S0) (pc, L, st, S) := by
  obtain ⟨as, a, rest, rfl, hn, ha, hwt, h⟩ := mm_inv_inv h
  rcases mm_back_inv hh h with ⟨v, S', hcall, hz⟩ | ⟨E, S', hcall, hz⟩
  · cases hz
  · cases hz
    obtain ⟨m1, m2, m3, hM⟩ := hCt _ _ _ _ hcall
    obtain ⟨mc', hmc'⟩ := Nat.le.dest m1
    obtain ⟨ms', hms'⟩ := Nat.le.dest m2
    have hM0 := fun q => hM mc' ms' q hmc' hms'
    have hmc' : mm_co S + mc' = mm_co S' := hmc'
    have hms' : mm_sl ck S + ms' = mm_sl ck S' := hms'
    obtain ⟨l1, l2, ⟨C, T9, N9⟩, hc1, l3⟩ := hML
    obtain ⟨hx, hb, hml, hown, hts⟩ := X
    intro ls H locs cells slots hL hR T hT XT
    have hsz := mm_size XT hT hR hB hex
    obtain ⟨hP, hS, hco, hsl, hnx⟩ := id hR
    have hco : mm_co S0 + cells = mm_co S := hco
    have hsl : mm_sl ck S0 + slots = mm_sl ck S := hsl
    have hM := hM0 (by have : mm_sl ck S0 + ms = mm_sl ck S' := hms; omega)
    rw [hy, hcw] at hM
    obtain ⟨cellB, r1, r2, r3⟩ := va_recv hK hP hc1 (mm_ws_at ha)
    obtain ⟨q, st₀, t, T', L1, h0, hW, X', hL1, e1, e2, hq, hst⟩ := mm_thrV XT hx (C := C) hown (hts _ l1) (hts _ l2) (hts _ l3) hCE.2.2.2.1 hM (mm_QO.thr (n := E) rfl) (mm_Pc.blind hTT _ _) (hCE.toR hTT hts hRf hRl) (by rw [hT]; exact r1) r2 r3
      (g := F0 m pc ls ((as.reverse ++ .ref a :: rest).map (mm_v B b))) rfl (hL.1.trans hml.symm) (argsL := as.map (mm_v B b)) (rest := rest.map (mm_v B b)) (fun sig hsig => by have h5 := hCE.2.2.2.2.1; rw [hsig] at h5; rw [List.length_map, hn]; exact (Option.some.inj h5).symm) (mm_map_args _ _ _) (lv_room (by rw [mm_wt_eq]; exact hwt)) (by rw [hb]; exact hd)
      ⟨by have : mm_co S0 + mc = mm_co S' := hmc; omega, by have : mm_sl ck S0 + ms = mm_sl ck S' := hms; omega⟩ (fun U hU hW => mm_pre (T := T) (as := .ref a :: as) hTT hE hR hsz U (hU.trans hT) hW)
    obtain ⟨t2, a1, b1⟩ := mm_out (pc := pc) (ls := ls) (rest := rest.map (mm_v B b)) (mc := mc) (ms := ms) (n := E) rfl hT h0 hW X' hL1 e1 e2 hq hS hexc hlocks (by have : mm_co S0 + mc = mm_co S' := hmc; omega) (by have : mm_sl ck S0 + ms = mm_sl ck S' := hms; omega)
    exact ⟨t2, hst.trans a1, b1⟩
end INV
end
section
section INV2
variable {p : Program} {l : Launch} {e : Env} {R : Room} {s : State} {m : MethodId} {args : Array Value} {below : List Frame} {meth : Method} {c : Code} {Q : State → Prop} {H : Heap} {locs : List Loc} {cells slots : Nat} {ls : Array Slot}
variable {D : va_G} {cl : List vw_C} {tys : List (ClassId × FieldType)} {ck : Nat → List Nat} {ct : Nat → Nat → FieldType} {ak : Nat → FieldType} {dA : Nat → ClassId} {B b Ls nL pc : Nat} {xs : Nat → Int32} {TT : List Cond} {strs : List (String × Nat × String)} {nc : List (String × String)} {cc : ByteArray} {own : String} {me : mm_Me} {L : mm_L} {st : List Value} {S S0 : mm_St} {z' : mm_Z} {ex : Nat → String} {mc ms : Nat}
variable {call : Nat → List Value → mm_St → Option mm_O} {yj : Nat → MethodName} {cw : Nat → Cond} {d : Nat}
theorem mm_map_argsS (as rest : List Value) : (as.reverse ++ rest).map (mm_v B b) = (as.map (mm_v B b)).reverse ++ rest.map (mm_v B b) := by
  simp
/-- a static method that returns -/
theorem mm_k_invS {ix j n maxL : Nat} {y : MethodName} {bytes : ByteArray} {ret : Option FieldType} (X : CallFix p m c cc nL s args TT own) (hK : va_K D cl tys s) (hTT : ∀ w ∈ TT, mm_wd w = true) (hE : mm_Env D cl tys TT strs nc B b Ls xs s) (hB : B ≤ s.heap.size) (hex : S0.2.2 = 0 → s.heap.size = B + S0.1.length) (hCt : mm_Ct l D cl tys TT strs nc B b Ls xs ck ak dA ex yj cw d call) (hy : yj j = y) (hcw : cw j = .code y bytes maxL ret)
    (hCE : mm_CE TT y bytes maxL n ret) (hML : Cond.methodLink own ix y ∈ TT ∧ Cond.static y ∈ TT) (hRb : R.slots ≤ 60000000) (hRf : d + 9 ≤ R.frames) (hRl : 40 * d + 240 ≤ R.locals) (hRc : mm_co z'.2.2.2 ≤ mm_co S0 + R.cells) (hRs : mm_sl ck z'.2.2.2 ≤ mm_sl ck S0 + R.slots) (hd : decode cc pc = .ok (.invokestatic ix, 3)) (hh : me.hs = [])
    (h : mm_invS call me pc L st S j n = some (.inl z')) (kJ : mm_J p l e R s m args below meth c Q B b nL (mm_Rz D cl ck ak dA B b s.heap S0) z') : mm_J p l e R s m args below meth c Q B b nL (mm_Rz D cl ck ak dA B b s.heap S0) (pc, L, st, S) := by
  obtain ⟨as, rest, rfl, hn, hwt, h⟩ := mm_invS_inv h
  rcases mm_back_inv hh h with ⟨v, S', hcall, hz⟩ | ⟨E, S', hcall, hz⟩
  · cases hz
    obtain ⟨m1, m2, m3, hM⟩ := hCt _ _ _ _ hcall
    obtain ⟨mc', hmc'⟩ := Nat.le.dest m1
    obtain ⟨ms', hms'⟩ := Nat.le.dest m2
    have hM0 := fun q => hM mc' ms' q hmc' hms'
    have hmc' : mm_co S + mc' = mm_co S' := hmc'
    have hms' : mm_sl ck S + ms' = mm_sl ck S' := hms'
    obtain ⟨l1, l2⟩ := hML
    have hX := X
    obtain ⟨hx, hb, hml, hown, hts⟩ := X
    intro ls H locs cells slots hL hR T hT XT
    have hsz := mm_size XT hT hR hB hex
    obtain ⟨hP, hS, hco, hsl, hnx⟩ := id hR
    have hco : mm_co S0 + cells = mm_co S := hco
    have hsl : mm_sl ck S0 + slots = mm_sl ck S := hsl
    have hM := hM0 (by have : mm_sl ck S' ≤ mm_sl ck S0 + R.slots := hRs; omega)
    rw [hy, hcw] at hM
    have hr := va_runS (e := e) (below := below) (meth := meth) (H := H) (locs := locs) (cells := cells) (slots := slots) (As := as.map (mm_v B b)) (rest := rest.map (mm_v B b)) (n := n) (g := F0 m pc ls ((as.reverse ++ rest).map (mm_v B b))) hX (mm_QO.met (v := v) rfl hM) ⟨hCE.toB hts l1 hRf hRl, hts _ l2⟩
      ⟨mm_Pc.blind hTT _ _, mm_pre (T := T) (as := as) hTT hE hR hsz⟩ rfl (by simp [hn]) hL.1 (mm_map_argsS _ _) (lv_room (by rw [mm_wt_eq]; exact hwt)) hd
      ⟨by have : mm_co S' ≤ mm_co S0 + R.cells := hRc; omega, by have : mm_sl ck S' ≤ mm_sl ck S0 + R.slots := hRs; omega⟩
    refine mm_run_ret (Q := Q) (v := v) hr rfl hS (fun H1 locs1 hP1 hS1 => ?_) T hT XT
    have k9 := kJ ls H1 locs1 (cells + mc') (slots + ms') hL ⟨hP1, hS1, by show mm_co S0 + (cells + mc') = mm_co S'; omega, by show mm_sl ck S0 + (slots + ms') = mm_sl ck S'; omega, by show S0.2.2 ≤ S'.2.2; have : S0.2.2 ≤ S.2.2 := hnx; have : S.2.2 ≤ S'.2.2 := m3; omega⟩
    have e9 : (v.toList ++ []).map (mm_v B b) ++ rest.map (mm_v B b) = (v.toList ++ rest).map (mm_v B b) := by simp
    rw [e9]
    exact k9
  · cases hz
/-- a static method that throws -/
theorem mm_k_invST {ix j n maxL : Nat} {y : MethodName} {bytes : ByteArray} {ret : Option FieldType} {o : mm_O} (X : CallFix p m c cc nL s args TT own) (hK : va_K D cl tys s) (hTT : ∀ w ∈ TT, mm_wd w = true) (hE : mm_Env D cl tys TT strs nc B b Ls xs s) (hB : B ≤ s.heap.size) (hex : S0.2.2 = 0 → s.heap.size = B + S0.1.length) (hCt : mm_Ct l D cl tys TT strs nc B b Ls xs ck ak dA ex yj cw d call) (hy : yj j = y) (hcw : cw j = .code y bytes maxL ret)
    (hCE : mm_CE TT y bytes maxL n ret) (hML : Cond.methodLink own ix y ∈ TT ∧ Cond.static y ∈ TT) (hRb : R.slots ≤ 60000000) (hRf : d + 9 ≤ R.frames) (hRl : 40 * d + 240 ≤ R.locals) (hRc : mc ≤ R.cells) (hRs : ms ≤ R.slots) (hmc : mm_co S0 + mc = mm_co o.2) (hms : mm_sl ck S0 + ms = mm_sl ck o.2) (hexc : ∀ x ∈ c.exceptionTable.toList, False) (hlocks : meth.locks = false) (hd : decode cc pc = .ok (.invokestatic ix, 3)) (hh : me.hs = [])
    (h : mm_invS call me pc L st S j n = some (.inr o)) : mm_J p l e R s m args below meth c (mm_E below args s D cl B b ck ak dA ex o mc ms) B b nL (mm_Rz D cl ck ak dA B b s.heap S0) (pc, L, st, S) := by
  obtain ⟨as, rest, rfl, hn, hwt, h⟩ := mm_invS_inv h
  rcases mm_back_inv hh h with ⟨v, S', hcall, hz⟩ | ⟨E, S', hcall, hz⟩
  · cases hz
  · cases hz
    obtain ⟨m1, m2, m3, hM⟩ := hCt _ _ _ _ hcall
    obtain ⟨mc', hmc'⟩ := Nat.le.dest m1
    obtain ⟨ms', hms'⟩ := Nat.le.dest m2
    have hM0 := fun q => hM mc' ms' q hmc' hms'
    have hmc' : mm_co S + mc' = mm_co S' := hmc'
    have hms' : mm_sl ck S + ms' = mm_sl ck S' := hms'
    obtain ⟨l1, l2⟩ := hML
    obtain ⟨hx, hb, hml, hown, hts⟩ := X
    intro ls H locs cells slots hL hR T hT XT
    have hsz := mm_size XT hT hR hB hex
    obtain ⟨hP, hS, hco, hsl, hnx⟩ := id hR
    have hco : mm_co S0 + cells = mm_co S := hco
    have hsl : mm_sl ck S0 + slots = mm_sl ck S := hsl
    have hM := hM0 (by have : mm_sl ck S0 + ms = mm_sl ck S' := hms; omega)
    rw [hy, hcw] at hM
    obtain ⟨q, st₀, t, T', L1, h0, hW, X', hL1, e1, e2, hq, hst⟩ := mm_thrS XT hx hown (hts _ l1) (hts _ l2) hCE.2.2.2.1 hM (mm_QO.thr (n := E) rfl) (mm_Pc.blind hTT _ _) (hCE.toR hTT hts hRf hRl)
      (g := F0 m pc ls ((as.reverse ++ rest).map (mm_v B b))) rfl (hL.1.trans hml.symm) (argsL := as.map (mm_v B b)) (rest := rest.map (mm_v B b)) (fun sig hsig => by have h5 := hCE.2.2.2.2.1; rw [hsig] at h5; rw [List.length_map, hn]; exact (Option.some.inj h5).symm) (mm_map_argsS _ _) (lv_room (by rw [mm_wt_eq]; exact hwt)) (by rw [hb]; exact hd)
      ⟨by have : mm_co S0 + mc = mm_co S' := hmc; omega, by have : mm_sl ck S0 + ms = mm_sl ck S' := hms; omega⟩ (fun U hU hW => mm_pre (T := T) (as := as) hTT hE hR hsz U (hU.trans hT) hW)
    obtain ⟨t2, a1, b1⟩ := mm_out (pc := pc) (ls := ls) (rest := rest.map (mm_v B b)) (mc := mc) (ms := ms) (n := E) rfl hT h0 hW X' hL1 e1 e2 hq hS hexc hlocks (by have : mm_co S0 + mc = mm_co S' := hmc; omega) (by have : mm_sl ck S0 + ms = mm_sl ck S' := hms; omega)
    exact ⟨t2, hst.trans a1, b1⟩
/-- a constructor -/
theorem mm_k_invI {ix ci j n maxL : Nat} {y : MethodName} {bytes : ByteArray} (X : CallFix p m c cc nL s args TT own) (hK : va_K D cl tys s) (hTT : ∀ w ∈ TT, mm_wd w = true) (hE : mm_Env D cl tys TT strs nc B b Ls xs s) (hB : B ≤ s.heap.size) (hex : S0.2.2 = 0 → s.heap.size = B + S0.1.length) (hCt : mm_Ct l D cl tys TT strs nc B b Ls xs ck ak dA ex yj cw d call) (hy : yj j = y) (hcw : cw j = .code y bytes maxL none)
    (hCE : mm_CE TT y bytes maxL n none) (hML : Cond.methodLink own ix y ∈ TT ∧ Cond.instanceMethod y ∈ TT ∧ y.name = "<init>") (hRb : R.slots ≤ 60000000) (hRf : d + 9 ≤ R.frames) (hRl : 40 * d + 240 ≤ R.locals) (hRc : mm_co z'.2.2.2 ≤ mm_co S0 + R.cells) (hRs : mm_sl ck z'.2.2.2 ≤ mm_sl ck S0 + R.slots) (hd : decode cc pc = .ok (.invokespecial ix, 3)) (hh : me.hs = [])
    (h : mm_inv call me pc L st S j n ci = some (.inl z')) (kJ : mm_J p l e R s m args below meth c Q B b nL (mm_Rz D cl ck ak dA B b s.heap S0) z') : mm_J p l e R s m args below meth c Q B b nL (mm_Rz D cl ck ak dA B b s.heap S0) (pc, L, st, S) := by
  obtain ⟨as, a, rest, rfl, hn, ha, hwt, h⟩ := mm_inv_inv h
  rcases mm_back_inv hh h with ⟨v, S', hcall, hz⟩ | ⟨E, S', hcall, hz⟩
  · cases hz
    obtain ⟨m1, m2, m3, hM⟩ := hCt _ _ _ _ hcall
    obtain ⟨mc', hmc'⟩ := Nat.le.dest m1
    obtain ⟨ms', hms'⟩ := Nat.le.dest m2
    have hM0 := fun q => hM mc' ms' q hmc' hms'
    have hmc' : mm_co S + mc' = mm_co S' := hmc'
    have hms' : mm_sl ck S + ms' = mm_sl ck S' := hms'
    obtain ⟨l1, l2, l3⟩ := hML
    have hX := X
    obtain ⟨hx, hb, hml, hown, hts⟩ := X
    intro ls H locs cells slots hL hR T hT XT
    have hsz := mm_size XT hT hR hB hex
    obtain ⟨hP, hS, hco, hsl, hnx⟩ := id hR
    have hco : mm_co S0 + cells = mm_co S := hco
    have hsl : mm_sl ck S0 + slots = mm_sl ck S := hsl
    have hM := hM0 (by have : mm_sl ck S' ≤ mm_sl ck S0 + R.slots := hRs; omega)
    rw [hy, hcw] at hM
    have hr := va_runI (e := e) (below := below) (meth := meth) (H := H) (locs := locs) (cells := cells) (slots := slots) (As := as.map (mm_v B b)) (rest := rest.map (mm_v B b)) (b := B + a) (n := n) (g := F0 m pc ls ((as.reverse ++ .ref a :: rest).map (mm_v B b))) hX (mm_QO.met (v := v) rfl hM) ⟨hCE.toB hts l1 hRf hRl, l3, hts _ l2⟩
      ⟨mm_Pc.blind hTT _ _, mm_pre (T := T) (as := .ref a :: as) hTT hE hR hsz⟩ rfl (by simp [hn]) hL.1 (mm_map_args _ _ _) (lv_room (by rw [mm_wt_eq]; exact hwt)) hd
      ⟨by have : mm_co S' ≤ mm_co S0 + R.cells := hRc; omega, by have : mm_sl ck S' ≤ mm_sl ck S0 + R.slots := hRs; omega⟩
    refine mm_run_ret (Q := Q) (v := v) hr rfl hS (fun H1 locs1 hP1 hS1 => ?_) T hT XT
    have k9 := kJ ls H1 locs1 (cells + mc') (slots + ms') hL ⟨hP1, hS1, by show mm_co S0 + (cells + mc') = mm_co S'; omega, by show mm_sl ck S0 + (slots + ms') = mm_sl ck S'; omega, by show S0.2.2 ≤ S'.2.2; have : S0.2.2 ≤ S.2.2 := hnx; have : S.2.2 ≤ S'.2.2 := m3; omega⟩
    have e9 : (v.toList ++ []).map (mm_v B b) ++ rest.map (mm_v B b) = (v.toList ++ rest).map (mm_v B b) := by simp
    rw [e9]
    exact k9
  · cases hz
end INV2
end
section
section REST
variable {p : Program} {l : Launch} {e : Env} {R : Room} {s : State} {m : MethodId} {args : Array Value} {below : List Frame} {meth : Method} {c : Code} {Q : State → Prop}
variable {D : va_G} {cl : List vw_C} {tys : List (ClassId × FieldType)} {ck : Nat → List Nat} {ct : Nat → Nat → FieldType} {ak : Nat → FieldType} {dA : Nat → ClassId} {B b Ls nL pc : Nat} {xs : Nat → Int32} {TT : List Cond} {strs : List (String × Nat × String)} {nc : List (String × String)} {cc : ByteArray} {own : String} {me : mm_Me} {L : mm_L} {st : List Value} {S S0 : mm_St} {z' : mm_Z} {Rz : mm_St → Heap → List Loc → Nat → Nat → Prop}
theorem mm_k_ldc {ix : Nat} {v : Int32} (X : CallFix p m c cc nL s args TT own) (hw : Cond.constant own ix v ∈ TT) (hd : decode cc pc = .ok (.ldc ix, 2)) (kJ : mm_J p l e R s m args below meth c Q B b nL Rz (pc + 2, L, .int v :: st, S)) : mm_J p l e R s m args below meth c Q B b nL Rz (pc, L, st, S) :=
  fun ls H locs cells slots hL hR => lv_ldc X.1 X.2.1 X.2.2.2.1 (X.2.2.2.2 _ hw) hd (kJ ls H locs cells slots hL hR)
theorem mm_k_ldc2 {ix : Nat} {v : Int64} (X : CallFix p m c cc nL s args TT own) (hw : Cond.constantLong own ix v ∈ TT) (hd : decode cc pc = .ok (.ldc2_w ix, 3)) (kJ : mm_J p l e R s m args below meth c Q B b nL Rz (pc + 3, L, .long v :: st, S)) : mm_J p l e R s m args below meth c Q B b nL Rz (pc, L, st, S) :=
  fun ls H locs cells slots hL hR => lv_ldc2 X.1 X.2.1 X.2.2.2.1 (X.2.2.2.2 _ hw) hd (kJ ls H locs cells slots hL hR)
theorem mm_k_ldc2d {ix : Nat} {v : UInt64} (X : CallFix p m c cc nL s args TT own) (hw : Cond.constantDouble own ix v ∈ TT) (hd : decode cc pc = .ok (.ldc2_w ix, 3)) (kJ : mm_J p l e R s m args below meth c Q B b nL Rz (pc + 3, L, .double v :: st, S)) : mm_J p l e R s m args below meth c Q B b nL Rz (pc, L, st, S) :=
  fun ls H locs cells slots hL hR => lv_ldc2d X.1 X.2.1 X.2.2.2.1 (X.2.2.2.2 _ hw) hd (kJ ls H locs cells slots hL hR)
theorem mm_k_obj {ix a : Nat} {r : List Value} (X : CallFix p m c cc nL s args TT own) (h1 : Cond.methodLink own ix Lib.objectInit ∈ TT) (h2 : Cond.instanceMethod Lib.objectInit ∈ TT) (h3 : Cond.code Lib.objectInit ⟨#[0xb1]⟩ 1 none ∈ TT) (hRf : 1 ≤ R.frames) (hRl : 20 ≤ R.locals) (hw : mm_wt r ≤ 8) (hd : decode cc pc = .ok (.invokespecial ix, 3))
    (kJ : mm_J p l e R s m args below meth c Q B b nL Rz (pc + 3, L, r, S)) : mm_J p l e R s m args below meth c Q B b nL Rz (pc, L, .ref a :: r, S) := by
  obtain ⟨hx, hb, hml, hown, hts⟩ := X
  intro ls H locs cells slots hL hR
  refine W.objInit hx hb hown (hts _ h1) (hts _ h2) (hts _ h3) (g := F0 m pc ls (.ref (B + a) :: r.map (mm_v B b))) rfl (hL.1.trans hml.symm) rfl hd hRf (by rw [mm_wt_eq]; show 2 * 0 + mm_wt r + 12 ≤ _; omega) ?_
  exact kJ ls H locs cells slots hL hR
theorem mm_k_alen (X : CallFix p m c cc nL s args TT own) (hK : va_K D cl tys s) (hT : mm_AT tys ak dA) (hE : mm_Env D cl tys TT strs nc B b Ls xs s) (hd : decode cc pc = .ok (.arraylength, 1)) {call : Nat → List Value → mm_St → Option mm_O}
    (h : mm_do call xs Ls ck ak me pc L st S .arraylength = some (.inl z')) (kJ : mm_J p l e R s m args below meth c Q B b nL (mm_Rz D cl ck ak dA B b s.heap S0) z') : mm_J p l e R s m args below meth c Q B b nL (mm_Rz D cl ck ak dA B b s.heap S0) (pc, L, st, S) := by
  obtain ⟨hx, hb, hml, hown, hts⟩ := X
  obtain ⟨v, r, rfl, h⟩ := mm_1_inv h
  cases v with
  | retAddr w =>
    cases h
    exact fun ls H locs cells slots hL hR => va_slen hx hb hE.2.2.2.2.2.2.1 (Nat.lt_of_lt_of_le hE.2.2.2.2.2.2.2.1 hE.2.2.2.2.2.2.2.2) (Nat.not_le.mpr hE.2.2.2.2.2.2.2.1) hR.2.1 hd (kJ ls H locs cells slots hL hR)
  | ref a =>
    have h : (match S.1[a]? with
      | some (.inr (_, n)) => mm_go (pc + 1) L (.int (Int32.ofNat n) :: r) S
      | _ => none) = some (.inl z') := h
    split at h
    next t n ha =>
      cases h
      obtain ⟨t0, h0⟩ := hT t
      exact fun ls H locs cells slots hL hR => va_alen hx hb hK hR.1 a t0 (mm_ws_ar ha rfl) h0 rfl hd (kJ ls H locs cells slots hL hR)
    next => cases h
  | _ => cases h
theorem mm_k_iald0 (X : CallFix p m c cc nL s args TT own) (hK : va_K D cl tys s) (hT : mm_AT tys ak dA) (hE : mm_Env D cl tys TT strs nc B b Ls xs s) (hd : decode cc pc = .ok (.iaload, 1)) {call : Nat → List Value → mm_St → Option mm_O}
    (h : mm_do call xs Ls ck ak me pc L st S .iaload = some (.inl z')) (kJ : mm_J p l e R s m args below meth c Q B b nL (mm_Rz D cl ck ak dA B b s.heap S0) z') : mm_J p l e R s m args below meth c Q B b nL (mm_Rz D cl ck ak dA B b s.heap S0) (pc, L, st, S) := by
  have h : mm_ial xs Ls ak pc L S st = some (.inl z') := h
  unfold mm_ial at h
  split at h
  next i w r =>
    obtain ⟨hi, h⟩ := mm_ix_inv h
    cases h
    obtain ⟨hx, hb, hml, hown, hts⟩ := X
    exact fun ls H locs cells slots hL hR => va_sld hx hb hE.2.2.2.2.2.2.1 (Nat.lt_of_lt_of_le hE.2.2.2.2.2.2.2.1 hE.2.2.2.2.2.2.2.2) (Nat.not_le.mpr hE.2.2.2.2.2.2.2.1) hR.2.1 hi hd (kJ ls H locs cells slots hL hR)
  next => exact mm_k_iald X hK hT hd h kJ
end REST
end
section
section INV3
variable {p : Program} {l : Launch} {e : Env} {R : Room} {s : State} {m : MethodId} {args : Array Value} {below : List Frame} {meth : Method} {c : Code} {Q : State → Prop} {H : Heap} {locs : List Loc} {cells slots : Nat} {ls : Array Slot}
variable {D : va_G} {cl : List vw_C} {tys : List (ClassId × FieldType)} {ck : Nat → List Nat} {ct : Nat → Nat → FieldType} {ak : Nat → FieldType} {dA : Nat → ClassId} {B b Ls nL pc : Nat} {xs : Nat → Int32} {TT : List Cond} {strs : List (String × Nat × String)} {nc : List (String × String)} {cc : ByteArray} {own : String} {me : mm_Me} {L : mm_L} {st : List Value} {S S0 : mm_St} {z' : mm_Z} {ex : Nat → String} {mc ms : Nat}
variable {call : Nat → List Value → mm_St → Option mm_O} {yj : Nat → MethodName} {cw : Nat → Cond} {d : Nat}
/-- a callee with handlers: its words, but how it is linked -/
def mm_CEW (TT : List Cond) (y : MethodName) (bytes : ByteArray) (maxL n : Nat) (ret : Option FieldType) (hh : List (Nat × Nat × Nat × Nat)) : Prop :=
  Cond.codeWith y bytes maxL ret hh ∈ TT ∧ Cond.initialized y.cls ∈ TT ∧ (y.cls ≠ "java/lang/invoke/MethodHandle" ∧ y.cls ≠ "java/lang/invoke/VarHandle") ∧ (parseMethodDescriptor y.desc).map (fun d => d.parameters.length) = some n ∧ maxL ≤ 21
theorem mm_runSW {ix n maxL mc' ms' : Nat} {y : MethodName} {bytes : ByteArray} {ret : Option FieldType} {hh : List (Nat × Nat × Nat × Nat)} {Pc : Array Value → State → Prop} {Qc : Array Value → State → Outcome → State → Prop} {free : Addr → Prop} {As rest : List Value} {g : JFrame} (X : CallFix p m c cc nL s args TT own) (hM : Met l y [.codeWith y bytes maxL ret hh] (mm_rm d mc' ms') Pc Qc mc' ms' free) (hCE : mm_CEW TT y bytes maxL n ret hh) (hTT : ∀ w ∈ TT, mm_wd w = true) (hRf : d + 9 ≤ R.frames) (hRl : 40 * d + 240 ≤ R.locals) (hl : (Cond.methodLink own ix y).before args s = true) (hstat : (Cond.static y).before args s = true) (hp : PreS s H Pc As)
    (hg : g.method = m) (hn : As.length = n) (hsize : g.locals.size = nL) (hstack : g.stack = As.reverse ++ rest) (hW : 2 * g.monitorRoom + (rest.map fun v => v.category).sum ≤ 8) (hdg : decode cc g.pc = .ok (.invokestatic ix, 3)) (hf : cells + mc' ≤ R.cells ∧ slots + ms' ≤ R.slots) :
    va_Run p l e R s m args below meth c H locs cells slots mc' ms' g rest (Qc As.toArray) free := by
  obtain ⟨hx, hb, hml, hown, hts⟩ := X
  obtain ⟨h1, h3, hy, h5, h6⟩ := hCE
  have hK : Back l R p e below s args y 3 8 (PreOf R mc' ms' Pc) (PostOf Qc mc' ms' free) := va_backW (hh := hh) (bytes := bytes) (maxL := maxL) (ret := ret) hM hp.1 rfl rfl (by show d + 8 + 1 ≤ _; omega) (by show 8 + (maxL + 11) + (40 * d + 200) ≤ _; omega) (fun w hw a' U hW => by rw [List.mem_singleton] at hw; subst hw; exact mm_warm hW (hTT _ h1) (hts _ h1)) (List.mem_singleton.mpr rfl) (fun a' U hW => mm_warm hW (hTT _ h3) (hts _ h3))
  obtain ⟨mk, methM, cM, hnamed, hmethM, -, -, -, -, -, -, hsigM⟩ := Cond.codeWith_spec (hts _ h1)
  have hstatic : methM.isStatic = true := Cond.static_spec hnamed hmethM hstat
  obtain ⟨kP, hkP, -⟩ := className_of_methodNamed hnamed
  have hinitP : kP.init = .initialized := Cond.initialized_spec (findClass_of_methodNamed hnamed) hkP (hts _ h3)
  have hlen : As.length = methM.sig.parameters.length := by
    rw [hsigM] at h5
    exact hn.trans (Option.some.inj h5).symm
  intro T hT X
  obtain ⟨vm₁, X₁, hstep₁⟩ := X.invokestatic hx hown hl hnamed hmethM hstatic hkP hinitP hy (g := g) hg (argsL := As) (rest := rest) hlen hstack (by rw [hb]; exact hdg)
  obtain ⟨v, ⟨U', l2, c2, s2⟩, X', ⟨g', mk', t, L1, e1, e2, hq, k1, hL, k2, k3⟩, hsteps⟩ := hK m meth c ⟨T.setVm vm₁, locs, cells, slots⟩ { g with stack := rest } (.invokestatic ix) mk As.toArray X₁ hg (hsize.trans hml.symm) (by rw [hb]; exact hdg) hW (X₁.named hnamed) ⟨hf.1, hf.2, hp.2 (T.setVm vm₁) hT X₁.warmed⟩
  dsimp only [Pt.U, Pt.locs, Pt.cells, Pt.slots] at X' e1 e2 k1 k2 k3 hsteps
  subst k1; subst k2; subst k3
  exact ⟨v, (T.setVm vm₁).calling g' mk' As.toArray, t, U', L1, hT, X', hL, e1, e2, hq, fun tg h => hstep₁ _ fun acts => by rw [doInvoke_state]; exact hsteps.trans h⟩
/-- a static method that has handlers -/
theorem mm_k_invSW {ix j n maxL : Nat} {hh9 : List (Nat × Nat × Nat × Nat)} {y : MethodName} {bytes : ByteArray} {ret : Option FieldType} (X : CallFix p m c cc nL s args TT own) (hK : va_K D cl tys s) (hTT : ∀ w ∈ TT, mm_wd w = true) (hE : mm_Env D cl tys TT strs nc B b Ls xs s) (hB : B ≤ s.heap.size) (hex : S0.2.2 = 0 → s.heap.size = B + S0.1.length) (hCt : mm_Ct l D cl tys TT strs nc B b Ls xs ck ak dA ex yj cw d call) (hy : yj j = y) (hcw : cw j = .codeWith y bytes maxL ret hh9)
    (hCE : mm_CEW TT y bytes maxL n ret hh9) (hML : Cond.methodLink own ix y ∈ TT ∧ Cond.static y ∈ TT) (hRb : R.slots ≤ 60000000) (hRf : d + 9 ≤ R.frames) (hRl : 40 * d + 240 ≤ R.locals) (hRc : mm_co z'.2.2.2 ≤ mm_co S0 + R.cells) (hRs : mm_sl ck z'.2.2.2 ≤ mm_sl ck S0 + R.slots) (hd : decode cc pc = .ok (.invokestatic ix, 3)) (hh : me.hs = [])
    (h : mm_invS call me pc L st S j n = some (.inl z')) (kJ : mm_J p l e R s m args below meth c Q B b nL (mm_Rz D cl ck ak dA B b s.heap S0) z') : mm_J p l e R s m args below meth c Q B b nL (mm_Rz D cl ck ak dA B b s.heap S0) (pc, L, st, S) := by
  obtain ⟨as, rest, rfl, hn, hwt, h⟩ := mm_invS_inv h
  rcases mm_back_inv hh h with ⟨v, S', hcall, hz⟩ | ⟨E, S', hcall, hz⟩
  · cases hz
    obtain ⟨m1, m2, m3, hM⟩ := hCt _ _ _ _ hcall
    obtain ⟨mc', hmc'⟩ := Nat.le.dest m1
    obtain ⟨ms', hms'⟩ := Nat.le.dest m2
    have hM0 := fun q => hM mc' ms' q hmc' hms'
    have hmc' : mm_co S + mc' = mm_co S' := hmc'
    have hms' : mm_sl ck S + ms' = mm_sl ck S' := hms'
    obtain ⟨l1, l2⟩ := hML
    have hX := X
    obtain ⟨hx, hb, hml, hown, hts⟩ := X
    intro ls H locs cells slots hL hR T hT XT
    have hsz := mm_size XT hT hR hB hex
    obtain ⟨hP, hS, hco, hsl, hnx⟩ := id hR
    have hco : mm_co S0 + cells = mm_co S := hco
    have hsl : mm_sl ck S0 + slots = mm_sl ck S := hsl
    have hM := hM0 (by have : mm_sl ck S' ≤ mm_sl ck S0 + R.slots := hRs; omega)
    rw [hy, hcw] at hM
    have hr := mm_runSW (e := e) (below := below) (meth := meth) (H := H) (locs := locs) (cells := cells) (slots := slots) (As := as.map (mm_v B b)) (rest := rest.map (mm_v B b)) (n := n) (g := F0 m pc ls ((as.reverse ++ rest).map (mm_v B b))) hX (mm_QO.met (v := v) rfl hM) hCE hTT hRf hRl (hts _ l1) (hts _ l2)
      ⟨mm_Pc.blind hTT _ _, mm_pre (T := T) (as := as) hTT hE hR hsz⟩ rfl (by simp [hn]) hL.1 (mm_map_argsS _ _) (lv_room (by rw [mm_wt_eq]; exact hwt)) hd
      ⟨by have : mm_co S' ≤ mm_co S0 + R.cells := hRc; omega, by have : mm_sl ck S' ≤ mm_sl ck S0 + R.slots := hRs; omega⟩
    refine mm_run_ret (Q := Q) (v := v) hr rfl hS (fun H1 locs1 hP1 hS1 => ?_) T hT XT
    have k9 := kJ ls H1 locs1 (cells + mc') (slots + ms') hL ⟨hP1, hS1, by show mm_co S0 + (cells + mc') = mm_co S'; omega, by show mm_sl ck S0 + (slots + ms') = mm_sl ck S'; omega, by show S0.2.2 ≤ S'.2.2; have : S0.2.2 ≤ S.2.2 := hnx; have : S.2.2 ≤ S'.2.2 := m3; omega⟩
    have e9 : (v.toList ++ []).map (mm_v B b) ++ rest.map (mm_v B b) = (v.toList ++ rest).map (mm_v B b) := by simp
    rw [e9]
    exact k9
  · cases hz
end INV3
end
section
/-! WHAT CELLS COME: how the count of cells and slots moves -/
def mm_mo (ck : Nat → List Nat) (S S' : mm_St) : Prop := mm_co S ≤ mm_co S' ∧ mm_sl ck S ≤ mm_sl ck S' ∧ S.2.2 ≤ S'.2.2
def mm_rS : mm_Z ⊕ mm_O → mm_St
  | .inl z => z.2.2.2
  | .inr o => o.2
theorem mm_mo.rf {ck : Nat → List Nat} {S : mm_St} : mm_mo ck S S := ⟨Nat.le_refl _, Nat.le_refl _, Nat.le_refl _⟩
theorem mm_mo.tr {ck : Nat → List Nat} {S S1 S2 : mm_St} (h : mm_mo ck S S1) (k : mm_mo ck S1 S2) : mm_mo ck S S2 := ⟨Nat.le_trans h.1 k.1, Nat.le_trans h.2.1 k.2.1, Nat.le_trans h.2.2 k.2.2⟩
theorem mm_tsw_S {x : Int32} {d lo : Int} {os : List Int} {r0 : mm_Z ⊕ mm_O} {pc : Nat} {L : mm_L} {r : List Value} {S : mm_St} (h : mm_tsw x (fun o => mm_go (mm_tg pc o) L r S) d lo os = some r0) : ∃ z', r0 = .inl z' ∧ z'.2.2.2 = S := by
  induction os generalizing lo with
  | nil => cases h; exact ⟨_, rfl, rfl⟩
  | cons o os ih =>
    unfold mm_tsw at h
    split at h
    · cases h; exact ⟨_, rfl, rfl⟩
    · exact ih h
theorem mm_lsw_S {x : Int32} {d : Int} {ps : List (Int × Int)} {r0 : mm_Z ⊕ mm_O} {pc : Nat} {L : mm_L} {r : List Value} {S : mm_St} (h : mm_lsw x (fun o => mm_go (mm_tg pc o) L r S) d ps = some r0) : ∃ z', r0 = .inl z' ∧ z'.2.2.2 = S := by
  induction ps with
  | nil => cases h; exact ⟨_, rfl, rfl⟩
  | cons o os ih =>
    obtain ⟨a, o⟩ := o
    unfold mm_lsw at h
    split at h
    · cases h; exact ⟨_, rfl, rfl⟩
    · exact ih h
set_option maxHeartbeats 4000000 in
theorem mm_pure_S {call : Nat → List Value → mm_St → Option mm_O} {xs : Nat → Int32} {Ls : Nat} {ck : Nat → List Nat} {ak : Nat → FieldType} {me : mm_Me} {pc : Nat} {L : mm_L} {st : List Value} {S : mm_St} {r0 : mm_Z ⊕ mm_O} (i : Instr) (hp : mm_isP i = true) (h : mm_do call xs Ls ck ak me pc L st S i = some r0) : ∃ z', r0 = .inl z' ∧ z'.2.2.2 = S := by
  cases i with
  | iconst n =>
    cases h
    exact ⟨_, rfl, rfl⟩
  | bipush n =>
    cases h
    exact ⟨_, rfl, rfl⟩
  | sipush n =>
    cases h
    exact ⟨_, rfl, rfl⟩
  | lconst n =>
    cases h
    exact ⟨_, rfl, rfl⟩
  | dconst n =>
    cases h
    exact ⟨_, rfl, rfl⟩
  | aconst_null =>
    cases h
    exact ⟨_, rfl, rfl⟩
  | iload_n n =>
    obtain ⟨x, hv, h⟩ := mm_lI_inv h
    cases h
    exact ⟨_, rfl, rfl⟩
  | iload n =>
    obtain ⟨x, hv, h⟩ := mm_lI_inv h
    cases h
    exact ⟨_, rfl, rfl⟩
  | lload_n n =>
    obtain ⟨x, hv, h⟩ := mm_lJ_inv h
    cases h
    exact ⟨_, rfl, rfl⟩
  | lload n =>
    obtain ⟨x, hv, h⟩ := mm_lJ_inv h
    cases h
    exact ⟨_, rfl, rfl⟩
  | dload_n n =>
    obtain ⟨x, hv, h⟩ := mm_lD_inv h
    cases h
    exact ⟨_, rfl, rfl⟩
  | dload n =>
    obtain ⟨x, hv, h⟩ := mm_lD_inv h
    cases h
    exact ⟨_, rfl, rfl⟩
  | aload_n n =>
    have h : (mm_lA L n fun v => mm_go (pc + 1) L (v :: st) S) = some r0 := h
    rcases mm_lA_inv h with ⟨x, hv, h⟩ | ⟨x, hv, h⟩
    · cases h
      exact ⟨_, rfl, rfl⟩
    · cases h
      exact ⟨_, rfl, rfl⟩
  | aload n =>
    have h : (mm_lA L n fun v => mm_go (pc + 2) L (v :: st) S) = some r0 := h
    rcases mm_lA_inv h with ⟨x, hv, h⟩ | ⟨x, hv, h⟩
    · cases h
      exact ⟨_, rfl, rfl⟩
    · cases h
      exact ⟨_, rfl, rfl⟩
  | istore_n n =>
    obtain ⟨x, r, rfl, h⟩ := mm_i_inv h
    cases h
    exact ⟨_, rfl, rfl⟩
  | istore n =>
    obtain ⟨x, r, rfl, h⟩ := mm_i_inv h
    cases h
    exact ⟨_, rfl, rfl⟩
  | astore_n n =>
    obtain ⟨x, r, rfl, h⟩ := mm_r_inv h
    cases h
    exact ⟨_, rfl, rfl⟩
  | astore n =>
    obtain ⟨x, r, rfl, h⟩ := mm_r_inv h
    cases h
    exact ⟨_, rfl, rfl⟩
  | lstore_n n =>
    obtain ⟨x, r, rfl, h⟩ := mm_j_inv h
    cases h
    exact ⟨_, rfl, rfl⟩
  | lstore n =>
    obtain ⟨x, r, rfl, h⟩ := mm_j_inv h
    cases h
    exact ⟨_, rfl, rfl⟩
  | dstore_n n =>
    obtain ⟨x, r, rfl, h⟩ := mm_d_inv h
    cases h
    exact ⟨_, rfl, rfl⟩
  | dstore n =>
    obtain ⟨x, r, rfl, h⟩ := mm_d_inv h
    cases h
    exact ⟨_, rfl, rfl⟩
  | iinc n z =>
    obtain ⟨x, hv, h⟩ := mm_lI_inv h
    cases h
    exact ⟨_, rfl, rfl⟩
  | iadd =>
    obtain ⟨x, y, r, rfl, h⟩ := mm_ii_inv h
    cases h
    exact ⟨_, rfl, rfl⟩
  | isub =>
    obtain ⟨x, y, r, rfl, h⟩ := mm_ii_inv h
    cases h
    exact ⟨_, rfl, rfl⟩
  | imul =>
    obtain ⟨x, y, r, rfl, h⟩ := mm_ii_inv h
    cases h
    exact ⟨_, rfl, rfl⟩
  | iand =>
    obtain ⟨x, y, r, rfl, h⟩ := mm_ii_inv h
    cases h
    exact ⟨_, rfl, rfl⟩
  | ior =>
    obtain ⟨x, y, r, rfl, h⟩ := mm_ii_inv h
    cases h
    exact ⟨_, rfl, rfl⟩
  | ixor =>
    obtain ⟨x, y, r, rfl, h⟩ := mm_ii_inv h
    cases h
    exact ⟨_, rfl, rfl⟩
  | ishl =>
    obtain ⟨x, y, r, rfl, h⟩ := mm_ii_inv h
    cases h
    exact ⟨_, rfl, rfl⟩
  | ishr =>
    obtain ⟨x, y, r, rfl, h⟩ := mm_ii_inv h
    cases h
    exact ⟨_, rfl, rfl⟩
  | iushr =>
    obtain ⟨x, y, r, rfl, h⟩ := mm_ii_inv h
    cases h
    exact ⟨_, rfl, rfl⟩
  | idiv =>
    obtain ⟨x, y, r, rfl, h⟩ := mm_ii_inv h
    have h : (if y = 0 then none else mm_go (pc + 1) L (.int (x / y) :: r) S) = some r0 := h
    by_cases hy : y = 0
    · rw [if_pos hy] at h; cases h
    · rw [if_neg hy] at h
      cases h
      exact ⟨_, rfl, rfl⟩
  | irem =>
    obtain ⟨x, y, r, rfl, h⟩ := mm_ii_inv h
    have h : (if y = 0 then none else mm_go (pc + 1) L (.int (x - x / y * y) :: r) S) = some r0 := h
    by_cases hy : y = 0
    · rw [if_pos hy] at h; cases h
    · rw [if_neg hy] at h
      cases h
      exact ⟨_, rfl, rfl⟩
  | ineg =>
    obtain ⟨x, r, rfl, h⟩ := mm_i_inv h
    cases h
    exact ⟨_, rfl, rfl⟩
  | ladd =>
    obtain ⟨x, y, r, rfl, h⟩ := mm_jj_inv h
    cases h
    exact ⟨_, rfl, rfl⟩
  | lsub =>
    obtain ⟨x, y, r, rfl, h⟩ := mm_jj_inv h
    cases h
    exact ⟨_, rfl, rfl⟩
  | land =>
    obtain ⟨x, y, r, rfl, h⟩ := mm_jj_inv h
    cases h
    exact ⟨_, rfl, rfl⟩
  | lor =>
    obtain ⟨x, y, r, rfl, h⟩ := mm_jj_inv h
    cases h
    exact ⟨_, rfl, rfl⟩
  | lcmp =>
    obtain ⟨x, y, r, rfl, h⟩ := mm_jj_inv h
    cases h
    exact ⟨_, rfl, rfl⟩
  | lushr =>
    obtain ⟨x, y, r, rfl, h⟩ := mm_ji_inv h
    cases h
    exact ⟨_, rfl, rfl⟩
  | lshr =>
    obtain ⟨x, y, r, rfl, h⟩ := mm_ji_inv h
    cases h
    exact ⟨_, rfl, rfl⟩
  | lshl =>
    obtain ⟨x, y, r, rfl, h⟩ := mm_ji_inv h
    cases h
    exact ⟨_, rfl, rfl⟩
  | i2l =>
    obtain ⟨x, r, rfl, h⟩ := mm_i_inv h
    cases h
    exact ⟨_, rfl, rfl⟩
  | l2i =>
    obtain ⟨x, r, rfl, h⟩ := mm_j_inv h
    cases h
    exact ⟨_, rfl, rfl⟩
  | i2c =>
    obtain ⟨x, r, rfl, h⟩ := mm_i_inv h
    cases h
    exact ⟨_, rfl, rfl⟩
  | i2b =>
    obtain ⟨x, r, rfl, h⟩ := mm_i_inv h
    cases h
    exact ⟨_, rfl, rfl⟩
  | i2d =>
    obtain ⟨x, r, rfl, h⟩ := mm_i_inv h
    cases h
    exact ⟨_, rfl, rfl⟩
  | d2i =>
    obtain ⟨x, r, rfl, h⟩ := mm_d_inv h
    cases h
    exact ⟨_, rfl, rfl⟩
  | dneg =>
    obtain ⟨x, r, rfl, h⟩ := mm_d_inv h
    cases h
    exact ⟨_, rfl, rfl⟩
  | dadd =>
    obtain ⟨x, y, r, rfl, h⟩ := mm_dd_inv h
    obtain ⟨hq, h⟩ := mm_cond_inv h
    cases h
    exact ⟨_, rfl, rfl⟩
  | dsub =>
    obtain ⟨x, y, r, rfl, h⟩ := mm_dd_inv h
    obtain ⟨hq, h⟩ := mm_cond_inv h
    cases h
    exact ⟨_, rfl, rfl⟩
  | dmul =>
    obtain ⟨x, y, r, rfl, h⟩ := mm_dd_inv h
    obtain ⟨hq, h⟩ := mm_cond_inv h
    cases h
    exact ⟨_, rfl, rfl⟩
  | ddiv =>
    obtain ⟨x, y, r, rfl, h⟩ := mm_dd_inv h
    obtain ⟨hq, h⟩ := mm_cond_inv h
    cases h
    exact ⟨_, rfl, rfl⟩
  | dcmp op =>
    obtain ⟨x, y, r, rfl, h⟩ := mm_dd_inv h
    cases h
    exact ⟨_, rfl, rfl⟩
  | dup =>
    obtain ⟨v, r, rfl, h⟩ := mm_1_inv h
    obtain ⟨hv, h⟩ := mm_condn_inv h
    cases h
    exact ⟨_, rfl, rfl⟩
  | pop =>
    obtain ⟨v, r, rfl, h⟩ := mm_1_inv h
    obtain ⟨hv, h⟩ := mm_condn_inv h
    cases h
    exact ⟨_, rfl, rfl⟩
  | dup_x1 =>
    obtain ⟨v, w, r, rfl, h⟩ := mm_2_inv h
    obtain ⟨hv, h⟩ := mm_condn_inv h
    rw [Bool.or_eq_false_iff] at hv
    cases h
    exact ⟨_, rfl, rfl⟩
  | dup2 =>
    obtain ⟨v, w, r, rfl, h⟩ := mm_2_inv h
    obtain ⟨hv, h⟩ := mm_condn_inv h
    rw [Bool.or_eq_false_iff] at hv
    cases h
    exact ⟨_, rfl, rfl⟩
  | dup_x2 =>
    obtain ⟨v, w, u, r, rfl, h⟩ := mm_3_inv h
    obtain ⟨hv, h⟩ := mm_condn_inv h
    rw [Bool.or_eq_false_iff, Bool.or_eq_false_iff] at hv
    cases h
    exact ⟨_, rfl, rfl⟩
  | goto o =>
    cases h
    exact ⟨_, rfl, rfl⟩
  | ifCond cn o =>
    obtain ⟨x, r, rfl, h⟩ := mm_i_inv h
    cases cn with
    | eq =>
      have h : (if x = 0 then mm_go (mm_tg pc o) L r S else mm_go (pc + 3) L r S) = some r0 := h
      by_cases hc : x = 0
      · rw [if_pos hc] at h
        cases h
        exact ⟨_, rfl, rfl⟩
      · rw [if_neg hc] at h
        cases h
        exact ⟨_, rfl, rfl⟩
    | ne =>
      have h : (if x = 0 then mm_go (pc + 3) L r S else mm_go (mm_tg pc o) L r S) = some r0 := h
      by_cases hc : x = 0
      · rw [if_pos hc] at h
        cases h
        exact ⟨_, rfl, rfl⟩
      · rw [if_neg hc] at h
        cases h
        exact ⟨_, rfl, rfl⟩
    | lt =>
      have h : (if x < 0 then mm_go (mm_tg pc o) L r S else mm_go (pc + 3) L r S) = some r0 := h
      by_cases hc : x < 0
      · rw [if_pos hc] at h
        cases h
        exact ⟨_, rfl, rfl⟩
      · rw [if_neg hc] at h
        cases h
        exact ⟨_, rfl, rfl⟩
    | ge =>
      have h : (if 0 ≤ x then mm_go (mm_tg pc o) L r S else mm_go (pc + 3) L r S) = some r0 := h
      by_cases hc : 0 ≤ x
      · rw [if_pos hc] at h
        cases h
        exact ⟨_, rfl, rfl⟩
      · rw [if_neg hc] at h
        cases h
        exact ⟨_, rfl, rfl⟩
    | gt =>
      have h : (if 0 < x then mm_go (mm_tg pc o) L r S else mm_go (pc + 3) L r S) = some r0 := h
      by_cases hc : 0 < x
      · rw [if_pos hc] at h
        cases h
        exact ⟨_, rfl, rfl⟩
      · rw [if_neg hc] at h
        cases h
        exact ⟨_, rfl, rfl⟩
    | le =>
      have h : (if x ≤ 0 then mm_go (mm_tg pc o) L r S else mm_go (pc + 3) L r S) = some r0 := h
      by_cases hc : x ≤ 0
      · rw [if_pos hc] at h
        cases h
        exact ⟨_, rfl, rfl⟩
      · rw [if_neg hc] at h
        cases h
        exact ⟨_, rfl, rfl⟩
  | if_icmp cn o =>
    obtain ⟨x, y, r, rfl, h⟩ := mm_ii_inv h
    cases cn with
    | eq =>
      have h : (if x = y then mm_go (mm_tg pc o) L r S else mm_go (pc + 3) L r S) = some r0 := h
      by_cases hc : x = y
      · rw [if_pos hc] at h
        cases h
        exact ⟨_, rfl, rfl⟩
      · rw [if_neg hc] at h
        cases h
        exact ⟨_, rfl, rfl⟩
    | ne =>
      have h : (if x = y then mm_go (pc + 3) L r S else mm_go (mm_tg pc o) L r S) = some r0 := h
      by_cases hc : x = y
      · rw [if_pos hc] at h
        cases h
        exact ⟨_, rfl, rfl⟩
      · rw [if_neg hc] at h
        cases h
        exact ⟨_, rfl, rfl⟩
    | lt =>
      have h : (if x < y then mm_go (mm_tg pc o) L r S else mm_go (pc + 3) L r S) = some r0 := h
      by_cases hc : x < y
      · rw [if_pos hc] at h
        cases h
        exact ⟨_, rfl, rfl⟩
      · rw [if_neg hc] at h
        cases h
        exact ⟨_, rfl, rfl⟩
    | ge =>
      have h : (if y ≤ x then mm_go (mm_tg pc o) L r S else mm_go (pc + 3) L r S) = some r0 := h
      by_cases hc : y ≤ x
      · rw [if_pos hc] at h
        cases h
        exact ⟨_, rfl, rfl⟩
      · rw [if_neg hc] at h
        cases h
        exact ⟨_, rfl, rfl⟩
    | gt =>
      have h : (if y < x then mm_go (mm_tg pc o) L r S else mm_go (pc + 3) L r S) = some r0 := h
      by_cases hc : y < x
      · rw [if_pos hc] at h
        cases h
        exact ⟨_, rfl, rfl⟩
      · rw [if_neg hc] at h
        cases h
        exact ⟨_, rfl, rfl⟩
    | le =>
      have h : (if x ≤ y then mm_go (mm_tg pc o) L r S else mm_go (pc + 3) L r S) = some r0 := h
      by_cases hc : x ≤ y
      · rw [if_pos hc] at h
        cases h
        exact ⟨_, rfl, rfl⟩
      · rw [if_neg hc] at h
        cases h
        exact ⟨_, rfl, rfl⟩
  | ifnull o =>
    obtain ⟨v, r, rfl, h⟩ := mm_1_inv h
    cases v with
    | ref a =>
      cases h
      exact ⟨_, rfl, rfl⟩
    | null =>
      cases h
      exact ⟨_, rfl, rfl⟩
    | _ => cases h
  | ifnonnull o =>
    obtain ⟨v, r, rfl, h⟩ := mm_1_inv h
    cases v with
    | ref a =>
      cases h
      exact ⟨_, rfl, rfl⟩
    | null =>
      cases h
      exact ⟨_, rfl, rfl⟩
    | _ => cases h
  | tableswitch d lo hi os =>
    obtain ⟨x, r, rfl, h⟩ := mm_i_inv h
    exact mm_tsw_S h
  | lookupswitch d ps =>
    obtain ⟨x, r, rfl, h⟩ := mm_i_inv h
    exact mm_lsw_S h
  | _ => cases hp
end
section
section MO
variable {call : Nat → List Value → mm_St → Option mm_O} {xs : Nat → Int32} {Ls : Nat} {ck : Nat → List Nat} {ak : Nat → FieldType} {me : mm_Me} {pc : Nat} {L : mm_L} {st : List Value} {S : mm_St} {r0 : mm_Z ⊕ mm_O}
theorem mm_new_mo (S : mm_St) (sh : Nat ⊕ (Nat × Nat)) : mm_mo ck S (mm_new S sh) := by
  refine ⟨?_, ?_, Nat.le_refl _⟩
  · show S.1.length + S.2.2 ≤ (S.1 ++ [sh]).length + S.2.2
    rw [List.length_append]
    omega
  · show mm_sz ck S.1 + 6 * S.2.2 ≤ mm_sz ck (S.1 ++ [sh]) + 6 * S.2.2
    rw [mm_sz_app]
    omega
theorem mm_hs_mo {E : Nat} (hs : List (Nat × Nat × Nat × Nat)) (h : mm_hs me pc L E S hs = some r0) : mm_rS r0 = S := by
  induction hs with
  | nil => cases h
  | cons q hs ih =>
    obtain ⟨a, b, t, ix⟩ := q
    unfold mm_hs at h
    rcases mm_cond2_inv h with ⟨-, h⟩ | ⟨-, h⟩
    · split at h
      · rcases mm_cond2_inv h with ⟨-, h⟩ | ⟨-, h⟩
        · split at h
          · cases h; rfl
          · cases h; rfl
          · cases h
        · exact ih h
      · cases h
    · exact ih h
theorem mm_back_mo {rest : List Value} {o : Option mm_O} (ho : ∀ q, o = some q → mm_mo ck S q.2) (h : mm_back me pc L rest o = some r0) : mm_mo ck S (mm_rS r0) := by
  unfold mm_back at h
  split at h
  next => cases h
  next v S' => cases h; exact ho _ rfl
  next E S' =>
    split at h
    · cases h; exact ho _ rfl
    · obtain ⟨-, h⟩ := mm_cond_inv h
      rw [mm_hs_mo _ h]; exact ho _ rfl
theorem mm_getf_mo {c k : Nat} (h : mm_getf ck pc L st S c k = some r0) : mm_rS r0 = S := by
  unfold mm_getf at h
  split at h
  · split at h
    · obtain ⟨-, h⟩ := mm_cond_inv h
      split at h
      · cases h; rfl
      · cases h
    · cases h
  · cases h
theorem mm_putv_mo {a k kd : Nat} {v : Value} {r : List Value} (h : mm_putv pc L r S a k v kd = some r0) : mm_mo ck S (mm_rS r0) := by
  unfold mm_putv at h
  split at h
  · split at h
    · cases h; exact (mm_mo.rf : mm_mo ck S S)
    · cases h
  · split at h
    · cases h; exact (mm_mo.rf : mm_mo ck S S)
    · cases h
  · split at h
    · cases h; exact (mm_mo.rf : mm_mo ck S S)
    · cases h; exact (mm_mo.rf : mm_mo ck S S)
    · cases h
  · split at h
    · cases h; exact (mm_mo.rf : mm_mo ck S S)
    · cases h
  · split at h
    · split at h
      · cases h; exact (mm_mo.rf : mm_mo ck S S)
      · cases h
    · cases h
  · cases h
theorem mm_putf_mo {c k : Nat} (h : mm_putf ck pc L st S c k = some r0) : mm_mo ck S (mm_rS r0) := by
  unfold mm_putf at h
  split at h
  · split at h
    · obtain ⟨-, h⟩ := mm_cond_inv h
      split at h
      · exact mm_putv_mo h
      · cases h
    · cases h
  · cases h
theorem mm_inv_mo {j n ci : Nat} (hc : ∀ j as S o, call j as S = some o → mm_mo ck S o.2) (h : mm_inv call me pc L st S j n ci = some r0) : mm_mo ck S (mm_rS r0) := by
  obtain ⟨as, a, rest, -, -, -, -, h⟩ := mm_inv_inv h
  exact mm_back_mo (fun q hq => hc _ _ _ _ hq) h
theorem mm_invS_mo {j n : Nat} (hc : ∀ j as S o, call j as S = some o → mm_mo ck S o.2) (h : mm_invS call me pc L st S j n = some r0) : mm_mo ck S (mm_rS r0) := by
  obtain ⟨as, rest, -, -, -, h⟩ := mm_invS_inv h
  exact mm_back_mo (fun q hq => hc _ _ _ _ hq) h
set_option maxHeartbeats 4000000 in
theorem mm_do_mo (hc : ∀ j as S o, call j as S = some o → mm_mo ck S o.2) (i : Instr) (h : mm_do call xs Ls ck ak me pc L st S i = some r0) : mm_mo ck S (mm_rS r0) := by
  by_cases hp : mm_isP i = true
  · obtain ⟨z', rfl, hz⟩ := mm_pure_S i hp h
    show mm_mo ck S z'.2.2.2
    rw [hz]
    exact mm_mo.rf
  · cases i with
    | ldc ix =>
      obtain ⟨k, -, h⟩ := mm_lk_inv h
      obtain ⟨-, h⟩ := mm_cond_inv h
      cases h
      exact mm_mo.rf
    | ldc2_w ix =>
      obtain ⟨k, -, h⟩ := mm_lk_inv h
      rcases mm_cond2_inv h with ⟨-, h⟩ | ⟨-, h⟩
      · cases h; exact mm_mo.rf
      · obtain ⟨-, h⟩ := mm_cond_inv h
        cases h
        exact mm_mo.rf
    | getfield ix =>
      obtain ⟨k, -, h⟩ := mm_lk_inv h
      obtain ⟨-, h⟩ := mm_cond_inv h
      rw [mm_getf_mo h]
      exact mm_mo.rf
    | putfield ix =>
      obtain ⟨k, -, h⟩ := mm_lk_inv h
      obtain ⟨-, h⟩ := mm_cond_inv h
      exact mm_putf_mo h
    | arraylength =>
      obtain ⟨v, r, rfl, h⟩ := mm_1_inv h
      cases v with
      | retAddr w => cases h; exact mm_mo.rf
      | ref a =>
        have h : (match S.1[a]? with
          | some (.inr (_, n)) => mm_go (pc + 1) L (.int (Int32.ofNat n) :: r) S
          | _ => none) = some r0 := h
        split at h
        · cases h; exact mm_mo.rf
        · cases h
      | _ => cases h
    | iaload =>
      have h : mm_ial xs Ls ak pc L S st = some r0 := h
      unfold mm_ial at h
      split at h
      · obtain ⟨-, h⟩ := mm_ix_inv h
        cases h
        exact mm_mo.rf
      · obtain ⟨i, a, r, t, n, -, -, -, -, h⟩ := mm_ai_inv h
        cases h
        exact mm_mo.rf
    | caload => obtain ⟨i, a, r, t, n, -, -, -, -, h⟩ := mm_ai_inv h; cases h; exact mm_mo.rf
    | baload => obtain ⟨i, a, r, t, n, -, -, -, -, h⟩ := mm_ai_inv h; cases h; exact mm_mo.rf
    | daload => obtain ⟨i, a, r, t, n, -, -, -, -, h⟩ := mm_ai_inv h; cases h; exact mm_mo.rf
    | laload => obtain ⟨i, a, r, t, n, -, -, -, -, h⟩ := mm_ai_inv h; cases h; exact mm_mo.rf
    | aaload => obtain ⟨i, a, r, t, n, -, -, -, -, h⟩ := mm_ai_inv h; cases h; exact mm_mo.rf
    | iastore => obtain ⟨x, st, -, h⟩ := mm_i_inv h; obtain ⟨i, a, r, t, n, -, -, -, -, h⟩ := mm_ai_inv h; cases h; exact (mm_mo.rf : mm_mo ck S S)
    | castore => obtain ⟨x, st, -, h⟩ := mm_i_inv h; obtain ⟨i, a, r, t, n, -, -, -, -, h⟩ := mm_ai_inv h; cases h; exact (mm_mo.rf : mm_mo ck S S)
    | bastore => obtain ⟨x, st, -, h⟩ := mm_i_inv h; obtain ⟨i, a, r, t, n, -, -, -, -, h⟩ := mm_ai_inv h; cases h; exact (mm_mo.rf : mm_mo ck S S)
    | dastore => obtain ⟨x, st, -, h⟩ := mm_d_inv h; obtain ⟨i, a, r, t, n, -, -, -, -, h⟩ := mm_ai_inv h; cases h; exact (mm_mo.rf : mm_mo ck S S)
    | lastore => obtain ⟨x, st, -, h⟩ := mm_j_inv h; obtain ⟨i, a, r, t, n, -, -, -, -, h⟩ := mm_ai_inv h; cases h; exact (mm_mo.rf : mm_mo ck S S)
    | aastore => obtain ⟨x, i, a, r, ci, n, -, -, -, -, h, -⟩ := mm_aas_inv h; cases h; exact (mm_mo.rf : mm_mo ck S S)
    | new ix =>
      obtain ⟨k, -, h⟩ := mm_lk_inv h
      rcases mm_cond2_inv h with ⟨-, h⟩ | ⟨-, h⟩
      · obtain ⟨-, h⟩ := mm_al_inv h
        cases h
        exact mm_new_mo S _
      · obtain ⟨-, h⟩ := mm_cond_inv h
        split at h
        · cases h
          exact ⟨by show S.1.length + S.2.2 ≤ S.1.length + (S.2.2 + 1); omega, by show mm_sz ck S.1 + 6 * S.2.2 ≤ mm_sz ck S.1 + 6 * (S.2.2 + 1); omega, by show S.2.2 ≤ S.2.2 + 1; omega⟩
        · cases h
    | newarray t =>
      obtain ⟨n, r, rfl, h⟩ := mm_i_inv h
      obtain ⟨-, h⟩ := mm_al_inv h
      split at h
      · cases h
      · split at h <;> first | (cases h; exact mm_new_mo S _) | (cases h)
    | anewarray ix =>
      obtain ⟨n, r, rfl, h⟩ := mm_i_inv h
      obtain ⟨k, -, h⟩ := mm_lk_inv h
      obtain ⟨-, h⟩ := mm_cond_inv h
      obtain ⟨-, h⟩ := mm_al_inv h
      split at h
      · cases h
      · cases h; exact mm_new_mo S _
    | invokevirtual ix =>
      obtain ⟨k, -, h⟩ := mm_lk_inv h
      obtain ⟨-, h⟩ := mm_cond_inv h
      exact mm_inv_mo hc h
    | invokespecial ix =>
      obtain ⟨k, -, h⟩ := mm_lk_inv h
      rcases mm_cond2_inv h with ⟨-, h⟩ | ⟨-, h⟩
      · exact mm_inv_mo hc (mm_noT_inv h).1
      · obtain ⟨-, h⟩ := mm_cond_inv h
        obtain ⟨a, r, rfl, h⟩ := mm_r_inv h
        obtain ⟨-, h⟩ := mm_cond_inv h
        cases h
        exact mm_mo.rf
    | invokestatic ix =>
      obtain ⟨k, -, h⟩ := mm_lk_inv h
      rcases mm_cond2_inv h with ⟨-, h⟩ | ⟨-, h⟩
      · exact mm_invS_mo hc h
      · obtain ⟨-, h⟩ := mm_cond_inv h
        exact mm_invS_mo hc (mm_noT_inv h).1
    | ireturn =>
      have h : mm_rI me S st = some r0 := h
      unfold mm_rI at h
      split at h
      · split at h
        · cases h; exact mm_mo.rf
        · split at h
          · cases h; exact mm_mo.rf
          · cases h
        · split at h
          · cases h; exact mm_mo.rf
          · cases h
      · cases h
    | lreturn =>
      have h : mm_rJ S st = some r0 := h
      unfold mm_rJ at h
      split at h
      · cases h; exact mm_mo.rf
      · cases h
    | dreturn =>
      have h : mm_rD S st = some r0 := h
      unfold mm_rD at h
      split at h
      · cases h; exact mm_mo.rf
      · cases h
    | areturn =>
      have h : mm_rA S st = some r0 := h
      unfold mm_rA at h
      split at h
      · cases h; exact mm_mo.rf
      · cases h; exact mm_mo.rf
      · cases h
    | return_ =>
      have h : mm_rV S st = some r0 := h
      unfold mm_rV at h
      split at h
      · cases h; exact mm_mo.rf
      · cases h
    | _ => first | (exact absurd rfl hp) | (cases h)
end MO
end
section
/-! ONE STEP, FOR METHODS WITHOUT HANDLERS -/
/-- an instruction's links are as the tables have them -/
def mm_IOK (cl : List vw_C) (ak : Nat → FieldType) (TT : List Cond) (strs : List (String × Nat × String)) (ex : Nat → String) (yj : Nat → MethodName) (cw : Nat → Cond) (y : MethodName) (bytes : ByteArray) (ret : Option FieldType) (me : mm_Me) (pc : Nat) (i : Instr) : Prop := match i with
  | .ldc ix => ∀ k, me.lk ix = some k → k.1 = 6 → Cond.constant y.cls ix (Int32.ofNat k.2.1) ∈ TT
  | .ldc2_w ix => ∀ k, me.lk ix = some k → (k.1 = 7 → Cond.constantLong y.cls ix (Int64.ofNat k.2.1) ∈ TT) ∧ (k.1 = 8 → Cond.constantDouble y.cls ix (UInt64.ofNat k.2.1) ∈ TT)
  | .getfield ix => ∀ k, me.lk ix = some k → k.1 = 0 → ∃ C T N, mm_FL cl TT y.cls ix k.2.1 k.2.2.1 C T N
  | .putfield ix => ∀ k, me.lk ix = some k → k.1 = 0 → ∃ C T N, mm_FL cl TT y.cls ix k.2.1 k.2.2.1 C T N ∧ ((T k.2.2.1).2.2.2 = false ∨ (y.name = "<init>" ∧ (T k.2.2.1).1 = y.cls))
  | .new ix => ∀ k, me.lk ix = some k → (k.1 = 4 → ∃ C T N, cl[k.2.1]? = some (C, T, N) ∧ Cond.classLink y.cls ix C ∈ TT ∧ Cond.instantiable C N ∈ TT ∧ Cond.initialized C ∈ TT) ∧ (k.1 = 5 → ∃ is ic text names, mm_TH TT strs bytes y.cls (ex k.2.1) pc ix is ic text names)
  | .newarray t => Cond.arrayClass (newarray.typeOf t) ∈ TT
  | .anewarray ix => ∀ k, me.lk ix = some k → k.1 = 4 → ∃ C, ak (10 + k.2.1) = .object C ∧ Cond.classLink y.cls ix C ∈ TT ∧ Cond.arrayOver (.object C) ∈ TT
  | .invokevirtual ix => ∀ k, me.lk ix = some k → k.1 = 1 → ∃ bt mL rt, cw k.2.1 = .code (yj k.2.1) bt mL rt ∧ mm_CE TT (yj k.2.1) bt mL k.2.2.1 rt ∧ mm_ML TT cl y.cls ix k.2.2.2 (yj k.2.1)
  | .invokespecial ix => ∀ k, me.lk ix = some k → (k.1 = 10 → ∃ bt mL, cw k.2.1 = .code (yj k.2.1) bt mL none ∧ mm_CE TT (yj k.2.1) bt mL k.2.2.1 none ∧ Cond.methodLink y.cls ix (yj k.2.1) ∈ TT ∧ Cond.instanceMethod (yj k.2.1) ∈ TT ∧ (yj k.2.1).name = "<init>") ∧ (k.1 = 3 → Cond.methodLink y.cls ix Lib.objectInit ∈ TT ∧ Cond.instanceMethod Lib.objectInit ∈ TT ∧ Cond.code Lib.objectInit ⟨#[0xb1]⟩ 1 none ∈ TT)
  | .invokestatic ix => ∀ k, me.lk ix = some k → (k.1 = 2 → ∃ bt mL rt, cw k.2.1 = .code (yj k.2.1) bt mL rt ∧ mm_CE TT (yj k.2.1) bt mL k.2.2.1 rt ∧ Cond.methodLink y.cls ix (yj k.2.1) ∈ TT ∧ Cond.static (yj k.2.1) ∈ TT) ∧ (k.1 = 14 → ∃ bt mL rt hh, cw k.2.1 = .codeWith (yj k.2.1) bt mL rt hh ∧ mm_CEW TT (yj k.2.1) bt mL k.2.2.1 rt hh ∧ Cond.methodLink y.cls ix (yj k.2.1) ∈ TT ∧ Cond.static (yj k.2.1) ∈ TT)
  | .ireturn => ret = some (match me.rk with
    | 0 => .int
    | 1 => .char
    | _ => .boolean)
  | .lreturn => ret = some .long
  | .dreturn => ret = some .double
  | .areturn => ∃ rt, ret = some rt ∧ ((∃ n, rt = .object n) ∨ ∃ t, rt = .array t)
  | .return_ => ret = none
  | _ => True
/-- a method's code -/
def mm_MOK (cl : List vw_C) (ak : Nat → FieldType) (TT : List Cond) (strs : List (String × Nat × String)) (ex : Nat → String) (yj : Nat → MethodName) (cw : Nat → Cond) (y : MethodName) (bytes : ByteArray) (ret : Option FieldType) (me : mm_Me) : Prop :=
  ∀ pc i n, me.dec[pc]? = some (some (i, n)) → decode bytes pc = .ok (i, n) ∧ (mm_len i ≠ 0 → n = mm_len i) ∧ (∀ o ∈ mm_offs i, 0 ≤ (pc : Int) + o) ∧ mm_sti i ≤ me.nL ∧ mm_swok i = true ∧ mm_IOK cl ak TT strs ex yj cw y bytes ret me pc i
section STEP
variable {p : Program} {l : Launch} {e : Env} {R : Room} {s : State} {m : MethodId} {args : Array Value} {below : List Frame} {meth : Method} {c : Code} {Q : State → Prop} {H : Heap} {locs : List Loc} {cells slots : Nat} {ls : Array Slot}
variable {D : va_G} {cl : List vw_C} {tys : List (ClassId × FieldType)} {ck : Nat → List Nat} {ct : Nat → Nat → FieldType} {ak : Nat → FieldType} {dA : Nat → ClassId} {B b Ls pc : Nat} {xs : Nat → Int32} {TT : List Cond} {strs : List (String × Nat × String)} {nc : List (String × String)} {me : mm_Me} {L : mm_L} {st : List Value} {S S0 : mm_St} {z' : mm_Z} {ex : Nat → String} {mc ms : Nat}
variable {call : Nat → List Value → mm_St → Option mm_O} {yj : Nat → MethodName} {cw : Nat → Cond} {d : Nat} {y : MethodName} {bytes : ByteArray} {ret : Option FieldType}
/-- the tables and the start, as every frame has them -/
def mm_TB (cl : List vw_C) (ck : Nat → List Nat) (ct : Nat → Nat → FieldType) (ak : Nat → FieldType) (TT : List Cond) : Prop :=
  mm_CK cl ck ct TT ∧ mm_AO cl ak ∧ (∀ w ∈ TT, mm_wd w = true) ∧ ak 0 = .int ∧ ak 1 = .char ∧ ak 2 = .double ∧ ak 3 = .long ∧ ak 4 = .boolean
/-- a frame of method y -/
def mm_FR (p : Program) (l : Launch) (R : Room) (s : State) (m : MethodId) (args : Array Value) (meth : Method) (c : Code) (D : va_G) (cl : List vw_C) (tys : List (ClassId × FieldType)) (ak : Nat → FieldType) (dA : Nat → ClassId) (TT : List Cond) (strs : List (String × Nat × String)) (nc : List (String × String)) (B b Ls : Nat) (xs : Nat → Int32) (S0 : mm_St) (d : Nat) (y : MethodName) (bytes : ByteArray) (ret : Option FieldType) (nL : Nat) : Prop :=
  CallFix p m c bytes nL s args TT y.cls ∧ va_K D cl tys s ∧ mm_AT tys ak dA ∧ mm_Env D cl tys TT strs nc B b Ls xs s ∧ B ≤ s.heap.size ∧ (S0.2.2 = 0 → s.heap.size = B + S0.1.length) ∧ meth.sig.returnType = ret ∧ meth.locks = false ∧ meth.name = y.name ∧ (∀ x ∈ c.exceptionTable.toList, False) ∧ l.stackTraces = false ∧ d + 9 ≤ R.frames ∧ 40 * d + 240 ≤ R.locals ∧ R.slots ≤ 60000000
set_option maxHeartbeats 4000000 in
set_option maxRecDepth 100000 in
theorem mm_stepJ (hTB : mm_TB cl ck ct ak TT) (hM : mm_MOK cl ak TT strs ex yj cw y bytes ret me) (hF : mm_FR p l R s m args meth c D cl tys ak dA TT strs nc B b Ls xs S0 d y bytes ret me.nL) (hCt : mm_Ct l D cl tys TT strs nc B b Ls xs ck ak dA ex yj cw d call) (hh : me.hs = []) (hRc : mm_co z'.2.2.2 ≤ mm_co S0 + R.cells) (hRs : mm_sl ck z'.2.2.2 ≤ mm_sl ck S0 + R.slots)
    (h : mm_step call xs Ls ck ak me (pc, L, st, S) = some (.inl z')) (kJ : mm_J p l e R s m args below meth c Q B b me.nL (mm_Rz D cl ck ak dA B b s.heap S0) z') : mm_J p l e R s m args below meth c Q B b me.nL (mm_Rz D cl ck ak dA B b s.heap S0) (pc, L, st, S) := by
  obtain ⟨hCK, hO, hTT, a0, a1, a2, a3, a4⟩ := hTB
  obtain ⟨X, hK, hT, hE, hB, hex, hret, hlocks, hname, hexc, hl, hRf, hRl, hRb⟩ := hF
  have hX := X
  obtain ⟨hx, hb, hml, hown, hts⟩ := X
  unfold mm_step at h
  split at h
  next i hdec =>
    obtain ⟨i, n⟩ := i
    obtain ⟨hd0, hd1, ht, hsti, hsw, hI⟩ := hM pc i n hdec
    have hd : mm_len i ≠ 0 → decode bytes pc = .ok (i, mm_len i) := fun q => by rw [← hd1 q]; exact hd0
    have h : mm_do call xs Ls ck ak me pc L st S i = some (.inl z') := h
    by_cases hp : mm_isP i = true
    · exact mm_pure hx hb i ⟨n, hd0⟩ hd ht hsti hsw hp h kJ
    · cases i with
      | ldc ix =>
        obtain ⟨k, hk, h⟩ := mm_lk_inv h
        obtain ⟨hq, h⟩ := mm_cond_inv h
        cases h
        exact mm_k_ldc hX (hI k hk (Nat.eq_of_beq_eq_true hq)) (hd (by simp [mm_len])) kJ
      | ldc2_w ix =>
        obtain ⟨k, hk, h⟩ := mm_lk_inv h
        rcases mm_cond2_inv h with ⟨hq, h⟩ | ⟨-, h⟩
        · cases h
          exact mm_k_ldc2 hX ((hI k hk).1 (Nat.eq_of_beq_eq_true hq)) (hd (by simp [mm_len])) kJ
        · obtain ⟨hq, h⟩ := mm_cond_inv h
          cases h
          exact mm_k_ldc2d hX ((hI k hk).2 (Nat.eq_of_beq_eq_true hq)) (hd (by simp [mm_len])) kJ
      | getfield ix =>
        obtain ⟨k, hk, h⟩ := mm_lk_inv h
        obtain ⟨hq, h⟩ := mm_cond_inv h
        obtain ⟨C, T, N, hFL⟩ := hI k hk (Nat.eq_of_beq_eq_true hq)
        exact mm_k_getf hX hK hCK hFL (hd (by simp [mm_len])) h kJ
      | putfield ix =>
        obtain ⟨k, hk, h⟩ := mm_lk_inv h
        obtain ⟨hq, h⟩ := mm_cond_inv h
        obtain ⟨C, T, N, hFL, hfin⟩ := hI k hk (Nat.eq_of_beq_eq_true hq)
        exact mm_k_putf hX hK hCK hFL (hfin.elim Or.inl (fun q => Or.inr ⟨by rw [hname]; exact q.1, q.2⟩)) (hd (by simp [mm_len])) h kJ
      | arraylength => exact mm_k_alen hX hK hT hE (hd (by simp [mm_len])) h kJ
      | iaload => exact mm_k_iald0 hX hK hT hE (hd (by simp [mm_len])) h kJ
      | caload => exact mm_k_cald hX hK hT (hd (by simp [mm_len])) h kJ
      | baload => exact mm_k_zald hX hK hT (hd (by simp [mm_len])) h kJ
      | daload => exact mm_k_dald hX hK hT (hd (by simp [mm_len])) h kJ
      | laload => exact mm_k_lald hX hK hT (hd (by simp [mm_len])) h kJ
      | aaload => exact mm_k_aald hX hK hT (hd (by simp [mm_len])) h kJ
      | iastore => exact mm_k_iast hX hK hT (hd (by simp [mm_len])) h kJ
      | castore => exact mm_k_cast hX hK hT (hd (by simp [mm_len])) h kJ
      | bastore => exact mm_k_zast hX hK hT (hd (by simp [mm_len])) h kJ
      | dastore => exact mm_k_dast hX hK hT (hd (by simp [mm_len])) h kJ
      | lastore => exact mm_k_last hX hK hT (hd (by simp [mm_len])) h kJ
      | aastore => exact mm_k_aast hX hK hT hO (hd (by simp [mm_len])) h kJ
      | new ix =>
        obtain ⟨k, hk, h⟩ := mm_lk_inv h
        rcases mm_cond2_inv h with ⟨hq, h⟩ | ⟨-, h⟩
        · obtain ⟨C, T, N, hc1, w1, w2, w3⟩ := (hI k hk).1 (Nat.eq_of_beq_eq_true hq)
          obtain ⟨h0, h⟩ := mm_al_inv h
          cases h
          exact mm_k_new hX hK hCK hc1 w1 w2 w3 (hd (by simp [mm_len])) hB hex h0 hRc hRs kJ
        · obtain ⟨-, h⟩ := mm_cond_inv h
          rw [hh] at h
          cases h
      | newarray t =>
        obtain ⟨n9, r, rfl, h⟩ := mm_i_inv h
        obtain ⟨h0, h⟩ := mm_al_inv h
        by_cases hn : n9 < 0
        · have h : (if n9 < 0 then none else match t with
            | .int => mm_go (pc + 2) L (.ref S.1.length :: r) (mm_new S (.inr (0, n9.toNatClampNeg)))
            | .char => mm_go (pc + 2) L (.ref S.1.length :: r) (mm_new S (.inr (1, n9.toNatClampNeg)))
            | .double => mm_go (pc + 2) L (.ref S.1.length :: r) (mm_new S (.inr (2, n9.toNatClampNeg)))
            | .long => mm_go (pc + 2) L (.ref S.1.length :: r) (mm_new S (.inr (3, n9.toNatClampNeg)))
            | .boolean => mm_go (pc + 2) L (.ref S.1.length :: r) (mm_new S (.inr (4, n9.toNatClampNeg)))
            | _ => none) = some (.inl z') := h
          rw [if_pos hn] at h
          cases h
        · have h : (if n9 < 0 then none else match t with
            | .int => mm_go (pc + 2) L (.ref S.1.length :: r) (mm_new S (.inr (0, n9.toNatClampNeg)))
            | .char => mm_go (pc + 2) L (.ref S.1.length :: r) (mm_new S (.inr (1, n9.toNatClampNeg)))
            | .double => mm_go (pc + 2) L (.ref S.1.length :: r) (mm_new S (.inr (2, n9.toNatClampNeg)))
            | .long => mm_go (pc + 2) L (.ref S.1.length :: r) (mm_new S (.inr (3, n9.toNatClampNeg)))
            | .boolean => mm_go (pc + 2) L (.ref S.1.length :: r) (mm_new S (.inr (4, n9.toNatClampNeg)))
            | _ => none) = some (.inl z') := h
          rw [if_neg hn] at h
          cases t with
          | int => cases h; exact mm_k_newa (atype := .int) (t := 0) hX hK hT a0.symm (by rw [a0]; decide) (by rw [a0]; decide) hI (hd (by simp [mm_len])) hB hex h0 hn hRb hRc hRs kJ
          | char => cases h; exact mm_k_newa (atype := .char) (t := 1) hX hK hT a1.symm (by rw [a1]; decide) (by rw [a1]; decide) hI (hd (by simp [mm_len])) hB hex h0 hn hRb hRc hRs kJ
          | double => cases h; exact mm_k_newa (atype := .double) (t := 2) hX hK hT a2.symm (by rw [a2]; decide) (by rw [a2]; decide) hI (hd (by simp [mm_len])) hB hex h0 hn hRb hRc hRs kJ
          | long => cases h; exact mm_k_newa (atype := .long) (t := 3) hX hK hT a3.symm (by rw [a3]; decide) (by rw [a3]; decide) hI (hd (by simp [mm_len])) hB hex h0 hn hRb hRc hRs kJ
          | boolean => cases h; exact mm_k_newa (atype := .boolean) (t := 4) hX hK hT a4.symm (by rw [a4]; decide) (by rw [a4]; decide) hI (hd (by simp [mm_len])) hB hex h0 hn hRb hRc hRs kJ
          | _ => cases h
      | anewarray ix =>
        obtain ⟨n9, r, rfl, h⟩ := mm_i_inv h
        obtain ⟨k, hk, h⟩ := mm_lk_inv h
        obtain ⟨hq, h⟩ := mm_cond_inv h
        obtain ⟨C, hC, w1, w2⟩ := hI k hk (Nat.eq_of_beq_eq_true hq)
        obtain ⟨h0, h⟩ := mm_al_inv h
        have h : (if n9 < 0 then none else mm_go (pc + 3) L (.ref S.1.length :: r) (mm_new S (.inr (10 + k.2.1, n9.toNatClampNeg)))) = some (.inl z') := h
        by_cases hn : n9 < 0
        · rw [if_pos hn] at h; cases h
        · rw [if_neg hn] at h
          cases h
          exact mm_k_newq hX hK hT hC w1 (va_AO.of (hts _ w2)) (hd (by simp [mm_len])) hB hex h0 hn hRb hRc hRs kJ
      | invokevirtual ix =>
        obtain ⟨k, hk, h⟩ := mm_lk_inv h
        obtain ⟨hq, h⟩ := mm_cond_inv h
        obtain ⟨bt, mL, rt, e1, e2, e3⟩ := hI k hk (Nat.eq_of_beq_eq_true hq)
        exact mm_k_inv hX hK hTT hE hB hex hCt rfl e1 e2 e3 hRb hRf hRl hRc hRs (hd (by simp [mm_len])) hh h kJ
      | invokespecial ix =>
        obtain ⟨k, hk, h⟩ := mm_lk_inv h
        rcases mm_cond2_inv h with ⟨hq, h⟩ | ⟨-, h⟩
        · obtain ⟨bt, mL, e1, e2, e3, e4, e5⟩ := (hI k hk).1 (Nat.eq_of_beq_eq_true hq)
          exact mm_k_invI hX hK hTT hE hB hex hCt rfl e1 e2 ⟨e3, e4, e5⟩ hRb hRf hRl hRc hRs (hd (by simp [mm_len])) hh (mm_noT_inv h).1 kJ
        · obtain ⟨hq, h⟩ := mm_cond_inv h
          obtain ⟨e1, e2, e3⟩ := (hI k hk).2 (Nat.eq_of_beq_eq_true hq)
          obtain ⟨a, r, rfl, h⟩ := mm_r_inv h
          obtain ⟨hw, h⟩ := mm_cond_inv h
          cases h
          exact mm_k_obj hX e1 e2 e3 (by omega) (by omega) (Nat.le_of_ble_eq_true hw) (hd (by simp [mm_len])) kJ
      | invokestatic ix =>
        obtain ⟨k, hk, h⟩ := mm_lk_inv h
        rcases mm_cond2_inv h with ⟨hq, h⟩ | ⟨-, h⟩
        · obtain ⟨bt, mL, rt, e1, e2, e3, e4⟩ := (hI k hk).1 (Nat.eq_of_beq_eq_true hq)
          exact mm_k_invS hX hK hTT hE hB hex hCt rfl e1 e2 ⟨e3, e4⟩ hRb hRf hRl hRc hRs (hd (by simp [mm_len])) hh h kJ
        · obtain ⟨hq, h⟩ := mm_cond_inv h
          obtain ⟨bt, mL, rt, hh9, e1, e2, e3, e4⟩ := (hI k hk).2 (Nat.eq_of_beq_eq_true hq)
          exact mm_k_invSW hX hK hTT hE hB hex hCt rfl e1 e2 ⟨e3, e4⟩ hRb hRf hRl hRc hRs (hd (by simp [mm_len])) hh (mm_noT_inv h).1 kJ
      | ireturn =>
        have h : mm_rI me S st = some (.inl z') := h
        unfold mm_rI at h
        split at h
        · split at h
          · cases h
          · split at h
            · cases h
            · cases h
          · split at h
            · cases h
            · cases h
        · cases h
      | lreturn =>
        have h : mm_rJ S st = some (.inl z') := h
        unfold mm_rJ at h
        split at h <;> cases h
      | dreturn =>
        have h : mm_rD S st = some (.inl z') := h
        unfold mm_rD at h
        split at h <;> cases h
      | areturn =>
        have h : mm_rA S st = some (.inl z') := h
        unfold mm_rA at h
        split at h <;> cases h
      | return_ =>
        have h : mm_rV S st = some (.inl z') := h
        unfold mm_rV at h
        split at h <;> cases h
      | _ => first | (exact absurd rfl hp) | (cases h)
  next => cases h
end STEP
end
section
section SIMU
variable {p : Program} {l : Launch} {e : Env} {R : Room} {s : State} {m : MethodId} {args : Array Value} {below : List Frame} {meth : Method} {c : Code} {Q : State → Prop} {H : Heap} {locs : List Loc} {cells slots : Nat} {ls : Array Slot}
variable {D : va_G} {cl : List vw_C} {tys : List (ClassId × FieldType)} {ck : Nat → List Nat} {ct : Nat → Nat → FieldType} {ak : Nat → FieldType} {dA : Nat → ClassId} {B b Ls pc : Nat} {xs : Nat → Int32} {TT : List Cond} {strs : List (String × Nat × String)} {nc : List (String × String)} {me : mm_Me} {L : mm_L} {st : List Value} {S S0 : mm_St} {z' : mm_Z} {ex : Nat → String} {mc ms : Nat}
variable {call : Nat → List Value → mm_St → Option mm_O} {yj : Nat → MethodName} {cw : Nat → Cond} {d : Nat} {y : MethodName} {bytes : ByteArray} {ret : Option FieldType}
set_option maxHeartbeats 4000000 in
set_option maxRecDepth 100000 in
theorem mm_stepE {o : mm_O} (hTB : mm_TB cl ck ct ak TT) (hM : mm_MOK cl ak TT strs ex yj cw y bytes ret me) (hF : mm_FR p l R s m args meth c D cl tys ak dA TT strs nc B b Ls xs S0 d y bytes ret me.nL) (hCt : mm_Ct l D cl tys TT strs nc B b Ls xs ck ak dA ex yj cw d call) (hh : me.hs = []) (hRc : mc ≤ R.cells) (hRs : ms ≤ R.slots) (hmc : mm_co S0 + mc = mm_co o.2) (hms : mm_sl ck S0 + ms = mm_sl ck o.2)
    (h : mm_step call xs Ls ck ak me (pc, L, st, S) = some (.inr o)) : mm_J p l e R s m args below meth c (mm_E below args s D cl B b ck ak dA ex o mc ms) B b me.nL (mm_Rz D cl ck ak dA B b s.heap S0) (pc, L, st, S) := by
  obtain ⟨hCK, hO, hTT, a0, a1, a2, a3, a4⟩ := hTB
  obtain ⟨X, hK, hT, hE, hB, hex, hret, hlocks, hname, hexc, hl, hRf, hRl, hRb⟩ := hF
  have hX := X
  obtain ⟨hx, hb, hml, hown, hts⟩ := X
  unfold mm_step at h
  split at h
  next i hdec =>
    obtain ⟨i, n⟩ := i
    obtain ⟨hd0, hd1, ht, hsti, hsw, hI⟩ := hM pc i n hdec
    have hd : mm_len i ≠ 0 → decode bytes pc = .ok (i, mm_len i) := fun q => by rw [← hd1 q]; exact hd0
    have h : mm_do call xs Ls ck ak me pc L st S i = some (.inr o) := h
    by_cases hp : mm_isP i = true
    · obtain ⟨z9, hz9, -⟩ := mm_pure_S i hp h
      cases hz9
    · cases i with
      | ldc ix =>
        obtain ⟨k, hk, h⟩ := mm_lk_inv h
        obtain ⟨hq, h⟩ := mm_cond_inv h
        cases h
      | ldc2_w ix =>
        obtain ⟨k, hk, h⟩ := mm_lk_inv h
        rcases mm_cond2_inv h with ⟨hq, h⟩ | ⟨-, h⟩
        · cases h
        · obtain ⟨hq, h⟩ := mm_cond_inv h
          cases h
      | getfield ix =>
        obtain ⟨k, hk, h⟩ := mm_lk_inv h
        obtain ⟨hq, h⟩ := mm_cond_inv h
        unfold mm_getf at h
        split at h
        · split at h
          · obtain ⟨-, h⟩ := mm_cond_inv h
            split at h <;> cases h
          · cases h
        · cases h
      | putfield ix =>
        obtain ⟨k, hk, h⟩ := mm_lk_inv h
        obtain ⟨hq, h⟩ := mm_cond_inv h
        unfold mm_putf at h
        split at h
        · split at h
          · obtain ⟨-, h⟩ := mm_cond_inv h
            split at h
            · unfold mm_putv at h
              split at h
              · split at h <;> cases h
              · split at h <;> cases h
              · split at h <;> cases h
              · split at h <;> cases h
              · split at h
                · split at h <;> cases h
                · cases h
              · cases h
            · cases h
          · cases h
        · cases h
      | arraylength =>
        obtain ⟨v, r, rfl, h⟩ := mm_1_inv h
        cases v with
        | retAddr w => cases h
        | ref a =>
          have h : (match S.1[a]? with
            | some (.inr (_, n)) => mm_go (pc + 1) L (.int (Int32.ofNat n) :: r) S
            | _ => none) = some (.inr o) := h
          split at h <;> cases h
        | _ => cases h
      | iaload =>
        have h : mm_ial xs Ls ak pc L S st = some (.inr o) := h
        unfold mm_ial at h
        split at h
        · obtain ⟨-, h⟩ := mm_ix_inv h
          cases h
        · obtain ⟨i, a, r, t, n, -, -, -, -, h⟩ := mm_ai_inv h
          cases h
      | caload => obtain ⟨i, a, r, t, n, -, -, -, -, h⟩ := mm_ai_inv h; cases h
      | baload => obtain ⟨i, a, r, t, n, -, -, -, -, h⟩ := mm_ai_inv h; cases h
      | daload => obtain ⟨i, a, r, t, n, -, -, -, -, h⟩ := mm_ai_inv h; cases h
      | laload => obtain ⟨i, a, r, t, n, -, -, -, -, h⟩ := mm_ai_inv h; cases h
      | aaload => obtain ⟨i, a, r, t, n, -, -, -, -, h⟩ := mm_ai_inv h; cases h
      | iastore => obtain ⟨x, st, -, h⟩ := mm_i_inv h; obtain ⟨i, a, r, t, n, -, -, -, -, h⟩ := mm_ai_inv h; cases h
      | castore => obtain ⟨x, st, -, h⟩ := mm_i_inv h; obtain ⟨i, a, r, t, n, -, -, -, -, h⟩ := mm_ai_inv h; cases h
      | bastore => obtain ⟨x, st, -, h⟩ := mm_i_inv h; obtain ⟨i, a, r, t, n, -, -, -, -, h⟩ := mm_ai_inv h; cases h
      | dastore => obtain ⟨x, st, -, h⟩ := mm_d_inv h; obtain ⟨i, a, r, t, n, -, -, -, -, h⟩ := mm_ai_inv h; cases h
      | lastore => obtain ⟨x, st, -, h⟩ := mm_j_inv h; obtain ⟨i, a, r, t, n, -, -, -, -, h⟩ := mm_ai_inv h; cases h
      | aastore => obtain ⟨x, i, a, r, ci, n, -, -, -, -, h, -⟩ := mm_aas_inv h; cases h
      | new ix =>
        obtain ⟨k, hk, h⟩ := mm_lk_inv h
        rcases mm_cond2_inv h with ⟨hq, h⟩ | ⟨-, h⟩
        · obtain ⟨h0, h⟩ := mm_al_inv h
          cases h
        · obtain ⟨hq, h⟩ := mm_cond_inv h
          rw [hh] at h
          rw [Bool.and_eq_true] at hq
          obtain ⟨is, ic, text, names, hth⟩ := (hI k hk).2 (Nat.eq_of_beq_eq_true hq.1)
          cases h
          exact mm_k_throw hX hl hTT hE hth hexc hlocks (Nat.le_of_ble_eq_true hq.2) (by omega) (by omega) hRc hRs (by rw [hmc]; show S.1.length + (S.2.2 + 1) = S.1.length + S.2.2 + 1; omega) (by rw [hms]; show mm_sz ck S.1 + 6 * (S.2.2 + 1) = mm_sz ck S.1 + 6 * S.2.2 + 6; omega)
      | newarray t =>
        obtain ⟨n9, r, rfl, h⟩ := mm_i_inv h
        obtain ⟨h0, h⟩ := mm_al_inv h
        split at h
        · cases h
        · split at h <;> cases h
      | anewarray ix =>
        obtain ⟨n9, r, rfl, h⟩ := mm_i_inv h
        obtain ⟨k, hk, h⟩ := mm_lk_inv h
        obtain ⟨hq, h⟩ := mm_cond_inv h
        obtain ⟨h0, h⟩ := mm_al_inv h
        split at h <;> cases h
      | invokevirtual ix =>
        obtain ⟨k, hk, h⟩ := mm_lk_inv h
        obtain ⟨hq, h⟩ := mm_cond_inv h
        obtain ⟨bt, mL, rt, e1, e2, e3⟩ := hI k hk (Nat.eq_of_beq_eq_true hq)
        exact mm_k_invT hX hK hTT hE hB hex hCt rfl e1 e2 e3 hRb hRf hRl hRc hRs hmc hms hexc hlocks (hd (by simp [mm_len])) hh h
      | invokespecial ix =>
        obtain ⟨k, hk, h⟩ := mm_lk_inv h
        rcases mm_cond2_inv h with ⟨hq, h⟩ | ⟨-, h⟩
        · obtain ⟨-, z9, hz9⟩ := mm_noT_inv h
          cases hz9
        · obtain ⟨hq, h⟩ := mm_cond_inv h
          obtain ⟨a, r, rfl, h⟩ := mm_r_inv h
          obtain ⟨hw, h⟩ := mm_cond_inv h
          cases h
      | invokestatic ix =>
        obtain ⟨k, hk, h⟩ := mm_lk_inv h
        rcases mm_cond2_inv h with ⟨hq, h⟩ | ⟨-, h⟩
        · obtain ⟨bt, mL, rt, e1, e2, e3, e4⟩ := (hI k hk).1 (Nat.eq_of_beq_eq_true hq)
          exact mm_k_invST hX hK hTT hE hB hex hCt rfl e1 e2 ⟨e3, e4⟩ hRb hRf hRl hRc hRs hmc hms hexc hlocks (hd (by simp [mm_len])) hh h
        · obtain ⟨hq, h⟩ := mm_cond_inv h
          obtain ⟨-, z9, hz9⟩ := mm_noT_inv h
          cases hz9
      | ireturn =>
        have hI : ret = some (match me.rk with
          | 0 => .int
          | 1 => .char
          | _ => .boolean) := hI
        have h : mm_rI me S st = some (.inr o) := h
        unfold mm_rI at h
        split at h
        next x =>
          split at h
          next hk =>
            cases h
            rw [hk] at hI
            exact mm_k_ireturn hX (hret.trans hI) rfl hlocks hmc hms (hd (by simp [mm_len]))
          next hk =>
            split at h
            next hc =>
              cases h
              rw [hk] at hI
              refine mm_k_ireturn hX (hret.trans hI) ?_ hlocks hmc hms (hd (by simp [mm_len]))
              rw [← hc]
              exact pk_nc _
            next => cases h
          next hk1 hk2 =>
            split at h
            next hc =>
              cases h
              have hI2 : ret = some .boolean := by
                rw [hI]
                split
                · exact absurd ‹_› hk1
                · exact absurd ‹_› hk2
                · rfl
              refine mm_k_ireturn hX (hret.trans hI2) ?_ hlocks hmc hms (hd (by simp [mm_len]))
              rcases hc with rfl | rfl <;> rfl
            next => cases h
        next => cases h
      | lreturn =>
        have h : mm_rJ S st = some (.inr o) := h
        unfold mm_rJ at h
        split at h
        · cases h; exact mm_k_lreturn hX (hret.trans hI) hlocks hmc hms (hd (by simp [mm_len]))
        · cases h
      | dreturn =>
        have h : mm_rD S st = some (.inr o) := h
        unfold mm_rD at h
        split at h
        · cases h; exact mm_k_dreturn hX (hret.trans hI) hlocks hmc hms (hd (by simp [mm_len]))
        · cases h
      | areturn =>
        obtain ⟨rt, hrt, hrt2⟩ := hI
        have h : mm_rA S st = some (.inr o) := h
        unfold mm_rA at h
        split at h
        · cases h; exact mm_k_areturn (Or.inr ⟨_, rfl⟩) hX (hret.trans hrt) hrt2 hlocks hmc hms (hd (by simp [mm_len]))
        · cases h; exact mm_k_areturn (Or.inl rfl) hX (hret.trans hrt) hrt2 hlocks hmc hms (hd (by simp [mm_len]))
        · cases h
      | return_ =>
        have h : mm_rV S st = some (.inr o) := h
        unfold mm_rV at h
        split at h
        · cases h; exact mm_k_return hX (hret.trans hI) hlocks hmc hms (hd (by simp [mm_len]))
        · cases h
      | _ => first | (exact absurd rfl hp) | (cases h)
  next => cases h
/-- a whole method, from its entry -/
theorem mm_walk {o : mm_O} (hTB : mm_TB cl ck ct ak TT) (hM : mm_MOK cl ak TT strs ex yj cw y bytes ret me) (hF : mm_FR p l R s m args meth c D cl tys ak dA TT strs nc B b Ls xs S0 d y bytes ret me.nL) (hCt : mm_Ct l D cl tys TT strs nc B b Ls xs ck ak dA ex yj cw d call) (hh : me.hs = []) (hRc : mc ≤ R.cells) (hRs : ms ≤ R.slots) (hmc : mm_co S0 + mc = mm_co o.2) (hms : mm_sl ck S0 + ms = mm_sl ck o.2) :
    ∀ (n : Nat) (z : mm_Z), mm_ex (mm_step call xs Ls ck ak me) n z = some o → mm_mo ck z.2.2.2 o.2 ∧ mm_J p l e R s m args below meth c (mm_E below args s D cl B b ck ak dA ex o mc ms) B b me.nL (mm_Rz D cl ck ak dA B b s.heap S0) z := by
  have hcm : ∀ j as S o, call j as S = some o → mm_mo ck S o.2 := fun j as S o h => ⟨(hCt j as S o h).1, (hCt j as S o h).2.1, (hCt j as S o h).2.2.1⟩
  intro n
  induction n with
  | zero => intro z h; cases h
  | succ n ih =>
    intro z h
    obtain ⟨pc, L, st, S⟩ := z
    have hmo : ∀ r, mm_step call xs Ls ck ak me (pc, L, st, S) = some r → mm_mo ck S (mm_rS r) := by
      intro r hr
      unfold mm_step at hr
      split at hr
      · exact mm_do_mo hcm _ hr
      · cases hr
    cases hz : mm_step call xs Ls ck ak me (pc, L, st, S) with
    | none =>
      rw [show mm_ex (mm_step call xs Ls ck ak me) (n + 1) (pc, L, st, S) = none by
        show (match mm_step call xs Ls ck ak me (pc, L, st, S) with
          | some (.inl z') => mm_ex (mm_step call xs Ls ck ak me) n z'
          | some (.inr o) => some o
          | none => none) = _
        rw [hz]] at h
      cases h
    | some r =>
      cases r with
      | inl z' =>
        rw [mm_ex_go hz] at h
        obtain ⟨h1, h2⟩ := ih z' h
        have h3 := hmo _ hz
        refine ⟨h3.tr h1, mm_stepJ hTB hM hF hCt hh ?_ ?_ hz h2⟩
        · have := h1.1
          omega
        · have := h1.2.1
          omega
      | inr o' =>
        rw [mm_ex_end hz] at h
        cases h
        exact ⟨hmo _ hz, mm_stepE hTB hM hF hCt hh hRc hRs hmc hms hz⟩
end SIMU
end
section
/-! A METHOD WITHOUT HANDLERS MEETS ITS CONTRACT -/
theorem mm_pad_ld : ∀ (L : mm_L) (n i : Nat) (v : Value), mm_ld (mm_pad L n) i = some v → mm_ld L i = some v := by
  intro L n
  induction n generalizing L with
  | zero => intro i v h; cases L <;> exact h
  | succ n ih =>
    intro i v h
    cases L with
    | nil =>
      cases i with
      | zero => cases h
      | succ i => exact absurd (ih [] i v h) (by simp [mm_ld])
    | cons o L =>
      cases i with
      | zero => exact h
      | succ i => exact ih L i v h
theorem mm_in_args (B b : Nat) : ∀ (as : List Value) (k i : Nat) (v : Value), mm_ld (mm_in as) i = some v → (k + i, mm_v B b v) ∈ lv_args k (as.map (mm_v B b)) := by
  intro as
  induction as with
  | nil => intro k i v h; exact absurd h (by simp [mm_in, mm_ld])
  | cons w as ih =>
    intro k i v h
    simp only [List.map_cons, lv_args, mm_v_cat]
    cases hc : mm_c2 w with
    | true =>
      simp only [mm_in, hc] at h
      match i, h with
      | 0, h =>
        have h : some w = some v := h
        cases h
        exact List.mem_cons_self
      | 1, h => exact absurd h (by simp [mm_ld])
      | i + 2, h =>
        refine List.mem_cons_of_mem _ ?_
        have h9 := ih (k + 2) i v h
        rw [show k + 2 + i = k + (i + 2) by omega] at h9
        simpa using h9
    | false =>
      simp only [mm_in, hc] at h
      match i, h with
      | 0, h =>
        have h : some w = some v := h
        cases h
        exact List.mem_cons_self
      | i + 1, h =>
        refine List.mem_cons_of_mem _ ?_
        have h9 := ih (k + 1) i v h
        rw [show k + 1 + i = k + (i + 1) by omega] at h9
        simpa using h9
theorem mm_sl_len (B b : Nat) (as : List Value) : (lg_sl (as.map (mm_v B b))).length = mm_wt as := by
  induction as with
  | nil => rfl
  | cons v as ih =>
    simp only [lg_sl, List.map_cons, List.flatMap_cons, List.length_append, mm_wt] at ih ⊢
    rw [ih, mm_v_cat]
    cases mm_c2 v <;> rfl
section MET
variable {l : Launch} {D : va_G} {cl : List vw_C} {tys : List (ClassId × FieldType)} {ck : Nat → List Nat} {ct : Nat → Nat → FieldType} {ak : Nat → FieldType} {dA : Nat → ClassId} {B b Ls : Nat} {xs : Nat → Int32} {TT : List Cond} {strs : List (String × Nat × String)} {nc : List (String × String)} {me : mm_Me} {S : mm_St} {ex : Nat → String} {mc ms : Nat}
variable {call : Nat → List Value → mm_St → Option mm_O} {yj : Nat → MethodName} {cw : Nat → Cond} {d : Nat} {y : MethodName} {bytes : ByteArray} {ret : Option FieldType}
theorem mm_met {o : mm_O} {as : List Value} (hl : l.stackTraces = false) (hpl : plainName y.cls = true) (hTB : mm_TB cl ck ct ak TT) (hAT : mm_AT tys ak dA) (hM : mm_MOK cl ak TT strs ex yj cw y bytes ret me) (hCt : mm_Ct l D cl tys TT strs nc B b Ls xs ck ak dA ex yj cw d call) (hh : me.hs = []) (hw : mm_wt as ≤ me.nL) (hR : mm_R (mm_step call xs Ls ck ak me) (0, mm_pad (mm_in as) me.nL, [], S) o) (hb : ms ≤ 60000000) (hmc : mm_co S + mc = mm_co o.2) (hms : mm_sl ck S + ms = mm_sl ck o.2) :
    MetFree l y (headSpec [.code y bytes me.nL ret] (mm_rm (d + 1) mc ms)) (mm_Pc D cl tys TT strs nc B b Ls xs ck ak dA as S) (fun _ _ _ _ _ => True) (mm_QO D cl B b ck ak dA ex o mc ms) := by
  obtain ⟨n, hn⟩ := hR
  refine MetFree.of_bodyS (code := bytes) (maxLocals := me.nL) (ret := ret) hpl ?_ ?_
  · intro args s m h hn9
    obtain ⟨meth, c, h1, h2, h3, h4, h5, h6, -, -⟩ := Cond.code_spec hn9 (atoms_spec (ws := [.code y bytes me.nL ret]) h _ List.mem_cons_self)
    exact ⟨meth, c, h1, h2, h3, h4, h5, h6⟩
  · intro p e s m args below meth c s₁ B9 hml hP _
    obtain ⟨rfl, hE, hPP, hsz⟩ := hP
    have hcode := atoms_spec (ws := [.code y bytes me.nL ret]) B9.pre _ List.mem_cons_self
    have hexc : ∀ x ∈ c.exceptionTable.toList, False := by
      obtain ⟨meth9, c9, h1, h2, -, -, -, -, h7, -⟩ := Cond.code_spec B9.named hcode
      cases Option.some.inj (h1.symm.trans B9.method)
      cases Option.some.inj (h2.symm.trans (Stand.of_body B9).code)
      intro x hx
      rw [Array.isEmpty_iff.mp h7] at hx
      cases hx
    have hh0 : s₁.heap = s.heap := by rw [B9.state]; rfl
    have hFR : mm_FR p l (headSpec [.code y bytes me.nL ret] (mm_rm (d + 1) mc ms)).room s m (as.map (mm_v B b)).toArray meth c D cl tys ak dA TT strs nc B b Ls xs S d y bytes ret me.nL :=
      ⟨⟨B9.exec, B9.bytes, hml, findClass_of_methodNamed B9.named, fun w hw => mm_warm (State.WarmedH.refl s) (hTB.2.2.1 w hw) (hE.1 w hw)⟩, hE.2.1, hAT, hE, hE.2.2.2.2.2.2.2.2, hsz, B9.returns, B9.notSynchronized, (name_of_methodNamed B9.named B9.method).1, hexc, hl, by show d + 9 ≤ d + 1 + 8; omega, by show 40 * d + 240 ≤ 40 * (d + 1) + 200; omega, hb⟩
    have hJ := (mm_walk (e := e) (below := below) hTB hM hFR hCt hh (Nat.le_refl _) (Nat.le_refl _) hmc hms n _ hn).2
    have hlv := lv_entry (as.map (mm_v B b)) (n := me.nL) (by rw [mm_sl_len]; exact hw)
    have hLR : mm_LR B b ((lg_sl (as.map (mm_v B b)) ++ List.replicate (me.nL - (lg_sl (as.map (mm_v B b))).length) Slot.unset).toArray) me.nL (mm_pad (mm_in as) me.nL) :=
      ⟨hlv.1, hlv.2.1, fun i v hv => hlv.2.2 (i, mm_v B b v) (by have h9 := mm_in_args B b as 0 i v (mm_pad_ld _ _ _ _ hv); rw [Nat.zero_add] at h9; exact h9)⟩
    have hW := hJ _ s.heap [] 0 0 hLR ⟨hPP, va_S.rf, rfl, rfl, Nat.le_refl _⟩
    have K : W p l e (headSpec [.code y bytes me.nL ret] (mm_rm (d + 1) mc ms)).room s m (as.map (mm_v B b)).toArray below meth c s₁.heap [] 0 0 (mm_E below (as.map (mm_v B b)).toArray s D cl B b ck ak dA ex o mc ms) (entryFrame m (as.map (mm_v B b)).toArray me.nL) := by
      rw [hh0, lg_entry_eq]
      exact hW
    obtain ⟨t, a1, oc, b1, b2, b3⟩ := K s₁ rfl (Stand.of_body B9)
    exact ⟨t, oc, a1, b1, b2, b3⟩
end MET
end
section
/-! A THROWN OBJECT IS CAUGHT: the rows of a table, one after the other; a class that a row names may be linked only now -/
section CATCH
variable {e : Env} {f : JFrame} {a : Addr} {s : State} {cell : Cell}
/-- the rows lead to the handler at pc -/
def mm_Rw (pl : Platform) (s : State) (d : ClassId) (at9 : Nat) (thrown : ClassId) (pc : Nat) : List ExceptionTableEntry → Prop
  | [] => False
  | x :: t => (covers x at9 = false ∧ mm_Rw pl s d at9 thrown pc t) ∨ (covers x at9 = true ∧ x.catchType ≠ 0 ∧ ∃ c, s.vm.ClassLinks pl d x.catchType c ∧ ((s.vm.assignable thrown c = true ∧ x.handlerPc = pc) ∨ (s.vm.assignable thrown c = false ∧ mm_Rw pl s d at9 thrown pc t)))
theorem mm_find (hobj : ∀ k, cell.vm ≠ .statics k) (hk0 : ∃ k, s.vm.classes[cell.cls]? = some k) {pc : Nat} : ∀ (rows : List ExceptionTableEntry) (U : State), s.WarmedH U.vm → U.heap[a]? = some cell → mm_Rw e.platform s f.method.cls f.pc cell.cls pc rows →
    ∃ vm', s.WarmedH vm' ∧ ∀ (Q : Handler → Pre) (E : CtlPost) (d : Bool) (acts : List Action), wp (findHandler.go f a rows) Q E e d acts U ↔ Q (.found pc) d acts (U.setVm vm') := by
  obtain ⟨k0, hk0⟩ := hk0
  intro rows
  induction rows with
  | nil => intro U _ _ h; exact h.elim
  | cons x t ih =>
    intro U hW hcell h
    obtain ⟨k0', hk0', -⟩ := hW.alike.2.2 _ _ hk0
    rcases h with ⟨hx, h⟩ | ⟨hx, h0, c, hl, h⟩
    · obtain ⟨vm', h1, h2⟩ := ih U hW hcell h
      refine ⟨vm', h1, fun Q E d acts => ?_⟩
      rw [W.findHandler_go_skip hx]
      exact h2 Q E d acts
    · obtain ⟨dk, _, _, kt, hd, _, _, _, _, hkt, _, hopen⟩ := hl.here
      obtain ⟨kt', hkt', -⟩ := hW.alike.2.2 _ _ hkt
      have hlU := hW.classLinks hl
      have hW2 := hW.noted hd hopen (State.rightAt_cls hl)
      obtain ⟨ha9, ht9⟩ := (resolveClass_links e.toSetting hlU).op (op := VmOp.resolveClass f.method.cls x.catchType) rfl
      have hal : U.vm.Alike (U.vm.noted f.method.cls x.catchType (.cls c)) := (Vm.Alike.refl U.vm).noted _ _ _
      obtain ⟨k1, hk1, -⟩ := hal.2.2 _ _ hk0'
      obtain ⟨k2, hk2, -⟩ := hal.2.2 _ _ hkt'
      have hx2 := hx
      simp only [covers] at hx2
      rcases h with ⟨hfit, hpc⟩ | ⟨hno, h⟩
      · have hfit' : (U.vm.noted f.method.cls x.catchType (.cls c)).assignable cell.cls c = true := by rw [hal.assignable, hW.alike.assignable]; exact hfit
        refine ⟨_, hW2, fun Q E d acts => ?_⟩
        rw [← hpc]
        simp [findHandler.go, hx2, h0, ha9, ht9, hcell, hobj, hk1, hk2, hfit', VmOp.dirties, VmOp.acts]
      · have hno' : (U.vm.noted f.method.cls x.catchType (.cls c)).assignable cell.cls c = false := by rw [hal.assignable, hW.alike.assignable]; exact hno
        obtain ⟨vm', h1, h2⟩ := ih (U.setVm (U.vm.noted f.method.cls x.catchType (.cls c))) hW2 hcell h
        refine ⟨vm', h1, fun Q E d acts => ?_⟩
        refine Iff.trans ?_ (h2 Q E d acts)
        simp [findHandler.go, hx2, h0, ha9, ht9, hcell, hobj, hk1, hk2, hno', VmOp.dirties, VmOp.acts]
end CATCH
section CAUGHT
variable {p : Program} {l : Launch} {e : Env} {R : Room} {s : State} {m : MethodId} {args : Array Value} {below : List Frame} {meth : Method} {c : Code} {T : State} {locs : List Loc} {cells slots : Nat}
/-- the frame goes on at the handler, the thrown object alone on its stack -/
theorem mm_caught (X : Stand p l e R s m args below meth c T locs cells slots) {g : JFrame} (hg : g.method = m) {a : Addr} {cell : Cell} (hcell : T.heap[a]? = some cell) (hvm : cell.vm = .none) (hk0 : ∃ k, s.vm.classes[cell.cls]? = some k) {pc : Nat} (h : mm_Rw e.platform s m.cls g.pc cell.cls pc c.exceptionTable.toList) :
    ∃ vm', Stand p l e R s m args below meth c (T.setVm vm') locs cells slots ∧ ∀ tg, Steps p.tables e below ((T.setVm vm').setTop { g with pc := pc, stack := [.ref a] }) tg → Steps p.tables e below ((T.setTop g).pushFrame (.throwing a)) tg := by
  subst hg
  have hAt : At T g.method c below := X.here
  obtain ⟨g₀, hg0⟩ := Option.isSome_iff_exists.mp hAt.top
  obtain ⟨r, hr⟩ := State.topJava?_eq_some.mp hg0
  obtain ⟨vm', hW', hf⟩ := mm_find (e := e) (f := g) (a := a) (s := s) (cell := cell) (fun k q => by rw [hvm] at q; cases q) hk0 c.exceptionTable.toList ((T.setTop g).pushFrame (.throwing a)) X.warmed hcell h
  have hf2 : ∀ (Q : Handler → Pre) (E : CtlPost) (d : Bool) (acts : List Action), wp (findHandler g a) Q E e d acts ((T.setTop g).pushFrame (.throwing a)) ↔ Q (.found pc) d acts (((T.setTop g).pushFrame (.throwing a)).setVm vm') := by
    intro Q E d acts
    rw [W.findHandler_eq (s := (T.setTop g).pushFrame (.throwing a)) (meth := meth) (code := c) X.method' X.code]
    exact hf Q E d acts
  refine ⟨vm', X.noted hW', fun tg hrest => ?_⟩
  obtain ⟨hgo, hw⟩ := hAt.throwing a
  refine Steps.head hgo hw ?_
  rw [stepThread_throwing (frames_entered hAt.top _)]
  have hstep : (stepThrowing e ((T.setTop g).pushFrame (.throwing a)) a (.java g :: T.frames.tail)).1 = (((T.setTop g).pushFrame (.throwing a)).setVm vm').setFrames (.java { g with pc := pc, stack := [.ref a] } :: T.frames.tail) := by
    simp only [stepThrowing, searchFrame, vmDo]
    generalize hres : Sem.go _ e false [] _ = res
    obtain ⟨as, rfl, ha9⟩ := Sem.eq_ok_of hres (a := Handler.found pc) (s' := ((T.setTop g).pushFrame (.throwing a)).setVm vm') (acts' := []) (by simp [hf2 _ _ _ _])
    rfl
  rw [hstep]
  have hr' : (T.setVm vm').frames = .java g₀ :: r := hr
  rw [State.setTop_of_frames _ hr'] at hrest
  have e1 : (((T.setTop g).pushFrame (.throwing a)).setVm vm').setFrames (.java { g with pc := pc, stack := [.ref a] } :: T.frames.tail) = (T.setVm vm').setFrames (.java { g with pc := pc, stack := [.ref a] } :: r) := by
    rw [State.pushFrame, State.setTop_of_frames _ hr, hr, List.tail_cons]
    show (((T.setVm vm').setFrames _).setFrames _).setFrames _ = _
    rw [State.setFrames_setFrames, State.setFrames_setFrames]
  rw [e1]
  exact hrest
end CAUGHT
end
section
/-! METHODS WITH HANDLERS -/
theorem mm_clr_at (L : mm_L) : ∀ (j k i : Nat), (mm_clr L j i)[k]? = (L[k]?).map fun o => cond (Nat.beq (j + k) i || (Nat.beq (j + k + 1) i && mm_o2 o)) none o := by
  induction L with
  | nil => intro j k i; rfl
  | cons o L ih =>
    intro j k i
    cases k with
    | zero => rfl
    | succ k =>
      have h := ih (j + 1) k i
      rw [show j + 1 + k = j + (k + 1) by omega] at h
      exact h
theorem mm_clr_ld {L : mm_L} {i j : Nat} {w : Value} (h : mm_ld (mm_clr L 0 i) j = some w) : mm_ld L j = some w ∧ j ≠ i ∧ (mm_c2 w = true → j + 1 ≠ i) := by
  unfold mm_ld at h
  rw [mm_clr_at] at h
  cases ho : L[j]? with
  | none => rw [ho] at h; cases h
  | some o =>
    rw [ho] at h
    simp only [Option.map_some, Nat.zero_add] at h
    cases hq : (Nat.beq j i || (Nat.beq (j + 1) i && mm_o2 o)) with
    | true => rw [hq] at h; cases h
    | false =>
      rw [hq] at h
      have h : o = some w := h
      subst h
      rw [Bool.or_eq_false_iff] at hq
      refine ⟨by unfold mm_ld; rw [ho], fun e => ?_, fun hc e => ?_⟩
      · subst e
        rw [Nat.beq_refl] at hq
        cases hq.1
      · rw [e, Nat.beq_refl] at hq
        have h9 := hq.2
        simp only [mm_o2, hc, Bool.and_self] at h9
        cases h9
theorem mm_LR.clr {B b : Nat} {ls : Array Slot} {n i : Nat} {L : mm_L} {v : Value}
    (h : lv_has ls n ((i, v) :: (mm_as B b L).filter (fun q => !(q.1 == i) && !(q.1 + 1 == i && q.2.category == 2)))) : mm_LR B b ls n (mm_clr L 0 i) := by
  refine ⟨h.1, h.2.1, fun j w hw => ?_⟩
  obtain ⟨h1, h2, h4⟩ := mm_clr_ld hw
  refine h.2.2 (j, mm_v B b w) (List.mem_cons_of_mem _ (List.mem_filter.mpr ⟨mm_as_mem h1, ?_⟩))
  have e1 : (j == i) = false := by simp [h2]
  have e2 : (j + 1 == i && (mm_v B b w).category == 2) = false := by
    cases hw2 : mm_c2 w with
    | true => simp [h4 hw2]
    | false => simp [mm_v_cat, hw2]
  simp only [e1, e2]
  rfl
/-- what the rows of a table rest on, for every class that is thrown -/
def mm_HOK (TT : List Cond) (nc : List (String × String)) (ex : Nat → String) (own : String) (me : mm_Me) : Prop :=
  ∀ a b t ix, (a, b, t, ix) ∈ me.hs → ix ≠ 0 ∧ ∀ E', (∃ q, me.lk ix = some (5, E', q)) → Cond.classLink own ix (ex E') ∈ TT ∧ Cond.castable (ex E') (ex E') ∈ TT ∧ ∀ E, E < 5 → E ≠ E' → (ex E, ex E') ∈ nc
section HAND
variable {p : Program} {l : Launch} {e : Env} {R : Room} {s : State} {m : MethodId} {args : Array Value} {below : List Frame} {meth : Method} {c : Code} {Q : State → Prop} {H : Heap} {locs : List Loc} {cells slots : Nat} {ls : Array Slot}
variable {D : va_G} {cl : List vw_C} {tys : List (ClassId × FieldType)} {ck : Nat → List Nat} {ct : Nat → Nat → FieldType} {ak : Nat → FieldType} {dA : Nat → ClassId} {B b Ls nL pc : Nat} {xs : Nat → Int32} {TT : List Cond} {strs : List (String × Nat × String)} {nc : List (String × String)} {cc : ByteArray} {own : String} {me : mm_Me} {L : mm_L} {st : List Value} {S S0 : mm_St} {z' : mm_Z} {ex : Nat → String} {mc ms : Nat}
variable {call : Nat → List Value → mm_St → Option mm_O} {yj : Nat → MethodName} {cw : Nat → Cond} {d : Nat}
theorem mm_hs_spec {E : Nat} {thrown : ClassId} {pl : Platform} (hpl : pl.magicAccessors = ({} : Platform).magicAccessors) (hown : s.vm.findClass own = some m.cls) (hts : ∀ w ∈ TT, w.before args s = true) (hnc : ∀ q ∈ nc, va_Nc q.1 q.2 s) (hth : s.vm.findClass (ex E) = some thrown) (hE5 : E < 5) {r : mm_Z ⊕ mm_O} :
    ∀ (hs : List (Nat × Nat × Nat × Nat)) (rows : List ExceptionTableEntry), rows.map (fun h => (h.startPc, h.endPc, h.handlerPc, h.catchType)) = hs → (∀ a b t ix, (a, b, t, ix) ∈ hs → ix ≠ 0 ∧ ∀ E', (∃ q, me.lk ix = some (5, E', q)) → Cond.classLink own ix (ex E') ∈ TT ∧ Cond.castable (ex E') (ex E') ∈ TT ∧ ∀ E, E < 5 → E ≠ E' → (ex E, ex E') ∈ nc) → mm_hs me pc L E S hs = some r →
      ∃ t, mm_Rw pl s m.cls pc thrown t rows ∧ ((∃ (i : Fin 4) (n : Nat), me.dec[t]? = some (some (.astore_n i, n)) ∧ r = .inl (t + 1, mm_clr L 0 i, [], S)) ∨ (∃ (i n : Nat), me.dec[t]? = some (some (.astore i, n)) ∧ r = .inl (t + 2, mm_clr L 0 i, [], S))) := by
  intro hs
  induction hs with
  | nil => intro rows _ _ h; cases h
  | cons q hs ih =>
    intro rows hm hok h
    obtain ⟨a, b9, t, ix⟩ := q
    cases rows with
    | nil => cases hm
    | cons x rows =>
      rw [List.map_cons] at hm
      injection hm with hx hm
      have hok2 := fun a b t ix q => hok a b t ix (List.mem_cons_of_mem _ q)
      obtain rfl : x.startPc = a := congrArg (·.1) hx
      obtain rfl : x.endPc = b9 := congrArg (·.2.1) hx
      obtain rfl : x.handlerPc = t := congrArg (·.2.2.1) hx
      obtain rfl : x.catchType = ix := congrArg (·.2.2.2) hx
      unfold mm_hs at h
      rcases mm_cond2_inv h with ⟨hc, h9⟩ | ⟨hc, h9⟩
      · have hcov : covers x pc = true := by
          rw [Bool.and_eq_true] at hc
          have c1 := Nat.le_of_ble_eq_true hc.1
          have c2 := Nat.le_of_ble_eq_true hc.2
          simp only [covers, Bool.and_eq_true, decide_eq_true_eq]
          omega
        split at h9
        next E' q8 q9 hlk =>
          obtain ⟨h0, hw⟩ := hok _ _ _ _ List.mem_cons_self
          obtain ⟨w1, w2, w3⟩ := hw E' ⟨_, hlk⟩
          obtain ⟨c', hc', hcl⟩ := Cond.classLink_spec hown (hts _ w1) pl hpl
          rcases mm_cond2_inv h9 with ⟨hq, h8⟩ | ⟨hq, h8⟩
          · have hq := Nat.eq_of_beq_eq_true hq
            obtain ⟨c3, c4, hc3, hc4, hasg⟩ := Cond.castable_spec (hts _ w2)
            rw [← hq] at hc3
            cases hc3.symm.trans hth
            cases hc4.symm.trans hc'
            refine ⟨x.handlerPc, Or.inr ⟨hcov, h0, c', hcl, Or.inl ⟨hasg, rfl⟩⟩, ?_⟩
            split at h8
            next i n hd => cases h8; exact Or.inl ⟨i, n, hd, rfl⟩
            next i n hd => cases h8; exact Or.inr ⟨i, n, hd, rfl⟩
            next => cases h8
          · have hne : E ≠ E' := fun e => by rw [e, Nat.beq_refl] at hq; cases hq
            obtain ⟨a8, b8, n1, n2, n3⟩ := hnc _ (w3 E hE5 hne)
            cases n1.symm.trans hth
            cases n2.symm.trans hc'
            obtain ⟨t9, r1, r2⟩ := ih rows hm hok2 h8
            exact ⟨t9, Or.inr ⟨hcov, h0, c', hcl, Or.inr ⟨n3, r1⟩⟩, r2⟩
        next => cases h9
      · have hcov : covers x pc = false := by
          cases hv : covers x pc with
          | false => rfl
          | true =>
            simp only [covers, Bool.and_eq_true, decide_eq_true_eq] at hv
            rw [Nat.ble_eq_true_of_le hv.1, Nat.ble_eq_true_of_le (show pc + 1 ≤ x.endPc by omega)] at hc
            cases hc
        obtain ⟨t9, r1, r2⟩ := ih rows hm hok2 h9
        exact ⟨t9, Or.inl ⟨hcov, r1⟩, r2⟩
end HAND
end
section
section HANDJ
variable {p : Program} {l : Launch} {e : Env} {R : Room} {s : State} {m : MethodId} {args : Array Value} {below : List Frame} {meth : Method} {c : Code} {Q : State → Prop} {H : Heap} {locs : List Loc} {cells slots : Nat} {ls : Array Slot}
variable {D : va_G} {cl : List vw_C} {tys : List (ClassId × FieldType)} {ck : Nat → List Nat} {ct : Nat → Nat → FieldType} {ak : Nat → FieldType} {dA : Nat → ClassId} {B b Ls nL pc : Nat} {xs : Nat → Int32} {TT : List Cond} {strs : List (String × Nat × String)} {nc : List (String × String)} {cc : ByteArray} {own : String} {me : mm_Me} {L : mm_L} {st : List Value} {S S0 : mm_St} {z' : mm_Z} {ex : Nat → String} {mc ms : Nat}
variable {call : Nat → List Value → mm_St → Option mm_O} {yj : Nat → MethodName} {cw : Nat → Cond} {d : Nat}
/-- an instance method called where there are handlers -/
theorem mm_k_invH {ix ci j n maxL : Nat} {y : MethodName} {bytes : ByteArray} {ret : Option FieldType} (X : CallFix p m c cc me.nL s args TT own) (hK : va_K D cl tys s) (hTT : ∀ w ∈ TT, mm_wd w = true) (hE : mm_Env D cl tys TT strs nc B b Ls xs s) (hB : B ≤ s.heap.size) (hex : S0.2.2 = 0 → s.heap.size = B + S0.1.length) (hCt : mm_Ct l D cl tys TT strs nc B b Ls xs ck ak dA ex yj cw d call) (hy : yj j = y) (hcw : cw j = .code y bytes maxL ret)
    (hCE : mm_CE TT y bytes maxL n ret) (hML : mm_ML TT cl own ix ci y) (hRb : R.slots ≤ 60000000) (hRf : d + 9 ≤ R.frames) (hRl : 40 * d + 240 ≤ R.locals) (hRc : mm_co z'.2.2.2 ≤ mm_co S0 + R.cells) (hRs : mm_sl ck z'.2.2.2 ≤ mm_sl ck S0 + R.slots) (hd : decode cc pc = .ok (.invokevirtual ix, 3))
    (hdec : ∀ pc i n, me.dec[pc]? = some (some (i, n)) → decode cc pc = .ok (i, n) ∧ (mm_len i ≠ 0 → n = mm_len i) ∧ mm_sti i ≤ me.nL) (hne : me.hs ≠ []) (htab : c.exceptionTable.toList.map (fun h => (h.startPc, h.endPc, h.handlerPc, h.catchType)) = me.hs) (hok : mm_HOK TT nc ex own me)
    (h : mm_inv call me pc L st S j n ci = some (.inl z')) (kJ : mm_J p l e R s m args below meth c Q B b me.nL (mm_Rz D cl ck ak dA B b s.heap S0) z') : mm_J p l e R s m args below meth c Q B b me.nL (mm_Rz D cl ck ak dA B b s.heap S0) (pc, L, st, S) := by
  have h9 := h
  obtain ⟨as, a, rest, hst, hn, ha, hwt, h⟩ := mm_inv_inv h
  unfold mm_back at h
  split at h
  next => cases h
  next v S' hcall =>
    have hz : z' = (pc + 3, L, v.toList ++ rest, S') := by cases h; rfl
    -- as if there were no handlers
    have h2 : mm_inv call (me.dec, me.lk, [], me.nL, me.rk) pc L st S j n ci = some (.inl z') := by
      unfold mm_inv at h9 ⊢
      split at h9
      next as9 a9 rest9 hp =>
        obtain ⟨ys, e1, e2, e3⟩ := mm_pop_spec _ _ _ _ _ hp
        rw [List.append_nil] at e1
        subst e1
        have e4 : as9.reverse ++ Value.ref a9 :: rest9 = as.reverse ++ Value.ref a :: rest := e2.symm.trans hst
        obtain ⟨e5, e6⟩ := List.append_inj e4 (by rw [List.length_reverse, List.length_reverse, e3, hn])
        cases e6
        have e7 : as9 = as := by have e8 := congrArg List.reverse e5; simpa using e8
        subst e7
        split at h9
        next cj hcj =>
          obtain ⟨hq, h8⟩ := mm_cond_inv h9
          rw [hq]
          rw [cond_true, hcall, hz]
          rfl
        next => cases h9
      next => cases h9
    exact mm_k_inv (me := (me.dec, me.lk, [], me.nL, me.rk)) (nL := me.nL) X hK hTT hE hB hex hCt hy hcw hCE hML hRb hRf hRl hRc hRs hd rfl h2 kJ
  next E S' hcall =>
    split at h
    next hnil => exact absurd hnil hne
    next h0 hs0 heq =>
      obtain ⟨hE5, hh9⟩ := mm_cond_inv h
      rw [← heq] at hh9
      have hE5 : E < 5 := Nat.le_of_ble_eq_true hE5
      subst hst
      obtain ⟨m1, m2, m3, hM⟩ := hCt _ _ _ _ hcall
      obtain ⟨mc', hmc'⟩ := Nat.le.dest m1
      obtain ⟨ms', hms'⟩ := Nat.le.dest m2
      have hM0 := fun q => hM mc' ms' q hmc' hms'
      have hmc' : mm_co S + mc' = mm_co S' := hmc'
      have hms' : mm_sl ck S + ms' = mm_sl ck S' := hms'
      have hzS : mm_rS (.inl z') = S' := mm_hs_mo _ hh9
      have hzS : z'.2.2.2 = S' := hzS
      rw [hzS] at hRc hRs
      obtain ⟨l1, l2, ⟨C, T9, N9⟩, hc1, l3⟩ := hML
      obtain ⟨hx, hb, hml, hown, hts⟩ := X
      intro ls H locs cells slots hL hR T hT XT
      have hsz := mm_size XT hT hR hB hex
      obtain ⟨hP, hS, hco, hsl, hnx⟩ := id hR
      have hco : mm_co S0 + cells = mm_co S := hco
      have hsl : mm_sl ck S0 + slots = mm_sl ck S := hsl
      have hnx : S0.2.2 ≤ S.2.2 := hnx
      have m3 : S.2.2 ≤ S'.2.2 := m3
      have hM := hM0 (by omega)
      rw [hy, hcw] at hM
      obtain ⟨cellB, r1, r2, r3⟩ := va_recv hK hP hc1 (mm_ws_at ha)
      obtain ⟨q, st₀, t, T', L1, h0', hW, X', hL1, e1, e2, hq, hst⟩ := mm_thrV XT hx (C := C) hown (hts _ l1) (hts _ l2) (hts _ l3) hCE.2.2.2.1 hM (mm_QO.thr (n := E) rfl) (mm_Pc.blind hTT _ _) (hCE.toR hTT hts hRf hRl) (by rw [hT]; exact r1) r2 r3
        (g := F0 m pc ls ((as.reverse ++ .ref a :: rest).map (mm_v B b))) rfl (hL.1.trans hml.symm) (argsL := as.map (mm_v B b)) (rest := rest.map (mm_v B b)) (fun sig hsig => by have h5 := hCE.2.2.2.2.1; rw [hsig] at h5; rw [List.length_map, hn]; exact (Option.some.inj h5).symm) (mm_map_args _ _ _) (lv_room (by rw [mm_wt_eq]; exact hwt)) (by rw [hb]; exact hd)
        ⟨by omega, by omega⟩ (fun U hU hW => mm_pre (T := T) (as := .ref a :: as) hTT hE hR hsz U (hU.trans hT) hW)
      obtain ⟨ho1, hP1, hF, -⟩ := hq
      obtain ⟨q2, ce, hq2, hce, hcv, hcl⟩ := ho1
      cases hq2
      have hS' := mm_after (h0'.trans hT) e1 hS hL1 hF
      have hcl9 : s.vm.findClass (ex E) = some ce.cls := by rw [← hcl, hW.alike.findClass]
      have hpl : e.platform.magicAccessors = ({} : Platform).magicAccessors := by rw [XT.admits.platform]
      obtain ⟨t9, hRw, hrow⟩ := mm_hs_spec hpl hown hts hE.2.2.2.2.2.1 hcl9 hE5 me.hs c.exceptionTable.toList htab hok hh9
      obtain ⟨vm', X2, hst2⟩ := mm_caught X' (g := F0 m pc ls (rest.map (mm_v B b))) rfl (a := q) (by rw [e1]; exact hce) hcv (by obtain ⟨k9, h9, -⟩ := Vm.findClass_spec hcl9; exact ⟨k9, h9⟩) hRw
      have hRz : mm_Rz D cl ck ak dA B b s.heap S0 S' T'.heap (locs ++ L1) (cells + mc') (slots + ms') := ⟨by rw [e1]; exact hP1, hS', by omega, by omega, by omega⟩
      have K : W p l e R s m args below meth c T'.heap (locs ++ L1) (cells + mc') (slots + ms') Q (F0 m t9 ls [.ref q]) := by
        rcases hrow with ⟨i, n9, hdi, hz⟩ | ⟨i, n9, hdi, hz⟩
        · obtain ⟨d1, d2, d3⟩ := hdec t9 _ _ hdi
          cases hz
          rw [d2 (by simp [mm_len])] at d1
          simp only [mm_sti] at d3
          exact lv_astore_n hx hb d1 rfl hL.has (by omega) rfl (fun ls' hl' => kJ ls' T'.heap _ _ _ (mm_LR.clr hl') hRz)
        · obtain ⟨d1, d2, d3⟩ := hdec t9 _ _ hdi
          cases hz
          rw [d2 (by simp [mm_len])] at d1
          simp only [mm_sti] at d3
          exact lv_astore hx hb d1 hL.has (by omega) rfl (fun ls' hl' => kJ ls' T'.heap _ _ _ (mm_LR.clr hl') hRz)
      obtain ⟨t2, a1, b1⟩ := K (T'.setVm vm') rfl X2
      exact ⟨t2, hst.trans (hst2 _ a1), b1⟩
end HANDJ
end
section
/-! A METHOD WITH HANDLERS MEETS ITS CONTRACT -/
/-- the instructions of such a method -/
def mm_isH (i : Instr) : Bool := mm_isP i || (match i with
  | .lastore | .dastore | .ireturn => true
  | .invokevirtual _ => true
  | _ => false)
theorem mm_hs_inl {me : mm_Me} {pc E : Nat} {L : mm_L} {S : mm_St} {o : mm_O} (hs : List (Nat × Nat × Nat × Nat)) : mm_hs me pc L E S hs ≠ some (.inr o) := by
  induction hs with
  | nil => intro h; cases h
  | cons q hs ih =>
    intro h
    obtain ⟨a, b, t, ix⟩ := q
    unfold mm_hs at h
    rcases mm_cond2_inv h with ⟨-, h⟩ | ⟨-, h⟩
    · split at h
      · rcases mm_cond2_inv h with ⟨-, h⟩ | ⟨-, h⟩
        · split at h <;> cases h
        · exact ih h
      · cases h
    · exact ih h
section HANDM
variable {p : Program} {l : Launch} {e : Env} {R : Room} {s : State} {m : MethodId} {args : Array Value} {below : List Frame} {meth : Method} {c : Code} {Q : State → Prop} {H : Heap} {locs : List Loc} {cells slots : Nat} {ls : Array Slot}
variable {D : va_G} {cl : List vw_C} {tys : List (ClassId × FieldType)} {ck : Nat → List Nat} {ct : Nat → Nat → FieldType} {ak : Nat → FieldType} {dA : Nat → ClassId} {B b Ls pc : Nat} {xs : Nat → Int32} {TT : List Cond} {strs : List (String × Nat × String)} {nc : List (String × String)} {me : mm_Me} {L : mm_L} {st : List Value} {S S0 : mm_St} {z' : mm_Z} {ex : Nat → String} {mc ms : Nat}
variable {call : Nat → List Value → mm_St → Option mm_O} {yj : Nat → MethodName} {cw : Nat → Cond} {d : Nat} {y : MethodName} {bytes : ByteArray} {ret : Option FieldType}
def mm_FRH (p : Program) (l : Launch) (R : Room) (s : State) (m : MethodId) (args : Array Value) (meth : Method) (c : Code) (D : va_G) (cl : List vw_C) (tys : List (ClassId × FieldType)) (ak : Nat → FieldType) (dA : Nat → ClassId) (TT : List Cond) (strs : List (String × Nat × String)) (nc : List (String × String)) (B b Ls : Nat) (xs : Nat → Int32) (S0 : mm_St) (d : Nat) (y : MethodName) (bytes : ByteArray) (ret : Option FieldType) (me : mm_Me) : Prop :=
  CallFix p m c bytes me.nL s args TT y.cls ∧ va_K D cl tys s ∧ mm_AT tys ak dA ∧ mm_Env D cl tys TT strs nc B b Ls xs s ∧ B ≤ s.heap.size ∧ (S0.2.2 = 0 → s.heap.size = B + S0.1.length) ∧ meth.sig.returnType = ret ∧ meth.locks = false ∧ c.exceptionTable.toList.map (fun h => (h.startPc, h.endPc, h.handlerPc, h.catchType)) = me.hs ∧ d + 9 ≤ R.frames ∧ 40 * d + 240 ≤ R.locals ∧ R.slots ≤ 60000000
theorem mm_walkH {o : mm_O} (hTB : mm_TB cl ck ct ak TT) (hM : mm_MOK cl ak TT strs ex yj cw y bytes ret me) (hall : ∀ (pc : Nat) (i : Instr) (n : Nat), me.dec[pc]? = some (some (i, n)) → mm_isH i = true) (hne : me.hs ≠ []) (hrk : me.rk = 0) (hok : mm_HOK TT nc ex y.cls me) (hF : mm_FRH p l R s m args meth c D cl tys ak dA TT strs nc B b Ls xs S0 d y bytes ret me) (hCt : mm_Ct l D cl tys TT strs nc B b Ls xs ck ak dA ex yj cw d call) (hRc : mc ≤ R.cells) (hRs : ms ≤ R.slots) (hmc : mm_co S0 + mc = mm_co o.2) (hms : mm_sl ck S0 + ms = mm_sl ck o.2) :
    ∀ (n : Nat) (z : mm_Z), mm_ex (mm_step call xs Ls ck ak me) n z = some o → mm_mo ck z.2.2.2 o.2 ∧ mm_J p l e R s m args below meth c (mm_E below args s D cl B b ck ak dA ex o mc ms) B b me.nL (mm_Rz D cl ck ak dA B b s.heap S0) z := by
  have hcm : ∀ j as S o, call j as S = some o → mm_mo ck S o.2 := fun j as S o h => ⟨(hCt j as S o h).1, (hCt j as S o h).2.1, (hCt j as S o h).2.2.1⟩
  obtain ⟨hCK, hO, hTT, a0, a1, a2, a3, a4⟩ := hTB
  obtain ⟨X, hK, hT, hE, hB, hex, hret, hlocks, htab, hRf, hRl, hRb⟩ := hF
  have hX := X
  obtain ⟨hx, hb, hml, hown, hts⟩ := X
  intro n
  induction n with
  | zero => intro z h; cases h
  | succ n ih =>
    intro z h
    obtain ⟨pc, L, st, S⟩ := z
    have hmo : ∀ r, mm_step call xs Ls ck ak me (pc, L, st, S) = some r → mm_mo ck S (mm_rS r) := by
      intro r hr
      unfold mm_step at hr
      split at hr
      · exact mm_do_mo hcm _ hr
      · cases hr
    cases hz : mm_step call xs Ls ck ak me (pc, L, st, S) with
    | none =>
      rw [show mm_ex (mm_step call xs Ls ck ak me) (n + 1) (pc, L, st, S) = none by
        show (match mm_step call xs Ls ck ak me (pc, L, st, S) with
          | some (.inl z') => mm_ex (mm_step call xs Ls ck ak me) n z'
          | some (.inr o) => some o
          | none => none) = _
        rw [hz]] at h
      cases h
    | some r =>
      have h3 := hmo _ hz
      unfold mm_step at hz
      split at hz
      next i hdec =>
        obtain ⟨i, n9⟩ := i
        obtain ⟨hd0, hd1, ht, hsti, hsw, hI⟩ := hM pc i n9 hdec
        have hd : mm_len i ≠ 0 → decode bytes pc = .ok (i, mm_len i) := fun q => by rw [← hd1 q]; exact hd0
        have hH := hall pc i n9 hdec
        have hz : mm_do call xs Ls ck ak me pc L st S i = some r := hz
        have hstep : mm_step call xs Ls ck ak me (pc, L, st, S) = some r := by
          unfold mm_step
          rw [show me.dec[(pc, L, st, S).1]? = some (some (i, n9)) from hdec]
          exact hz
        cases r with
        | inl z' =>
          rw [mm_ex_go hstep] at h
          obtain ⟨h1, h2⟩ := ih z' h
          refine ⟨h3.tr h1, ?_⟩
          have b1 : mm_co z'.2.2.2 ≤ mm_co S0 + R.cells := by have := h1.1; omega
          have b2 : mm_sl ck z'.2.2.2 ≤ mm_sl ck S0 + R.slots := by have := h1.2.1; omega
          by_cases hp : mm_isP i = true
          · exact mm_pure hx hb i ⟨n9, hd0⟩ hd ht hsti hsw hp hz h2
          · cases i with
            | lastore => exact mm_k_last hX hK hT (hd (by simp [mm_len])) hz h2
            | dastore => exact mm_k_dast hX hK hT (hd (by simp [mm_len])) hz h2
            | invokevirtual ix =>
              obtain ⟨k, hk, hz⟩ := mm_lk_inv hz
              obtain ⟨hq, hz⟩ := mm_cond_inv hz
              obtain ⟨bt, mL, rt, e1, e2, e3⟩ := hI k hk (Nat.eq_of_beq_eq_true hq)
              exact mm_k_invH hX hK hTT hE hB hex hCt rfl e1 e2 e3 hRb hRf hRl b1 b2 (hd (by simp [mm_len])) (fun pc i n q => by obtain ⟨q1, q2, -, q3, -⟩ := hM pc i n q; exact ⟨q1, q2, q3⟩) hne htab hok hz h2
            | ireturn =>
              have hz : mm_rI me S st = some (.inl z') := hz
              unfold mm_rI at hz
              rw [hrk] at hz
              split at hz <;> cases hz
            | _ => first | (exact absurd rfl hp) | (cases hH)
        | inr o' =>
          rw [mm_ex_end hstep] at h
          cases h
          refine ⟨h3, ?_⟩
          by_cases hp : mm_isP i = true
          · obtain ⟨z9, hz9, -⟩ := mm_pure_S i hp hz
            cases hz9
          · cases i with
            | lastore => obtain ⟨x, st, -, hz⟩ := mm_j_inv hz; obtain ⟨i, a, r, t, n, -, -, -, -, hz⟩ := mm_ai_inv hz; cases hz
            | dastore => obtain ⟨x, st, -, hz⟩ := mm_d_inv hz; obtain ⟨i, a, r, t, n, -, -, -, -, hz⟩ := mm_ai_inv hz; cases hz
            | invokevirtual ix =>
              obtain ⟨k, hk, hz⟩ := mm_lk_inv hz
              obtain ⟨hq, hz⟩ := mm_cond_inv hz
              obtain ⟨as, a, rest, -, -, -, -, hz⟩ := mm_inv_inv hz
              unfold mm_back at hz
              split at hz
              next => cases hz
              next => cases hz
              next E S' hcall =>
                split at hz
                next hnil => exact absurd hnil hne
                next h0 hs0 heq =>
                  obtain ⟨-, hz⟩ := mm_cond_inv hz
                  exact absurd hz (mm_hs_inl _)
            | ireturn =>
              have hI : ret = some (match me.rk with
                | 0 => .int
                | 1 => .char
                | _ => .boolean) := hI
              have hz : mm_rI me S st = some (.inr o) := hz
              unfold mm_rI at hz
              rw [hrk] at hz hI
              split at hz
              · cases hz
                exact mm_k_ireturn hX (hret.trans hI) rfl hlocks hmc hms (hd (by simp [mm_len]))
              · cases hz
            | _ => first | (exact absurd rfl hp) | (cases hH)
      next => cases hz
end HANDM
end
section
section METW
variable {l : Launch} {D : va_G} {cl : List vw_C} {tys : List (ClassId × FieldType)} {ck : Nat → List Nat} {ct : Nat → Nat → FieldType} {ak : Nat → FieldType} {dA : Nat → ClassId} {B b Ls : Nat} {xs : Nat → Int32} {TT : List Cond} {strs : List (String × Nat × String)} {nc : List (String × String)} {me : mm_Me} {S : mm_St} {ex : Nat → String} {mc ms : Nat}
variable {call : Nat → List Value → mm_St → Option mm_O} {yj : Nat → MethodName} {cw : Nat → Cond} {d : Nat} {y : MethodName} {bytes : ByteArray} {ret : Option FieldType}
theorem mm_metW {o : mm_O} {as : List Value} (hpl : plainName y.cls = true) (hTB : mm_TB cl ck ct ak TT) (hAT : mm_AT tys ak dA) (hM : mm_MOK cl ak TT strs ex yj cw y bytes ret me) (hall : ∀ (pc : Nat) (i : Instr) (n : Nat), me.dec[pc]? = some (some (i, n)) → mm_isH i = true) (hne : me.hs ≠ []) (hrk : me.rk = 0) (hok : mm_HOK TT nc ex y.cls me) (hCt : mm_Ct l D cl tys TT strs nc B b Ls xs ck ak dA ex yj cw d call) (hw : mm_wt as ≤ me.nL) (hR : mm_R (mm_step call xs Ls ck ak me) (0, mm_pad (mm_in as) me.nL, [], S) o) (hb : ms ≤ 60000000) (hmc : mm_co S + mc = mm_co o.2) (hms : mm_sl ck S + ms = mm_sl ck o.2) :
    MetFree l y (headSpec [.codeWith y bytes me.nL ret me.hs] (mm_rm (d + 1) mc ms)) (mm_Pc D cl tys TT strs nc B b Ls xs ck ak dA as S) (fun _ _ _ _ _ => True) (mm_QO D cl B b ck ak dA ex o mc ms) := by
  obtain ⟨n, hn⟩ := hR
  refine MetFree.of_bodyS (code := bytes) (maxLocals := me.nL) (ret := ret) hpl ?_ ?_
  · intro args s m h hn9
    obtain ⟨m9, meth, c, hn8, h1, h2, h3, h4, -, h5, h6, -⟩ := Cond.codeWith_spec (atoms_spec (ws := [.codeWith y bytes me.nL ret me.hs]) h _ List.mem_cons_self)
    cases hn9.symm.trans hn8
    exact ⟨meth, c, h1, h2, h3, h4, h5, h6⟩
  · intro p e s m args below meth c s₁ B9 hml hP _
    obtain ⟨rfl, hE, hPP, hsz⟩ := hP
    have hcode := atoms_spec (ws := [.codeWith y bytes me.nL ret me.hs]) B9.pre _ List.mem_cons_self
    have htab : c.exceptionTable.toList.map (fun h => (h.startPc, h.endPc, h.handlerPc, h.catchType)) = me.hs := by
      obtain ⟨m9, meth9, c9, hn8, h1, h2, -, -, h7, -⟩ := Cond.codeWith_spec hcode
      cases B9.named.symm.trans hn8
      cases Option.some.inj (h1.symm.trans B9.method)
      cases Option.some.inj (h2.symm.trans (Stand.of_body B9).code)
      exact h7
    have hh0 : s₁.heap = s.heap := by rw [B9.state]; rfl
    have hFR : mm_FRH p l (headSpec [.codeWith y bytes me.nL ret me.hs] (mm_rm (d + 1) mc ms)).room s m (as.map (mm_v B b)).toArray meth c D cl tys ak dA TT strs nc B b Ls xs S d y bytes ret me :=
      ⟨⟨B9.exec, B9.bytes, hml, findClass_of_methodNamed B9.named, fun w hw => mm_warm (State.WarmedH.refl s) (hTB.2.2.1 w hw) (hE.1 w hw)⟩, hE.2.1, hAT, hE, hE.2.2.2.2.2.2.2.2, hsz, B9.returns, B9.notSynchronized, htab, by show d + 9 ≤ d + 1 + 8; omega, by show 40 * d + 240 ≤ 40 * (d + 1) + 200; omega, hb⟩
    have hJ := (mm_walkH (e := e) (below := below) hTB hM hall hne hrk hok hFR hCt (Nat.le_refl _) (Nat.le_refl _) hmc hms n _ hn).2
    have hlv := lv_entry (as.map (mm_v B b)) (n := me.nL) (by rw [mm_sl_len]; exact hw)
    have hLR : mm_LR B b ((lg_sl (as.map (mm_v B b)) ++ List.replicate (me.nL - (lg_sl (as.map (mm_v B b))).length) Slot.unset).toArray) me.nL (mm_pad (mm_in as) me.nL) :=
      ⟨hlv.1, hlv.2.1, fun i v hv => hlv.2.2 (i, mm_v B b v) (by have h9 := mm_in_args B b as 0 i v (mm_pad_ld _ _ _ _ hv); rw [Nat.zero_add] at h9; exact h9)⟩
    have hW := hJ _ s.heap [] 0 0 hLR ⟨hPP, va_S.rf, rfl, rfl, Nat.le_refl _⟩
    have K : W p l e (headSpec [.codeWith y bytes me.nL ret me.hs] (mm_rm (d + 1) mc ms)).room s m (as.map (mm_v B b)).toArray below meth c s₁.heap [] 0 0 (mm_E below (as.map (mm_v B b)).toArray s D cl B b ck ak dA ex o mc ms) (entryFrame m (as.map (mm_v B b)).toArray me.nL) := by
      rw [hh0, lg_entry_eq]
      exact hW
    obtain ⟨t, a1, oc, b1, b2, b3⟩ := K s₁ rfl (Stand.of_body B9)
    exact ⟨t, oc, a1, b1, b2, b3⟩
/-- what is checked of a method, once for all -/
def mm_ok (cl : List vw_C) (ak : Nat → FieldType) (TT : List Cond) (strs : List (String × Nat × String)) (nc : List (String × String)) (ex : Nat → String) (yj : Nat → MethodName) (cw : Nat → Cond) (bj : Nat → ByteArray) (rj : Nat → Option FieldType) (mj : Nat → mm_Me) (j : Nat) : Prop :=
  plainName (yj j).cls = true ∧ mm_MOK cl ak TT strs ex yj cw (yj j) (bj j) (rj j) (mj j) ∧
  (((mj j).hs = [] ∧ cw j = .code (yj j) (bj j) (mj j).nL (rj j)) ∨ ((mj j).hs ≠ [] ∧ cw j = .codeWith (yj j) (bj j) (mj j).nL (rj j) (mj j).hs ∧ (∀ (pc : Nat) (i : Instr) (n : Nat), (mj j).dec[pc]? = some (some (i, n)) → mm_isH i = true) ∧ (mj j).rk = 0 ∧ mm_HOK TT nc ex (yj j).cls (mj j)))
theorem mm_mono {xs : Nat → Int32} {mj : Nat → mm_Me} : ∀ (d j : Nat) (as : List Value) (S : mm_St) (o : mm_O), mm_ev xs Ls ck ak mj d j as S = some o → mm_mo ck S o.2 := by
  intro d
  induction d with
  | zero => intro j as S o h; cases h
  | succ d ih =>
    intro j as S o h
    obtain ⟨-, n, hn⟩ := (mm_ev_iff xs Ls ck ak mj).mp h
    have key : ∀ (n : Nat) (z : mm_Z), mm_ex (mm_step (mm_ev xs Ls ck ak mj d) xs Ls ck ak (mj j)) n z = some o → mm_mo ck z.2.2.2 o.2 := by
      intro n
      induction n with
      | zero => intro z h; cases h
      | succ n ih2 =>
        intro z h
        rcases (mm_R.cs ⟨n + 1, h⟩ : _ ∨ _) with ⟨z', hz, hr⟩ | hz
        · have h1 : mm_mo ck z.2.2.2 z'.2.2.2 := by
            unfold mm_step at hz
            split at hz
            · exact mm_do_mo ih _ hz
            · cases hz
          rw [mm_ex_go hz] at h
          exact h1.tr (ih2 z' h)
        · unfold mm_step at hz
          split at hz
          · exact mm_do_mo ih _ hz
          · cases hz
    exact key n _ hn
/-- THE SMALL MACHINE TELLS WHAT THE JVM DOES -/
theorem mm_sim {mj : Nat → mm_Me} {bj : Nat → ByteArray} {rj : Nat → Option FieldType} (hl : l.stackTraces = false) (hTB : mm_TB cl ck ct ak TT) (hAT : mm_AT tys ak dA) (hok : ∀ j, mm_ok cl ak TT strs nc ex yj cw bj rj mj j) : ∀ d, mm_Ct l D cl tys TT strs nc B b Ls xs ck ak dA ex yj cw d (mm_ev xs Ls ck ak mj d) := by
  intro d
  induction d with
  | zero => intro j as S o h; cases h
  | succ d ih =>
    intro j as S o h
    obtain ⟨m1, m2, m3⟩ := mm_mono _ _ _ _ _ h
    refine ⟨m1, m2, m3, fun mc ms hb hmc hms => ?_⟩
    obtain ⟨hw, hR⟩ := (mm_ev_iff xs Ls ck ak mj).mp h
    obtain ⟨hpl, hM, ⟨hh, hcw⟩ | ⟨hh, hcw, hall, hrk, hHO⟩⟩ := hok j
    · rw [hcw]
      exact mm_met hl hpl hTB hAT hM ih hh hw hR hb hmc hms
    · rw [hcw]
      exact mm_metW hpl hTB hAT hM hall hh hrk hHO ih hw hR hb hmc hms
end METW
end
