section
-- ===== PART A: goes FIRST, ahead of the names: the tables' words, and 'selects' of the private methods out of them =====
/-- a private method of a class that the tables say can be made, by its rows of tables_1 -/
def lw_okq (q : MethodName × Nat) : Prop := (q.1.cls ≠ "java/lang/invoke/MethodHandle" ∧ q.1.cls ≠ "java/lang/invoke/VarHandle") ∧ Cond.instantiable q.1.cls q.2 ∈ tables_1 ∧ Cond.privateMethod q.1 ∈ tables_1 ∧ Cond.instanceMethod q.1 ∈ tables_1
theorem lw_p0 : lw_okq (⟨"ShapePour", "putBytes", "(I)V"⟩, 19) := ⟨⟨by decide +kernel, by decide +kernel⟩, List.mem_of_getElem? (i := 22) (by decide +kernel), List.mem_of_getElem? (i := 490) (by decide +kernel), List.mem_of_getElem? (i := 491) (by decide +kernel)⟩
theorem lw_p1 : lw_okq (⟨"ShapePour", "sparePage", "()I"⟩, 19) := ⟨⟨by decide +kernel, by decide +kernel⟩, List.mem_of_getElem? (i := 22) (by decide +kernel), List.mem_of_getElem? (i := 498) (by decide +kernel), List.mem_of_getElem? (i := 499) (by decide +kernel)⟩
theorem lw_p2 : lw_okq (⟨"ShapePour$Reader", "next", "()V"⟩, 10) := ⟨⟨by decide +kernel, by decide +kernel⟩, List.mem_of_getElem? (i := 284) (by decide +kernel), List.mem_of_getElem? (i := 507) (by decide +kernel), List.mem_of_getElem? (i := 508) (by decide +kernel)⟩
theorem lw_p3 : lw_okq (⟨"ShapePour$Reader", "fail", "(I)V"⟩, 10) := ⟨⟨by decide +kernel, by decide +kernel⟩, List.mem_of_getElem? (i := 284) (by decide +kernel), List.mem_of_getElem? (i := 517) (by decide +kernel), List.mem_of_getElem? (i := 518) (by decide +kernel)⟩
theorem lw_p4 : lw_okq (⟨"ShapePour$Reader", "head", "()V"⟩, 10) := ⟨⟨by decide +kernel, by decide +kernel⟩, List.mem_of_getElem? (i := 284) (by decide +kernel), List.mem_of_getElem? (i := 608) (by decide +kernel), List.mem_of_getElem? (i := 609) (by decide +kernel)⟩
theorem lw_p5 : lw_okq (⟨"ShapePour$Reader", "name", "(Ljava/lang/String;)V"⟩, 10) := ⟨⟨by decide +kernel, by decide +kernel⟩, List.mem_of_getElem? (i := 284) (by decide +kernel), List.mem_of_getElem? (i := 613) (by decide +kernel), List.mem_of_getElem? (i := 614) (by decide +kernel)⟩
theorem lw_p6 : lw_okq (⟨"ShapePour$Reader", "isWord", "(Ljava/lang/String;)Z"⟩, 10) := ⟨⟨by decide +kernel, by decide +kernel⟩, List.mem_of_getElem? (i := 284) (by decide +kernel), List.mem_of_getElem? (i := 617) (by decide +kernel), List.mem_of_getElem? (i := 618) (by decide +kernel)⟩
theorem lw_p7 : lw_okq (⟨"ShapePour$Reader", "number", "(II)I"⟩, 10) := ⟨⟨by decide +kernel, by decide +kernel⟩, List.mem_of_getElem? (i := 284) (by decide +kernel), List.mem_of_getElem? (i := 643) (by decide +kernel), List.mem_of_getElem? (i := 644) (by decide +kernel)⟩
theorem lw_p8 : lw_okq (⟨"ShapePour$Reader", "sign", "(I)V"⟩, 10) := ⟨⟨by decide +kernel, by decide +kernel⟩, List.mem_of_getElem? (i := 284) (by decide +kernel), List.mem_of_getElem? (i := 651) (by decide +kernel), List.mem_of_getElem? (i := 652) (by decide +kernel)⟩
theorem lw_p9 : lw_okq (⟨"ShapePour$Reader", "line", "()V"⟩, 10) := ⟨⟨by decide +kernel, by decide +kernel⟩, List.mem_of_getElem? (i := 284) (by decide +kernel), List.mem_of_getElem? (i := 655) (by decide +kernel), List.mem_of_getElem? (i := 656) (by decide +kernel)⟩
theorem lw_p10 : lw_okq (⟨"ShapePour$Reader", "outline", "(I)V"⟩, 10) := ⟨⟨by decide +kernel, by decide +kernel⟩, List.mem_of_getElem? (i := 284) (by decide +kernel), List.mem_of_getElem? (i := 660) (by decide +kernel), List.mem_of_getElem? (i := 661) (by decide +kernel)⟩
theorem lw_p11 : lw_okq (⟨"ShapePour$Reader", "tieLine", "()V"⟩, 10) := ⟨⟨by decide +kernel, by decide +kernel⟩, List.mem_of_getElem? (i := 284) (by decide +kernel), List.mem_of_getElem? (i := 667) (by decide +kernel), List.mem_of_getElem? (i := 668) (by decide +kernel)⟩
theorem lw_p12 : lw_okq (⟨"ShapePour$Reader", "wordsLine", "()V"⟩, 10) := ⟨⟨by decide +kernel, by decide +kernel⟩, List.mem_of_getElem? (i := 284) (by decide +kernel), List.mem_of_getElem? (i := 672) (by decide +kernel), List.mem_of_getElem? (i := 673) (by decide +kernel)⟩
theorem lw_p13 : lw_okq (⟨"ShapePour$Reader", "lawLine", "(LShapePour$Law;)V"⟩, 10) := ⟨⟨by decide +kernel, by decide +kernel⟩, List.mem_of_getElem? (i := 284) (by decide +kernel), List.mem_of_getElem? (i := 676) (by decide +kernel), List.mem_of_getElem? (i := 677) (by decide +kernel)⟩
theorem lw_p14 : lw_okq (⟨"ShapePour$Reader", "sum", "(I)V"⟩, 10) := ⟨⟨by decide +kernel, by decide +kernel⟩, List.mem_of_getElem? (i := 284) (by decide +kernel), List.mem_of_getElem? (i := 680) (by decide +kernel), List.mem_of_getElem? (i := 681) (by decide +kernel)⟩
theorem lw_p15 : lw_okq (⟨"ShapePour$Reader", "term", "(I)V"⟩, 10) := ⟨⟨by decide +kernel, by decide +kernel⟩, List.mem_of_getElem? (i := 284) (by decide +kernel), List.mem_of_getElem? (i := 684) (by decide +kernel), List.mem_of_getElem? (i := 685) (by decide +kernel)⟩
def lw_privs_1 : List (MethodName × Nat) := [(⟨"ShapePour", "putBytes", "(I)V"⟩, 19), (⟨"ShapePour", "sparePage", "()I"⟩, 19), (⟨"ShapePour$Reader", "next", "()V"⟩, 10), (⟨"ShapePour$Reader", "fail", "(I)V"⟩, 10), (⟨"ShapePour$Reader", "head", "()V"⟩, 10), (⟨"ShapePour$Reader", "name", "(Ljava/lang/String;)V"⟩, 10), (⟨"ShapePour$Reader", "isWord", "(Ljava/lang/String;)Z"⟩, 10), (⟨"ShapePour$Reader", "number", "(II)I"⟩, 10), (⟨"ShapePour$Reader", "sign", "(I)V"⟩, 10), (⟨"ShapePour$Reader", "line", "()V"⟩, 10), (⟨"ShapePour$Reader", "outline", "(I)V"⟩, 10), (⟨"ShapePour$Reader", "tieLine", "()V"⟩, 10), (⟨"ShapePour$Reader", "wordsLine", "()V"⟩, 10), (⟨"ShapePour$Reader", "lawLine", "(LShapePour$Law;)V"⟩, 10), (⟨"ShapePour$Reader", "sum", "(I)V"⟩, 10), (⟨"ShapePour$Reader", "term", "(I)V"⟩, 10)]
theorem lw_r1 : ∀ q ∈ lw_privs_1, lw_okq q := List.forall_mem_cons.mpr ⟨lw_p0, List.forall_mem_cons.mpr ⟨lw_p1, List.forall_mem_cons.mpr ⟨lw_p2, List.forall_mem_cons.mpr ⟨lw_p3, List.forall_mem_cons.mpr ⟨lw_p4, List.forall_mem_cons.mpr ⟨lw_p5, List.forall_mem_cons.mpr ⟨lw_p6, List.forall_mem_cons.mpr ⟨lw_p7, List.forall_mem_cons.mpr ⟨lw_p8, List.forall_mem_cons.mpr ⟨lw_p9, List.forall_mem_cons.mpr ⟨lw_p10, List.forall_mem_cons.mpr ⟨lw_p11, List.forall_mem_cons.mpr ⟨lw_p12, List.forall_mem_cons.mpr ⟨lw_p13, List.forall_mem_cons.mpr ⟨lw_p14, List.forall_mem_cons.mpr ⟨lw_p15, fun _ h => absurd h List.not_mem_nil⟩⟩⟩⟩⟩⟩⟩⟩⟩⟩⟩⟩⟩⟩⟩⟩
theorem lw_p16 : lw_okq (⟨"ShapePour$Reader", "atom", "(I)V"⟩, 10) := ⟨⟨by decide +kernel, by decide +kernel⟩, List.mem_of_getElem? (i := 284) (by decide +kernel), List.mem_of_getElem? (i := 688) (by decide +kernel), List.mem_of_getElem? (i := 689) (by decide +kernel)⟩
theorem lw_p17 : lw_okq (⟨"ShapePour$Reader", "goesIn", "(I)Z"⟩, 10) := ⟨⟨by decide +kernel, by decide +kernel⟩, List.mem_of_getElem? (i := 284) (by decide +kernel), List.mem_of_getElem? (i := 696) (by decide +kernel), List.mem_of_getElem? (i := 697) (by decide +kernel)⟩
theorem lw_p18 : lw_okq (⟨"ShapePour$Reader", "choice", "(I)V"⟩, 10) := ⟨⟨by decide +kernel, by decide +kernel⟩, List.mem_of_getElem? (i := 284) (by decide +kernel), List.mem_of_getElem? (i := 701) (by decide +kernel), List.mem_of_getElem? (i := 702) (by decide +kernel)⟩
theorem lw_p19 : lw_okq (⟨"ShapePour$Reader", "truth", "(I)V"⟩, 10) := ⟨⟨by decide +kernel, by decide +kernel⟩, List.mem_of_getElem? (i := 284) (by decide +kernel), List.mem_of_getElem? (i := 705) (by decide +kernel), List.mem_of_getElem? (i := 706) (by decide +kernel)⟩
theorem lw_p20 : lw_okq (⟨"ShapePour$Reader", "both", "(I)V"⟩, 10) := ⟨⟨by decide +kernel, by decide +kernel⟩, List.mem_of_getElem? (i := 284) (by decide +kernel), List.mem_of_getElem? (i := 709) (by decide +kernel), List.mem_of_getElem? (i := 710) (by decide +kernel)⟩
theorem lw_p21 : lw_okq (⟨"ShapePour$Reader", "unit", "(I)V"⟩, 10) := ⟨⟨by decide +kernel, by decide +kernel⟩, List.mem_of_getElem? (i := 284) (by decide +kernel), List.mem_of_getElem? (i := 713) (by decide +kernel), List.mem_of_getElem? (i := 714) (by decide +kernel)⟩
theorem lw_p22 : lw_okq (⟨"ShapePour$Reader", "about", "()I"⟩, 10) := ⟨⟨by decide +kernel, by decide +kernel⟩, List.mem_of_getElem? (i := 284) (by decide +kernel), List.mem_of_getElem? (i := 723) (by decide +kernel), List.mem_of_getElem? (i := 724) (by decide +kernel)⟩
theorem lw_p23 : lw_okq (⟨"ShapePour", "goOnFrom", "(ILShapePour$State;)V"⟩, 19) := ⟨⟨by decide +kernel, by decide +kernel⟩, List.mem_of_getElem? (i := 22) (by decide +kernel), List.mem_of_getElem? (i := 733) (by decide +kernel), List.mem_of_getElem? (i := 734) (by decide +kernel)⟩
theorem lw_p24 : lw_okq (⟨"ShapePour", "current", "()LShapePour$Page;"⟩, 19) := ⟨⟨by decide +kernel, by decide +kernel⟩, List.mem_of_getElem? (i := 22) (by decide +kernel), List.mem_of_getElem? (i := 753) (by decide +kernel), List.mem_of_getElem? (i := 754) (by decide +kernel)⟩
theorem lw_p25 : lw_okq (⟨"ShapePour", "isShape", "(I)Z"⟩, 19) := ⟨⟨by decide +kernel, by decide +kernel⟩, List.mem_of_getElem? (i := 22) (by decide +kernel), List.mem_of_getElem? (i := 761) (by decide +kernel), List.mem_of_getElem? (i := 762) (by decide +kernel)⟩
theorem lw_p26 : lw_okq (⟨"ShapePour", "setting", "()LShapePour$Setting;"⟩, 19) := ⟨⟨by decide +kernel, by decide +kernel⟩, List.mem_of_getElem? (i := 22) (by decide +kernel), List.mem_of_getElem? (i := 765) (by decide +kernel), List.mem_of_getElem? (i := 766) (by decide +kernel)⟩
theorem lw_p27 : lw_okq (⟨"ShapePour$Law", "work", "(II)I"⟩, 4) := ⟨⟨by decide +kernel, by decide +kernel⟩, List.mem_of_getElem? (i := 164) (by decide +kernel), List.mem_of_getElem? (i := 781) (by decide +kernel), List.mem_of_getElem? (i := 782) (by decide +kernel)⟩
theorem lw_p28 : lw_okq (⟨"ShapePour$Setting", "setFreeShapes", "(I)Z"⟩, 13) := ⟨⟨by decide +kernel, by decide +kernel⟩, List.mem_of_getElem? (i := 323) (by decide +kernel), List.mem_of_getElem? (i := 802) (by decide +kernel), List.mem_of_getElem? (i := 803) (by decide +kernel)⟩
theorem lw_p29 : lw_okq (⟨"ShapePour$Setting", "pour", "()V"⟩, 13) := ⟨⟨by decide +kernel, by decide +kernel⟩, List.mem_of_getElem? (i := 323) (by decide +kernel), List.mem_of_getElem? (i := 806) (by decide +kernel), List.mem_of_getElem? (i := 807) (by decide +kernel)⟩
theorem lw_p30 : lw_okq (⟨"ShapePour$Setting", "cut", "(I)V"⟩, 13) := ⟨⟨by decide +kernel, by decide +kernel⟩, List.mem_of_getElem? (i := 323) (by decide +kernel), List.mem_of_getElem? (i := 815) (by decide +kernel), List.mem_of_getElem? (i := 816) (by decide +kernel)⟩
theorem lw_p31 : lw_okq (⟨"ShapePour$Slots", "addSlot", "(III)V"⟩, 10) := ⟨⟨by decide +kernel, by decide +kernel⟩, List.mem_of_getElem? (i := 329) (by decide +kernel), List.mem_of_getElem? (i := 848) (by decide +kernel), List.mem_of_getElem? (i := 849) (by decide +kernel)⟩
def lw_privs_2 : List (MethodName × Nat) := [(⟨"ShapePour$Reader", "atom", "(I)V"⟩, 10), (⟨"ShapePour$Reader", "goesIn", "(I)Z"⟩, 10), (⟨"ShapePour$Reader", "choice", "(I)V"⟩, 10), (⟨"ShapePour$Reader", "truth", "(I)V"⟩, 10), (⟨"ShapePour$Reader", "both", "(I)V"⟩, 10), (⟨"ShapePour$Reader", "unit", "(I)V"⟩, 10), (⟨"ShapePour$Reader", "about", "()I"⟩, 10), (⟨"ShapePour", "goOnFrom", "(ILShapePour$State;)V"⟩, 19), (⟨"ShapePour", "current", "()LShapePour$Page;"⟩, 19), (⟨"ShapePour", "isShape", "(I)Z"⟩, 19), (⟨"ShapePour", "setting", "()LShapePour$Setting;"⟩, 19), (⟨"ShapePour$Law", "work", "(II)I"⟩, 4), (⟨"ShapePour$Setting", "setFreeShapes", "(I)Z"⟩, 13), (⟨"ShapePour$Setting", "pour", "()V"⟩, 13), (⟨"ShapePour$Setting", "cut", "(I)V"⟩, 13), (⟨"ShapePour$Slots", "addSlot", "(III)V"⟩, 10)]
theorem lw_r2 : ∀ q ∈ lw_privs_2, lw_okq q := List.forall_mem_cons.mpr ⟨lw_p16, List.forall_mem_cons.mpr ⟨lw_p17, List.forall_mem_cons.mpr ⟨lw_p18, List.forall_mem_cons.mpr ⟨lw_p19, List.forall_mem_cons.mpr ⟨lw_p20, List.forall_mem_cons.mpr ⟨lw_p21, List.forall_mem_cons.mpr ⟨lw_p22, List.forall_mem_cons.mpr ⟨lw_p23, List.forall_mem_cons.mpr ⟨lw_p24, List.forall_mem_cons.mpr ⟨lw_p25, List.forall_mem_cons.mpr ⟨lw_p26, List.forall_mem_cons.mpr ⟨lw_p27, List.forall_mem_cons.mpr ⟨lw_p28, List.forall_mem_cons.mpr ⟨lw_p29, List.forall_mem_cons.mpr ⟨lw_p30, List.forall_mem_cons.mpr ⟨lw_p31, fun _ h => absurd h List.not_mem_nil⟩⟩⟩⟩⟩⟩⟩⟩⟩⟩⟩⟩⟩⟩⟩⟩
theorem lw_p32 : lw_okq (⟨"ShapePour$Setting", "fill", "(II)I"⟩, 13) := ⟨⟨by decide +kernel, by decide +kernel⟩, List.mem_of_getElem? (i := 323) (by decide +kernel), List.mem_of_getElem? (i := 853) (by decide +kernel), List.mem_of_getElem? (i := 854) (by decide +kernel)⟩
theorem lw_p33 : lw_okq (⟨"ShapePour$Setting", "mark", "()V"⟩, 13) := ⟨⟨by decide +kernel, by decide +kernel⟩, List.mem_of_getElem? (i := 323) (by decide +kernel), List.mem_of_getElem? (i := 865) (by decide +kernel), List.mem_of_getElem? (i := 866) (by decide +kernel)⟩
theorem lw_p34 : lw_okq (⟨"ShapePour$Setting", "setTiedShapes", "()V"⟩, 13) := ⟨⟨by decide +kernel, by decide +kernel⟩, List.mem_of_getElem? (i := 323) (by decide +kernel), List.mem_of_getElem? (i := 873) (by decide +kernel), List.mem_of_getElem? (i := 874) (by decide +kernel)⟩
theorem lw_p35 : lw_okq (⟨"ShapePour$Setting", "weigh", "()V"⟩, 13) := ⟨⟨by decide +kernel, by decide +kernel⟩, List.mem_of_getElem? (i := 323) (by decide +kernel), List.mem_of_getElem? (i := 877) (by decide +kernel), List.mem_of_getElem? (i := 878) (by decide +kernel)⟩
theorem lw_p36 : lw_okq (⟨"ShapePour$Setting", "isAsIn", "(I)Z"⟩, 13) := ⟨⟨by decide +kernel, by decide +kernel⟩, List.mem_of_getElem? (i := 323) (by decide +kernel), List.mem_of_getElem? (i := 881) (by decide +kernel), List.mem_of_getElem? (i := 882) (by decide +kernel)⟩
theorem lw_p37 : lw_okq (⟨"ShapePour", "isWord", "(I)Z"⟩, 19) := ⟨⟨by decide +kernel, by decide +kernel⟩, List.mem_of_getElem? (i := 22) (by decide +kernel), List.mem_of_getElem? (i := 893) (by decide +kernel), List.mem_of_getElem? (i := 894) (by decide +kernel)⟩
theorem lw_p38 : lw_okq (⟨"ShapePour", "wideNow", "(I)I"⟩, 19) := ⟨⟨by decide +kernel, by decide +kernel⟩, List.mem_of_getElem? (i := 22) (by decide +kernel), List.mem_of_getElem? (i := 897) (by decide +kernel), List.mem_of_getElem? (i := 898) (by decide +kernel)⟩
theorem lw_p39 : lw_okq (⟨"ShapePour", "isLine", "(I)Z"⟩, 19) := ⟨⟨by decide +kernel, by decide +kernel⟩, List.mem_of_getElem? (i := 22) (by decide +kernel), List.mem_of_getElem? (i := 908) (by decide +kernel), List.mem_of_getElem? (i := 909) (by decide +kernel)⟩
theorem lw_p40 : lw_okq (⟨"ShapePour", "takeDraft", "()V"⟩, 19) := ⟨⟨by decide +kernel, by decide +kernel⟩, List.mem_of_getElem? (i := 22) (by decide +kernel), List.mem_of_getElem? (i := 941) (by decide +kernel), List.mem_of_getElem? (i := 942) (by decide +kernel)⟩
theorem lw_p41 : lw_okq (⟨"ShapePour", "draftDeeds", "(I)I"⟩, 19) := ⟨⟨by decide +kernel, by decide +kernel⟩, List.mem_of_getElem? (i := 22) (by decide +kernel), List.mem_of_getElem? (i := 994) (by decide +kernel), List.mem_of_getElem? (i := 995) (by decide +kernel)⟩
theorem lw_p42 : lw_okq (⟨"ShapePour", "tryDraft", "(I)V"⟩, 19) := ⟨⟨by decide +kernel, by decide +kernel⟩, List.mem_of_getElem? (i := 22) (by decide +kernel), List.mem_of_getElem? (i := 1012) (by decide +kernel), List.mem_of_getElem? (i := 1013) (by decide +kernel)⟩
theorem lw_p43 : lw_okq (⟨"ShapePour", "drawnDeed", "()I"⟩, 19) := ⟨⟨by decide +kernel, by decide +kernel⟩, List.mem_of_getElem? (i := 22) (by decide +kernel), List.mem_of_getElem? (i := 1034) (by decide +kernel), List.mem_of_getElem? (i := 1035) (by decide +kernel)⟩
theorem lw_p44 : lw_okq (⟨"ShapePour", "draw", "()I"⟩, 19) := ⟨⟨by decide +kernel, by decide +kernel⟩, List.mem_of_getElem? (i := 22) (by decide +kernel), List.mem_of_getElem? (i := 1038) (by decide +kernel), List.mem_of_getElem? (i := 1039) (by decide +kernel)⟩
theorem lw_p45 : lw_okq (⟨"ShapePour$Breaks", "takeUpTo", "(IILShapePour$Setting;I)V"⟩, 5) := ⟨⟨by decide +kernel, by decide +kernel⟩, List.mem_of_getElem? (i := 92) (by decide +kernel), List.mem_of_getElem? (i := 1089) (by decide +kernel), List.mem_of_getElem? (i := 1090) (by decide +kernel)⟩
theorem lw_p46 : lw_okq (⟨"ShapePour$Breaks", "offer", "(IIJ)V"⟩, 5) := ⟨⟨by decide +kernel, by decide +kernel⟩, List.mem_of_getElem? (i := 92) (by decide +kernel), List.mem_of_getElem? (i := 1094) (by decide +kernel), List.mem_of_getElem? (i := 1095) (by decide +kernel)⟩
theorem lw_p47 : lw_okq (⟨"ShapePour", "seenBy", "(I)I"⟩, 19) := ⟨⟨by decide +kernel, by decide +kernel⟩, List.mem_of_getElem? (i := 22) (by decide +kernel), List.mem_of_getElem? (i := 1152) (by decide +kernel), List.mem_of_getElem? (i := 1153) (by decide +kernel)⟩
def lw_privs_3 : List (MethodName × Nat) := [(⟨"ShapePour$Setting", "fill", "(II)I"⟩, 13), (⟨"ShapePour$Setting", "mark", "()V"⟩, 13), (⟨"ShapePour$Setting", "setTiedShapes", "()V"⟩, 13), (⟨"ShapePour$Setting", "weigh", "()V"⟩, 13), (⟨"ShapePour$Setting", "isAsIn", "(I)Z"⟩, 13), (⟨"ShapePour", "isWord", "(I)Z"⟩, 19), (⟨"ShapePour", "wideNow", "(I)I"⟩, 19), (⟨"ShapePour", "isLine", "(I)Z"⟩, 19), (⟨"ShapePour", "takeDraft", "()V"⟩, 19), (⟨"ShapePour", "draftDeeds", "(I)I"⟩, 19), (⟨"ShapePour", "tryDraft", "(I)V"⟩, 19), (⟨"ShapePour", "drawnDeed", "()I"⟩, 19), (⟨"ShapePour", "draw", "()I"⟩, 19), (⟨"ShapePour$Breaks", "takeUpTo", "(IILShapePour$Setting;I)V"⟩, 5), (⟨"ShapePour$Breaks", "offer", "(IIJ)V"⟩, 5), (⟨"ShapePour", "seenBy", "(I)I"⟩, 19)]
theorem lw_r3 : ∀ q ∈ lw_privs_3, lw_okq q := List.forall_mem_cons.mpr ⟨lw_p32, List.forall_mem_cons.mpr ⟨lw_p33, List.forall_mem_cons.mpr ⟨lw_p34, List.forall_mem_cons.mpr ⟨lw_p35, List.forall_mem_cons.mpr ⟨lw_p36, List.forall_mem_cons.mpr ⟨lw_p37, List.forall_mem_cons.mpr ⟨lw_p38, List.forall_mem_cons.mpr ⟨lw_p39, List.forall_mem_cons.mpr ⟨lw_p40, List.forall_mem_cons.mpr ⟨lw_p41, List.forall_mem_cons.mpr ⟨lw_p42, List.forall_mem_cons.mpr ⟨lw_p43, List.forall_mem_cons.mpr ⟨lw_p44, List.forall_mem_cons.mpr ⟨lw_p45, List.forall_mem_cons.mpr ⟨lw_p46, List.forall_mem_cons.mpr ⟨lw_p47, fun _ h => absurd h List.not_mem_nil⟩⟩⟩⟩⟩⟩⟩⟩⟩⟩⟩⟩⟩⟩⟩⟩
theorem lw_p48 : lw_okq (⟨"ShapePour", "drawLots", "(I)V"⟩, 19) := ⟨⟨by decide +kernel, by decide +kernel⟩, List.mem_of_getElem? (i := 22) (by decide +kernel), List.mem_of_getElem? (i := 1180) (by decide +kernel), List.mem_of_getElem? (i := 1181) (by decide +kernel)⟩
theorem lw_p49 : lw_okq (⟨"ShapePour", "addDraw", "(I)V"⟩, 19) := ⟨⟨by decide +kernel, by decide +kernel⟩, List.mem_of_getElem? (i := 22) (by decide +kernel), List.mem_of_getElem? (i := 1184) (by decide +kernel), List.mem_of_getElem? (i := 1185) (by decide +kernel)⟩
theorem lw_p50 : lw_okq (⟨"ShapePour", "lotBit", "(I)I"⟩, 19) := ⟨⟨by decide +kernel, by decide +kernel⟩, List.mem_of_getElem? (i := 22) (by decide +kernel), List.mem_of_getElem? (i := 1188) (by decide +kernel), List.mem_of_getElem? (i := 1189) (by decide +kernel)⟩
theorem lw_p51 : lw_okq (⟨"ShapePourModel", "next", "()V"⟩, 59) := ⟨⟨by decide +kernel, by decide +kernel⟩, List.mem_of_getElem? (i := 1261) (by decide +kernel), List.mem_of_getElem? (i := 1460) (by decide +kernel), List.mem_of_getElem? (i := 1461) (by decide +kernel)⟩
theorem lw_p52 : lw_okq (⟨"ShapePourModel", "see", "(I)I"⟩, 59) := ⟨⟨by decide +kernel, by decide +kernel⟩, List.mem_of_getElem? (i := 1261) (by decide +kernel), List.mem_of_getElem? (i := 1464) (by decide +kernel), List.mem_of_getElem? (i := 1465) (by decide +kernel)⟩
theorem lw_p53 : lw_okq (⟨"ShapePourModel", "keyAt", "()I"⟩, 59) := ⟨⟨by decide +kernel, by decide +kernel⟩, List.mem_of_getElem? (i := 1261) (by decide +kernel), List.mem_of_getElem? (i := 1471) (by decide +kernel), List.mem_of_getElem? (i := 1472) (by decide +kernel)⟩
theorem lw_p54 : lw_okq (⟨"ShapePourModel", "readPage", "()V"⟩, 59) := ⟨⟨by decide +kernel, by decide +kernel⟩, List.mem_of_getElem? (i := 1261) (by decide +kernel), List.mem_of_getElem? (i := 1482) (by decide +kernel), List.mem_of_getElem? (i := 1483) (by decide +kernel)⟩
theorem lw_p55 : lw_okq (⟨"ShapePourModel", "eats", "(I)Z"⟩, 59) := ⟨⟨by decide +kernel, by decide +kernel⟩, List.mem_of_getElem? (i := 1261) (by decide +kernel), List.mem_of_getElem? (i := 1486) (by decide +kernel), List.mem_of_getElem? (i := 1487) (by decide +kernel)⟩
theorem lw_p56 : lw_okq (⟨"ShapePourModel", "is", "(I)Z"⟩, 59) := ⟨⟨by decide +kernel, by decide +kernel⟩, List.mem_of_getElem? (i := 1261) (by decide +kernel), List.mem_of_getElem? (i := 1490) (by decide +kernel), List.mem_of_getElem? (i := 1491) (by decide +kernel)⟩
theorem lw_p57 : lw_okq (⟨"ShapePourModel", "fails", "(I)V"⟩, 59) := ⟨⟨by decide +kernel, by decide +kernel⟩, List.mem_of_getElem? (i := 1261) (by decide +kernel), List.mem_of_getElem? (i := 1494) (by decide +kernel), List.mem_of_getElem? (i := 1495) (by decide +kernel)⟩
theorem lw_p58 : lw_okq (⟨"ShapePourModel", "takes", "(II)I"⟩, 59) := ⟨⟨by decide +kernel, by decide +kernel⟩, List.mem_of_getElem? (i := 1261) (by decide +kernel), List.mem_of_getElem? (i := 1498) (by decide +kernel), List.mem_of_getElem? (i := 1499) (by decide +kernel)⟩
theorem lw_p59 : lw_okq (⟨"ShapePourModel", "closes", "()V"⟩, 59) := ⟨⟨by decide +kernel, by decide +kernel⟩, List.mem_of_getElem? (i := 1261) (by decide +kernel), List.mem_of_getElem? (i := 1502) (by decide +kernel), List.mem_of_getElem? (i := 1503) (by decide +kernel)⟩
theorem lw_p60 : lw_okq (⟨"ShapePourModel", "readLine", "()V"⟩, 59) := ⟨⟨by decide +kernel, by decide +kernel⟩, List.mem_of_getElem? (i := 1261) (by decide +kernel), List.mem_of_getElem? (i := 1506) (by decide +kernel), List.mem_of_getElem? (i := 1507) (by decide +kernel)⟩
theorem lw_p61 : lw_okq (⟨"ShapePourModel", "readShape", "()V"⟩, 59) := ⟨⟨by decide +kernel, by decide +kernel⟩, List.mem_of_getElem? (i := 1261) (by decide +kernel), List.mem_of_getElem? (i := 1510) (by decide +kernel), List.mem_of_getElem? (i := 1511) (by decide +kernel)⟩
theorem lw_p62 : lw_okq (⟨"ShapePourModel", "readTie", "()V"⟩, 59) := ⟨⟨by decide +kernel, by decide +kernel⟩, List.mem_of_getElem? (i := 1261) (by decide +kernel), List.mem_of_getElem? (i := 1514) (by decide +kernel), List.mem_of_getElem? (i := 1515) (by decide +kernel)⟩
theorem lw_p63 : lw_okq (⟨"ShapePourModel", "readWords", "()V"⟩, 59) := ⟨⟨by decide +kernel, by decide +kernel⟩, List.mem_of_getElem? (i := 1261) (by decide +kernel), List.mem_of_getElem? (i := 1518) (by decide +kernel), List.mem_of_getElem? (i := 1519) (by decide +kernel)⟩
def lw_privs_4 : List (MethodName × Nat) := [(⟨"ShapePour", "drawLots", "(I)V"⟩, 19), (⟨"ShapePour", "addDraw", "(I)V"⟩, 19), (⟨"ShapePour", "lotBit", "(I)I"⟩, 19), (⟨"ShapePourModel", "next", "()V"⟩, 59), (⟨"ShapePourModel", "see", "(I)I"⟩, 59), (⟨"ShapePourModel", "keyAt", "()I"⟩, 59), (⟨"ShapePourModel", "readPage", "()V"⟩, 59), (⟨"ShapePourModel", "eats", "(I)Z"⟩, 59), (⟨"ShapePourModel", "is", "(I)Z"⟩, 59), (⟨"ShapePourModel", "fails", "(I)V"⟩, 59), (⟨"ShapePourModel", "takes", "(II)I"⟩, 59), (⟨"ShapePourModel", "closes", "()V"⟩, 59), (⟨"ShapePourModel", "readLine", "()V"⟩, 59), (⟨"ShapePourModel", "readShape", "()V"⟩, 59), (⟨"ShapePourModel", "readTie", "()V"⟩, 59), (⟨"ShapePourModel", "readWords", "()V"⟩, 59)]
theorem lw_r4 : ∀ q ∈ lw_privs_4, lw_okq q := List.forall_mem_cons.mpr ⟨lw_p48, List.forall_mem_cons.mpr ⟨lw_p49, List.forall_mem_cons.mpr ⟨lw_p50, List.forall_mem_cons.mpr ⟨lw_p51, List.forall_mem_cons.mpr ⟨lw_p52, List.forall_mem_cons.mpr ⟨lw_p53, List.forall_mem_cons.mpr ⟨lw_p54, List.forall_mem_cons.mpr ⟨lw_p55, List.forall_mem_cons.mpr ⟨lw_p56, List.forall_mem_cons.mpr ⟨lw_p57, List.forall_mem_cons.mpr ⟨lw_p58, List.forall_mem_cons.mpr ⟨lw_p59, List.forall_mem_cons.mpr ⟨lw_p60, List.forall_mem_cons.mpr ⟨lw_p61, List.forall_mem_cons.mpr ⟨lw_p62, List.forall_mem_cons.mpr ⟨lw_p63, fun _ h => absurd h List.not_mem_nil⟩⟩⟩⟩⟩⟩⟩⟩⟩⟩⟩⟩⟩⟩⟩⟩
theorem lw_p64 : lw_okq (⟨"ShapePourModel", "readLaw", "(I)V"⟩, 59) := ⟨⟨by decide +kernel, by decide +kernel⟩, List.mem_of_getElem? (i := 1261) (by decide +kernel), List.mem_of_getElem? (i := 1522) (by decide +kernel), List.mem_of_getElem? (i := 1523) (by decide +kernel)⟩
theorem lw_p65 : lw_okq (⟨"ShapePourModel", "readSum", "(I)V"⟩, 59) := ⟨⟨by decide +kernel, by decide +kernel⟩, List.mem_of_getElem? (i := 1261) (by decide +kernel), List.mem_of_getElem? (i := 1526) (by decide +kernel), List.mem_of_getElem? (i := 1527) (by decide +kernel)⟩
theorem lw_p66 : lw_okq (⟨"ShapePourModel", "readTerm", "(I)V"⟩, 59) := ⟨⟨by decide +kernel, by decide +kernel⟩, List.mem_of_getElem? (i := 1261) (by decide +kernel), List.mem_of_getElem? (i := 1530) (by decide +kernel), List.mem_of_getElem? (i := 1531) (by decide +kernel)⟩
theorem lw_p67 : lw_okq (⟨"ShapePourModel", "readAtom", "(I)V"⟩, 59) := ⟨⟨by decide +kernel, by decide +kernel⟩, List.mem_of_getElem? (i := 1261) (by decide +kernel), List.mem_of_getElem? (i := 1534) (by decide +kernel), List.mem_of_getElem? (i := 1535) (by decide +kernel)⟩
theorem lw_p68 : lw_okq (⟨"ShapePourModel", "codes", "(I)V"⟩, 59) := ⟨⟨by decide +kernel, by decide +kernel⟩, List.mem_of_getElem? (i := 1261) (by decide +kernel), List.mem_of_getElem? (i := 1538) (by decide +kernel), List.mem_of_getElem? (i := 1539) (by decide +kernel)⟩
theorem lw_p69 : lw_okq (⟨"ShapePourModel", "wordOf", "(I)I"⟩, 59) := ⟨⟨by decide +kernel, by decide +kernel⟩, List.mem_of_getElem? (i := 1261) (by decide +kernel), List.mem_of_getElem? (i := 1542) (by decide +kernel), List.mem_of_getElem? (i := 1543) (by decide +kernel)⟩
theorem lw_p70 : lw_okq (⟨"ShapePourModel", "goesIn", "(I)Z"⟩, 59) := ⟨⟨by decide +kernel, by decide +kernel⟩, List.mem_of_getElem? (i := 1261) (by decide +kernel), List.mem_of_getElem? (i := 1546) (by decide +kernel), List.mem_of_getElem? (i := 1547) (by decide +kernel)⟩
theorem lw_p71 : lw_okq (⟨"ShapePourModel", "readIf", "(I)V"⟩, 59) := ⟨⟨by decide +kernel, by decide +kernel⟩, List.mem_of_getElem? (i := 1261) (by decide +kernel), List.mem_of_getElem? (i := 1550) (by decide +kernel), List.mem_of_getElem? (i := 1551) (by decide +kernel)⟩
theorem lw_p72 : lw_okq (⟨"ShapePourModel", "readTruth", "(I)V"⟩, 59) := ⟨⟨by decide +kernel, by decide +kernel⟩, List.mem_of_getElem? (i := 1261) (by decide +kernel), List.mem_of_getElem? (i := 1554) (by decide +kernel), List.mem_of_getElem? (i := 1555) (by decide +kernel)⟩
theorem lw_p73 : lw_okq (⟨"ShapePourModel", "readBoth", "(I)V"⟩, 59) := ⟨⟨by decide +kernel, by decide +kernel⟩, List.mem_of_getElem? (i := 1261) (by decide +kernel), List.mem_of_getElem? (i := 1558) (by decide +kernel), List.mem_of_getElem? (i := 1559) (by decide +kernel)⟩
theorem lw_p74 : lw_okq (⟨"ShapePourModel", "readUnit", "(I)V"⟩, 59) := ⟨⟨by decide +kernel, by decide +kernel⟩, List.mem_of_getElem? (i := 1261) (by decide +kernel), List.mem_of_getElem? (i := 1562) (by decide +kernel), List.mem_of_getElem? (i := 1563) (by decide +kernel)⟩
theorem lw_p75 : lw_okq (⟨"ShapePourModel", "isShape", "(J)Z"⟩, 59) := ⟨⟨by decide +kernel, by decide +kernel⟩, List.mem_of_getElem? (i := 1261) (by decide +kernel), List.mem_of_getElem? (i := 1579) (by decide +kernel), List.mem_of_getElem? (i := 1580) (by decide +kernel)⟩
theorem lw_p76 : lw_okq (⟨"ShapePourModel", "setsNow", "()V"⟩, 59) := ⟨⟨by decide +kernel, by decide +kernel⟩, List.mem_of_getElem? (i := 1261) (by decide +kernel), List.mem_of_getElem? (i := 1583) (by decide +kernel), List.mem_of_getElem? (i := 1584) (by decide +kernel)⟩
theorem lw_p77 : lw_okq (⟨"ShapePourModel", "asks", "()V"⟩, 59) := ⟨⟨by decide +kernel, by decide +kernel⟩, List.mem_of_getElem? (i := 1261) (by decide +kernel), List.mem_of_getElem? (i := 1587) (by decide +kernel), List.mem_of_getElem? (i := 1588) (by decide +kernel)⟩
theorem lw_p78 : lw_okq (⟨"ShapePourModel", "sets", "()V"⟩, 59) := ⟨⟨by decide +kernel, by decide +kernel⟩, List.mem_of_getElem? (i := 1261) (by decide +kernel), List.mem_of_getElem? (i := 1591) (by decide +kernel), List.mem_of_getElem? (i := 1592) (by decide +kernel)⟩
theorem lw_p79 : lw_okq (⟨"ShapePourModel", "isTied", "(I)Z"⟩, 59) := ⟨⟨by decide +kernel, by decide +kernel⟩, List.mem_of_getElem? (i := 1261) (by decide +kernel), List.mem_of_getElem? (i := 1595) (by decide +kernel), List.mem_of_getElem? (i := 1596) (by decide +kernel)⟩
def lw_privs_5 : List (MethodName × Nat) := [(⟨"ShapePourModel", "readLaw", "(I)V"⟩, 59), (⟨"ShapePourModel", "readSum", "(I)V"⟩, 59), (⟨"ShapePourModel", "readTerm", "(I)V"⟩, 59), (⟨"ShapePourModel", "readAtom", "(I)V"⟩, 59), (⟨"ShapePourModel", "codes", "(I)V"⟩, 59), (⟨"ShapePourModel", "wordOf", "(I)I"⟩, 59), (⟨"ShapePourModel", "goesIn", "(I)Z"⟩, 59), (⟨"ShapePourModel", "readIf", "(I)V"⟩, 59), (⟨"ShapePourModel", "readTruth", "(I)V"⟩, 59), (⟨"ShapePourModel", "readBoth", "(I)V"⟩, 59), (⟨"ShapePourModel", "readUnit", "(I)V"⟩, 59), (⟨"ShapePourModel", "isShape", "(J)Z"⟩, 59), (⟨"ShapePourModel", "setsNow", "()V"⟩, 59), (⟨"ShapePourModel", "asks", "()V"⟩, 59), (⟨"ShapePourModel", "sets", "()V"⟩, 59), (⟨"ShapePourModel", "isTied", "(I)Z"⟩, 59)]
theorem lw_r5 : ∀ q ∈ lw_privs_5, lw_okq q := List.forall_mem_cons.mpr ⟨lw_p64, List.forall_mem_cons.mpr ⟨lw_p65, List.forall_mem_cons.mpr ⟨lw_p66, List.forall_mem_cons.mpr ⟨lw_p67, List.forall_mem_cons.mpr ⟨lw_p68, List.forall_mem_cons.mpr ⟨lw_p69, List.forall_mem_cons.mpr ⟨lw_p70, List.forall_mem_cons.mpr ⟨lw_p71, List.forall_mem_cons.mpr ⟨lw_p72, List.forall_mem_cons.mpr ⟨lw_p73, List.forall_mem_cons.mpr ⟨lw_p74, List.forall_mem_cons.mpr ⟨lw_p75, List.forall_mem_cons.mpr ⟨lw_p76, List.forall_mem_cons.mpr ⟨lw_p77, List.forall_mem_cons.mpr ⟨lw_p78, List.forall_mem_cons.mpr ⟨lw_p79, fun _ h => absurd h List.not_mem_nil⟩⟩⟩⟩⟩⟩⟩⟩⟩⟩⟩⟩⟩⟩⟩⟩
theorem lw_p80 : lw_okq (⟨"ShapePourModel", "goesRound", "()V"⟩, 59) := ⟨⟨by decide +kernel, by decide +kernel⟩, List.mem_of_getElem? (i := 1261) (by decide +kernel), List.mem_of_getElem? (i := 1602) (by decide +kernel), List.mem_of_getElem? (i := 1603) (by decide +kernel)⟩
theorem lw_p81 : lw_okq (⟨"ShapePourModel", "heightIn", "(II)I"⟩, 59) := ⟨⟨by decide +kernel, by decide +kernel⟩, List.mem_of_getElem? (i := 1261) (by decide +kernel), List.mem_of_getElem? (i := 1606) (by decide +kernel), List.mem_of_getElem? (i := 1607) (by decide +kernel)⟩
theorem lw_p82 : lw_okq (⟨"ShapePourModel", "pours", "()V"⟩, 59) := ⟨⟨by decide +kernel, by decide +kernel⟩, List.mem_of_getElem? (i := 1261) (by decide +kernel), List.mem_of_getElem? (i := 1610) (by decide +kernel), List.mem_of_getElem? (i := 1611) (by decide +kernel)⟩
theorem lw_p83 : lw_okq (⟨"ShapePourModel", "laysSlots", "()V"⟩, 59) := ⟨⟨by decide +kernel, by decide +kernel⟩, List.mem_of_getElem? (i := 1261) (by decide +kernel), List.mem_of_getElem? (i := 1614) (by decide +kernel), List.mem_of_getElem? (i := 1615) (by decide +kernel)⟩
theorem lw_p84 : lw_okq (⟨"ShapePourModel", "laysLine", "(I)V"⟩, 59) := ⟨⟨by decide +kernel, by decide +kernel⟩, List.mem_of_getElem? (i := 1261) (by decide +kernel), List.mem_of_getElem? (i := 1618) (by decide +kernel), List.mem_of_getElem? (i := 1619) (by decide +kernel)⟩
theorem lw_p85 : lw_okq (⟨"ShapePourModel", "isSpanned", "(III)Z"⟩, 59) := ⟨⟨by decide +kernel, by decide +kernel⟩, List.mem_of_getElem? (i := 1261) (by decide +kernel), List.mem_of_getElem? (i := 1622) (by decide +kernel), List.mem_of_getElem? (i := 1623) (by decide +kernel)⟩
theorem lw_p86 : lw_okq (⟨"ShapePourModel", "spansBy", "(IF)V"⟩, 59) := ⟨⟨by decide +kernel, by decide +kernel⟩, List.mem_of_getElem? (i := 1261) (by decide +kernel), List.mem_of_getElem? (i := 1630) (by decide +kernel), List.mem_of_getElem? (i := 1631) (by decide +kernel)⟩
theorem lw_p87 : lw_okq (⟨"ShapePourModel", "gapOf", "(II)I"⟩, 59) := ⟨⟨by decide +kernel, by decide +kernel⟩, List.mem_of_getElem? (i := 1261) (by decide +kernel), List.mem_of_getElem? (i := 1640) (by decide +kernel), List.mem_of_getElem? (i := 1641) (by decide +kernel)⟩
theorem lw_p88 : lw_okq (⟨"ShapePourModel", "reckons", "(I)I"⟩, 59) := ⟨⟨by decide +kernel, by decide +kernel⟩, List.mem_of_getElem? (i := 1261) (by decide +kernel), List.mem_of_getElem? (i := 1644) (by decide +kernel), List.mem_of_getElem? (i := 1645) (by decide +kernel)⟩
theorem lw_p89 : lw_okq (⟨"ShapePourModel", "widthOf", "(II)I"⟩, 59) := ⟨⟨by decide +kernel, by decide +kernel⟩, List.mem_of_getElem? (i := 1261) (by decide +kernel), List.mem_of_getElem? (i := 1653) (by decide +kernel), List.mem_of_getElem? (i := 1654) (by decide +kernel)⟩
theorem lw_p90 : lw_okq (⟨"ShapePourModel", "isShown", "(I)Z"⟩, 59) := ⟨⟨by decide +kernel, by decide +kernel⟩, List.mem_of_getElem? (i := 1261) (by decide +kernel), List.mem_of_getElem? (i := 1657) (by decide +kernel), List.mem_of_getElem? (i := 1658) (by decide +kernel)⟩
theorem lw_p91 : lw_okq (⟨"ShapePourModel", "lineOf", "(I)I"⟩, 59) := ⟨⟨by decide +kernel, by decide +kernel⟩, List.mem_of_getElem? (i := 1261) (by decide +kernel), List.mem_of_getElem? (i := 1661) (by decide +kernel), List.mem_of_getElem? (i := 1662) (by decide +kernel)⟩
theorem lw_p92 : lw_okq (⟨"ShapePourModel", "areAlike", "(II)Z"⟩, 59) := ⟨⟨by decide +kernel, by decide +kernel⟩, List.mem_of_getElem? (i := 1261) (by decide +kernel), List.mem_of_getElem? (i := 1665) (by decide +kernel), List.mem_of_getElem? (i := 1666) (by decide +kernel)⟩
theorem lw_p93 : lw_okq (⟨"ShapePourModel", "isWord", "(J)Z"⟩, 59) := ⟨⟨by decide +kernel, by decide +kernel⟩, List.mem_of_getElem? (i := 1261) (by decide +kernel), List.mem_of_getElem? (i := 1673) (by decide +kernel), List.mem_of_getElem? (i := 1674) (by decide +kernel)⟩
theorem lw_p94 : lw_okq (⟨"ShapePourModel", "isRow", "(J)Z"⟩, 59) := ⟨⟨by decide +kernel, by decide +kernel⟩, List.mem_of_getElem? (i := 1261) (by decide +kernel), List.mem_of_getElem? (i := 1681) (by decide +kernel), List.mem_of_getElem? (i := 1682) (by decide +kernel)⟩
theorem lw_p95 : lw_okq (⟨"ShapePourModel", "firstSlot", "(I)I"⟩, 59) := ⟨⟨by decide +kernel, by decide +kernel⟩, List.mem_of_getElem? (i := 1261) (by decide +kernel), List.mem_of_getElem? (i := 1696) (by decide +kernel), List.mem_of_getElem? (i := 1697) (by decide +kernel)⟩
def lw_privs_6 : List (MethodName × Nat) := [(⟨"ShapePourModel", "goesRound", "()V"⟩, 59), (⟨"ShapePourModel", "heightIn", "(II)I"⟩, 59), (⟨"ShapePourModel", "pours", "()V"⟩, 59), (⟨"ShapePourModel", "laysSlots", "()V"⟩, 59), (⟨"ShapePourModel", "laysLine", "(I)V"⟩, 59), (⟨"ShapePourModel", "isSpanned", "(III)Z"⟩, 59), (⟨"ShapePourModel", "spansBy", "(IF)V"⟩, 59), (⟨"ShapePourModel", "gapOf", "(II)I"⟩, 59), (⟨"ShapePourModel", "reckons", "(I)I"⟩, 59), (⟨"ShapePourModel", "widthOf", "(II)I"⟩, 59), (⟨"ShapePourModel", "isShown", "(I)Z"⟩, 59), (⟨"ShapePourModel", "lineOf", "(I)I"⟩, 59), (⟨"ShapePourModel", "areAlike", "(II)Z"⟩, 59), (⟨"ShapePourModel", "isWord", "(J)Z"⟩, 59), (⟨"ShapePourModel", "isRow", "(J)Z"⟩, 59), (⟨"ShapePourModel", "firstSlot", "(I)I"⟩, 59)]
theorem lw_r6 : ∀ q ∈ lw_privs_6, lw_okq q := List.forall_mem_cons.mpr ⟨lw_p80, List.forall_mem_cons.mpr ⟨lw_p81, List.forall_mem_cons.mpr ⟨lw_p82, List.forall_mem_cons.mpr ⟨lw_p83, List.forall_mem_cons.mpr ⟨lw_p84, List.forall_mem_cons.mpr ⟨lw_p85, List.forall_mem_cons.mpr ⟨lw_p86, List.forall_mem_cons.mpr ⟨lw_p87, List.forall_mem_cons.mpr ⟨lw_p88, List.forall_mem_cons.mpr ⟨lw_p89, List.forall_mem_cons.mpr ⟨lw_p90, List.forall_mem_cons.mpr ⟨lw_p91, List.forall_mem_cons.mpr ⟨lw_p92, List.forall_mem_cons.mpr ⟨lw_p93, List.forall_mem_cons.mpr ⟨lw_p94, List.forall_mem_cons.mpr ⟨lw_p95, fun _ h => absurd h List.not_mem_nil⟩⟩⟩⟩⟩⟩⟩⟩⟩⟩⟩⟩⟩⟩⟩⟩
theorem lw_p96 : lw_okq (⟨"ShapePourModel", "whyMove", "(JJJ)I"⟩, 59) := ⟨⟨by decide +kernel, by decide +kernel⟩, List.mem_of_getElem? (i := 1261) (by decide +kernel), List.mem_of_getElem? (i := 1708) (by decide +kernel), List.mem_of_getElem? (i := 1709) (by decide +kernel)⟩
theorem lw_p97 : lw_okq (⟨"ShapePourModel", "stores", "()V"⟩, 59) := ⟨⟨by decide +kernel, by decide +kernel⟩, List.mem_of_getElem? (i := 1261) (by decide +kernel), List.mem_of_getElem? (i := 1716) (by decide +kernel), List.mem_of_getElem? (i := 1717) (by decide +kernel)⟩
theorem lw_p98 : lw_okq (⟨"ShapePourModel", "notes", "()V"⟩, 59) := ⟨⟨by decide +kernel, by decide +kernel⟩, List.mem_of_getElem? (i := 1261) (by decide +kernel), List.mem_of_getElem? (i := 1720) (by decide +kernel), List.mem_of_getElem? (i := 1721) (by decide +kernel)⟩
theorem lw_p99 : lw_okq (⟨"ShapePourModel", "noTray", "(I)I"⟩, 59) := ⟨⟨by decide +kernel, by decide +kernel⟩, List.mem_of_getElem? (i := 1261) (by decide +kernel), List.mem_of_getElem? (i := 1748) (by decide +kernel), List.mem_of_getElem? (i := 1749) (by decide +kernel)⟩
theorem lw_p100 : lw_okq (⟨"ShapePourModel", "tells", "(I)I"⟩, 59) := ⟨⟨by decide +kernel, by decide +kernel⟩, List.mem_of_getElem? (i := 1261) (by decide +kernel), List.mem_of_getElem? (i := 1752) (by decide +kernel), List.mem_of_getElem? (i := 1753) (by decide +kernel)⟩
theorem lw_p101 : lw_okq (⟨"ShapePourModel", "whyNot", "(J)I"⟩, 59) := ⟨⟨by decide +kernel, by decide +kernel⟩, List.mem_of_getElem? (i := 1261) (by decide +kernel), List.mem_of_getElem? (i := 1756) (by decide +kernel), List.mem_of_getElem? (i := 1757) (by decide +kernel)⟩
theorem lw_p102 : lw_okq (⟨"ShapePourModel", "does", "(I)V"⟩, 59) := ⟨⟨by decide +kernel, by decide +kernel⟩, List.mem_of_getElem? (i := 1261) (by decide +kernel), List.mem_of_getElem? (i := 1770) (by decide +kernel), List.mem_of_getElem? (i := 1771) (by decide +kernel)⟩
theorem lw_p103 : lw_okq (⟨"ShapePourModel", "isAgain", "()V"⟩, 59) := ⟨⟨by decide +kernel, by decide +kernel⟩, List.mem_of_getElem? (i := 1261) (by decide +kernel), List.mem_of_getElem? (i := 1774) (by decide +kernel), List.mem_of_getElem? (i := 1775) (by decide +kernel)⟩
theorem lw_p104 : lw_okq (⟨"ShapePourModel", "placedNow", "()I"⟩, 59) := ⟨⟨by decide +kernel, by decide +kernel⟩, List.mem_of_getElem? (i := 1261) (by decide +kernel), List.mem_of_getElem? (i := 1778) (by decide +kernel), List.mem_of_getElem? (i := 1779) (by decide +kernel)⟩
theorem lw_p105 : lw_okq (⟨"ShapePourModel", "lastNow", "()I"⟩, 59) := ⟨⟨by decide +kernel, by decide +kernel⟩, List.mem_of_getElem? (i := 1261) (by decide +kernel), List.mem_of_getElem? (i := 1782) (by decide +kernel), List.mem_of_getElem? (i := 1783) (by decide +kernel)⟩
theorem lw_p106 : lw_okq (⟨"ShapePourModel", "drawn", "()I"⟩, 59) := ⟨⟨by decide +kernel, by decide +kernel⟩, List.mem_of_getElem? (i := 1261) (by decide +kernel), List.mem_of_getElem? (i := 1795) (by decide +kernel), List.mem_of_getElem? (i := 1796) (by decide +kernel)⟩
theorem lw_p107 : lw_okq (⟨"ShapePourModel", "draw", "(I)I"⟩, 59) := ⟨⟨by decide +kernel, by decide +kernel⟩, List.mem_of_getElem? (i := 1261) (by decide +kernel), List.mem_of_getElem? (i := 1799) (by decide +kernel), List.mem_of_getElem? (i := 1800) (by decide +kernel)⟩
theorem lw_p108 : lw_okq (⟨"ShapePourModel", "laysPlaced", "()V"⟩, 59) := ⟨⟨by decide +kernel, by decide +kernel⟩, List.mem_of_getElem? (i := 1261) (by decide +kernel), List.mem_of_getElem? (i := 1824) (by decide +kernel), List.mem_of_getElem? (i := 1825) (by decide +kernel)⟩
theorem lw_p109 : lw_okq (⟨"ShapePourModel", "leftIn", "(III)I"⟩, 59) := ⟨⟨by decide +kernel, by decide +kernel⟩, List.mem_of_getElem? (i := 1261) (by decide +kernel), List.mem_of_getElem? (i := 1828) (by decide +kernel), List.mem_of_getElem? (i := 1829) (by decide +kernel)⟩
theorem lw_p110 : lw_okq (⟨"ShapePourModel", "laysTight", "()V"⟩, 59) := ⟨⟨by decide +kernel, by decide +kernel⟩, List.mem_of_getElem? (i := 1261) (by decide +kernel), List.mem_of_getElem? (i := 1836) (by decide +kernel), List.mem_of_getElem? (i := 1837) (by decide +kernel)⟩
theorem lw_p111 : lw_okq (⟨"ShapePourModel", "takesSlot", "(I)V"⟩, 59) := ⟨⟨by decide +kernel, by decide +kernel⟩, List.mem_of_getElem? (i := 1261) (by decide +kernel), List.mem_of_getElem? (i := 1841) (by decide +kernel), List.mem_of_getElem? (i := 1842) (by decide +kernel)⟩
def lw_privs_7 : List (MethodName × Nat) := [(⟨"ShapePourModel", "whyMove", "(JJJ)I"⟩, 59), (⟨"ShapePourModel", "stores", "()V"⟩, 59), (⟨"ShapePourModel", "notes", "()V"⟩, 59), (⟨"ShapePourModel", "noTray", "(I)I"⟩, 59), (⟨"ShapePourModel", "tells", "(I)I"⟩, 59), (⟨"ShapePourModel", "whyNot", "(J)I"⟩, 59), (⟨"ShapePourModel", "does", "(I)V"⟩, 59), (⟨"ShapePourModel", "isAgain", "()V"⟩, 59), (⟨"ShapePourModel", "placedNow", "()I"⟩, 59), (⟨"ShapePourModel", "lastNow", "()I"⟩, 59), (⟨"ShapePourModel", "drawn", "()I"⟩, 59), (⟨"ShapePourModel", "draw", "(I)I"⟩, 59), (⟨"ShapePourModel", "laysPlaced", "()V"⟩, 59), (⟨"ShapePourModel", "leftIn", "(III)I"⟩, 59), (⟨"ShapePourModel", "laysTight", "()V"⟩, 59), (⟨"ShapePourModel", "takesSlot", "(I)V"⟩, 59)]
theorem lw_r7 : ∀ q ∈ lw_privs_7, lw_okq q := List.forall_mem_cons.mpr ⟨lw_p96, List.forall_mem_cons.mpr ⟨lw_p97, List.forall_mem_cons.mpr ⟨lw_p98, List.forall_mem_cons.mpr ⟨lw_p99, List.forall_mem_cons.mpr ⟨lw_p100, List.forall_mem_cons.mpr ⟨lw_p101, List.forall_mem_cons.mpr ⟨lw_p102, List.forall_mem_cons.mpr ⟨lw_p103, List.forall_mem_cons.mpr ⟨lw_p104, List.forall_mem_cons.mpr ⟨lw_p105, List.forall_mem_cons.mpr ⟨lw_p106, List.forall_mem_cons.mpr ⟨lw_p107, List.forall_mem_cons.mpr ⟨lw_p108, List.forall_mem_cons.mpr ⟨lw_p109, List.forall_mem_cons.mpr ⟨lw_p110, List.forall_mem_cons.mpr ⟨lw_p111, fun _ h => absurd h List.not_mem_nil⟩⟩⟩⟩⟩⟩⟩⟩⟩⟩⟩⟩⟩⟩⟩⟩
theorem lw_p112 : lw_okq (⟨"ShapePourModel", "betters", "(IIJ)V"⟩, 59) := ⟨⟨by decide +kernel, by decide +kernel⟩, List.mem_of_getElem? (i := 1261) (by decide +kernel), List.mem_of_getElem? (i := 1845) (by decide +kernel), List.mem_of_getElem? (i := 1846) (by decide +kernel)⟩
theorem lw_p113 : lw_okq (⟨"ShapePourModel", "shownNow", "()I"⟩, 59) := ⟨⟨by decide +kernel, by decide +kernel⟩, List.mem_of_getElem? (i := 1261) (by decide +kernel), List.mem_of_getElem? (i := 1870) (by decide +kernel), List.mem_of_getElem? (i := 1871) (by decide +kernel)⟩
theorem lw_p114 : lw_okq (⟨"ShapePourModel", "noSeen", "(I)I"⟩, 59) := ⟨⟨by decide +kernel, by decide +kernel⟩, List.mem_of_getElem? (i := 1261) (by decide +kernel), List.mem_of_getElem? (i := 1890) (by decide +kernel), List.mem_of_getElem? (i := 1891) (by decide +kernel)⟩
theorem lw_p115 : lw_okq (⟨"ShapePourModel", "inksOf", "(I)I"⟩, 59) := ⟨⟨by decide +kernel, by decide +kernel⟩, List.mem_of_getElem? (i := 1261) (by decide +kernel), List.mem_of_getElem? (i := 1895) (by decide +kernel), List.mem_of_getElem? (i := 1896) (by decide +kernel)⟩
theorem lw_p116 : lw_okq (⟨"ShapePourModel", "mostAlike", "(II)I"⟩, 59) := ⟨⟨by decide +kernel, by decide +kernel⟩, List.mem_of_getElem? (i := 1261) (by decide +kernel), List.mem_of_getElem? (i := 1903) (by decide +kernel), List.mem_of_getElem? (i := 1904) (by decide +kernel)⟩
theorem lw_p117 : lw_okq (⟨"ShapePourModel", "part", "(ZII)I"⟩, 59) := ⟨⟨by decide +kernel, by decide +kernel⟩, List.mem_of_getElem? (i := 1261) (by decide +kernel), List.mem_of_getElem? (i := 1911) (by decide +kernel), List.mem_of_getElem? (i := 1912) (by decide +kernel)⟩
theorem lw_p118 : lw_okq (⟨"ShapePourModel", "goesLots", "(IIJ)V"⟩, 59) := ⟨⟨by decide +kernel, by decide +kernel⟩, List.mem_of_getElem? (i := 1261) (by decide +kernel), List.mem_of_getElem? (i := 1915) (by decide +kernel), List.mem_of_getElem? (i := 1916) (by decide +kernel)⟩
theorem lw_p119 : lw_okq (⟨"ShapePourModel", "tiedSet", "()I"⟩, 59) := ⟨⟨by decide +kernel, by decide +kernel⟩, List.mem_of_getElem? (i := 1261) (by decide +kernel), List.mem_of_getElem? (i := 1969) (by decide +kernel), List.mem_of_getElem? (i := 1970) (by decide +kernel)⟩
def lw_privs_8 : List (MethodName × Nat) := [(⟨"ShapePourModel", "betters", "(IIJ)V"⟩, 59), (⟨"ShapePourModel", "shownNow", "()I"⟩, 59), (⟨"ShapePourModel", "noSeen", "(I)I"⟩, 59), (⟨"ShapePourModel", "inksOf", "(I)I"⟩, 59), (⟨"ShapePourModel", "mostAlike", "(II)I"⟩, 59), (⟨"ShapePourModel", "part", "(ZII)I"⟩, 59), (⟨"ShapePourModel", "goesLots", "(IIJ)V"⟩, 59), (⟨"ShapePourModel", "tiedSet", "()I"⟩, 59)]
theorem lw_r8 : ∀ q ∈ lw_privs_8, lw_okq q := List.forall_mem_cons.mpr ⟨lw_p112, List.forall_mem_cons.mpr ⟨lw_p113, List.forall_mem_cons.mpr ⟨lw_p114, List.forall_mem_cons.mpr ⟨lw_p115, List.forall_mem_cons.mpr ⟨lw_p116, List.forall_mem_cons.mpr ⟨lw_p117, List.forall_mem_cons.mpr ⟨lw_p118, List.forall_mem_cons.mpr ⟨lw_p119, fun _ h => absurd h List.not_mem_nil⟩⟩⟩⟩⟩⟩⟩⟩
def lw_privs : List (MethodName × Nat) := lw_privs_1 ++ (lw_privs_2 ++ (lw_privs_3 ++ (lw_privs_4 ++ (lw_privs_5 ++ (lw_privs_6 ++ (lw_privs_7 ++ (lw_privs_8)))))))
def lw_tbl : List Cond := k2_sels lw_privs ++ tables_1
theorem lw_privs_ok : ∀ q ∈ lw_privs, lw_okq q := by
  show ∀ q ∈ lw_privs_1 ++ (lw_privs_2 ++ (lw_privs_3 ++ (lw_privs_4 ++ (lw_privs_5 ++ (lw_privs_6 ++ (lw_privs_7 ++ (lw_privs_8))))))), lw_okq q
  exact List.forall_mem_append.mpr ⟨lw_r1, List.forall_mem_append.mpr ⟨lw_r2, List.forall_mem_append.mpr ⟨lw_r3, List.forall_mem_append.mpr ⟨lw_r4, List.forall_mem_append.mpr ⟨lw_r5, List.forall_mem_append.mpr ⟨lw_r6, List.forall_mem_append.mpr ⟨lw_r7, lw_r8⟩⟩⟩⟩⟩⟩⟩
/-- the streams that the claim lets the run draw from -/
abbrev lw_cs : List Choice := [Jvm.Choice.named "NaN.bits"]
theorem lw_bits : nanBits ∈ lw_cs := by first | decide | exact List.mem_cons_self | simp [lw_cs, nanBits]
end
section
def RX0 : String := "ShapePour$Breaks"
def TX0 : u_T := fun k => match k with
  | 0 => ("ShapePour$Breaks", "wides", "[I", true)
  | 1 => ("ShapePour$Breaks", "leastOf", "[I", true)
  | 2 => ("ShapePour$Breaks", "waysOf", "[J", true)
  | 3 => ("ShapePour$Breaks", "least", "I", false)
  | _ => ("ShapePour$Breaks", "many", "J", false)
def tyX0 : Nat → FieldType := fun k => match k with
  | 0 => .array .int
  | 1 => .array .int
  | 2 => .array .long
  | 3 => .int
  | _ => .long
theorem nmX0 : ∀ a, a < 5 → ∀ b, b < 5 → a ≠ b → (TX0 a).2.1 ≠ (TX0 b).2.1 := by decide +kernel
theorem tyX0_ok : ∀ k, k < 5 → parseFieldDescriptor (TX0 k).2.2.1 = some (tyX0 k) := by decide +kernel
abbrev cX0_init : ByteArray := prog_2_method_1_code
def yX0_init : MethodName := ⟨RX0, "<init>", "()V"⟩
abbrev cX0_find : ByteArray := prog_2_method_2_code
def yX0_find : MethodName := ⟨RX0, "find", "(LShapePour$Setting;)V"⟩
abbrev cX0_takeUpTo : ByteArray := prog_2_method_3_code
def yX0_takeUpTo : MethodName := ⟨RX0, "takeUpTo", "(IILShapePour$Setting;I)V"⟩
abbrev cX0_offer : ByteArray := prog_2_method_4_code
def yX0_offer : MethodName := ⟨RX0, "offer", "(IIJ)V"⟩
def RX1 : String := "ShapePour$Drawer"
def TX1 : u_T := fun k => match k with
  | 0 => ("ShapePour$Drawer", "kind", "I", false)
  | 1 => ("ShapePour$Drawer", "places", "I", false)
  | 2 => ("ShapePour$Drawer", "x", "[I", true)
  | _ => ("ShapePour$Drawer", "y", "[I", true)
def tyX1 : Nat → FieldType := fun k => match k with
  | 0 => .int
  | 1 => .int
  | 2 => .array .int
  | _ => .array .int
theorem nmX1 : ∀ a, a < 4 → ∀ b, b < 4 → a ≠ b → (TX1 a).2.1 ≠ (TX1 b).2.1 := by decide +kernel
theorem tyX1_ok : ∀ k, k < 4 → parseFieldDescriptor (TX1 k).2.2.1 = some (tyX1 k) := by decide +kernel
abbrev cX1_init : ByteArray := prog_3_method_1_code
def yX1_init : MethodName := ⟨RX1, "<init>", "()V"⟩
abbrev cX1_build : ByteArray := prog_3_method_2_code
def yX1_build : MethodName := ⟨RX1, "build", "(II)V"⟩
abbrev cX1_refusal : ByteArray := prog_3_method_3_code
def yX1_refusal : MethodName := ⟨RX1, "refusal", "(I)I"⟩
def RX2 : String := "ShapePour$Law"
def TX2 : u_T := fun k => match k with
  | 0 => ("ShapePour$Law", "code", "[I", true)
  | 1 => ("ShapePour$Law", "of", "[I", true)
  | 2 => ("ShapePour$Law", "stack", "[I", true)
  | _ => ("ShapePour$Law", "length", "I", false)
def tyX2 : Nat → FieldType := fun k => match k with
  | 0 => .array .int
  | 1 => .array .int
  | 2 => .array .int
  | _ => .int
theorem nmX2 : ∀ a, a < 4 → ∀ b, b < 4 → a ≠ b → (TX2 a).2.1 ≠ (TX2 b).2.1 := by decide +kernel
theorem tyX2_ok : ∀ k, k < 4 → parseFieldDescriptor (TX2 k).2.2.1 = some (tyX2 k) := by decide +kernel
abbrev cX2_init : ByteArray := prog_4_method_1_code
def yX2_init : MethodName := ⟨RX2, "<init>", "()V"⟩
abbrev cX2_add : ByteArray := prog_4_method_2_code
def yX2_add : MethodName := ⟨RX2, "add", "(I)V"⟩
abbrev cX2_tell : ByteArray := prog_4_method_3_code
def yX2_tell : MethodName := ⟨RX2, "tell", "(IIII)I"⟩
abbrev cX2_work : ByteArray := prog_4_method_4_code
def yX2_work : MethodName := ⟨RX2, "work", "(II)I"⟩
abbrev cX2_within : ByteArray := prog_4_method_5_code
def yX2_within : MethodName := ⟨RX2, "within", "(III)I"⟩
def RX3 : String := "ShapePour$Page"
def TX3 : u_T := fun k => match k with
  | 0 => ("ShapePour$Page", "wide", "I", false)
  | 1 => ("ShapePour$Page", "lines", "I", false)
  | 2 => ("ShapePour$Page", "high", "I", false)
  | 3 => ("ShapePour$Page", "least", "I", false)
  | 4 => ("ShapePour$Page", "told", "I", false)
  | 5 => ("ShapePour$Page", "shapes", "I", false)
  | 6 => ("ShapePour$Page", "kind", "[I", true)
  | 7 => ("ShapePour$Page", "across", "[I", true)
  | 8 => ("ShapePour$Page", "tall", "[I", true)
  | 9 => ("ShapePour$Page", "words", "I", false)
  | 10 => ("ShapePour$Page", "letters", "[I", true)
  | 11 => ("ShapePour$Page", "first", "[I", true)
  | 12 => ("ShapePour$Page", "start", "LShapePour$State;", true)
  | 13 => ("ShapePour$Page", "wideLaw", "LShapePour$Law;", true)
  | 14 => ("ShapePour$Page", "gapLaw", "LShapePour$Law;", true)
  | 15 => ("ShapePour$Page", "wides", "[I", true)
  | 16 => ("ShapePour$Page", "gaps", "[I", true)
  | 17 => ("ShapePour$Page", "widesKnown", "I", false)
  | _ => ("ShapePour$Page", "gapsKnown", "I", false)
def tyX3 : Nat → FieldType := fun k => match k with
  | 0 => .int
  | 1 => .int
  | 2 => .int
  | 3 => .int
  | 4 => .int
  | 5 => .int
  | 6 => .array .int
  | 7 => .array .int
  | 8 => .array .int
  | 9 => .int
  | 10 => .array .int
  | 11 => .array .int
  | 12 => .object "ShapePour$State"
  | 13 => .object "ShapePour$Law"
  | 14 => .object "ShapePour$Law"
  | 15 => .array .int
  | 16 => .array .int
  | 17 => .int
  | _ => .int
theorem nmX3 : ∀ a, a < 19 → ∀ b, b < 19 → a ≠ b → (TX3 a).2.1 ≠ (TX3 b).2.1 := by decide +kernel
theorem tyX3_ok : ∀ k, k < 19 → parseFieldDescriptor (TX3 k).2.2.1 = some (tyX3 k) := by decide +kernel
abbrev cX3_init : ByteArray := prog_5_method_1_code
def yX3_init : MethodName := ⟨RX3, "<init>", "()V"⟩
abbrev cX3_clear : ByteArray := prog_5_method_2_code
def yX3_clear : MethodName := ⟨RX3, "clear", "()V"⟩
abbrev cX3_learnWides : ByteArray := prog_5_method_3_code
def yX3_learnWides : MethodName := ⟨RX3, "learnWides", "(I)V"⟩
abbrev cX3_learnGaps : ByteArray := prog_5_method_4_code
def yX3_learnGaps : MethodName := ⟨RX3, "learnGaps", "(I)V"⟩
abbrev cX3_wideOf : ByteArray := prog_5_method_5_code
def yX3_wideOf : MethodName := ⟨RX3, "wideOf", "(II)I"⟩
abbrev cX3_gapOf : ByteArray := prog_5_method_6_code
def yX3_gapOf : MethodName := ⟨RX3, "gapOf", "(III)I"⟩
abbrev cX3_inksBy : ByteArray := prog_5_method_7_code
def yX3_inksBy : MethodName := ⟨RX3, "inksBy", "(II)I"⟩
abbrev cX3_mostAlike : ByteArray := prog_5_method_8_code
def yX3_mostAlike : MethodName := ⟨RX3, "mostAlike", "(II)I"⟩
abbrev cX3_reach : ByteArray := prog_5_method_9_code
def yX3_reach : MethodName := ⟨RX3, "reach", "(III)I"⟩
abbrev cX3_rootUp : ByteArray := prog_5_method_10_code
def yX3_rootUp : MethodName := ⟨RX3, "rootUp", "(I)I"⟩
def RX4 : String := "ShapePour$Past"
def TX4 : u_T := fun k => match k with
  | 0 => ("ShapePour$Past", "ring", "[LShapePour$State;", true)
  | 1 => ("ShapePour$Past", "next", "I", false)
  | _ => ("ShapePour$Past", "depth", "I", false)
def tyX4 : Nat → FieldType := fun k => match k with
  | 0 => .array (.object "ShapePour$State")
  | 1 => .int
  | _ => .int
theorem nmX4 : ∀ a, a < 3 → ∀ b, b < 3 → a ≠ b → (TX4 a).2.1 ≠ (TX4 b).2.1 := by decide +kernel
theorem tyX4_ok : ∀ k, k < 3 → parseFieldDescriptor (TX4 k).2.2.1 = some (tyX4 k) := by decide +kernel
abbrev cX4_init : ByteArray := prog_6_method_1_code
def yX4_init : MethodName := ⟨RX4, "<init>", "()V"⟩
abbrev cX4_forget : ByteArray := prog_6_method_2_code
def yX4_forget : MethodName := ⟨RX4, "forget", "()V"⟩
abbrev cX4_push : ByteArray := prog_6_method_3_code
def yX4_push : MethodName := ⟨RX4, "push", "(LShapePour$State;)V"⟩
abbrev cX4_bringBack : ByteArray := prog_6_method_4_code
def yX4_bringBack : MethodName := ⟨RX4, "bringBack", "(ILShapePour$State;)V"⟩
def RX5 : String := "ShapePour$Reader"
def TX5 : u_T := fun k => match k with
  | 0 => ("ShapePour$Reader", "text", "[B", true)
  | 1 => ("ShapePour$Reader", "length", "I", false)
  | 2 => ("ShapePour$Reader", "token", "I", false)
  | 3 => ("ShapePour$Reader", "start", "I", false)
  | 4 => ("ShapePour$Reader", "end", "I", false)
  | 5 => ("ShapePour$Reader", "value", "I", false)
  | 6 => ("ShapePour$Reader", "page", "LShapePour$Page;", false)
  | 7 => ("ShapePour$Reader", "law", "LShapePour$Law;", false)
  | 8 => ("ShapePour$Reader", "fault", "I", false)
  | _ => ("ShapePour$Reader", "faultAt", "I", false)
def tyX5 : Nat → FieldType := fun k => match k with
  | 0 => .array .byte
  | 1 => .int
  | 2 => .int
  | 3 => .int
  | 4 => .int
  | 5 => .int
  | 6 => .object "ShapePour$Page"
  | 7 => .object "ShapePour$Law"
  | 8 => .int
  | _ => .int
theorem nmX5 : ∀ a, a < 10 → ∀ b, b < 10 → a ≠ b → (TX5 a).2.1 ≠ (TX5 b).2.1 := by decide +kernel
theorem tyX5_ok : ∀ k, k < 10 → parseFieldDescriptor (TX5 k).2.2.1 = some (tyX5 k) := by decide +kernel
abbrev cX5_init : ByteArray := prog_7_method_1_code
def yX5_init : MethodName := ⟨RX5, "<init>", "([BLShapePour$Page;)V"⟩
abbrev cX5_read : ByteArray := prog_7_method_2_code
def yX5_read : MethodName := ⟨RX5, "read", "(ILShapePour$Page;)V"⟩
abbrev cX5_fail : ByteArray := prog_7_method_3_code
def yX5_fail : MethodName := ⟨RX5, "fail", "(I)V"⟩
abbrev cX5_isLetter : ByteArray := prog_7_method_4_code
def yX5_isLetter : MethodName := ⟨RX5, "isLetter", "(I)Z"⟩
abbrev cX5_isDigit : ByteArray := prog_7_method_5_code
def yX5_isDigit : MethodName := ⟨RX5, "isDigit", "(I)Z"⟩
abbrev cX5_next : ByteArray := prog_7_method_6_code
def yX5_next : MethodName := ⟨RX5, "next", "()V"⟩
abbrev cX5_isWord : ByteArray := prog_7_method_7_code
def yX5_isWord : MethodName := ⟨RX5, "isWord", "(Ljava/lang/String;)Z"⟩
abbrev cX5_sign : ByteArray := prog_7_method_8_code
def yX5_sign : MethodName := ⟨RX5, "sign", "(I)V"⟩
abbrev cX5_name : ByteArray := prog_7_method_9_code
def yX5_name : MethodName := ⟨RX5, "name", "(Ljava/lang/String;)V"⟩
abbrev cX5_number : ByteArray := prog_7_method_10_code
def yX5_number : MethodName := ⟨RX5, "number", "(II)I"⟩
abbrev cX5_head : ByteArray := prog_7_method_11_code
def yX5_head : MethodName := ⟨RX5, "head", "()V"⟩
abbrev cX5_line : ByteArray := prog_7_method_12_code
def yX5_line : MethodName := ⟨RX5, "line", "()V"⟩
abbrev cX5_outline : ByteArray := prog_7_method_13_code
def yX5_outline : MethodName := ⟨RX5, "outline", "(I)V"⟩
abbrev cX5_tieLine : ByteArray := prog_7_method_14_code
def yX5_tieLine : MethodName := ⟨RX5, "tieLine", "()V"⟩
abbrev cX5_wordsLine : ByteArray := prog_7_method_15_code
def yX5_wordsLine : MethodName := ⟨RX5, "wordsLine", "()V"⟩
abbrev cX5_lawLine : ByteArray := prog_7_method_16_code
def yX5_lawLine : MethodName := ⟨RX5, "lawLine", "(LShapePour$Law;)V"⟩
abbrev cX5_sum : ByteArray := prog_7_method_17_code
def yX5_sum : MethodName := ⟨RX5, "sum", "(I)V"⟩
abbrev cX5_term : ByteArray := prog_7_method_18_code
def yX5_term : MethodName := ⟨RX5, "term", "(I)V"⟩
abbrev cX5_atom : ByteArray := prog_7_method_19_code
def yX5_atom : MethodName := ⟨RX5, "atom", "(I)V"⟩
abbrev cX5_goesIn : ByteArray := prog_7_method_20_code
def yX5_goesIn : MethodName := ⟨RX5, "goesIn", "(I)Z"⟩
abbrev cX5_choice : ByteArray := prog_7_method_21_code
def yX5_choice : MethodName := ⟨RX5, "choice", "(I)V"⟩
abbrev cX5_about : ByteArray := prog_7_method_22_code
def yX5_about : MethodName := ⟨RX5, "about", "()I"⟩
abbrev cX5_truth : ByteArray := prog_7_method_23_code
def yX5_truth : MethodName := ⟨RX5, "truth", "(I)V"⟩
abbrev cX5_both : ByteArray := prog_7_method_24_code
def yX5_both : MethodName := ⟨RX5, "both", "(I)V"⟩
abbrev cX5_unit : ByteArray := prog_7_method_25_code
def yX5_unit : MethodName := ⟨RX5, "unit", "(I)V"⟩
def RX6 : String := "ShapePour$Setting"
def TX6 : u_T := fun k => match k with
  | 0 => ("ShapePour$Setting", "page", "LShapePour$Page;", false)
  | 1 => ("ShapePour$Setting", "state", "LShapePour$State;", false)
  | 2 => ("ShapePour$Setting", "wide", "I", false)
  | 3 => ("ShapePour$Setting", "slots", "LShapePour$Slots;", true)
  | 4 => ("ShapePour$Setting", "wordSlot", "[I", true)
  | 5 => ("ShapePour$Setting", "wordLeft", "[I", true)
  | 6 => ("ShapePour$Setting", "shapeY", "[I", true)
  | 7 => ("ShapePour$Setting", "tiedTo", "[I", true)
  | 8 => ("ShapePour$Setting", "trail", "[I", true)
  | 9 => ("ShapePour$Setting", "placed", "I", false)
  | 10 => ("ShapePour$Setting", "round", "I", false)
  | 11 => ("ShapePour$Setting", "stillness", "I", false)
  | _ => ("ShapePour$Setting", "backTo", "I", false)
def tyX6 : Nat → FieldType := fun k => match k with
  | 0 => .object "ShapePour$Page"
  | 1 => .object "ShapePour$State"
  | 2 => .int
  | 3 => .object "ShapePour$Slots"
  | 4 => .array .int
  | 5 => .array .int
  | 6 => .array .int
  | 7 => .array .int
  | 8 => .array .int
  | 9 => .int
  | 10 => .int
  | 11 => .int
  | _ => .int
theorem nmX6 : ∀ a, a < 13 → ∀ b, b < 13 → a ≠ b → (TX6 a).2.1 ≠ (TX6 b).2.1 := by decide +kernel
theorem tyX6_ok : ∀ k, k < 13 → parseFieldDescriptor (TX6 k).2.2.1 = some (tyX6 k) := by decide +kernel
abbrev cX6_init : ByteArray := prog_8_method_1_code
def yX6_init : MethodName := ⟨RX6, "<init>", "(LShapePour$Page;LShapePour$State;)V"⟩
abbrev cX6_settle : ByteArray := prog_8_method_2_code
def yX6_settle : MethodName := ⟨RX6, "settle", "(LShapePour$Page;LShapePour$State;II)V"⟩
abbrev cX6_cutRest : ByteArray := prog_8_method_3_code
def yX6_cutRest : MethodName := ⟨RX6, "cutRest", "()V"⟩
abbrev cX6_setFreeShapes : ByteArray := prog_8_method_4_code
def yX6_setFreeShapes : MethodName := ⟨RX6, "setFreeShapes", "(I)Z"⟩
abbrev cX6_setTiedShapes : ByteArray := prog_8_method_5_code
def yX6_setTiedShapes : MethodName := ⟨RX6, "setTiedShapes", "()V"⟩
abbrev cX6_mark : ByteArray := prog_8_method_6_code
def yX6_mark : MethodName := ⟨RX6, "mark", "()V"⟩
abbrev cX6_weigh : ByteArray := prog_8_method_7_code
def yX6_weigh : MethodName := ⟨RX6, "weigh", "()V"⟩
abbrev cX6_isAsIn : ByteArray := prog_8_method_8_code
def yX6_isAsIn : MethodName := ⟨RX6, "isAsIn", "(I)Z"⟩
abbrev cX6_pour : ByteArray := prog_8_method_9_code
def yX6_pour : MethodName := ⟨RX6, "pour", "()V"⟩
abbrev cX6_fill : ByteArray := prog_8_method_10_code
def yX6_fill : MethodName := ⟨RX6, "fill", "(II)I"⟩
abbrev cX6_cut : ByteArray := prog_8_method_11_code
def yX6_cut : MethodName := ⟨RX6, "cut", "(I)V"⟩
abbrev cX6_spanLeft : ByteArray := prog_8_method_12_code
def yX6_spanLeft : MethodName := ⟨RX6, "spanLeft", "(III)I"⟩
abbrev cX6_spanRight : ByteArray := prog_8_method_13_code
def yX6_spanRight : MethodName := ⟨RX6, "spanRight", "(III)I"⟩
abbrev cX6_lineOf : ByteArray := prog_8_method_14_code
def yX6_lineOf : MethodName := ⟨RX6, "lineOf", "(I)I"⟩
abbrev cX6_lastLine : ByteArray := prog_8_method_15_code
def yX6_lastLine : MethodName := ⟨RX6, "lastLine", "()I"⟩
abbrev cX6_isBetter : ByteArray := prog_8_method_16_code
def yX6_isBetter : MethodName := ⟨RX6, "isBetter", "(II)Z"⟩
abbrev cX6_raggedness : ByteArray := prog_8_method_17_code
def yX6_raggedness : MethodName := ⟨RX6, "raggedness", "()I"⟩
abbrev cX6_clashing : ByteArray := prog_8_method_18_code
def yX6_clashing : MethodName := ⟨RX6, "clashing", "()I"⟩
abbrev cX6_placedWides : ByteArray := prog_8_method_19_code
def yX6_placedWides : MethodName := ⟨RX6, "placedWides", "([I)I"⟩
def RX7 : String := "ShapePour$Slots"
def TX7 : u_T := fun k => match k with
  | 0 => ("ShapePour$Slots", "line", "[I", true)
  | 1 => ("ShapePour$Slots", "left", "[I", true)
  | 2 => ("ShapePour$Slots", "right", "[I", true)
  | 3 => ("ShapePour$Slots", "words", "[I", true)
  | 4 => ("ShapePour$Slots", "total", "I", false)
  | 5 => ("ShapePour$Slots", "begin", "[I", true)
  | 6 => ("ShapePour$Slots", "linesCut", "I", false)
  | 7 => ("ShapePour$Slots", "spanLeft", "[I", true)
  | 8 => ("ShapePour$Slots", "spanRight", "[I", true)
  | _ => ("ShapePour$Slots", "spans", "I", false)
def tyX7 : Nat → FieldType := fun k => match k with
  | 0 => .array .int
  | 1 => .array .int
  | 2 => .array .int
  | 3 => .array .int
  | 4 => .int
  | 5 => .array .int
  | 6 => .int
  | 7 => .array .int
  | 8 => .array .int
  | _ => .int
theorem nmX7 : ∀ a, a < 10 → ∀ b, b < 10 → a ≠ b → (TX7 a).2.1 ≠ (TX7 b).2.1 := by decide +kernel
theorem tyX7_ok : ∀ k, k < 10 → parseFieldDescriptor (TX7 k).2.2.1 = some (tyX7 k) := by decide +kernel
abbrev cX7_init : ByteArray := prog_9_method_1_code
def yX7_init : MethodName := ⟨RX7, "<init>", "()V"⟩
abbrev cX7_clear : ByteArray := prog_9_method_2_code
def yX7_clear : MethodName := ⟨RX7, "clear", "()V"⟩
abbrev cX7_addSpan : ByteArray := prog_9_method_3_code
def yX7_addSpan : MethodName := ⟨RX7, "addSpan", "(II)V"⟩
abbrev cX7_cutLine : ByteArray := prog_9_method_4_code
def yX7_cutLine : MethodName := ⟨RX7, "cutLine", "(II)V"⟩
abbrev cX7_addSlot : ByteArray := prog_9_method_5_code
def yX7_addSlot : MethodName := ⟨RX7, "addSlot", "(III)V"⟩
abbrev cX7_inOne : ByteArray := prog_9_method_6_code
def yX7_inOne : MethodName := ⟨RX7, "inOne", "(I)I"⟩
abbrev cX7_leftOver : ByteArray := prog_9_method_7_code
def yX7_leftOver : MethodName := ⟨RX7, "leftOver", "(III)I"⟩
def RX8 : String := "ShapePour$State"
def TX8 : u_T := fun k => match k with
  | 0 => ("ShapePour$State", "x", "[I", true)
  | 1 => ("ShapePour$State", "y", "[I", true)
  | 2 => ("ShapePour$State", "tie", "[I", true)
  | 3 => ("ShapePour$State", "hidden", "I", false)
  | _ => ("ShapePour$State", "ink", "I", false)
def tyX8 : Nat → FieldType := fun k => match k with
  | 0 => .array .int
  | 1 => .array .int
  | 2 => .array .int
  | 3 => .int
  | _ => .int
theorem nmX8 : ∀ a, a < 5 → ∀ b, b < 5 → a ≠ b → (TX8 a).2.1 ≠ (TX8 b).2.1 := by decide +kernel
theorem tyX8_ok : ∀ k, k < 5 → parseFieldDescriptor (TX8 k).2.2.1 = some (tyX8 k) := by decide +kernel
abbrev cX8_init : ByteArray := prog_10_method_1_code
def yX8_init : MethodName := ⟨RX8, "<init>", "()V"⟩
abbrev cX8_clear : ByteArray := prog_10_method_2_code
def yX8_clear : MethodName := ⟨RX8, "clear", "()V"⟩
abbrev cX8_copyFrom : ByteArray := prog_10_method_3_code
def yX8_copyFrom : MethodName := ⟨RX8, "copyFrom", "(LShapePour$State;)V"⟩
abbrev cX8_hides : ByteArray := prog_10_method_4_code
def yX8_hides : MethodName := ⟨RX8, "hides", "(I)Z"⟩
abbrev cX8_tiedShapes : ByteArray := prog_10_method_5_code
def yX8_tiedShapes : MethodName := ⟨RX8, "tiedShapes", "()I"⟩
abbrev cX8_shift : ByteArray := prog_10_method_6_code
def yX8_shift : MethodName := ⟨RX8, "shift", "(LShapePour$Page;III)I"⟩
abbrev cX8_bind : ByteArray := prog_10_method_7_code
def yX8_bind : MethodName := ⟨RX8, "bind", "(LShapePour$Page;II)I"⟩
abbrev cX8_flip : ByteArray := prog_10_method_8_code
def yX8_flip : MethodName := ⟨RX8, "flip", "(LShapePour$Page;I)I"⟩
abbrev cX8_dye : ByteArray := prog_10_method_9_code
def yX8_dye : MethodName := ⟨RX8, "dye", "(I)I"⟩
abbrev cX8_deed : ByteArray := prog_10_method_10_code
def yX8_deed : MethodName := ⟨RX8, "deed", "(LShapePour$Page;J)I"⟩
def RX9 : String := "ShapePour$Trays"
def TX9 : u_T := fun k => match k with
  | 0 => ("ShapePour$Trays", "all", "[J", true)
  | 1 => ("ShapePour$Trays", "sorts", "[I", true)
  | _ => ("ShapePour$Trays", "size", "[I", true)
def tyX9 : Nat → FieldType := fun k => match k with
  | 0 => .array .long
  | 1 => .array .int
  | _ => .array .int
theorem nmX9 : ∀ a, a < 3 → ∀ b, b < 3 → a ≠ b → (TX9 a).2.1 ≠ (TX9 b).2.1 := by decide +kernel
theorem tyX9_ok : ∀ k, k < 3 → parseFieldDescriptor (TX9 k).2.2.1 = some (tyX9 k) := by decide +kernel
abbrev cX9_init : ByteArray := prog_11_method_1_code
def yX9_init : MethodName := ⟨RX9, "<init>", "()V"⟩
abbrev cX9_isTray : ByteArray := prog_11_method_2_code
def yX9_isTray : MethodName := ⟨RX9, "isTray", "(I)Z"⟩
abbrev cX9_refusal : ByteArray := prog_11_method_3_code
def yX9_refusal : MethodName := ⟨RX9, "refusal", "(I)I"⟩
abbrev cX9_build : ByteArray := prog_11_method_4_code
def yX9_build : MethodName := ⟨RX9, "build", "(III)V"⟩
abbrev cX9_get : ByteArray := prog_11_method_5_code
def yX9_get : MethodName := ⟨RX9, "get", "(II)J"⟩
abbrev cX9_put : ByteArray := prog_11_method_6_code
def yX9_put : MethodName := ⟨RX9, "put", "(IIJ)J"⟩
def RX10 : String := "ShapePour"
def TX10 : u_T := fun k => match k with
  | 0 => ("ShapePour", "tape", "[B", true)
  | 1 => ("ShapePour", "taped", "I", false)
  | 2 => ("ShapePour", "reader", "LShapePour$Reader;", true)
  | 3 => ("ShapePour", "pages", "[LShapePour$Page;", true)
  | 4 => ("ShapePour", "pageAt", "I", false)
  | 5 => ("ShapePour", "state", "LShapePour$State;", true)
  | 6 => ("ShapePour", "draft", "LShapePour$State;", true)
  | 7 => ("ShapePour", "past", "LShapePour$Past;", true)
  | 8 => ("ShapePour", "imagePage", "[I", true)
  | 9 => ("ShapePour", "imageState", "[LShapePour$State;", true)
  | 10 => ("ShapePour", "now", "LShapePour$Setting;", true)
  | 11 => ("ShapePour", "trial", "LShapePour$Setting;", true)
  | 12 => ("ShapePour", "settled", "Z", false)
  | 13 => ("ShapePour", "breaks", "LShapePour$Breaks;", true)
  | 14 => ("ShapePour", "trays", "LShapePour$Trays;", true)
  | 15 => ("ShapePour", "drawer", "LShapePour$Drawer;", true)
  | 16 => ("ShapePour", "drawn", "I", false)
  | 17 => ("ShapePour", "lotsFine", "I", false)
  | _ => ("ShapePour", "lotsLines", "I", false)
def tyX10 : Nat → FieldType := fun k => match k with
  | 0 => .array .byte
  | 1 => .int
  | 2 => .object "ShapePour$Reader"
  | 3 => .array (.object "ShapePour$Page")
  | 4 => .int
  | 5 => .object "ShapePour$State"
  | 6 => .object "ShapePour$State"
  | 7 => .object "ShapePour$Past"
  | 8 => .array .int
  | 9 => .array (.object "ShapePour$State")
  | 10 => .object "ShapePour$Setting"
  | 11 => .object "ShapePour$Setting"
  | 12 => .boolean
  | 13 => .object "ShapePour$Breaks"
  | 14 => .object "ShapePour$Trays"
  | 15 => .object "ShapePour$Drawer"
  | 16 => .int
  | 17 => .int
  | _ => .int
theorem nmX10 : ∀ a, a < 19 → ∀ b, b < 19 → a ≠ b → (TX10 a).2.1 ≠ (TX10 b).2.1 := by decide +kernel
theorem tyX10_ok : ∀ k, k < 19 → parseFieldDescriptor (TX10 k).2.2.1 = some (tyX10 k) := by decide +kernel
abbrev cX10_init : ByteArray := prog_1_method_1_code
def yX10_init : MethodName := ⟨RX10, "<init>", "()V"⟩
abbrev cX10_feed : ByteArray := prog_1_method_2_code
def yX10_feed : MethodName := ⟨RX10, "feed", "(IIIII)I"⟩
abbrev cX10_page : ByteArray := prog_1_method_3_code
def yX10_page : MethodName := ⟨RX10, "page", "(I)I"⟩
abbrev cX10_fault : ByteArray := prog_1_method_4_code
def yX10_fault : MethodName := ⟨RX10, "fault", "(I)I"⟩
abbrev cX10_set : ByteArray := prog_1_method_5_code
def yX10_set : MethodName := ⟨RX10, "set", "(I)I"⟩
abbrev cX10_shape : ByteArray := prog_1_method_6_code
def yX10_shape : MethodName := ⟨RX10, "shape", "(II)I"⟩
abbrev cX10_word : ByteArray := prog_1_method_7_code
def yX10_word : MethodName := ⟨RX10, "word", "(II)I"⟩
abbrev cX10_span : ByteArray := prog_1_method_8_code
def yX10_span : MethodName := ⟨RX10, "span", "(III)I"⟩
abbrev cX10_slots : ByteArray := prog_1_method_9_code
def yX10_slots : MethodName := ⟨RX10, "slots", "(I)I"⟩
abbrev cX10_slot : ByteArray := prog_1_method_10_code
def yX10_slot : MethodName := ⟨RX10, "slot", "(III)I"⟩
abbrev cX10_lies : ByteArray := prog_1_method_11_code
def yX10_lies : MethodName := ⟨RX10, "lies", "(II)I"⟩
abbrev cX10_move : ByteArray := prog_1_method_12_code
def yX10_move : MethodName := ⟨RX10, "move", "(III)I"⟩
abbrev cX10_tie : ByteArray := prog_1_method_13_code
def yX10_tie : MethodName := ⟨RX10, "tie", "(II)I"⟩
abbrev cX10_hide : ByteArray := prog_1_method_14_code
def yX10_hide : MethodName := ⟨RX10, "hide", "(I)I"⟩
abbrev cX10_ink : ByteArray := prog_1_method_15_code
def yX10_ink : MethodName := ⟨RX10, "ink", "(I)I"⟩
abbrev cX10_undo : ByteArray := prog_1_method_16_code
def yX10_undo : MethodName := ⟨RX10, "undo", "(I)I"⟩
abbrev cX10_judge : ByteArray := prog_1_method_17_code
def yX10_judge : MethodName := ⟨RX10, "judge", "(II)I"⟩
abbrev cX10_perform : ByteArray := prog_1_method_18_code
def yX10_perform : MethodName := ⟨RX10, "perform", "(I)I"⟩
abbrev cX10_day : ByteArray := prog_1_method_19_code
def yX10_day : MethodName := ⟨RX10, "day", "(II)I"⟩
abbrev cX10_placed : ByteArray := prog_1_method_20_code
def yX10_placed : MethodName := ⟨RX10, "placed", "()I"⟩
abbrev cX10_last : ByteArray := prog_1_method_21_code
def yX10_last : MethodName := ⟨RX10, "last", "()I"⟩
abbrev cX10_inLine : ByteArray := prog_1_method_22_code
def yX10_inLine : MethodName := ⟨RX10, "inLine", "(I)I"⟩
abbrev cX10_full : ByteArray := prog_1_method_23_code
def yX10_full : MethodName := ⟨RX10, "full", "(I)I"⟩
abbrev cX10_ragged : ByteArray := prog_1_method_24_code
def yX10_ragged : MethodName := ⟨RX10, "ragged", "()I"⟩
abbrev cX10_tight : ByteArray := prog_1_method_25_code
def yX10_tight : MethodName := ⟨RX10, "tight", "()I"⟩
abbrev cX10_tightWays : ByteArray := prog_1_method_26_code
def yX10_tightWays : MethodName := ⟨RX10, "tightWays", "()J"⟩
abbrev cX10_rounds : ByteArray := prog_1_method_27_code
def yX10_rounds : MethodName := ⟨RX10, "rounds", "()I"⟩
abbrev cX10_still : ByteArray := prog_1_method_28_code
def yX10_still : MethodName := ⟨RX10, "still", "()I"⟩
abbrev cX10_clash : ByteArray := prog_1_method_29_code
def yX10_clash : MethodName := ⟨RX10, "clash", "()I"⟩
abbrev cX10_leastWide : ByteArray := prog_1_method_30_code
def yX10_leastWide : MethodName := ⟨RX10, "leastWide", "()I"⟩
abbrev cX10_bestX : ByteArray := prog_1_method_31_code
def yX10_bestX : MethodName := ⟨RX10, "bestX", "(I)I"⟩
abbrev cX10_costs : ByteArray := prog_1_method_32_code
def yX10_costs : MethodName := ⟨RX10, "costs", "()I"⟩
abbrev cX10_pushes : ByteArray := prog_1_method_33_code
def yX10_pushes : MethodName := ⟨RX10, "pushes", "(I)I"⟩
abbrev cX10_inks : ByteArray := prog_1_method_34_code
def yX10_inks : MethodName := ⟨RX10, "inks", "(I)I"⟩
abbrev cX10_measure : ByteArray := prog_1_method_35_code
def yX10_measure : MethodName := ⟨RX10, "measure", "(I)I"⟩
abbrev cX10_chance : ByteArray := prog_1_method_36_code
def yX10_chance : MethodName := ⟨RX10, "chance", "(II)I"⟩
abbrev cX10_mean : ByteArray := prog_1_method_37_code
def yX10_mean : MethodName := ⟨RX10, "mean", "(II)I"⟩
abbrev cX10_drawer : ByteArray := prog_1_method_38_code
def yX10_drawer : MethodName := ⟨RX10, "drawer", "(II)I"⟩
abbrev cX10_keep : ByteArray := prog_1_method_39_code
def yX10_keep : MethodName := ⟨RX10, "keep", "(II)I"⟩
abbrev cX10_kept : ByteArray := prog_1_method_40_code
def yX10_kept : MethodName := ⟨RX10, "kept", "(II)I"⟩
abbrev cX10_numbers : ByteArray := prog_1_method_41_code
def yX10_numbers : MethodName := ⟨RX10, "numbers", "(III)I"⟩
abbrev cX10_write : ByteArray := prog_1_method_42_code
def yX10_write : MethodName := ⟨RX10, "write", "(IIJ)J"⟩
abbrev cX10_lists : ByteArray := prog_1_method_43_code
def yX10_lists : MethodName := ⟨RX10, "lists", "(I)I"⟩
abbrev cX10_image : ByteArray := prog_1_method_44_code
def yX10_image : MethodName := ⟨RX10, "image", "(I)I"⟩
abbrev cX10_restore : ByteArray := prog_1_method_45_code
def yX10_restore : MethodName := ⟨RX10, "restore", "(I)I"⟩
abbrev cX10_count : ByteArray := prog_1_method_46_code
def yX10_count : MethodName := ⟨RX10, "count", "(I)I"⟩
abbrev cX10_putBytes : ByteArray := prog_1_method_47_code
def yX10_putBytes : MethodName := ⟨RX10, "putBytes", "(I)V"⟩
abbrev cX10_current : ByteArray := prog_1_method_48_code
def yX10_current : MethodName := ⟨RX10, "current", "()LShapePour$Page;"⟩
abbrev cX10_isShape : ByteArray := prog_1_method_49_code
def yX10_isShape : MethodName := ⟨RX10, "isShape", "(I)Z"⟩
abbrev cX10_isWord : ByteArray := prog_1_method_50_code
def yX10_isWord : MethodName := ⟨RX10, "isWord", "(I)Z"⟩
abbrev cX10_isLine : ByteArray := prog_1_method_51_code
def yX10_isLine : MethodName := ⟨RX10, "isLine", "(I)Z"⟩
abbrev cX10_wideNow : ByteArray := prog_1_method_52_code
def yX10_wideNow : MethodName := ⟨RX10, "wideNow", "(I)I"⟩
abbrev cX10_sparePage : ByteArray := prog_1_method_53_code
def yX10_sparePage : MethodName := ⟨RX10, "sparePage", "()I"⟩
abbrev cX10_goOnFrom : ByteArray := prog_1_method_54_code
def yX10_goOnFrom : MethodName := ⟨RX10, "goOnFrom", "(ILShapePour$State;)V"⟩
abbrev cX10_takeDraft : ByteArray := prog_1_method_55_code
def yX10_takeDraft : MethodName := ⟨RX10, "takeDraft", "()V"⟩
abbrev cX10_setting : ByteArray := prog_1_method_56_code
def yX10_setting : MethodName := ⟨RX10, "setting", "()LShapePour$Setting;"⟩
abbrev cX10_tryDraft : ByteArray := prog_1_method_57_code
def yX10_tryDraft : MethodName := ⟨RX10, "tryDraft", "(I)V"⟩
abbrev cX10_draftDeeds : ByteArray := prog_1_method_58_code
def yX10_draftDeeds : MethodName := ⟨RX10, "draftDeeds", "(I)I"⟩
abbrev cX10_draw : ByteArray := prog_1_method_59_code
def yX10_draw : MethodName := ⟨RX10, "draw", "()I"⟩
abbrev cX10_drawnDeed : ByteArray := prog_1_method_60_code
def yX10_drawnDeed : MethodName := ⟨RX10, "drawnDeed", "()I"⟩
abbrev cX10_seenBy : ByteArray := prog_1_method_61_code
def yX10_seenBy : MethodName := ⟨RX10, "seenBy", "(I)I"⟩
abbrev cX10_refusedLots : ByteArray := prog_1_method_62_code
def yX10_refusedLots : MethodName := ⟨RX10, "refusedLots", "(II)I"⟩
abbrev cX10_lotsIn : ByteArray := prog_1_method_63_code
def yX10_lotsIn : MethodName := ⟨RX10, "lotsIn", "(I)I"⟩
abbrev cX10_drawLots : ByteArray := prog_1_method_64_code
def yX10_drawLots : MethodName := ⟨RX10, "drawLots", "(I)V"⟩
abbrev cX10_lotBit : ByteArray := prog_1_method_65_code
def yX10_lotBit : MethodName := ⟨RX10, "lotBit", "(I)I"⟩
abbrev cX10_addDraw : ByteArray := prog_1_method_66_code
def yX10_addDraw : MethodName := ⟨RX10, "addDraw", "(I)V"⟩
abbrev cX10_lowest : ByteArray := prog_1_method_67_code
def yX10_lowest : MethodName := ⟨RX10, "lowest", "(III)I"⟩
def RX11 : String := "ShapePourModel"
def TX11 : u_T := fun k => match k with
  | 0 => ("ShapePourModel", "thrown", "I", false)
  | 1 => ("ShapePourModel", "all", "[I", true)
  | 2 => ("ShapePourModel", "hasImage", "[Z", true)
  | 3 => ("ShapePourModel", "tape", "[I", true)
  | 4 => ("ShapePourModel", "fresh", "[I", true)
  | 5 => ("ShapePourModel", "taped", "I", false)
  | 6 => ("ShapePourModel", "at", "I", false)
  | 7 => ("ShapePourModel", "behind", "I", false)
  | 8 => ("ShapePourModel", "size", "I", false)
  | 9 => ("ShapePourModel", "kind", "I", false)
  | 10 => ("ShapePourModel", "number", "I", false)
  | 11 => ("ShapePourModel", "wrong", "I", false)
  | 12 => ("ShapePourModel", "wrongAt", "I", false)
  | 13 => ("ShapePourModel", "faultKind", "I", false)
  | 14 => ("ShapePourModel", "faultPlace", "I", false)
  | 15 => ("ShapePourModel", "reading", "I", false)
  | 16 => ("ShapePourModel", "reckoned", "[I", true)
  | 17 => ("ShapePourModel", "words", "[I", true)
  | 18 => ("ShapePourModel", "spanLeft", "I", false)
  | 19 => ("ShapePourModel", "spanRight", "I", false)
  | 20 => ("ShapePourModel", "wideNow", "I", false)
  | 21 => ("ShapePourModel", "hiddenNow", "I", false)
  | 22 => ("ShapePourModel", "asideNow", "I", false)
  | 23 => ("ShapePourModel", "height", "[I", true)
  | 24 => ("ShapePourModel", "slotLine", "[I", true)
  | 25 => ("ShapePourModel", "slotLeft", "[I", true)
  | 26 => ("ShapePourModel", "slotRight", "[I", true)
  | 27 => ("ShapePourModel", "slotWords", "[I", true)
  | 28 => ("ShapePourModel", "slotOf", "[I", true)
  | 29 => ("ShapePourModel", "leftOf", "[I", true)
  | 30 => ("ShapePourModel", "wordWide", "[I", true)
  | 31 => ("ShapePourModel", "slotMany", "I", false)
  | 32 => ("ShapePourModel", "blockLeft", "[I", true)
  | 33 => ("ShapePourModel", "blockRight", "[I", true)
  | 34 => ("ShapePourModel", "tiedLine", "[I", true)
  | 35 => ("ShapePourModel", "roundNow", "I", false)
  | 36 => ("ShapePourModel", "endedNow", "I", false)
  | 37 => ("ShapePourModel", "backNow", "I", false)
  | 38 => ("ShapePourModel", "was", "[I", true)
  | 39 => ("ShapePourModel", "toldWhy", "I", false)
  | 40 => ("ShapePourModel", "x", "I", false)
  | 41 => ("ShapePourModel", "inPlace", "[I", true)
  | 42 => ("ShapePourModel", "inPlaceMany", "I", false)
  | 43 => ("ShapePourModel", "least", "[I", true)
  | 44 => ("ShapePourModel", "leastThen", "[I", true)
  | 45 => ("ShapePourModel", "leastWays", "[J", true)
  | 46 => ("ShapePourModel", "waysThen", "[J", true)
  | 47 => ("ShapePourModel", "wereLine", "[I", true)
  | 48 => ("ShapePourModel", "wereLeft", "[I", true)
  | 49 => ("ShapePourModel", "wideBy", "[I", true)
  | 50 => ("ShapePourModel", "allSum", "J", false)
  | 51 => ("ShapePourModel", "lineSum", "J", false)
  | 52 => ("ShapePourModel", "drawerKind", "I", false)
  | 53 => ("ShapePourModel", "drawerMany", "I", false)
  | 54 => ("ShapePourModel", "keptX", "[I", true)
  | 55 => ("ShapePourModel", "keptY", "[I", true)
  | 56 => ("ShapePourModel", "rowSort", "[I", true)
  | 57 => ("ShapePourModel", "rowMany", "[I", true)
  | _ => ("ShapePourModel", "numbers", "[J", true)
def tyX11 : Nat → FieldType := fun k => match k with
  | 0 => .int
  | 1 => .array .int
  | 2 => .array .boolean
  | 3 => .array .int
  | 4 => .array .int
  | 5 => .int
  | 6 => .int
  | 7 => .int
  | 8 => .int
  | 9 => .int
  | 10 => .int
  | 11 => .int
  | 12 => .int
  | 13 => .int
  | 14 => .int
  | 15 => .int
  | 16 => .array .int
  | 17 => .array .int
  | 18 => .int
  | 19 => .int
  | 20 => .int
  | 21 => .int
  | 22 => .int
  | 23 => .array .int
  | 24 => .array .int
  | 25 => .array .int
  | 26 => .array .int
  | 27 => .array .int
  | 28 => .array .int
  | 29 => .array .int
  | 30 => .array .int
  | 31 => .int
  | 32 => .array .int
  | 33 => .array .int
  | 34 => .array .int
  | 35 => .int
  | 36 => .int
  | 37 => .int
  | 38 => .array .int
  | 39 => .int
  | 40 => .int
  | 41 => .array .int
  | 42 => .int
  | 43 => .array .int
  | 44 => .array .int
  | 45 => .array .long
  | 46 => .array .long
  | 47 => .array .int
  | 48 => .array .int
  | 49 => .array .int
  | 50 => .long
  | 51 => .long
  | 52 => .int
  | 53 => .int
  | 54 => .array .int
  | 55 => .array .int
  | 56 => .array .int
  | 57 => .array .int
  | _ => .array .long
theorem nmX11 : ∀ a, a < 59 → ∀ b, b < 59 → a ≠ b → (TX11 a).2.1 ≠ (TX11 b).2.1 := by decide +kernel
theorem tyX11_ok : ∀ k, k < 59 → parseFieldDescriptor (TX11 k).2.2.1 = some (tyX11 k) := by decide +kernel
abbrev cX11_within : ByteArray := prog_13_method_2_code
def yX11_within : MethodName := ⟨RX11, "within", "(JJJ)Z"⟩
abbrev cX11_init : ByteArray := prog_13_method_3_code
def yX11_init : MethodName := ⟨RX11, "<init>", "()V"⟩
abbrev cX11_plain : ByteArray := prog_13_method_4_code
def yX11_plain : MethodName := ⟨RX11, "plain", "([I)V"⟩
abbrev cX11_feed : ByteArray := prog_13_method_5_code
def yX11_feed : MethodName := ⟨RX11, "feed", "(IIIII)I"⟩
abbrev cX11_see : ByteArray := prog_13_method_6_code
def yX11_see : MethodName := ⟨RX11, "see", "(I)I"⟩
abbrev cX11_isSmall : ByteArray := prog_13_method_7_code
def yX11_isSmall : MethodName := ⟨RX11, "isSmall", "(I)Z"⟩
abbrev cX11_isDigit : ByteArray := prog_13_method_8_code
def yX11_isDigit : MethodName := ⟨RX11, "isDigit", "(I)Z"⟩
abbrev cX11_keyAt : ByteArray := prog_13_method_9_code
def yX11_keyAt : MethodName := ⟨RX11, "keyAt", "()I"⟩
abbrev cX11_next : ByteArray := prog_13_method_10_code
def yX11_next : MethodName := ⟨RX11, "next", "()V"⟩
abbrev cX11_fails : ByteArray := prog_13_method_11_code
def yX11_fails : MethodName := ⟨RX11, "fails", "(I)V"⟩
abbrev cX11_is : ByteArray := prog_13_method_12_code
def yX11_is : MethodName := ⟨RX11, "is", "(I)Z"⟩
abbrev cX11_eats : ByteArray := prog_13_method_13_code
def yX11_eats : MethodName := ⟨RX11, "eats", "(I)Z"⟩
abbrev cX11_takes : ByteArray := prog_13_method_14_code
def yX11_takes : MethodName := ⟨RX11, "takes", "(II)I"⟩
abbrev cX11_isIn : ByteArray := prog_13_method_15_code
def yX11_isIn : MethodName := ⟨RX11, "isIn", "(JI)Z"⟩
abbrev cX11_wordOf : ByteArray := prog_13_method_16_code
def yX11_wordOf : MethodName := ⟨RX11, "wordOf", "(I)I"⟩
abbrev cX11_codes : ByteArray := prog_13_method_17_code
def yX11_codes : MethodName := ⟨RX11, "codes", "(I)V"⟩
abbrev cX11_goesIn : ByteArray := prog_13_method_18_code
def yX11_goesIn : MethodName := ⟨RX11, "goesIn", "(I)Z"⟩
abbrev cX11_readAtom : ByteArray := prog_13_method_19_code
def yX11_readAtom : MethodName := ⟨RX11, "readAtom", "(I)V"⟩
abbrev cX11_readIf : ByteArray := prog_13_method_20_code
def yX11_readIf : MethodName := ⟨RX11, "readIf", "(I)V"⟩
abbrev cX11_readTerm : ByteArray := prog_13_method_21_code
def yX11_readTerm : MethodName := ⟨RX11, "readTerm", "(I)V"⟩
abbrev cX11_readSum : ByteArray := prog_13_method_22_code
def yX11_readSum : MethodName := ⟨RX11, "readSum", "(I)V"⟩
abbrev cX11_readUnit : ByteArray := prog_13_method_23_code
def yX11_readUnit : MethodName := ⟨RX11, "readUnit", "(I)V"⟩
abbrev cX11_readBoth : ByteArray := prog_13_method_24_code
def yX11_readBoth : MethodName := ⟨RX11, "readBoth", "(I)V"⟩
abbrev cX11_readTruth : ByteArray := prog_13_method_25_code
def yX11_readTruth : MethodName := ⟨RX11, "readTruth", "(I)V"⟩
abbrev cX11_readPage : ByteArray := prog_13_method_26_code
def yX11_readPage : MethodName := ⟨RX11, "readPage", "()V"⟩
abbrev cX11_readShape : ByteArray := prog_13_method_27_code
def yX11_readShape : MethodName := ⟨RX11, "readShape", "()V"⟩
abbrev cX11_readTie : ByteArray := prog_13_method_28_code
def yX11_readTie : MethodName := ⟨RX11, "readTie", "()V"⟩
abbrev cX11_readWords : ByteArray := prog_13_method_29_code
def yX11_readWords : MethodName := ⟨RX11, "readWords", "()V"⟩
abbrev cX11_readLaw : ByteArray := prog_13_method_30_code
def yX11_readLaw : MethodName := ⟨RX11, "readLaw", "(I)V"⟩
abbrev cX11_readLine : ByteArray := prog_13_method_31_code
def yX11_readLine : MethodName := ⟨RX11, "readLine", "()V"⟩
abbrev cX11_closes : ByteArray := prog_13_method_32_code
def yX11_closes : MethodName := ⟨RX11, "closes", "()V"⟩
abbrev cX11_page : ByteArray := prog_13_method_33_code
def yX11_page : MethodName := ⟨RX11, "page", "(I)I"⟩
abbrev cX11_fault : ByteArray := prog_13_method_34_code
def yX11_fault : MethodName := ⟨RX11, "fault", "(I)I"⟩
abbrev cX11_isShape : ByteArray := prog_13_method_35_code
def yX11_isShape : MethodName := ⟨RX11, "isShape", "(J)Z"⟩
abbrev cX11_isWord : ByteArray := prog_13_method_36_code
def yX11_isWord : MethodName := ⟨RX11, "isWord", "(J)Z"⟩
abbrev cX11_isRow : ByteArray := prog_13_method_37_code
def yX11_isRow : MethodName := ⟨RX11, "isRow", "(J)Z"⟩
abbrev cX11_between : ByteArray := prog_13_method_38_code
def yX11_between : MethodName := ⟨RX11, "between", "(III)I"⟩
abbrev cX11_reckons : ByteArray := prog_13_method_39_code
def yX11_reckons : MethodName := ⟨RX11, "reckons", "(I)I"⟩
abbrev cX11_widthOf : ByteArray := prog_13_method_40_code
def yX11_widthOf : MethodName := ⟨RX11, "widthOf", "(II)I"⟩
abbrev cX11_gapOf : ByteArray := prog_13_method_41_code
def yX11_gapOf : MethodName := ⟨RX11, "gapOf", "(II)I"⟩
abbrev cX11_rootOf : ByteArray := prog_13_method_42_code
def yX11_rootOf : MethodName := ⟨RX11, "rootOf", "(I)F"⟩
abbrev cX11_floorOf : ByteArray := prog_13_method_43_code
def yX11_floorOf : MethodName := ⟨RX11, "floorOf", "(F)I"⟩
abbrev cX11_ceilOf : ByteArray := prog_13_method_44_code
def yX11_ceilOf : MethodName := ⟨RX11, "ceilOf", "(F)I"⟩
abbrev cX11_spansBy : ByteArray := prog_13_method_45_code
def yX11_spansBy : MethodName := ⟨RX11, "spansBy", "(IF)V"⟩
abbrev cX11_isSpanned : ByteArray := prog_13_method_46_code
def yX11_isSpanned : MethodName := ⟨RX11, "isSpanned", "(III)Z"⟩
abbrev cX11_asks : ByteArray := prog_13_method_47_code
def yX11_asks : MethodName := ⟨RX11, "asks", "()V"⟩
abbrev cX11_laysLine : ByteArray := prog_13_method_48_code
def yX11_laysLine : MethodName := ⟨RX11, "laysLine", "(I)V"⟩
abbrev cX11_laysSlots : ByteArray := prog_13_method_49_code
def yX11_laysSlots : MethodName := ⟨RX11, "laysSlots", "()V"⟩
abbrev cX11_isShown : ByteArray := prog_13_method_50_code
def yX11_isShown : MethodName := ⟨RX11, "isShown", "(I)Z"⟩
abbrev cX11_pours : ByteArray := prog_13_method_51_code
def yX11_pours : MethodName := ⟨RX11, "pours", "()V"⟩
abbrev cX11_lineOf : ByteArray := prog_13_method_52_code
def yX11_lineOf : MethodName := ⟨RX11, "lineOf", "(I)I"⟩
abbrev cX11_isTied : ByteArray := prog_13_method_53_code
def yX11_isTied : MethodName := ⟨RX11, "isTied", "(I)Z"⟩
abbrev cX11_areAlike : ByteArray := prog_13_method_54_code
def yX11_areAlike : MethodName := ⟨RX11, "areAlike", "(II)Z"⟩
abbrev cX11_heightIn : ByteArray := prog_13_method_55_code
def yX11_heightIn : MethodName := ⟨RX11, "heightIn", "(II)I"⟩
abbrev cX11_goesRound : ByteArray := prog_13_method_56_code
def yX11_goesRound : MethodName := ⟨RX11, "goesRound", "()V"⟩
abbrev cX11_sets : ByteArray := prog_13_method_57_code
def yX11_sets : MethodName := ⟨RX11, "sets", "()V"⟩
abbrev cX11_setsNow : ByteArray := prog_13_method_58_code
def yX11_setsNow : MethodName := ⟨RX11, "setsNow", "()V"⟩
abbrev cX11_placedNow : ByteArray := prog_13_method_59_code
def yX11_placedNow : MethodName := ⟨RX11, "placedNow", "()I"⟩
abbrev cX11_lastNow : ByteArray := prog_13_method_60_code
def yX11_lastNow : MethodName := ⟨RX11, "lastNow", "()I"⟩
abbrev cX11_shownNow : ByteArray := prog_13_method_61_code
def yX11_shownNow : MethodName := ⟨RX11, "shownNow", "()I"⟩
abbrev cX11_set : ByteArray := prog_13_method_62_code
def yX11_set : MethodName := ⟨RX11, "set", "(I)I"⟩
abbrev cX11_shape : ByteArray := prog_13_method_63_code
def yX11_shape : MethodName := ⟨RX11, "shape", "(II)I"⟩
abbrev cX11_word : ByteArray := prog_13_method_64_code
def yX11_word : MethodName := ⟨RX11, "word", "(II)I"⟩
abbrev cX11_span : ByteArray := prog_13_method_65_code
def yX11_span : MethodName := ⟨RX11, "span", "(III)I"⟩
abbrev cX11_slots : ByteArray := prog_13_method_66_code
def yX11_slots : MethodName := ⟨RX11, "slots", "(I)I"⟩
abbrev cX11_firstSlot : ByteArray := prog_13_method_67_code
def yX11_firstSlot : MethodName := ⟨RX11, "firstSlot", "(I)I"⟩
abbrev cX11_slot : ByteArray := prog_13_method_68_code
def yX11_slot : MethodName := ⟨RX11, "slot", "(III)I"⟩
abbrev cX11_lies : ByteArray := prog_13_method_69_code
def yX11_lies : MethodName := ⟨RX11, "lies", "(II)I"⟩
abbrev cX11_stores : ByteArray := prog_13_method_70_code
def yX11_stores : MethodName := ⟨RX11, "stores", "()V"⟩
abbrev cX11_isAgain : ByteArray := prog_13_method_71_code
def yX11_isAgain : MethodName := ⟨RX11, "isAgain", "()V"⟩
abbrev cX11_notes : ByteArray := prog_13_method_72_code
def yX11_notes : MethodName := ⟨RX11, "notes", "()V"⟩
abbrev cX11_whyMove : ByteArray := prog_13_method_73_code
def yX11_whyMove : MethodName := ⟨RX11, "whyMove", "(JJJ)I"⟩
abbrev cX11_move : ByteArray := prog_13_method_74_code
def yX11_move : MethodName := ⟨RX11, "move", "(III)I"⟩
abbrev cX11_tie : ByteArray := prog_13_method_75_code
def yX11_tie : MethodName := ⟨RX11, "tie", "(II)I"⟩
abbrev cX11_hide : ByteArray := prog_13_method_76_code
def yX11_hide : MethodName := ⟨RX11, "hide", "(I)I"⟩
abbrev cX11_ink : ByteArray := prog_13_method_77_code
def yX11_ink : MethodName := ⟨RX11, "ink", "(I)I"⟩
abbrev cX11_undo : ByteArray := prog_13_method_78_code
def yX11_undo : MethodName := ⟨RX11, "undo", "(I)I"⟩
abbrev cX11_whyNot : ByteArray := prog_13_method_79_code
def yX11_whyNot : MethodName := ⟨RX11, "whyNot", "(J)I"⟩
abbrev cX11_does : ByteArray := prog_13_method_80_code
def yX11_does : MethodName := ⟨RX11, "does", "(I)V"⟩
abbrev cX11_tells : ByteArray := prog_13_method_81_code
def yX11_tells : MethodName := ⟨RX11, "tells", "(I)I"⟩
abbrev cX11_noTray : ByteArray := prog_13_method_82_code
def yX11_noTray : MethodName := ⟨RX11, "noTray", "(I)I"⟩
abbrev cX11_judge : ByteArray := prog_13_method_83_code
def yX11_judge : MethodName := ⟨RX11, "judge", "(II)I"⟩
abbrev cX11_perform : ByteArray := prog_13_method_84_code
def yX11_perform : MethodName := ⟨RX11, "perform", "(I)I"⟩
abbrev cX11_draw : ByteArray := prog_13_method_85_code
def yX11_draw : MethodName := ⟨RX11, "draw", "(I)I"⟩
abbrev cX11_drawn : ByteArray := prog_13_method_86_code
def yX11_drawn : MethodName := ⟨RX11, "drawn", "()I"⟩
abbrev cX11_day : ByteArray := prog_13_method_87_code
def yX11_day : MethodName := ⟨RX11, "day", "(II)I"⟩
abbrev cX11_placed : ByteArray := prog_13_method_88_code
def yX11_placed : MethodName := ⟨RX11, "placed", "()I"⟩
abbrev cX11_last : ByteArray := prog_13_method_89_code
def yX11_last : MethodName := ⟨RX11, "last", "()I"⟩
abbrev cX11_inLine : ByteArray := prog_13_method_90_code
def yX11_inLine : MethodName := ⟨RX11, "inLine", "(I)I"⟩
abbrev cX11_full : ByteArray := prog_13_method_91_code
def yX11_full : MethodName := ⟨RX11, "full", "(I)I"⟩
abbrev cX11_laysPlaced : ByteArray := prog_13_method_92_code
def yX11_laysPlaced : MethodName := ⟨RX11, "laysPlaced", "()V"⟩
abbrev cX11_leftIn : ByteArray := prog_13_method_93_code
def yX11_leftIn : MethodName := ⟨RX11, "leftIn", "(III)I"⟩
abbrev cX11_ragged : ByteArray := prog_13_method_94_code
def yX11_ragged : MethodName := ⟨RX11, "ragged", "()I"⟩
abbrev cX11_betters : ByteArray := prog_13_method_95_code
def yX11_betters : MethodName := ⟨RX11, "betters", "(IIJ)V"⟩
abbrev cX11_takesSlot : ByteArray := prog_13_method_96_code
def yX11_takesSlot : MethodName := ⟨RX11, "takesSlot", "(I)V"⟩
abbrev cX11_laysTight : ByteArray := prog_13_method_97_code
def yX11_laysTight : MethodName := ⟨RX11, "laysTight", "()V"⟩
abbrev cX11_tight : ByteArray := prog_13_method_98_code
def yX11_tight : MethodName := ⟨RX11, "tight", "()I"⟩
abbrev cX11_tightWays : ByteArray := prog_13_method_99_code
def yX11_tightWays : MethodName := ⟨RX11, "tightWays", "()J"⟩
abbrev cX11_rounds : ByteArray := prog_13_method_100_code
def yX11_rounds : MethodName := ⟨RX11, "rounds", "()I"⟩
abbrev cX11_still : ByteArray := prog_13_method_101_code
def yX11_still : MethodName := ⟨RX11, "still", "()I"⟩
abbrev cX11_clash : ByteArray := prog_13_method_102_code
def yX11_clash : MethodName := ⟨RX11, "clash", "()I"⟩
abbrev cX11_leastWide : ByteArray := prog_13_method_103_code
def yX11_leastWide : MethodName := ⟨RX11, "leastWide", "()I"⟩
abbrev cX11_bestX : ByteArray := prog_13_method_104_code
def yX11_bestX : MethodName := ⟨RX11, "bestX", "(I)I"⟩
abbrev cX11_costs : ByteArray := prog_13_method_105_code
def yX11_costs : MethodName := ⟨RX11, "costs", "()I"⟩
abbrev cX11_pushes : ByteArray := prog_13_method_106_code
def yX11_pushes : MethodName := ⟨RX11, "pushes", "(I)I"⟩
abbrev cX11_noSeen : ByteArray := prog_13_method_107_code
def yX11_noSeen : MethodName := ⟨RX11, "noSeen", "(I)I"⟩
abbrev cX11_inksOf : ByteArray := prog_13_method_108_code
def yX11_inksOf : MethodName := ⟨RX11, "inksOf", "(I)I"⟩
abbrev cX11_inks : ByteArray := prog_13_method_109_code
def yX11_inks : MethodName := ⟨RX11, "inks", "(I)I"⟩
abbrev cX11_mostAlike : ByteArray := prog_13_method_110_code
def yX11_mostAlike : MethodName := ⟨RX11, "mostAlike", "(II)I"⟩
abbrev cX11_measure : ByteArray := prog_13_method_111_code
def yX11_measure : MethodName := ⟨RX11, "measure", "(I)I"⟩
abbrev cX11_goesLots : ByteArray := prog_13_method_112_code
def yX11_goesLots : MethodName := ⟨RX11, "goesLots", "(IIJ)V"⟩
abbrev cX11_wholeOf : ByteArray := prog_13_method_113_code
def yX11_wholeOf : MethodName := ⟨RX11, "wholeOf", "(I)J"⟩
abbrev cX11_common : ByteArray := prog_13_method_114_code
def yX11_common : MethodName := ⟨RX11, "common", "(JJ)J"⟩
abbrev cX11_part : ByteArray := prog_13_method_115_code
def yX11_part : MethodName := ⟨RX11, "part", "(ZII)I"⟩
abbrev cX11_chance : ByteArray := prog_13_method_116_code
def yX11_chance : MethodName := ⟨RX11, "chance", "(II)I"⟩
abbrev cX11_mean : ByteArray := prog_13_method_117_code
def yX11_mean : MethodName := ⟨RX11, "mean", "(II)I"⟩
abbrev cX11_drawer : ByteArray := prog_13_method_118_code
def yX11_drawer : MethodName := ⟨RX11, "drawer", "(II)I"⟩
abbrev cX11_keep : ByteArray := prog_13_method_119_code
def yX11_keep : MethodName := ⟨RX11, "keep", "(II)I"⟩
abbrev cX11_kept : ByteArray := prog_13_method_120_code
def yX11_kept : MethodName := ⟨RX11, "kept", "(II)I"⟩
abbrev cX11_cut : ByteArray := prog_13_method_121_code
def yX11_cut : MethodName := ⟨RX11, "cut", "(JI)J"⟩
abbrev cX11_numbers : ByteArray := prog_13_method_122_code
def yX11_numbers : MethodName := ⟨RX11, "numbers", "(III)I"⟩
abbrev cX11_write : ByteArray := prog_13_method_123_code
def yX11_write : MethodName := ⟨RX11, "write", "(IIJ)J"⟩
abbrev cX11_lists : ByteArray := prog_13_method_124_code
def yX11_lists : MethodName := ⟨RX11, "lists", "(I)I"⟩
abbrev cX11_image : ByteArray := prog_13_method_125_code
def yX11_image : MethodName := ⟨RX11, "image", "(I)I"⟩
abbrev cX11_restore : ByteArray := prog_13_method_126_code
def yX11_restore : MethodName := ⟨RX11, "restore", "(I)I"⟩
abbrev cX11_tiedSet : ByteArray := prog_13_method_127_code
def yX11_tiedSet : MethodName := ⟨RX11, "tiedSet", "()I"⟩
abbrev cX11_count : ByteArray := prog_13_method_128_code
def yX11_count : MethodName := ⟨RX11, "count", "(I)I"⟩
def RJx145de : String := "java/io/Serializable"
def TJx145de : u_T := fun k => match k with
  | _ => ("", "", "", false)
def tyJx145de : Nat → FieldType := fun k => match k with
  | _ => .int
def RJx9f9b0 : String := "java/lang/CharSequence"
def TJx9f9b0 : u_T := fun k => match k with
  | _ => ("", "", "", false)
def tyJx9f9b0 : Nat → FieldType := fun k => match k with
  | _ => .int
def RJ11 : String := "java/lang/Character"
def TJ11 : u_T := fun k => match k with
  | _ => ("", "", "", false)
def tyJ11 : Nat → FieldType := fun k => match k with
  | _ => .int
abbrev cJ11_isValidCodePoint_9a6ad : ByteArray := prog_14_method_11_code
def yJ11_isValidCodePoint_9a6ad : MethodName := ⟨RJ11, "isValidCodePoint", "(I)Z"⟩
abbrev cJ11_highSurrogate_5068e : ByteArray := prog_14_method_28_code
def yJ11_highSurrogate_5068e : MethodName := ⟨RJ11, "highSurrogate", "(I)C"⟩
abbrev cJ11_lowSurrogate_5068e : ByteArray := prog_14_method_29_code
def yJ11_lowSurrogate_5068e : MethodName := ⟨RJ11, "lowSurrogate", "(I)C"⟩
def RJxb160c : String := "java/lang/Comparable"
def TJxb160c : u_T := fun k => match k with
  | _ => ("", "", "", false)
def tyJxb160c : Nat → FieldType := fun k => match k with
  | _ => .int
def RJ6 : String := "java/lang/Integer"
def TJ6 : u_T := fun k => match k with
  | _ => ("", "", "", false)
def tyJ6 : Nat → FieldType := fun k => match k with
  | _ => .int
abbrev cJ6_bitCount_0f7a4 : ByteArray := prog_15_method_49_code
def yJ6_bitCount_0f7a4 : MethodName := ⟨RJ6, "bitCount", "(I)I"⟩
def RJ9 : String := "java/lang/Math"
def TJ9 : u_T := fun k => match k with
  | _ => ("", "", "", false)
def tyJ9 : Nat → FieldType := fun k => match k with
  | _ => .int
abbrev cJ9_floorMod_7cf53 : ByteArray := prog_16_method_50_code
def yJ9_floorMod_7cf53 : MethodName := ⟨RJ9, "floorMod", "(II)I"⟩
abbrev cJ9_max_7cf53 : ByteArray := prog_16_method_65_code
def yJ9_max_7cf53 : MethodName := ⟨RJ9, "max", "(II)I"⟩
abbrev cJ9_max_f86c9 : ByteArray := prog_16_method_66_code
def yJ9_max_f86c9 : MethodName := ⟨RJ9, "max", "(JJ)J"⟩
abbrev cJ9_min_7cf53 : ByteArray := prog_16_method_69_code
def yJ9_min_7cf53 : MethodName := ⟨RJ9, "min", "(II)I"⟩
abbrev cJ9_min_f86c9 : ByteArray := prog_16_method_70_code
def yJ9_min_f86c9 : MethodName := ⟨RJ9, "min", "(JJ)J"⟩
def RJ0 : String := "java/lang/String"
def TJ0 : u_T := fun k => match k with
  | _ => ("", "", "", false)
def tyJ0 : Nat → FieldType := fun k => match k with
  | _ => .int
abbrev cJ0_length_8abf5 : ByteArray := prog_17_method_54_code
def yJ0_length_8abf5 : MethodName := ⟨RJ0, "length", "()I"⟩
abbrev cJ0_charAt_5068e : ByteArray := prog_17_method_56_code
def yJ0_charAt_5068e : MethodName := ⟨RJ0, "charAt", "(I)C"⟩
abbrev cJ0_indexOf_0f7a4 : ByteArray := prog_17_method_79_code
def yJ0_indexOf_0f7a4 : MethodName := ⟨RJ0, "indexOf", "(I)I"⟩
abbrev cJ0_indexOf_7cf53 : ByteArray := prog_17_method_80_code
def yJ0_indexOf_7cf53 : MethodName := ⟨RJ0, "indexOf", "(II)I"⟩
abbrev cJ0_coder_7d493 : ByteArray := prog_17_method_152_code
def yJ0_coder_7d493 : MethodName := ⟨RJ0, "coder", "()B"⟩
abbrev cJ0_isLatin1_aae02 : ByteArray := prog_17_method_154_code
def yJ0_isLatin1_aae02 : MethodName := ⟨RJ0, "isLatin1", "()Z"⟩
abbrev cJ0_checkIndex_df160 : ByteArray := prog_17_method_155_code
def yJ0_checkIndex_df160 : MethodName := ⟨RJ0, "checkIndex", "(II)V"⟩
abbrev cJ0_checkBoundsBeginEnd_23922 : ByteArray := prog_17_method_158_code
def yJ0_checkBoundsBeginEnd_23922 : MethodName := ⟨RJ0, "checkBoundsBeginEnd", "(III)V"⟩
def RJ1 : String := "java/lang/StringLatin1"
def TJ1 : u_T := fun k => match k with
  | _ => ("", "", "", false)
def tyJ1 : Nat → FieldType := fun k => match k with
  | _ => .int
abbrev cJ1_charAt_3b067 : ByteArray := prog_18_method_2_code
def yJ1_charAt_3b067 : MethodName := ⟨RJ1, "charAt", "([BI)C"⟩
abbrev cJ1_canEncode_9a6ad : ByteArray := prog_18_method_4_code
def yJ1_canEncode_9a6ad : MethodName := ⟨RJ1, "canEncode", "(I)Z"⟩
abbrev cJ1_indexOf_4cfef : ByteArray := prog_18_method_22_code
def yJ1_indexOf_4cfef : MethodName := ⟨RJ1, "indexOf", "([BIII)I"⟩
abbrev cJ1_indexOfChar_4cfef : ByteArray := prog_18_method_23_code
def yJ1_indexOfChar_4cfef : MethodName := ⟨RJ1, "indexOfChar", "([BIII)I"⟩
def RJ2 : String := "java/lang/StringUTF16"
def TJ2 : u_T := fun k => match k with
  | _ => ("", "", "", false)
def tyJ2 : Nat → FieldType := fun k => match k with
  | _ => .int
abbrev cJ2_getChar_3b067 : ByteArray := prog_19_method_5_code
def yJ2_getChar_3b067 : MethodName := ⟨RJ2, "getChar", "([BI)C"⟩
abbrev cJ2_length_9d52b : ByteArray := prog_19_method_6_code
def yJ2_length_9d52b : MethodName := ⟨RJ2, "length", "([B)I"⟩
abbrev cJ2_indexOf_4cfef : ByteArray := prog_19_method_40_code
def yJ2_indexOf_4cfef : MethodName := ⟨RJ2, "indexOf", "([BIII)I"⟩
abbrev cJ2_indexOfChar_4cfef : ByteArray := prog_19_method_47_code
def yJ2_indexOfChar_4cfef : MethodName := ⟨RJ2, "indexOfChar", "([BIII)I"⟩
abbrev cJ2_indexOfCharUnsafe_4cfef : ByteArray := prog_19_method_48_code
def yJ2_indexOfCharUnsafe_4cfef : MethodName := ⟨RJ2, "indexOfCharUnsafe", "([BIII)I"⟩
abbrev cJ2_indexOfSupplementary_4cfef : ByteArray := prog_19_method_49_code
def yJ2_indexOfSupplementary_4cfef : MethodName := ⟨RJ2, "indexOfSupplementary", "([BIII)I"⟩
abbrev cJ2_charAt_3b067 : ByteArray := prog_19_method_83_code
def yJ2_charAt_3b067 : MethodName := ⟨RJ2, "charAt", "([BI)C"⟩
abbrev cJ2_checkIndex_2214a : ByteArray := prog_19_method_91_code
def yJ2_checkIndex_2214a : MethodName := ⟨RJ2, "checkIndex", "(I[B)V"⟩
abbrev cJ2_checkBoundsBeginEnd_d044e : ByteArray := prog_19_method_93_code
def yJ2_checkBoundsBeginEnd_d044e : MethodName := ⟨RJ2, "checkBoundsBeginEnd", "(II[B)V"⟩
def RJxfd54e : String := "java/lang/constant/Constable"
def TJxfd54e : u_T := fun k => match k with
  | _ => ("", "", "", false)
def tyJxfd54e : Nat → FieldType := fun k => match k with
  | _ => .int
def RJx3cf43 : String := "java/lang/constant/ConstantDesc"
def TJx3cf43 : u_T := fun k => match k with
  | _ => ("", "", "", false)
def tyJx3cf43 : Nat → FieldType := fun k => match k with
  | _ => .int
def RJ7 : String := "java/util/Arrays"
def TJ7 : u_T := fun k => match k with
  | _ => ("", "", "", false)
def tyJ7 : Nat → FieldType := fun k => match k with
  | _ => .int
abbrev cJ7_fill_d0a16 : ByteArray := prog_20_method_101_code
def yJ7_fill_d0a16 : MethodName := ⟨RJ7, "fill", "([JJ)V"⟩
abbrev cJ7_fill_53178 : ByteArray := prog_20_method_103_code
def yJ7_fill_53178 : MethodName := ⟨RJ7, "fill", "([II)V"⟩
def RJ3 : String := "jdk/internal/util/Preconditions"
def TJ3 : u_T := fun k => match k with
  | _ => ("", "", "", false)
def tyJ3 : Nat → FieldType := fun k => match k with
  | _ => .int
abbrev cJ3_checkIndex_8e157 : ByteArray := prog_21_method_11_code
def yJ3_checkIndex_8e157 : MethodName := ⟨RJ3, "checkIndex", "(IILjava/util/function/BiFunction;)I"⟩
abbrev cJ3_checkFromToIndex_8c36e : ByteArray := prog_21_method_12_code
def yJ3_checkFromToIndex_8c36e : MethodName := ⟨RJ3, "checkFromToIndex", "(IIILjava/util/function/BiFunction;)I"⟩
def RL : String := "ShapePourLaw"
abbrev cL_law : ByteArray := code
def yL_law : MethodName := ⟨RL, "law", "([I)Z"⟩
abbrev vwCl : List vw_C := [(RX0, TX0, 5), (RX1, TX1, 4), (RX2, TX2, 4), (RX3, TX3, 19), (RX4, TX4, 3), (RX5, TX5, 10), (RX6, TX6, 13), (RX7, TX7, 10), (RX8, TX8, 5), (RX9, TX9, 3), (RX10, TX10, 19), (RX11, TX11, 59)]
end
section
/-! PURE MACHINE: values, heap, ranges -/
abbrev PV : Type := Int ⊕ Int ⊕ Nat ⊕ UInt32 ⊕ UInt64
abbrev vI (x : Int) : PV := Sum.inl x
abbrev vJ (x : Int) : PV := Sum.inr (Sum.inl x)
abbrev vR (a : Nat) : PV := Sum.inr (Sum.inr (Sum.inl a))
abbrev vF (x : UInt32) : PV := Sum.inr (Sum.inr (Sum.inr (Sum.inl x)))
abbrev vD (x : UInt64) : PV := Sum.inr (Sum.inr (Sum.inr (Sum.inr x)))
abbrev PH : Type := Nat × (Nat → Nat) × (Nat → Nat) × (Nat → Nat → Int) × (Nat → Nat → Int) × (Nat → Nat → Nat)
def nx (h : PH) : Nat := h.1
def cl (h : PH) (q : Nat) : Nat := h.2.1 q
def ln (h : PH) (q : Nat) : Nat := h.2.2.1 q
def gi (h : PH) (q k : Nat) : Int := h.2.2.2.1 q k
def gj (h : PH) (q k : Nat) : Int := h.2.2.2.2.1 q k
def gr (h : PH) (q k : Nat) : Nat := h.2.2.2.2.2 q k
def up2 {α : Type} (f : Nat → Nat → α) (q k : Nat) (v : α) : Nat → Nat → α := fun q' k' => if q' = q ∧ k' = k then v else f q' k'
def up1 {α : Type} (f : Nat → α) (q : Nat) (v : α) : Nat → α := fun q' => if q' = q then v else f q'
def si (h : PH) (q k : Nat) (v : Int) : PH := (h.1, h.2.1, h.2.2.1, up2 h.2.2.2.1 q k v, h.2.2.2.2.1, h.2.2.2.2.2)
def sj (h : PH) (q k : Nat) (v : Int) : PH := (h.1, h.2.1, h.2.2.1, h.2.2.2.1, up2 h.2.2.2.2.1 q k v, h.2.2.2.2.2)
def sr (h : PH) (q k : Nat) (v : Nat) : PH := (h.1, h.2.1, h.2.2.1, h.2.2.2.1, h.2.2.2.2.1, up2 h.2.2.2.2.2 q k v)
/-- a new cell of class code c and length n: all its places 0 -/
def nw (h : PH) (c n : Nat) : PH := (h.1 + 1, up1 h.2.1 h.1 c, up1 h.2.2.1 h.1 n, up1 h.2.2.2.1 h.1 (fun _ => 0), up1 h.2.2.2.2.1 h.1 (fun _ => 0), up1 h.2.2.2.2.2 h.1 (fun _ => 0))
def R32 (x : Int) : Prop := -2147483648 ≤ x ∧ x < 2147483648
def R64 (x : Int) : Prop := -9223372036854775808 ≤ x ∧ x < 9223372036854775808
def w32 (x : Int) : Int := (x + 2147483648) % 4294967296 - 2147483648
def w64 (x : Int) : Int := (x + 9223372036854775808) % 18446744073709551616 - 9223372036854775808
theorem w32_id {x : Int} (h : R32 x) : w32 x = x := by unfold w32 R32 at *; omega
theorem w64_id {x : Int} (h : R64 x) : w64 x = x := by unfold w64 R64 at *; omega
theorem R32_w (x : Int) : R32 (w32 x) := by unfold w32 R32; omega
theorem R64_w (x : Int) : R64 (w64 x) := by unfold w64 R64; omega
theorem bm32 (x : Int) : x.bmod 4294967296 = w32 x := by
  unfold w32 Int.bmod
  show (if x % 4294967296 < (4294967296 + 1) / 2 then x % 4294967296 else x % 4294967296 - 4294967296) = _
  split <;> omega
theorem bm64 (x : Int) : x.bmod 18446744073709551616 = w64 x := by
  unfold w64 Int.bmod
  show (if x % 18446744073709551616 < (18446744073709551616 + 1) / 2 then x % 18446744073709551616 else x % 18446744073709551616 - 18446744073709551616) = _
  split <;> omega
theorem ti32 (x : Int) : (Int32.ofInt x).toInt = w32 x := by rw [Int32.toInt_ofInt]; exact bm32 x
theorem ti64 (x : Int) : (Int64.ofInt x).toInt = w64 x := by rw [Int64.toInt_ofInt]; exact bm64 x
theorem ow32 (x : Int) : Int32.ofInt (w32 x) = Int32.ofInt x := by rw [← ti32, Int32.ofInt_toInt]
theorem ow64 (x : Int) : Int64.ofInt (w64 x) = Int64.ofInt x := by rw [← ti64, Int64.ofInt_toInt]
theorem tr32 {x : Int} (h : R32 x) : (Int32.ofInt x).toInt = x := by rw [ti32, w32_id h]
theorem tr64 {x : Int} (h : R64 x) : (Int64.ofInt x).toInt = x := by rw [ti64, w64_id h]
theorem R32_i (x : Int32) : R32 x.toInt := ⟨by have := x.le_toInt; omega, by have := x.toInt_lt; omega⟩
theorem R64_i (x : Int64) : R64 x.toInt := ⟨by have := x.le_toInt; omega, by have := x.toInt_lt; omega⟩
theorem oi32 (x : Int32) : Int32.ofInt x.toInt = x := Int32.ofInt_toInt x
theorem oi64 (x : Int64) : Int64.ofInt x.toInt = x := Int64.ofInt_toInt x
theorem lt32 {a b : Int} (ha : R32 a) (hb : R32 b) : Int32.ofInt a < Int32.ofInt b ↔ a < b := by rw [Int32.lt_iff_toInt_lt, tr32 ha, tr32 hb]
theorem le32 {a b : Int} (ha : R32 a) (hb : R32 b) : Int32.ofInt a ≤ Int32.ofInt b ↔ a ≤ b := by rw [Int32.le_iff_toInt_le, tr32 ha, tr32 hb]
theorem eq32 {a b : Int} (ha : R32 a) (hb : R32 b) : Int32.ofInt a = Int32.ofInt b ↔ a = b := by rw [← Int32.toInt_inj, tr32 ha, tr32 hb]
theorem lt64 {a b : Int} (ha : R64 a) (hb : R64 b) : Int64.ofInt a < Int64.ofInt b ↔ a < b := by rw [Int64.lt_iff_toInt_lt, tr64 ha, tr64 hb]
theorem eq64 {a b : Int} (ha : R64 a) (hb : R64 b) : Int64.ofInt a = Int64.ofInt b ↔ a = b := by rw [← Int64.toInt_inj, tr64 ha, tr64 hb]
theorem R32_0 : R32 0 := by unfold R32; omega
theorem R64_0 : R64 0 := by unfold R64; omega
def iand (a b : Int) : Int := (Int32.ofInt a &&& Int32.ofInt b).toInt
def ior (a b : Int) : Int := (Int32.ofInt a ||| Int32.ofInt b).toInt
def ixor (a b : Int) : Int := (Int32.ofInt a ^^^ Int32.ofInt b).toInt
def ishl (a b : Int) : Int := (Int32.ofInt a <<< (Int32.ofInt b &&& 31)).toInt
def ishr (a b : Int) : Int := (Int32.ofInt a >>> (Int32.ofInt b &&& 31)).toInt
def iushr (a b : Int) : Int := ((Int32.ofInt a).toUInt32 >>> ((Int32.ofInt b).toUInt32 &&& Int32.toUInt32 31)).toInt32.toInt
def i2b (a : Int) : Int := (Int32.ofInt a).toInt8.toInt32.toInt
def i2s (a : Int) : Int := (Int32.ofInt a).toInt16.toInt32.toInt
def i2c (a : Int) : Int := ((Int32.ofInt a).toUInt32 % 65536).toInt32.toInt
def land (a b : Int) : Int := (Int64.ofInt a &&& Int64.ofInt b).toInt
def lor (a b : Int) : Int := (Int64.ofInt a ||| Int64.ofInt b).toInt
def lshl (a b : Int) : Int := (Int64.ofInt a <<< ((Int32.ofInt b).toInt64 &&& 63)).toInt
def lshr (a b : Int) : Int := (Int64.ofInt a >>> ((Int32.ofInt b).toInt64 &&& 63)).toInt
def lcmpv (a b : Int) : Int := if a < b then -1 else if a = b then 0 else 1
theorem R32_lcmp (a b : Int) : R32 (lcmpv a b) := by unfold lcmpv R32; split; omega; split <;> omega
theorem dv32 {a b : Int} (ha : R32 a) (hb : R32 b) : Int32.ofInt a / Int32.ofInt b = Int32.ofInt (w32 (a.tdiv b)) := by
  rw [← Int32.toInt_inj, ow32, ti32, Int32.toInt_div, tr32 ha, tr32 hb]; exact bm32 _
theorem dv64 {a b : Int} (ha : R64 a) (hb : R64 b) : Int64.ofInt a / Int64.ofInt b = Int64.ofInt (w64 (a.tdiv b)) := by
  rw [← Int64.toInt_inj, ow64, ti64, Int64.toInt_div, tr64 ha, tr64 hb]; exact bm64 _
theorem tm_ab {a b : Int} (h0 : b ≠ 0) : (a.tmod b).natAbs < b.natAbs := by
  rw [Int.natAbs_tmod]; exact Nat.mod_lt _ (by omega)
theorem tm32 {a b : Int} (hb : R32 b) (h0 : b ≠ 0) : R32 (a.tmod b) := by
  unfold R32 at *
  have h1 := tm_ab (a := a) h0
  omega
theorem tm64 {a b : Int} (hb : R64 b) (h0 : b ≠ 0) : R64 (a.tmod b) := by
  unfold R64 at *
  have h1 := tm_ab (a := a) h0
  omega
theorem rm32 {a b : Int} (ha : R32 a) (hb : R32 b) : Int32.ofInt a - Int32.ofInt a / Int32.ofInt b * Int32.ofInt b = Int32.ofInt (a.tmod b) := by
  rw [dv32 ha hb, ow32, ← Int32.ofInt_mul, ← Int32.ofInt_sub, Int.tmod_def, Int.mul_comm b]
theorem rm64 {a b : Int} (ha : R64 a) (hb : R64 b) : Int64.ofInt a - Int64.ofInt a / Int64.ofInt b * Int64.ofInt b = Int64.ofInt (a.tmod b) := by
  rw [dv64 ha hb, ow64, ← Int64.ofInt_mul, ← Int64.ofInt_sub, Int.tmod_def, Int.mul_comm b]
theorem il64 {a : Int} (ha : R32 a) : (Int32.ofInt a).toInt64 = Int64.ofInt a := by
  rw [← Int64.toInt_inj, Int32.toInt_toInt64, tr32 ha, tr64 (by unfold R32 R64 at *; omega)]
theorem li32 {a : Int} (ha : R64 a) : (Int64.ofInt a).toInt32 = Int32.ofInt a := by
  rw [← Int32.toInt_inj, Int64.toInt_toInt32, tr64 ha, ti32]; exact bm32 _
theorem ne32 {b : Int} (hb : R32 b) (h : b ≠ 0) : ¬ Int32.ofInt b = 0 := fun e => h (by
  have := congrArg Int32.toInt e
  rw [tr32 hb] at this
  simpa using this)
theorem ne64 {b : Int} (hb : R64 b) (h : b ≠ 0) : ¬ Int64.ofInt b = 0 := fun e => h (by
  have := congrArg Int64.toInt e
  rw [tr64 hb] at this
  simpa using this)
end
section
/-! THE PURE MACHINE BESIDE THE REAL ONE -/
abbrev MD : Type := MethodName × ByteArray × Nat × Option FieldType
/-- class numbers, slots of fields, array classes, the first cell of the run, the heap at its start, where older cells lie -/
abbrev Gx : Type := (Nat → ClassId) × (Nat → Nat → Nat) × (Nat → ClassId) × Nat × Heap × (Nat → Nat)
def bs (g : Gx) : Nat := g.2.2.2.1
def h00 (g : Gx) : Heap := g.2.2.2.2.1
def ad (g : Gx) (a : Nat) : Nat := if a < 64 then g.2.2.2.2.2 a else bs g + (a - 64)
def rfo (g : Gx) (a : Nat) : Option Nat := if a = 0 then none else some (ad g a)
def rv (g : Gx) (v : PV) : Value := match v with
  | .inl x => .int (Int32.ofInt x)
  | .inr (.inl x) => .long (Int64.ofInt x)
  | .inr (.inr (.inl a)) => va_rf (rfo g a)
  | .inr (.inr (.inr (.inl x))) => .float x
  | .inr (.inr (.inr (.inr x))) => .double x
def okv (v : PV) : Prop := match v with
  | .inl x => R32 x
  | .inr (.inl x) => R64 x
  | _ => True
def cat2 (v : PV) : Bool := match v with
  | .inr (.inl _) => true
  | .inr (.inr (.inr (.inr _))) => true
  | _ => false
theorem rv_cat (g : Gx) (v : PV) : (rv g v).category = if cat2 v then 2 else 1 := by
  match v with
  | .inl x => rfl
  | .inr (.inl x) => rfl
  | .inr (.inr (.inl a)) =>
    show (va_rf (rfo g a)).category = 1
    cases rfo g a <;> rfl
  | .inr (.inr (.inr (.inl x))) => rfl
  | .inr (.inr (.inr (.inr x))) => rfl
/-- locals -/
def lst (g : Gx) (lo : List (Option PV)) : List (Nat × Value) := (List.range lo.length).filterMap (fun i => match lo[i]? with
  | some (some v) => some (i, rv g v)
  | _ => none)
theorem mem_lst {g : Gx} {lo : List (Option PV)} {i : Nat} {v : PV} (h : lo[i]? = some (some v)) : (i, rv g v) ∈ lst g lo := by
  refine List.mem_filterMap.mpr ⟨i, List.mem_range.mpr (List.getElem?_eq_some_iff.mp h).1, ?_⟩
  rw [h]
theorem lst_mem {g : Gx} {lo : List (Option PV)} {q : Nat × Value} (h : q ∈ lst g lo) : ∃ v, lo[q.1]? = some (some v) ∧ q.2 = rv g v := by
  obtain ⟨i, -, hi⟩ := List.mem_filterMap.mp h
  cases hl : lo[i]? with
  | none => rw [hl] at hi; cases hi
  | some o =>
    cases o with
    | none => rw [hl] at hi; cases hi
    | some v =>
      rw [hl] at hi
      cases hi
      exact ⟨v, hl, rfl⟩
def kil (i : Nat) (lo : List (Option PV)) : List (Option PV) := match i with
  | 0 => lo
  | i + 1 => match lo[i]? with
    | some (some v) => match cat2 v with
      | true => lo.set i none
      | false => lo
    | _ => lo
def lset1 (lo : List (Option PV)) (i : Nat) (v : PV) : List (Option PV) := (kil i lo).set i (some v)
def lset2 (lo : List (Option PV)) (i : Nat) (v : PV) : List (Option PV) := ((kil i lo).set i (some v)).set (i + 1) none
theorem kil_len (i : Nat) (lo : List (Option PV)) : (kil i lo).length = lo.length := by
  unfold kil
  split
  · rfl
  · split
    · split <;> simp
    · rfl
theorem kil_at {i j : Nat} {lo : List (Option PV)} {w : PV} (h : (kil i lo)[j]? = some (some w)) : lo[j]? = some (some w) ∧ ¬ (j + 1 = i ∧ cat2 w = true) := by
  unfold kil at h
  split at h
  · exact ⟨h, fun q => by omega⟩
  · rename_i i
    split at h
    · rename_i v hv
      split at h
      · rename_i hc
        rw [List.getElem?_set] at h
        split at h
        · split at h <;> cases h
        · rename_i hne
          exact ⟨h, fun q => hne (by omega)⟩
      · rename_i hc
        refine ⟨h, fun q => ?_⟩
        have hj : j = i := by omega
        subst hj
        rw [hv] at h
        cases h
        rw [hc] at q
        cases q.2
    · rename_i hn
      refine ⟨h, fun q => ?_⟩
      have hj : j = i := by omega
      subst hj
      exact hn _ h
theorem lset1_at {lo : List (Option PV)} {i j : Nat} {v w : PV} (h : (lset1 lo i v)[j]? = some (some w)) : (j = i ∧ w = v) ∨ (j ≠ i ∧ lo[j]? = some (some w) ∧ ¬ (j + 1 = i ∧ cat2 w = true)) := by
  unfold lset1 at h
  rw [List.getElem?_set] at h
  split at h
  · rename_i hi
    split at h
    · cases h; exact Or.inl ⟨hi.symm, rfl⟩
    · cases h
  · rename_i hi
    exact Or.inr ⟨fun e => hi e.symm, kil_at h⟩
theorem lset2_at {lo : List (Option PV)} {i j : Nat} {v w : PV} (h : (lset2 lo i v)[j]? = some (some w)) : (j = i ∧ w = v) ∨ (j ≠ i ∧ j ≠ i + 1 ∧ lo[j]? = some (some w) ∧ ¬ (j + 1 = i ∧ cat2 w = true)) := by
  unfold lset2 at h
  rw [List.getElem?_set] at h
  split at h
  · split at h <;> cases h
  · rename_i h1
    rcases lset1_at (lo := lo) (i := i) (v := v) h with q | ⟨q1, q2⟩
    · exact Or.inl q
    · exact Or.inr ⟨q1, fun e => h1 e.symm, q2⟩
def Lr (g : Gx) (n : Nat) (lo : List (Option PV)) (ls : Array Slot) : Prop := lv_has ls n (lst g lo) ∧ (∀ (i : Nat) (v : PV), lo[i]? = some (some v) → okv v) ∧ lo.length = n
theorem Lr.at {g : Gx} {n : Nat} {lo : List (Option PV)} {ls : Array Slot} (h : Lr g n lo ls) {i : Nat} {v : PV} (hi : lo[i]? = some (some v)) : ls[i]? = some (.val (rv g v)) := h.1.2.2 _ (mem_lst hi)
theorem Lr.set1 {g : Gx} {n : Nat} {lo : List (Option PV)} {ls' ls : Array Slot} {i : Nat} {v : PV} {x : Value} (h : Lr g n lo ls) (hx : x = rv g v) (hv : okv v) (h' : lv_has ls' n ((i, x) :: (lst g lo).filter (fun q => !(q.1 == i) && !(q.1 + 1 == i && q.2.category == 2)))) : Lr g n (lset1 lo i v) ls' := by
  subst hx
  refine ⟨⟨h'.1, h'.2.1, fun q hq => h'.2.2 q ?_⟩, fun j w hj => ?_, by unfold lset1; rw [List.length_set, kil_len]; exact h.2.2⟩
  · obtain ⟨w, h1, h2⟩ := lst_mem hq
    rcases lset1_at h1 with ⟨e1, e2⟩ | ⟨n1, e2, n2⟩
    · refine List.mem_cons.mpr (Or.inl ?_)
      rw [← e2, ← e1, ← h2]
    · refine List.mem_cons.mpr (Or.inr (List.mem_filter.mpr ⟨?_, ?_⟩))
      · have := mem_lst (g := g) e2
        rw [← h2] at this
        exact this
      · rw [h2, rv_cat]
        by_cases hc : cat2 w = true
        · have : ¬ q.1 + 1 = i := fun e => n2 ⟨e, hc⟩
          simp [n1, this, hc]
        · simp [n1, hc]
  · rcases lset1_at hj with ⟨-, e2⟩ | ⟨-, e2, -⟩
    · rw [e2]; exact hv
    · exact h.2.1 j w e2
theorem Lr.set2 {g : Gx} {n : Nat} {lo : List (Option PV)} {ls' ls : Array Slot} {i : Nat} {v : PV} {x : Value} (h : Lr g n lo ls) (hx : x = rv g v) (hv : okv v) (h' : lv_has ls' n ((i, x) :: (lst g lo).filter (fun q => !(q.1 == i) && (!(q.1 == i + 1) && !(q.1 + 1 == i && q.2.category == 2))))) : Lr g n (lset2 lo i v) ls' := by
  subst hx
  refine ⟨⟨h'.1, h'.2.1, fun q hq => h'.2.2 q ?_⟩, fun j w hj => ?_, by unfold lset2; rw [List.length_set, List.length_set, kil_len]; exact h.2.2⟩
  · obtain ⟨w, h1, h2⟩ := lst_mem hq
    rcases lset2_at h1 with ⟨e1, e2⟩ | ⟨n1, n3, e2, n2⟩
    · refine List.mem_cons.mpr (Or.inl ?_)
      rw [← e2, ← e1, ← h2]
    · refine List.mem_cons.mpr (Or.inr (List.mem_filter.mpr ⟨?_, ?_⟩))
      · have := mem_lst (g := g) e2
        rw [← h2] at this
        exact this
      · rw [h2, rv_cat]
        by_cases hc : cat2 w = true
        · have : ¬ q.1 + 1 = i := fun e => n2 ⟨e, hc⟩
          simp [n1, n3, this, hc]
        · simp [n1, n3, hc]
  · rcases lset2_at hj with ⟨-, e2⟩ | ⟨-, -, e2, -⟩
    · rw [e2]; exact hv
    · exact h.2.1 j w e2
end
section
/-! THE HEAP'S PICTURE, THE CONTEXT, THE JUDGEMENTS -/
def fty (c k : Nat) : FieldType := match c with
  | 0 => tyX0 k
  | 1 => tyX1 k
  | 2 => tyX2 k
  | 3 => tyX3 k
  | 4 => tyX4 k
  | 5 => tyX5 k
  | 6 => tyX6 k
  | 7 => tyX7 k
  | 8 => tyX8 k
  | 9 => tyX9 k
  | 10 => tyX10 k
  | _ => tyX11 k
def fv (h : PH) (q c k : Nat) : PV := match fty c k with
  | .long => vJ (gj h q k)
  | .array _ => vR (gr h q k)
  | .object _ => vR (gr h q k)
  | _ => vI (gi h q k)
def aty (t : Nat) : FieldType := match t with
  | 20 => .int
  | 21 => .byte
  | 22 => .long
  | 23 => .boolean
  | 24 => .object RX3
  | _ => .object RX8
def acl (g : Gx) (h : PH) (q t : Nat) : vp_A := match t with
  | 22 => (ln h q, .inr (.inl (fun j => Int64.ofInt (gj h q j))))
  | 24 => (ln h q, .inr (.inr (.inr (.inr (fun j => rfo g (gr h q j))))))
  | 25 => (ln h q, .inr (.inr (.inr (.inr (fun j => rfo g (gr h q j))))))
  | _ => (ln h q, .inl (fun j => Int32.ofInt (gi h q j)))
/-- what the cell of the pure address q is -/
def cok (g : Gx) (h : PH) (q : Nat) (H : Heap) : Prop :=
  (∀ c r, cl h q = c + 1 → vwCl[c]? = some r → t_OB (ad g q) (g.1 c) r.2.2 (g.2.1 c) H (fun k => rv g (fv h q c k))) ∧
  (20 ≤ cl h q → cl h q < 26 → H[ad g q]? = some (vp_cell (g.2.2.1 (cl h q - 20)) (acl g h q (cl h q))))
/-- the law's own script -/
def SX (g : Gx) (h : PH) : Prop := cl h 62 = 30 → ln h 62 ≤ 3072 ∧ ad g 62 < bs g ∧ ∃ scr : Cell, (h00 g)[ad g 62]? = some scr ∧ scr.vm ≠ .unknown ∧ scr.slots.size = ln h 62 ∧ ∀ j : Nat, j < ln h 62 → scr.slots[j]? = some (.int (Int32.ofInt (gi h 62 j)))
theorem SX.keep {g : Gx} {h h' : PH} (hx : SX g h) (h1 : cl h' 62 = cl h 62) (h2 : ln h' 62 = ln h 62) (h3 : ∀ j, gi h' 62 j = gi h 62 j) : SX g h' := by
  unfold SX at *
  rw [h1, h2]
  simp only [h3]
  exact hx
def Rel (g : Gx) (h : PH) (H : Heap) : Prop :=
  H.size = ad g (nx h) ∧ 64 ≤ nx h ∧ (∀ q, 64 ≤ q → q < nx h → cok g h q H) ∧ (∀ q k, R32 (gi h q k)) ∧ (∀ q k, R64 (gj h q k)) ∧ (∀ a : Nat, a < bs g → H[a]? = (h00 g)[a]?) ∧
  (∀ q, cl h q ≠ 0 → cl h q < 26 → 64 ≤ q ∧ q < nx h) ∧ (∀ q, cl h q = 31 → 1 ≤ q ∧ q ≤ 27) ∧ (∀ q, cl h q = 32 → 33 ≤ q ∧ q ≤ 59) ∧ (∀ q, cl h q = 30 → q = 62) ∧ SX g h
def tysG (g : Gx) : List (ClassId × FieldType) := [(g.2.2.1 0, .int), (g.2.2.1 1, .byte), (g.2.2.1 2, .long), (g.2.2.1 3, .boolean), (g.2.2.1 4, .object RX3), (g.2.2.1 5, .object RX8)]
def nestL : List Cond := [.methodLinkNest RX10 57 yX0_init RX10, .methodLinkNest RX10 71 yX1_init RX10, .methodLinkNest RX3 36 yX2_init RX10, .methodLinkNest RX6 17 yX7_init RX10]
def sOwn (i : Nat) : String := if i < 25 then RX5 else RX11
def sIdx : List Nat := [79, 98, 103, 111, 115, 119, 123, 132, 137, 139, 141, 146, 207, 241, 239, 234, 218, 220, 222, 223, 225, 227, 228, 230, 155, 125, 163]
def sTxt : List String := [";:+-*()[]=<>", "page", "wide", "lines", "high", "least", "ink", "box", "circle", "wedge", "tie", "words", "if", "not", "and", "or", "then", "else", "end", "size", "word", "first", "shape", "line", "gap", " page wide lines high least ink box circle wedge tie words gap if then else end size word first shape line and or not ", ";:+-*()[]=<>"]
def sByt : List (List Int) := [[59, 58, 43, 45, 42, 40, 41, 91, 93, 61, 60, 62], [112, 97, 103, 101], [119, 105, 100, 101], [108, 105, 110, 101, 115], [104, 105, 103, 104], [108, 101, 97, 115, 116], [105, 110, 107], [98, 111, 120], [99, 105, 114, 99, 108, 101], [119, 101, 100, 103, 101], [116, 105, 101], [119, 111, 114, 100, 115], [105, 102], [110, 111, 116], [97, 110, 100], [111, 114], [116, 104, 101, 110], [101, 108, 115, 101], [101, 110, 100], [115, 105, 122, 101], [119, 111, 114, 100], [102, 105, 114, 115, 116], [115, 104, 97, 112, 101], [108, 105, 110, 101], [103, 97, 112], [32, 112, 97, 103, 101, 32, 119, 105, 100, 101, 32, 108, 105, 110, 101, 115, 32, 104, 105, 103, 104, 32, 108, 101, 97, 115, 116, 32, 105, 110, 107, 32, 98, 111, 120, 32, 99, 105, 114, 99, 108, 101, 32, 119, 101, 100, 103, 101, 32, 116, 105, 101, 32, 119, 111, 114, 100, 115, 32, 103, 97, 112, 32, 105, 102, 32, 116, 104, 101, 110, 32, 101, 108, 115, 101, 32, 101, 110, 100, 32, 115, 105, 122, 101, 32, 119, 111, 114, 100, 32, 102, 105, 114, 115, 116, 32, 115, 104, 97, 112, 101, 32, 108, 105, 110, 101, 32, 97, 110, 100, 32, 111, 114, 32, 110, 111, 116, 32], [59, 58, 43, 45, 42, 40, 41, 91, 93, 61, 60, 62]]
def sLen (i : Nat) : Nat := (sByt.getD i []).length
def sChr (i j : Nat) : Int := (sByt.getD i []).getD j 0
def own0 (g : Gx) : Nat → Prop := fun q => bs g ≤ q
def SK (g : Gx) (U : State) : Prop := ∀ i, i < 27 →
  vk_R (sOwn i) (sIdx.getD i 0) (sTxt.getD i "") (ad g (1 + i)) U ∧ va_O "java/lang/String" (ad g (1 + i)) (own0 g) U (h00 g) ∧ va_OF "java/lang/String" "coder" "B" (.int 0) (ad g (1 + i)) (own0 g) U (h00 g) ∧
  va_OF "java/lang/String" "value" "[B" (.ref (ad g (33 + i))) (ad g (1 + i)) (own0 g) U (h00 g) ∧ va_T .byte (ad g (33 + i)) (sLen i) (fun j => .int (Int32.ofInt (sChr i j))) (own0 g) U (h00 g)
def KK (g : Gx) (U : State) : Prop := va_K (g.1, g.2.1) vwCl (tysG g) U ∧ (∀ w ∈ nestL, va_Nw w U) ∧ SK g U ∧ va_Z "java/lang/String" "COMPACT_STRINGS" "Z" (.int 1) (own0 g) U (h00 g) ∧ va_AO RX3 U ∧ va_AO RX8 U ∧ (∃ a, (a = 0 ∨ a = 61) ∧ va_Z "jdk/internal/util/Preconditions" "SIOOBE_FORMATTER" "Ljava/util/function/BiFunction;" (rv g (vR a)) (own0 g) U (h00 g)) ∧ (∀ scr, (h00 g)[ad g 62]? = some scr → U.isArrayOf scr .int)
theorem KK.warm {g : Gx} {s U : State} (h : KK g s) (hW : s.WarmedH U.vm) : KK g U := by
  obtain ⟨h1, h2, h3, h4, h5, h6, ⟨a0, h7, h8⟩, h9⟩ := h
  refine ⟨va_K.moved hW.alike h1, ?_, fun i hi => ?_, va_Z.moved hW.alike h4, va_AO.moved hW.alike h5, va_AO.moved hW.alike h6, ⟨a0, h7, va_Z.moved hW.alike h8⟩, fun scr hs => State.isArrayOf_alike hW.alike (h9 scr hs)⟩
  · intro w hw
    have h := h2 w hw
    simp only [nestL, List.mem_cons, List.not_mem_nil, or_false] at hw
    rcases hw with rfl | rfl | rfl | rfl <;> exact va_Nw.warmM hW h
  · obtain ⟨a1, a2, a3, a4, a5⟩ := h3 i hi
    exact ⟨vk_R.warm hW a1, va_O.moved hW.alike a2, va_OF.moved hW.alike a3, va_OF.moved hW.alike a4, va_T.moved hW.alike a5⟩
theorem KK.same {g : Gx} {s U : State} (h : KK g s) (hv : U.vm = s.vm) : KK g U := by
  obtain ⟨h1, h2, h3, h4, h5, h6, ⟨a0, h7, h8⟩, h9⟩ := h
  have ha : s.vm.Alike U.vm := by rw [hv]; exact Vm.Alike.refl _
  refine ⟨va_K.moved ha h1, ?_, fun i hi => ?_, va_Z.moved ha h4, va_AO.moved ha h5, va_AO.moved ha h6, ⟨a0, h7, va_Z.moved ha h8⟩, fun scr hs => State.isArrayOf_alike ha (h9 scr hs)⟩
  · intro w hw
    have h := h2 w hw
    simp only [nestL, List.mem_cons, List.not_mem_nil, or_false] at hw
    rcases hw with rfl | rfl | rfl | rfl <;> exact va_Nw.same rfl hv.symm h
  · obtain ⟨a1, a2, a3, a4, a5⟩ := h3 i hi
    exact ⟨vk_R.same hv a1, va_O.moved ha a2, va_OF.moved ha a3, va_OF.moved ha a4, va_T.moved ha a5⟩
/-- the words that a callee may stand on -/
def gT : List Cond := lw_tbl.filter goodWord
def wsA (M : MD) : List Cond := Cond.code M.1 M.2.1 M.2.2.1 M.2.2.2 :: gT
/-- budget: cells and slots in all, cells and slots so far -/
abbrev Bu : Type := Nat × Nat × Nat × Nat
def Cx (d : Nat) (u : Bu) (M : MD) (p : Program) (R : Room) (s : State) (m : MethodId) (args : Array Value) (meth : Method) (c : Code) (g : Gx) : Prop :=
  p.tables.exec = Jvm.exec ∧ c.code = M.2.1 ∧ meth.sig.returnType = M.2.2.2 ∧ c.maxLocals = M.2.2.1 ∧ s.vm.findClass M.1.cls = some m.cls ∧ (∀ w ∈ gT, w.before args s = true) ∧ meth.locks = false ∧ meth.name = M.1.name ∧ KK g s ∧
  (d ≤ R.frames ∧ 64 * d ≤ R.locals ∧ u.1 ≤ R.cells ∧ u.2.1 ≤ R.slots) ∧ (u.2.2.1 ≤ u.1 ∧ u.2.2.2 ≤ u.2.1) ∧ (∀ a : Nat, a < bs g → s.heap[a]? = (h00 g)[a]?) ∧ bs g ≤ (h00 g).size
def QQ (g : Gx) (Q : Option PV → PH → Prop) (_ : Array Value) (_ : State) (o : Outcome) (t : State) : Prop :=
  ∃ (r : Option PV) (h' : PH), o = .returned (r.map (rv g)) ∧ (∀ v, r = some v → okv v) ∧ Q r h' ∧ Rel g h' t.heap ∧ KK g t
/-- from here the method comes to its end, with Q of its answer and of the heap then -/
def T (d : Nat) (u : Bu) (M : MD) (pc : Nat) (lo : List (Option PV)) (st : List PV) (h : PH) (Q : Option PV → PH → Prop) : Prop :=
  ∀ (p : Program) (l : Launch) (e : Env) (R : Room) (s : State) (m : MethodId) (args : Array Value) (below : List Frame) (meth : Method) (c : Code) (g : Gx) (H : Heap) (locs : List Loc) (ls : Array Slot),
    Cx d u M p R s m args meth c g → Rel g h H → Lr g M.2.2.1 lo ls → (∀ v ∈ st, okv v) → (∀ q ∈ locs, own0 g q.base) →
    W p l e R s m args below meth c H locs u.2.2.1 u.2.2.2 (MQ below (QQ g Q) args s u.1 u.2.1 (own0 g)) (F0 m pc ls (st.map (rv g)))
def rmd (d mc ms : Nat) : Room := { frames := d, cells := mc, slots := ms, locals := 64 * d }
/-- a call comes back, with Q of its answer and of the heap then -/
def CallA (d mc ms : Nat) (M : MD) (as : List PV) (h : PH) (Q : Option PV → PH → Prop) : Prop :=
  ∀ (l : Launch) (g : Gx), (∀ v ∈ as, okv v) → Met l M.1 (wsA M) (rmd d mc ms) (fun a U => a = (as.map (rv g)).toArray ∧ Rel g h U.heap ∧ KK g U ∧ bs g ≤ (h00 g).size) (QQ g Q) mc ms (own0 g)
abbrev Call (d : Nat) (M : MD) (as : List PV) (h : PH) (Q : Option PV → PH → Prop) : Prop := CallA d 0 0 M as h Q
/-- an instruction: pc, the instruction, its length, the next pc -/
def DI (M : MD) (pc : Nat) (i : Instr) (n pc' : Nat) : Prop := decode M.2.1 pc = .ok (i, n) ∧ pc' = pc + n
def tOK (b : ByteArray) (t : List (Nat × Instr × Nat × Nat)) : Bool := t.all (fun q => decide (decode b q.1 = .ok (q.2.1, q.2.2.1)) && decide (q.2.2.2 = q.1 + q.2.2.1))
theorem tDI {M : MD} {t : List (Nat × Instr × Nat × Nat)} (h : tOK M.2.1 t = true) (k : Nat) {pc : Nat} {i : Instr} {n pc' : Nat} (hk : t[k]? = some (pc, i, n, pc')) : DI M pc i n pc' := by
  have h1 := List.all_eq_true.mp h _ (List.mem_of_getElem? hk)
  simp only [Bool.and_eq_true, decide_eq_true_eq] at h1
  exact h1
def onI (P : Int → PH → Prop) : Option PV → PH → Prop := fun r h => match r with
  | some (.inl x) => R32 x → P x h
  | _ => False
def onJ (P : Int → PH → Prop) : Option PV → PH → Prop := fun r h => match r with
  | some (.inr (.inl x)) => R64 x → P x h
  | _ => False
def onR (P : Nat → PH → Prop) : Option PV → PH → Prop := fun r h => match r with
  | some (.inr (.inr (.inl x))) => P x h
  | _ => False
def onF (P : UInt32 → PH → Prop) : Option PV → PH → Prop := fun r h => match r with
  | some (.inr (.inr (.inr (.inl x)))) => P x h
  | _ => False
def onV (P : PH → Prop) : Option PV → PH → Prop := fun r h => r = none ∧ P h
end
section
/-! ENTRY AND ENDS -/
def entA (as : List PV) : List (Option PV) := match as with
  | [] => []
  | v :: l => match cat2 v with
    | true => some v :: none :: entA l
    | false => some v :: entA l
def entL (as : List PV) (n : Nat) : List (Option PV) := entA as ++ List.replicate (n - (entA as).length) none
theorem entA_len (g : Gx) : ∀ as : List PV, (entA as).length = (lg_sl (as.map (rv g))).length := by
  intro as
  induction as with
  | nil => rfl
  | cons v l ih =>
    have hc := rv_cat g v
    simp only [entA, List.map_cons, lg_sl, List.flatMap_cons, List.length_append] at ih ⊢
    cases h : cat2 v with
    | true => rw [h] at hc; simp at hc; simp [hc, ih]; omega
    | false => rw [h] at hc; simp at hc; simp [hc, ih]; omega
theorem entA_at (g : Gx) : ∀ (as : List PV) (j i : Nat) (v : PV), (entA as)[i]? = some (some v) → (j + i, rv g v) ∈ lv_args j (as.map (rv g)) ∧ v ∈ as := by
  intro as
  induction as with
  | nil => intro j i v h; simp [entA] at h
  | cons w l ih =>
    intro j i v h
    have hc := rv_cat g w
    simp only [entA] at h
    cases hw : cat2 w with
    | true =>
      rw [hw] at hc h
      simp only at h
      match i, h with
      | 0, h =>
        simp at h; subst h
        exact ⟨by simp [lv_args], by simp⟩
      | 1, h => simp at h
      | i + 2, h =>
        simp only [List.getElem?_cons_succ] at h
        obtain ⟨h1, h2⟩ := ih (j + 2) i v h
        refine ⟨?_, List.mem_cons_of_mem _ h2⟩
        rw [List.map_cons, lv_args, if_pos (by rw [hc]; rfl)]
        refine List.mem_cons_of_mem _ ?_
        rw [show j + (i + 2) = j + 2 + i by omega]
        exact h1
    | false =>
      rw [hw] at hc h
      simp only at h
      match i, h with
      | 0, h =>
        simp at h; subst h
        exact ⟨by simp [lv_args], by simp⟩
      | i + 1, h =>
        simp only [List.getElem?_cons_succ] at h
        obtain ⟨h1, h2⟩ := ih (j + 1) i v h
        refine ⟨?_, List.mem_cons_of_mem _ h2⟩
        rw [List.map_cons, lv_args, if_neg (by rw [hc]; decide)]
        refine List.mem_cons_of_mem _ ?_
        rw [show j + (i + 1) = j + 1 + i by omega]
        exact h1
theorem entL_at (g : Gx) {as : List PV} {n i : Nat} {v : PV} (h : (entL as n)[i]? = some (some v)) : (i, rv g v) ∈ lv_args 0 (as.map (rv g)) ∧ v ∈ as := by
  unfold entL at h
  rw [List.getElem?_append] at h
  split at h
  · have := entA_at g as 0 i v h
    rwa [Nat.zero_add] at this
  · rw [List.getElem?_replicate] at h
    split at h <;> cases h
theorem Lr.entry (g : Gx) {as : List PV} {n : Nat} (hn : (entA as).length ≤ n) (ho : ∀ v ∈ as, okv v) : Lr g n (entL as n) ((lg_sl (as.map (rv g)) ++ List.replicate (n - (lg_sl (as.map (rv g))).length) Slot.unset).toArray) := by
  have h := lv_entry (as.map (rv g)) (n := n) (by rw [← entA_len]; exact hn)
  refine ⟨⟨h.1, h.2.1, fun q hq => h.2.2 q ?_⟩, fun i v hi => ho v (entL_at g hi).2, ?_⟩
  · obtain ⟨v, h1, h2⟩ := lst_mem hq
    have := (entL_at g h1).1
    rw [← h2] at this
    exact this
  · unfold entL; rw [List.length_append, List.length_replicate]; omega
theorem Call.of {d mc ms : Nat} {M : MD} {as : List PV} {h : PH} {Q : Option PV → PH → Prop} {lo : List (Option PV)} (hy : plainName M.1.cls = true) (hn : (entA as).length ≤ M.2.2.1) (hl : entL as M.2.2.1 = lo) (k : (∀ v ∈ as, okv v) → T d (mc, ms, 0, 0) M 0 lo [] h Q) : CallA d mc ms M as h Q := by
  intro l g ho
  refine Met.ofW (cc := M.2.1) (maxL := M.2.2.1) (ret := M.2.2.2) (ws' := gT) hy rfl ?_
  intro p e s m args below meth c s₁ B hml hv
  obtain ⟨rfl, hR, hK, hbs⟩ := hv
  have hts := atoms_spec (ws := wsA M) B.pre
  have hown : s.vm.findClass M.1.cls = some m.cls := findClass_of_methodNamed B.named
  rw [lg_entry_eq]
  subst hl
  exact k ho p l e _ s m _ below meth c g s.heap [] _ ⟨B.exec, B.bytes, B.returns, hml, hown, fun w hw => hts w (List.mem_cons_of_mem _ hw), B.notSynchronized, (name_of_methodNamed B.named B.method).1, hK, ⟨Nat.le_refl _, Nat.le_refl _, Nat.le_refl _, Nat.le_refl _⟩, ⟨Nat.zero_le _, Nat.zero_le _⟩, hR.2.2.2.2.2.1, hbs⟩ hR (Lr.entry g hn ho) (fun v hv => by cases hv) (fun q hq => by cases hq)
section
variable {d : Nat} {u : Bu} {M : MD} {pc pc' : Nat} {lo : List (Option PV)} {h : PH} {Q : Option PV → PH → Prop}
theorem T_ret (hd : DI M pc .return_ 1 pc') (hr : M.2.2.2 = none) (hq : Q none h) : T d u M pc lo [] h Q := by
  intro p l e R s m args below meth c g H locs ls C hR hL hs hlc
  refine W.widen (k := u.1) (n := u.2.1) C.2.2.2.2.2.2.2.2.2.2.1.1 C.2.2.2.2.2.2.2.2.2.2.1.2 ?_
  exact W.vret C.1 C.2.1 (by rw [C.2.2.1, hr]) (fun t ht hW => ⟨none, h, rfl, fun v hv => (by cases hv), hq, (by rw [ht]; exact hR), C.2.2.2.2.2.2.2.2.1.warm hW⟩) hlc hd.1 C.2.2.2.2.2.2.1
theorem T_iret {x : Int} (hd : DI M pc .ireturn 1 pc') (hr : M.2.2.2 = some .int) (hq : Q (some (vI x)) h) : T d u M pc lo [vI x] h Q := by
  intro p l e R s m args below meth c g H locs ls C hR hL hs hlc
  refine W.widen (k := u.1) (n := u.2.1) C.2.2.2.2.2.2.2.2.2.2.1.1 C.2.2.2.2.2.2.2.2.2.2.1.2 ?_
  exact W.iret C.1 C.2.1 (by rw [C.2.2.1, hr]) (fun t ht hW => ⟨some (vI x), h, rfl, fun v hv => (by cases hv; exact hs _ (by simp)), hq, (by rw [ht]; exact hR), C.2.2.2.2.2.2.2.2.1.warm hW⟩) hlc hd.1 C.2.2.2.2.2.2.1
theorem T_zretG {x : Int} {ty : FieldType} (hd : DI M pc .ireturn 1 pc') (hr : M.2.2.2 = some ty) (hn : narrow ty (.int (Int32.ofInt x)) = .int (Int32.ofInt x)) (hq : Q (some (vI x)) h) : T d u M pc lo [vI x] h Q := by
  intro p l e R s m args below meth c g H locs ls C hR hL hs hlc
  refine W.widen (k := u.1) (n := u.2.1) C.2.2.2.2.2.2.2.2.2.2.1.1 C.2.2.2.2.2.2.2.2.2.2.1.2 ?_
  exact W.zret C.1 C.2.1 (by rw [C.2.2.1, hr]) hn (fun t ht hW => ⟨some (vI x), h, rfl, fun v hv => (by cases hv; exact hs _ (by simp)), hq, (by rw [ht]; exact hR), C.2.2.2.2.2.2.2.2.1.warm hW⟩) hlc hd.1 C.2.2.2.2.2.2.1
theorem T_zret {x : Int} (hd : DI M pc .ireturn 1 pc') (hr : M.2.2.2 = some .boolean) (hx : x = 0 ∨ x = 1) (hq : Q (some (vI x)) h) : T d u M pc lo [vI x] h Q :=
  T_zretG hd hr (by rcases hx with rfl | rfl <;> decide) hq
theorem T_lret {x : Int} (hd : DI M pc .lreturn 1 pc') (hr : M.2.2.2 = some .long) (hq : Q (some (vJ x)) h) : T d u M pc lo [vJ x] h Q := by
  intro p l e R s m args below meth c g H locs ls C hR hL hs hlc
  refine W.widen (k := u.1) (n := u.2.1) C.2.2.2.2.2.2.2.2.2.2.1.1 C.2.2.2.2.2.2.2.2.2.2.1.2 ?_
  exact W.lret C.1 C.2.1 (by rw [C.2.2.1, hr]) (fun t ht hW => ⟨some (vJ x), h, rfl, fun v hv => (by cases hv; exact hs _ (by simp)), hq, (by rw [ht]; exact hR), C.2.2.2.2.2.2.2.2.1.warm hW⟩) hlc hd.1 C.2.2.2.2.2.2.1
theorem T_fret {x : UInt32} (hd : DI M pc .freturn 1 pc') (hr : M.2.2.2 = some .float) (hq : Q (some (vF x)) h) : T d u M pc lo [vF x] h Q := by
  intro p l e R s m args below meth c g H locs ls C hR hL hs hlc
  refine W.widen (k := u.1) (n := u.2.1) C.2.2.2.2.2.2.2.2.2.2.1.1 C.2.2.2.2.2.2.2.2.2.2.1.2 ?_
  exact W.fret C.1 C.2.1 (by rw [C.2.2.1, hr]) (fun t ht hW => ⟨some (vF x), h, rfl, fun v hv => (by cases hv; exact hs _ (by simp)), hq, (by rw [ht]; exact hR), C.2.2.2.2.2.2.2.2.1.warm hW⟩) hlc hd.1 C.2.2.2.2.2.2.1
theorem rfo_or (g : Gx) (a : Nat) : va_rf (rfo g a) = .null ∨ ∃ b, va_rf (rfo g a) = .ref b := by
  cases rfo g a with
  | none => exact Or.inl rfl
  | some b => exact Or.inr ⟨b, rfl⟩
theorem T_aret {a : Nat} {rt : FieldType} (hd : DI M pc .areturn 1 pc') (hr : M.2.2.2 = some rt) (hrt : (∃ n, rt = .object n) ∨ ∃ t, rt = .array t) (hq : Q (some (vR a)) h) : T d u M pc lo [vR a] h Q := by
  intro p l e R s m args below meth c g H locs ls C hR hL hs hlc
  refine W.widen (k := u.1) (n := u.2.1) C.2.2.2.2.2.2.2.2.2.2.1.1 C.2.2.2.2.2.2.2.2.2.2.1.2 ?_
  exact W.aret C.1 C.2.1 (by rw [C.2.2.1, hr]) hrt (rfo_or g a) (fun t ht hW => ⟨some (vR a), h, rfl, fun v hv => (by cases hv; trivial), hq, (by rw [ht]; exact hR), C.2.2.2.2.2.2.2.2.1.warm hW⟩) hlc hd.1 C.2.2.2.2.2.2.1
end
end
section
/-! ONE-INSTRUCTION RULES: numbers, locals, stack, branches -/
theorem okc {v : PV} {st : List PV} (hv : okv v) (hs : ∀ w ∈ st, okv w) : ∀ w ∈ v :: st, okv w := fun w hw => (List.mem_cons.mp hw).elim (fun e => e ▸ hv) (hs w)
theorem okt {v : PV} {st : List PV} (hs : ∀ w ∈ v :: st, okv w) : ∀ w ∈ st, okv w := fun w hw => hs w (List.mem_cons_of_mem _ hw)
theorem okh {v : PV} {st : List PV} (hs : ∀ w ∈ v :: st, okv w) : okv v := hs v List.mem_cons_self
section
variable {d : Nat} {u : Bu} {M : MD} {pc pc' : Nat} {lo : List (Option PV)} {st : List PV} {h : PH} {Q : Option PV → PH → Prop}
theorem T_iadd {a b : Int} (hd : DI M pc .iadd 1 pc') (k : T d u M pc' lo (vI (w32 (a + b)) :: st) h Q) : T d u M pc lo (vI b :: vI a :: st) h Q := by
  intro p l e R s m args below meth c g H locs ls C hR hL hs hlc
  obtain ⟨hd1, rfl⟩ := hd
  have hk := k p l e R s m args below meth c g H locs ls C hR hL (okc (R32_w _) (okt (okt hs))) hlc
  refine lv_iadd C.1 C.2.1 hd1 ?_
  rw [show Int32.ofInt a + Int32.ofInt b = Int32.ofInt (w32 (a + b)) from by rw [ow32, Int32.ofInt_add]]
  exact hk
theorem T_isub {a b : Int} (hd : DI M pc .isub 1 pc') (k : T d u M pc' lo (vI (w32 (a - b)) :: st) h Q) : T d u M pc lo (vI b :: vI a :: st) h Q := by
  intro p l e R s m args below meth c g H locs ls C hR hL hs hlc
  obtain ⟨hd1, rfl⟩ := hd
  have hk := k p l e R s m args below meth c g H locs ls C hR hL (okc (R32_w _) (okt (okt hs))) hlc
  refine lv_isub C.1 C.2.1 hd1 ?_
  rw [show Int32.ofInt a - Int32.ofInt b = Int32.ofInt (w32 (a - b)) from by rw [ow32, Int32.ofInt_sub]]
  exact hk
theorem T_imul {a b : Int} (hd : DI M pc .imul 1 pc') (k : T d u M pc' lo (vI (w32 (a * b)) :: st) h Q) : T d u M pc lo (vI b :: vI a :: st) h Q := by
  intro p l e R s m args below meth c g H locs ls C hR hL hs hlc
  obtain ⟨hd1, rfl⟩ := hd
  have hk := k p l e R s m args below meth c g H locs ls C hR hL (okc (R32_w _) (okt (okt hs))) hlc
  refine lv_imul C.1 C.2.1 hd1 ?_
  rw [show Int32.ofInt a * Int32.ofInt b = Int32.ofInt (w32 (a * b)) from by rw [ow32, Int32.ofInt_mul]]
  exact hk
theorem T_ladd {a b : Int} (hd : DI M pc .ladd 1 pc') (k : T d u M pc' lo (vJ (w64 (a + b)) :: st) h Q) : T d u M pc lo (vJ b :: vJ a :: st) h Q := by
  intro p l e R s m args below meth c g H locs ls C hR hL hs hlc
  obtain ⟨hd1, rfl⟩ := hd
  have hk := k p l e R s m args below meth c g H locs ls C hR hL (okc (R64_w _) (okt (okt hs))) hlc
  refine lv_ladd C.1 C.2.1 hd1 ?_
  rw [show Int64.ofInt a + Int64.ofInt b = Int64.ofInt (w64 (a + b)) from by rw [ow64, Int64.ofInt_add]]
  exact hk
theorem T_lsub {a b : Int} (hd : DI M pc .lsub 1 pc') (k : T d u M pc' lo (vJ (w64 (a - b)) :: st) h Q) : T d u M pc lo (vJ b :: vJ a :: st) h Q := by
  intro p l e R s m args below meth c g H locs ls C hR hL hs hlc
  obtain ⟨hd1, rfl⟩ := hd
  have hk := k p l e R s m args below meth c g H locs ls C hR hL (okc (R64_w _) (okt (okt hs))) hlc
  refine lv_lsub C.1 C.2.1 hd1 ?_
  rw [show Int64.ofInt a - Int64.ofInt b = Int64.ofInt (w64 (a - b)) from by rw [ow64, Int64.ofInt_sub]]
  exact hk
theorem T_lmul {a b : Int} (hd : DI M pc .lmul 1 pc') (k : T d u M pc' lo (vJ (w64 (a * b)) :: st) h Q) : T d u M pc lo (vJ b :: vJ a :: st) h Q := by
  intro p l e R s m args below meth c g H locs ls C hR hL hs hlc
  obtain ⟨hd1, rfl⟩ := hd
  have hk := k p l e R s m args below meth c g H locs ls C hR hL (okc (R64_w _) (okt (okt hs))) hlc
  refine lv_lmul C.1 C.2.1 hd1 ?_
  rw [show Int64.ofInt a * Int64.ofInt b = Int64.ofInt (w64 (a * b)) from by rw [ow64, Int64.ofInt_mul]]
  exact hk
theorem T_iand {a b : Int} (hd : DI M pc .iand 1 pc') (k : T d u M pc' lo (vI (iand a b) :: st) h Q) : T d u M pc lo (vI b :: vI a :: st) h Q := by
  intro p l e R s m args below meth c g H locs ls C hR hL hs hlc
  obtain ⟨hd1, rfl⟩ := hd
  have hk := k p l e R s m args below meth c g H locs ls C hR hL (okc (R32_i _) (okt (okt hs))) hlc
  refine lv_iand C.1 C.2.1 hd1 ?_
  rw [show Int32.ofInt a &&& Int32.ofInt b = Int32.ofInt (iand a b) from (oi32 _).symm]
  exact hk
theorem T_ior {a b : Int} (hd : DI M pc .ior 1 pc') (k : T d u M pc' lo (vI (ior a b) :: st) h Q) : T d u M pc lo (vI b :: vI a :: st) h Q := by
  intro p l e R s m args below meth c g H locs ls C hR hL hs hlc
  obtain ⟨hd1, rfl⟩ := hd
  have hk := k p l e R s m args below meth c g H locs ls C hR hL (okc (R32_i _) (okt (okt hs))) hlc
  refine lv_ior C.1 C.2.1 hd1 ?_
  rw [show Int32.ofInt a ||| Int32.ofInt b = Int32.ofInt (ior a b) from (oi32 _).symm]
  exact hk
theorem T_ixor {a b : Int} (hd : DI M pc .ixor 1 pc') (k : T d u M pc' lo (vI (ixor a b) :: st) h Q) : T d u M pc lo (vI b :: vI a :: st) h Q := by
  intro p l e R s m args below meth c g H locs ls C hR hL hs hlc
  obtain ⟨hd1, rfl⟩ := hd
  have hk := k p l e R s m args below meth c g H locs ls C hR hL (okc (R32_i _) (okt (okt hs))) hlc
  refine lv_ixor C.1 C.2.1 hd1 ?_
  rw [show Int32.ofInt a ^^^ Int32.ofInt b = Int32.ofInt (ixor a b) from (oi32 _).symm]
  exact hk
theorem T_land {a b : Int} (hd : DI M pc .land 1 pc') (k : T d u M pc' lo (vJ (land a b) :: st) h Q) : T d u M pc lo (vJ b :: vJ a :: st) h Q := by
  intro p l e R s m args below meth c g H locs ls C hR hL hs hlc
  obtain ⟨hd1, rfl⟩ := hd
  have hk := k p l e R s m args below meth c g H locs ls C hR hL (okc (R64_i _) (okt (okt hs))) hlc
  refine lv_land C.1 C.2.1 hd1 ?_
  rw [show Int64.ofInt a &&& Int64.ofInt b = Int64.ofInt (land a b) from (oi64 _).symm]
  exact hk
theorem T_lor {a b : Int} (hd : DI M pc .lor 1 pc') (k : T d u M pc' lo (vJ (lor a b) :: st) h Q) : T d u M pc lo (vJ b :: vJ a :: st) h Q := by
  intro p l e R s m args below meth c g H locs ls C hR hL hs hlc
  obtain ⟨hd1, rfl⟩ := hd
  have hk := k p l e R s m args below meth c g H locs ls C hR hL (okc (R64_i _) (okt (okt hs))) hlc
  refine lv_lor C.1 C.2.1 hd1 ?_
  rw [show Int64.ofInt a ||| Int64.ofInt b = Int64.ofInt (lor a b) from (oi64 _).symm]
  exact hk
theorem T_ishl {a b : Int} (hd : DI M pc .ishl 1 pc') (k : T d u M pc' lo (vI (ishl a b) :: st) h Q) : T d u M pc lo (vI b :: vI a :: st) h Q := by
  intro p l e R s m args below meth c g H locs ls C hR hL hs hlc
  obtain ⟨hd1, rfl⟩ := hd
  have hk := k p l e R s m args below meth c g H locs ls C hR hL (okc (R32_i _) (okt (okt hs))) hlc
  refine lv_ishl C.1 C.2.1 hd1 ?_
  rw [show Int32.ofInt a <<< (Int32.ofInt b &&& 31) = Int32.ofInt (ishl a b) from (oi32 _).symm]
  exact hk
theorem T_ishr {a b : Int} (hd : DI M pc .ishr 1 pc') (k : T d u M pc' lo (vI (ishr a b) :: st) h Q) : T d u M pc lo (vI b :: vI a :: st) h Q := by
  intro p l e R s m args below meth c g H locs ls C hR hL hs hlc
  obtain ⟨hd1, rfl⟩ := hd
  have hk := k p l e R s m args below meth c g H locs ls C hR hL (okc (R32_i _) (okt (okt hs))) hlc
  refine lv_ishr C.1 C.2.1 hd1 ?_
  rw [show Int32.ofInt a >>> (Int32.ofInt b &&& 31) = Int32.ofInt (ishr a b) from (oi32 _).symm]
  exact hk
theorem T_iushr {a b : Int} (hd : DI M pc .iushr 1 pc') (k : T d u M pc' lo (vI (iushr a b) :: st) h Q) : T d u M pc lo (vI b :: vI a :: st) h Q := by
  intro p l e R s m args below meth c g H locs ls C hR hL hs hlc
  obtain ⟨hd1, rfl⟩ := hd
  have hk := k p l e R s m args below meth c g H locs ls C hR hL (okc (R32_i _) (okt (okt hs))) hlc
  refine lv_iushr (v := Int32.ofInt (iushr a b)) C.1 C.2.1 hd1 (oi32 _).symm ?_
  exact hk
theorem T_lshl {a b : Int} (hd : DI M pc .lshl 1 pc') (k : T d u M pc' lo (vJ (lshl a b) :: st) h Q) : T d u M pc lo (vI b :: vJ a :: st) h Q := by
  intro p l e R s m args below meth c g H locs ls C hR hL hs hlc
  obtain ⟨hd1, rfl⟩ := hd
  have hk := k p l e R s m args below meth c g H locs ls C hR hL (okc (R64_i _) (okt (okt hs))) hlc
  refine lv_lshl (v := Int64.ofInt (lshl a b)) C.1 C.2.1 hd1 (oi64 _).symm ?_
  exact hk
theorem T_lshr {a b : Int} (hd : DI M pc .lshr 1 pc') (k : T d u M pc' lo (vJ (lshr a b) :: st) h Q) : T d u M pc lo (vI b :: vJ a :: st) h Q := by
  intro p l e R s m args below meth c g H locs ls C hR hL hs hlc
  obtain ⟨hd1, rfl⟩ := hd
  have hk := k p l e R s m args below meth c g H locs ls C hR hL (okc (R64_i _) (okt (okt hs))) hlc
  refine lv_lshr (v := Int64.ofInt (lshr a b)) C.1 C.2.1 hd1 (oi64 _).symm ?_
  exact hk
theorem T_i2l {a : Int} (hd : DI M pc .i2l 1 pc') (k : T d u M pc' lo (vJ a :: st) h Q) : T d u M pc lo (vI a :: st) h Q := by
  intro p l e R s m args below meth c g H locs ls C hR hL hs hlc
  obtain ⟨hd1, rfl⟩ := hd
  have hk := k p l e R s m args below meth c g H locs ls C hR hL (okc (show R64 a from by have := okh hs; unfold okv R32 at this; unfold R64; simp only at this; omega) (okt hs)) hlc
  refine lv_i2l C.1 C.2.1 hd1 (il64 (okh hs)) ?_
  exact hk
theorem T_l2i {a : Int} (hd : DI M pc .l2i 1 pc') (k : T d u M pc' lo (vI (w32 a) :: st) h Q) : T d u M pc lo (vJ a :: st) h Q := by
  intro p l e R s m args below meth c g H locs ls C hR hL hs hlc
  obtain ⟨hd1, rfl⟩ := hd
  have hk := k p l e R s m args below meth c g H locs ls C hR hL (okc (R32_w _) (okt hs)) hlc
  refine lv_l2i (v := Int32.ofInt (w32 a)) C.1 C.2.1 hd1 ((li32 (okh hs)).trans (ow32 _).symm) ?_
  exact hk
theorem T_i2b {a : Int} (hd : DI M pc .i2b 1 pc') (k : T d u M pc' lo (vI (i2b a) :: st) h Q) : T d u M pc lo (vI a :: st) h Q := by
  intro p l e R s m args below meth c g H locs ls C hR hL hs hlc
  obtain ⟨hd1, rfl⟩ := hd
  have hk := k p l e R s m args below meth c g H locs ls C hR hL (okc (R32_i _) (okt hs)) hlc
  refine lv_i2b C.1 C.2.1 hd1 (oi32 _).symm ?_
  exact hk
theorem T_i2s {a : Int} (hd : DI M pc .i2s 1 pc') (k : T d u M pc' lo (vI (i2s a) :: st) h Q) : T d u M pc lo (vI a :: st) h Q := by
  intro p l e R s m args below meth c g H locs ls C hR hL hs hlc
  obtain ⟨hd1, rfl⟩ := hd
  have hk := k p l e R s m args below meth c g H locs ls C hR hL (okc (R32_i _) (okt hs)) hlc
  refine lv_i2s C.1 C.2.1 hd1 (oi32 _).symm ?_
  exact hk
theorem T_i2c {a : Int} (hd : DI M pc .i2c 1 pc') (k : T d u M pc' lo (vI (i2c a) :: st) h Q) : T d u M pc lo (vI a :: st) h Q := by
  intro p l e R s m args below meth c g H locs ls C hR hL hs hlc
  obtain ⟨hd1, rfl⟩ := hd
  have hk := k p l e R s m args below meth c g H locs ls C hR hL (okc (R32_i _) (okt hs)) hlc
  refine lv_i2c C.1 C.2.1 hd1 (oi32 _).symm ?_
  exact hk
theorem T_idiv {a b : Int} (hd : DI M pc .idiv 1 pc') (hb : b ≠ 0) (k : T d u M pc' lo (vI (w32 (a.tdiv b)) :: st) h Q) : T d u M pc lo (vI b :: vI a :: st) h Q := by
  intro p l e R s m args below meth c g H locs ls C hR hL hs hlc
  obtain ⟨hd1, rfl⟩ := hd
  have hk := k p l e R s m args below meth c g H locs ls C hR hL (okc (R32_w _) (okt (okt hs))) hlc
  refine lv_idiv C.1 C.2.1 hd1 (ne32 (okh hs) hb) ?_
  rw [show Int32.ofInt a / Int32.ofInt b = Int32.ofInt (w32 (a.tdiv b)) from dv32 (okh (okt hs)) (okh hs)]
  exact hk
theorem T_irem {a b : Int} (hd : DI M pc .irem 1 pc') (hb : b ≠ 0) (k : T d u M pc' lo (vI (a.tmod b) :: st) h Q) : T d u M pc lo (vI b :: vI a :: st) h Q := by
  intro p l e R s m args below meth c g H locs ls C hR hL hs hlc
  obtain ⟨hd1, rfl⟩ := hd
  have hk := k p l e R s m args below meth c g H locs ls C hR hL (okc (tm32 (okh hs) hb) (okt (okt hs))) hlc
  refine lv_irem C.1 C.2.1 hd1 (ne32 (okh hs) hb) ?_
  rw [show Int32.ofInt a - Int32.ofInt a / Int32.ofInt b * Int32.ofInt b = Int32.ofInt (a.tmod b) from rm32 (okh (okt hs)) (okh hs)]
  exact hk
theorem T_ldiv {a b : Int} (hd : DI M pc .ldiv 1 pc') (hb : b ≠ 0) (k : T d u M pc' lo (vJ (w64 (a.tdiv b)) :: st) h Q) : T d u M pc lo (vJ b :: vJ a :: st) h Q := by
  intro p l e R s m args below meth c g H locs ls C hR hL hs hlc
  obtain ⟨hd1, rfl⟩ := hd
  have hk := k p l e R s m args below meth c g H locs ls C hR hL (okc (R64_w _) (okt (okt hs))) hlc
  refine lv_ldiv C.1 C.2.1 hd1 (ne64 (okh hs) hb) ?_
  rw [show Int64.ofInt a / Int64.ofInt b = Int64.ofInt (w64 (a.tdiv b)) from dv64 (okh (okt hs)) (okh hs)]
  exact hk
theorem T_lrem {a b : Int} (hd : DI M pc .lrem 1 pc') (hb : b ≠ 0) (k : T d u M pc' lo (vJ (a.tmod b) :: st) h Q) : T d u M pc lo (vJ b :: vJ a :: st) h Q := by
  intro p l e R s m args below meth c g H locs ls C hR hL hs hlc
  obtain ⟨hd1, rfl⟩ := hd
  have hk := k p l e R s m args below meth c g H locs ls C hR hL (okc (tm64 (okh hs) hb) (okt (okt hs))) hlc
  refine lv_lrem C.1 C.2.1 hd1 (ne64 (okh hs) hb) ?_
  rw [show Int64.ofInt a - Int64.ofInt a / Int64.ofInt b * Int64.ofInt b = Int64.ofInt (a.tmod b) from rm64 (okh (okt hs)) (okh hs)]
  exact hk
theorem T_iconst {x : Int} (hd : DI M pc (.iconst x) 1 pc') (hx : R32 x) (k : T d u M pc' lo (vI x :: st) h Q) : T d u M pc lo (st) h Q := by
  intro p l e R s m args below meth c g H locs ls C hR hL hs hlc
  obtain ⟨hd1, rfl⟩ := hd
  have hk := k p l e R s m args below meth c g H locs ls C hR hL (okc hx hs) hlc
  refine lv_iconst C.1 C.2.1 hd1 rfl ?_
  exact hk
theorem T_bipush {x : Int} (hd : DI M pc (.bipush x) 2 pc') (hx : -128 ≤ x ∧ x < 128) (k : T d u M pc' lo (vI x :: st) h Q) : T d u M pc lo (st) h Q := by
  intro p l e R s m args below meth c g H locs ls C hR hL hs hlc
  obtain ⟨hd1, rfl⟩ := hd
  have hk := k p l e R s m args below meth c g H locs ls C hR hL (okc (show R32 x by unfold R32; omega) hs) hlc
  refine lv_bipush (v := Int32.ofInt x) C.1 C.2.1 hd1 (by rw [← Int32.toInt_inj, Int8.toInt_toInt32, tr32 (by unfold R32; omega), Int8.toInt_ofInt_of_le (by omega) (by omega)]) ?_
  exact hk
theorem T_sipush {x : Int} (hd : DI M pc (.sipush x) 3 pc') (hx : -32768 ≤ x ∧ x < 32768) (k : T d u M pc' lo (vI x :: st) h Q) : T d u M pc lo (st) h Q := by
  intro p l e R s m args below meth c g H locs ls C hR hL hs hlc
  obtain ⟨hd1, rfl⟩ := hd
  have hk := k p l e R s m args below meth c g H locs ls C hR hL (okc (show R32 x by unfold R32; omega) hs) hlc
  refine lv_sipush (v := Int32.ofInt x) C.1 C.2.1 hd1 (by rw [← Int32.toInt_inj, Int16.toInt_toInt32, tr32 (by unfold R32; omega), Int16.toInt_ofInt_of_le (by omega) (by omega)]) ?_
  exact hk
theorem T_lconst0  (hd : DI M pc (.lconst 0) 1 pc') (k : T d u M pc' lo (vJ 0 :: st) h Q) : T d u M pc lo (st) h Q := by
  intro p l e R s m args below meth c g H locs ls C hR hL hs hlc
  obtain ⟨hd1, rfl⟩ := hd
  have hk := k p l e R s m args below meth c g H locs ls C hR hL (okc R64_0 hs) hlc
  refine lv_lconst (v := Int64.ofInt 0) C.1 C.2.1 hd1 (by decide) ?_
  exact hk
theorem T_lconst1  (hd : DI M pc (.lconst 1) 1 pc') (k : T d u M pc' lo (vJ 1 :: st) h Q) : T d u M pc lo (st) h Q := by
  intro p l e R s m args below meth c g H locs ls C hR hL hs hlc
  obtain ⟨hd1, rfl⟩ := hd
  have hk := k p l e R s m args below meth c g H locs ls C hR hL (okc (show R64 1 by unfold R64; omega) hs) hlc
  refine lv_lconst (v := Int64.ofInt 1) C.1 C.2.1 hd1 (by decide) ?_
  exact hk
theorem T_ldc {i : Nat} {x : Int} (hd : DI M pc (.ldc i) 2 pc') (hw : Cond.constant M.1.cls i (Int32.ofInt x) ∈ gT) (hx : R32 x) (k : T d u M pc' lo (vI x :: st) h Q) : T d u M pc lo (st) h Q := by
  intro p l e R s m args below meth c g H locs ls C hR hL hs hlc
  obtain ⟨hd1, rfl⟩ := hd
  have hk := k p l e R s m args below meth c g H locs ls C hR hL (okc hx hs) hlc
  refine lv_ldc C.1 C.2.1 C.2.2.2.2.1 (C.2.2.2.2.2.1 _ hw) hd1 ?_
  exact hk
theorem T_ldcw {i : Nat} {x : Int} (hd : DI M pc (.ldc_w i) 3 pc') (hw : Cond.constant M.1.cls i (Int32.ofInt x) ∈ gT) (hx : R32 x) (k : T d u M pc' lo (vI x :: st) h Q) : T d u M pc lo (st) h Q := by
  intro p l e R s m args below meth c g H locs ls C hR hL hs hlc
  obtain ⟨hd1, rfl⟩ := hd
  have hk := k p l e R s m args below meth c g H locs ls C hR hL (okc hx hs) hlc
  refine lv_ldcw C.1 C.2.1 C.2.2.2.2.1 (C.2.2.2.2.2.1 _ hw) hd1 ?_
  exact hk
theorem T_ldc2 {i : Nat} {x : Int} (hd : DI M pc (.ldc2_w i) 3 pc') (hw : Cond.constantLong M.1.cls i (Int64.ofInt x) ∈ gT) (hx : R64 x) (k : T d u M pc' lo (vJ x :: st) h Q) : T d u M pc lo (st) h Q := by
  intro p l e R s m args below meth c g H locs ls C hR hL hs hlc
  obtain ⟨hd1, rfl⟩ := hd
  have hk := k p l e R s m args below meth c g H locs ls C hR hL (okc hx hs) hlc
  refine lv_ldc2 C.1 C.2.1 C.2.2.2.2.1 (C.2.2.2.2.2.1 _ hw) hd1 ?_
  exact hk
theorem T_ldc2d {i : Nat} {x : UInt64} (hd : DI M pc (.ldc2_w i) 3 pc') (hw : Cond.constantDouble M.1.cls i x ∈ gT) (k : T d u M pc' lo (vD x :: st) h Q) : T d u M pc lo (st) h Q := by
  intro p l e R s m args below meth c g H locs ls C hR hL hs hlc
  obtain ⟨hd1, rfl⟩ := hd
  have hk := k p l e R s m args below meth c g H locs ls C hR hL (okc trivial hs) hlc
  refine lv_ldc2d C.1 C.2.1 C.2.2.2.2.1 (C.2.2.2.2.2.1 _ hw) hd1 ?_
  exact hk
theorem T_iload_n {k : Fin 4} {x : Int} (hd : DI M pc (.iload_n k) 1 pc') (hi : lo[(k : Nat)]? = some (some (vI x))) (k : T d u M pc' lo (vI x :: st) h Q) : T d u M pc lo (st) h Q := by
  intro p l e R s m args below meth c g H locs ls C hR hL hs hlc
  obtain ⟨hd1, rfl⟩ := hd
  have hk := k p l e R s m args below meth c g H locs ls C hR hL (okc (hL.2.1 _ _ hi) hs) hlc
  refine lv_iload_n C.1 C.2.1 hd1 rfl (hL.at hi) ?_
  exact hk
theorem T_iload {i : Nat} {x : Int} (hd : DI M pc (.iload i) 2 pc') (hi : lo[i]? = some (some (vI x))) (k : T d u M pc' lo (vI x :: st) h Q) : T d u M pc lo (st) h Q := by
  intro p l e R s m args below meth c g H locs ls C hR hL hs hlc
  obtain ⟨hd1, rfl⟩ := hd
  have hk := k p l e R s m args below meth c g H locs ls C hR hL (okc (hL.2.1 _ _ hi) hs) hlc
  refine lv_iload C.1 C.2.1 hd1 (hL.at hi) ?_
  exact hk
theorem T_lload_n {k : Fin 4} {x : Int} (hd : DI M pc (.lload_n k) 1 pc') (hi : lo[(k : Nat)]? = some (some (vJ x))) (k : T d u M pc' lo (vJ x :: st) h Q) : T d u M pc lo (st) h Q := by
  intro p l e R s m args below meth c g H locs ls C hR hL hs hlc
  obtain ⟨hd1, rfl⟩ := hd
  have hk := k p l e R s m args below meth c g H locs ls C hR hL (okc (hL.2.1 _ _ hi) hs) hlc
  refine lv_lload_n C.1 C.2.1 hd1 rfl (hL.at hi) ?_
  exact hk
theorem T_lload {i : Nat} {x : Int} (hd : DI M pc (.lload i) 2 pc') (hi : lo[i]? = some (some (vJ x))) (k : T d u M pc' lo (vJ x :: st) h Q) : T d u M pc lo (st) h Q := by
  intro p l e R s m args below meth c g H locs ls C hR hL hs hlc
  obtain ⟨hd1, rfl⟩ := hd
  have hk := k p l e R s m args below meth c g H locs ls C hR hL (okc (hL.2.1 _ _ hi) hs) hlc
  refine lv_lload C.1 C.2.1 hd1 (hL.at hi) ?_
  exact hk
theorem T_fload_n {k : Fin 4} {x : UInt32} (hd : DI M pc (.fload_n k) 1 pc') (hi : lo[(k : Nat)]? = some (some (vF x))) (k : T d u M pc' lo (vF x :: st) h Q) : T d u M pc lo (st) h Q := by
  intro p l e R s m args below meth c g H locs ls C hR hL hs hlc
  obtain ⟨hd1, rfl⟩ := hd
  have hk := k p l e R s m args below meth c g H locs ls C hR hL (okc (hL.2.1 _ _ hi) hs) hlc
  refine lv_fload_n C.1 C.2.1 hd1 rfl (hL.at hi) ?_
  exact hk
theorem T_fload {i : Nat} {x : UInt32} (hd : DI M pc (.fload i) 2 pc') (hi : lo[i]? = some (some (vF x))) (k : T d u M pc' lo (vF x :: st) h Q) : T d u M pc lo (st) h Q := by
  intro p l e R s m args below meth c g H locs ls C hR hL hs hlc
  obtain ⟨hd1, rfl⟩ := hd
  have hk := k p l e R s m args below meth c g H locs ls C hR hL (okc (hL.2.1 _ _ hi) hs) hlc
  refine lv_fload C.1 C.2.1 hd1 (hL.at hi) ?_
  exact hk
theorem T_dload_n {k : Fin 4} {x : UInt64} (hd : DI M pc (.dload_n k) 1 pc') (hi : lo[(k : Nat)]? = some (some (vD x))) (k : T d u M pc' lo (vD x :: st) h Q) : T d u M pc lo (st) h Q := by
  intro p l e R s m args below meth c g H locs ls C hR hL hs hlc
  obtain ⟨hd1, rfl⟩ := hd
  have hk := k p l e R s m args below meth c g H locs ls C hR hL (okc (hL.2.1 _ _ hi) hs) hlc
  refine lv_dload_n C.1 C.2.1 hd1 rfl (hL.at hi) ?_
  exact hk
theorem T_dload {i : Nat} {x : UInt64} (hd : DI M pc (.dload i) 2 pc') (hi : lo[i]? = some (some (vD x))) (k : T d u M pc' lo (vD x :: st) h Q) : T d u M pc lo (st) h Q := by
  intro p l e R s m args below meth c g H locs ls C hR hL hs hlc
  obtain ⟨hd1, rfl⟩ := hd
  have hk := k p l e R s m args below meth c g H locs ls C hR hL (okc (hL.2.1 _ _ hi) hs) hlc
  refine lv_dload C.1 C.2.1 hd1 (hL.at hi) ?_
  exact hk
theorem T_aload_n {k : Fin 4} {x : Nat} (hd : DI M pc (.aload_n k) 1 pc') (hi : lo[(k : Nat)]? = some (some (vR x))) (k : T d u M pc' lo (vR x :: st) h Q) : T d u M pc lo st h Q := by
  intro p l e R s m args below meth c g H locs ls C hR hL hs hlc
  obtain ⟨hd1, rfl⟩ := hd
  have hk := k p l e R s m args below meth c g H locs ls C hR hL (okc trivial hs) hlc
  have ha := hL.at hi
  rw [List.map_cons] at hk
  revert ha hk
  show W p l e R s m args below meth c H locs u.2.2.1 u.2.2.2 _ (F0 m (pc + 1) ls (va_rf (rfo g x) :: _)) → _ = some (Slot.val (va_rf (rfo g x))) → _
  cases rfo g x with
  | none => exact fun hk ha => lv_aload_nN C.1 C.2.1 hd1 rfl ha hk
  | some b => exact fun hk ha => lv_aload_n C.1 C.2.1 hd1 rfl ha hk
theorem T_aload {i x : Nat} (hd : DI M pc (.aload i) 2 pc') (hi : lo[i]? = some (some (vR x))) (k : T d u M pc' lo (vR x :: st) h Q) : T d u M pc lo st h Q := by
  intro p l e R s m args below meth c g H locs ls C hR hL hs hlc
  obtain ⟨hd1, rfl⟩ := hd
  have hk := k p l e R s m args below meth c g H locs ls C hR hL (okc trivial hs) hlc
  have ha := hL.at hi
  rw [List.map_cons] at hk
  revert ha hk
  show W p l e R s m args below meth c H locs u.2.2.1 u.2.2.2 _ (F0 m (pc + 2) ls (va_rf (rfo g x) :: _)) → _ = some (Slot.val (va_rf (rfo g x))) → _
  cases rfo g x with
  | none => exact fun hk ha => lv_aloadN C.1 C.2.1 hd1 ha hk
  | some b => exact fun hk ha => lv_aload C.1 C.2.1 hd1 ha hk
theorem T_istore_n {k : Fin 4} {i : Nat} {x : Int} {lo' : List (Option PV)} (hd : DI M pc (.istore_n k) 1 pc') (hki : (k : Nat) = i) (hn : i < lo.length) (hl : lset1 lo i (vI x) = lo') (k : T d u M pc' lo' st h Q) : T d u M pc lo (vI x :: st) h Q := by
  intro p l e R s m args below meth c g H locs ls C hR hL hs hlc
  obtain ⟨hd1, rfl⟩ := hd
  subst hl
  refine lv_istore_n C.1 C.2.1 hd1 hki hL.1 (by rw [← hL.2.2]; exact hn) rfl (fun ls' h' => ?_)
  exact k p l e R s m args below meth c g H locs ls' C hR (hL.set1 rfl (okh hs) h') (okt hs) hlc
theorem T_istore {i : Nat} {x : Int} {lo' : List (Option PV)} (hd : DI M pc (.istore i) 2 pc') (hn : i < lo.length) (hl : lset1 lo i (vI x) = lo') (k : T d u M pc' lo' st h Q) : T d u M pc lo (vI x :: st) h Q := by
  intro p l e R s m args below meth c g H locs ls C hR hL hs hlc
  obtain ⟨hd1, rfl⟩ := hd
  subst hl
  refine lv_istore C.1 C.2.1 hd1 hL.1 (by rw [← hL.2.2]; exact hn) rfl (fun ls' h' => ?_)
  exact k p l e R s m args below meth c g H locs ls' C hR (hL.set1 rfl (okh hs) h') (okt hs) hlc
theorem T_lstore_n {k : Fin 4} {i : Nat} {x : Int} {lo' : List (Option PV)} (hd : DI M pc (.lstore_n k) 1 pc') (hki : (k : Nat) = i) (hn : i + 1 < lo.length) (hl : lset2 lo i (vJ x) = lo') (k : T d u M pc' lo' st h Q) : T d u M pc lo (vJ x :: st) h Q := by
  intro p l e R s m args below meth c g H locs ls C hR hL hs hlc
  obtain ⟨hd1, rfl⟩ := hd
  subst hl
  refine lv_lstore_n C.1 C.2.1 hd1 hki hL.1 (by rw [← hL.2.2]; exact hn) rfl (fun ls' h' => ?_)
  exact k p l e R s m args below meth c g H locs ls' C hR (hL.set2 rfl (okh hs) h') (okt hs) hlc
theorem T_lstore {i : Nat} {x : Int} {lo' : List (Option PV)} (hd : DI M pc (.lstore i) 2 pc') (hn : i + 1 < lo.length) (hl : lset2 lo i (vJ x) = lo') (k : T d u M pc' lo' st h Q) : T d u M pc lo (vJ x :: st) h Q := by
  intro p l e R s m args below meth c g H locs ls C hR hL hs hlc
  obtain ⟨hd1, rfl⟩ := hd
  subst hl
  refine lv_lstore C.1 C.2.1 hd1 hL.1 (by rw [← hL.2.2]; exact hn) rfl (fun ls' h' => ?_)
  exact k p l e R s m args below meth c g H locs ls' C hR (hL.set2 rfl (okh hs) h') (okt hs) hlc
theorem T_fstore_n {k : Fin 4} {i : Nat} {x : UInt32} {lo' : List (Option PV)} (hd : DI M pc (.fstore_n k) 1 pc') (hki : (k : Nat) = i) (hn : i < lo.length) (hl : lset1 lo i (vF x) = lo') (k : T d u M pc' lo' st h Q) : T d u M pc lo (vF x :: st) h Q := by
  intro p l e R s m args below meth c g H locs ls C hR hL hs hlc
  obtain ⟨hd1, rfl⟩ := hd
  subst hl
  refine lv_fstore_n C.1 C.2.1 hd1 hki hL.1 (by rw [← hL.2.2]; exact hn) rfl (fun ls' h' => ?_)
  exact k p l e R s m args below meth c g H locs ls' C hR (hL.set1 rfl (okh hs) h') (okt hs) hlc
theorem T_fstore {i : Nat} {x : UInt32} {lo' : List (Option PV)} (hd : DI M pc (.fstore i) 2 pc') (hn : i < lo.length) (hl : lset1 lo i (vF x) = lo') (k : T d u M pc' lo' st h Q) : T d u M pc lo (vF x :: st) h Q := by
  intro p l e R s m args below meth c g H locs ls C hR hL hs hlc
  obtain ⟨hd1, rfl⟩ := hd
  subst hl
  refine lv_fstore C.1 C.2.1 hd1 hL.1 (by rw [← hL.2.2]; exact hn) rfl (fun ls' h' => ?_)
  exact k p l e R s m args below meth c g H locs ls' C hR (hL.set1 rfl (okh hs) h') (okt hs) hlc
theorem T_dstore_n {k : Fin 4} {i : Nat} {x : UInt64} {lo' : List (Option PV)} (hd : DI M pc (.dstore_n k) 1 pc') (hki : (k : Nat) = i) (hn : i + 1 < lo.length) (hl : lset2 lo i (vD x) = lo') (k : T d u M pc' lo' st h Q) : T d u M pc lo (vD x :: st) h Q := by
  intro p l e R s m args below meth c g H locs ls C hR hL hs hlc
  obtain ⟨hd1, rfl⟩ := hd
  subst hl
  refine lv_dstore_n C.1 C.2.1 hd1 hki hL.1 (by rw [← hL.2.2]; exact hn) rfl (fun ls' h' => ?_)
  exact k p l e R s m args below meth c g H locs ls' C hR (hL.set2 rfl (okh hs) h') (okt hs) hlc
theorem T_dstore {i : Nat} {x : UInt64} {lo' : List (Option PV)} (hd : DI M pc (.dstore i) 2 pc') (hn : i + 1 < lo.length) (hl : lset2 lo i (vD x) = lo') (k : T d u M pc' lo' st h Q) : T d u M pc lo (vD x :: st) h Q := by
  intro p l e R s m args below meth c g H locs ls C hR hL hs hlc
  obtain ⟨hd1, rfl⟩ := hd
  subst hl
  refine lv_dstore C.1 C.2.1 hd1 hL.1 (by rw [← hL.2.2]; exact hn) rfl (fun ls' h' => ?_)
  exact k p l e R s m args below meth c g H locs ls' C hR (hL.set2 rfl (okh hs) h') (okt hs) hlc
theorem T_astore_n {k : Fin 4} {i x : Nat} {lo' : List (Option PV)} (hd : DI M pc (.astore_n k) 1 pc') (hki : (k : Nat) = i) (hn : i < lo.length) (hl : lset1 lo i (vR x) = lo') (k : T d u M pc' lo' st h Q) : T d u M pc lo (vR x :: st) h Q := by
  intro p l e R s m args below meth c g H locs ls C hR hL hs hlc
  obtain ⟨hd1, rfl⟩ := hd
  subst hl
  have key : ∀ (v : Value), v = va_rf (rfo g x) → W p l e R s m args below meth c H locs u.2.2.1 u.2.2.2 (MQ below (QQ g Q) args s u.1 u.2.1 (own0 g)) (F0 m pc ls (v :: st.map (rv g))) := by
    intro v hv
    have kk : ∀ ls' : Array Slot, lv_has ls' M.2.2.1 ((i, v) :: (lst g lo).filter (fun q => !(q.1 == i) && !(q.1 + 1 == i && q.2.category == 2))) → W p l e R s m args below meth c H locs u.2.2.1 u.2.2.2 (MQ below (QQ g Q) args s u.1 u.2.1 (own0 g)) (F0 m (pc + 1) ls' (st.map (rv g))) := fun ls' h' => k p l e R s m args below meth c g H locs ls' C hR (hL.set1 (v := vR x) hv trivial h') (okt hs) hlc
    have hnn : i < M.2.2.1 := by rw [← hL.2.2]; exact hn
    revert kk
    cases hr : rfo g x with
    | none => rw [hr] at hv; subst hv; exact fun kk => lv_astore_nN C.1 C.2.1 hd1 hki hL.1 hnn rfl kk
    | some b => rw [hr] at hv; subst hv; exact fun kk => lv_astore_n C.1 C.2.1 hd1 hki hL.1 hnn rfl kk
  exact key _ rfl
theorem T_astore {i x : Nat} {lo' : List (Option PV)} (hd : DI M pc (.astore i) 2 pc') (hn : i < lo.length) (hl : lset1 lo i (vR x) = lo') (k : T d u M pc' lo' st h Q) : T d u M pc lo (vR x :: st) h Q := by
  intro p l e R s m args below meth c g H locs ls C hR hL hs hlc
  obtain ⟨hd1, rfl⟩ := hd
  subst hl
  have key : ∀ (v : Value), v = va_rf (rfo g x) → W p l e R s m args below meth c H locs u.2.2.1 u.2.2.2 (MQ below (QQ g Q) args s u.1 u.2.1 (own0 g)) (F0 m pc ls (v :: st.map (rv g))) := by
    intro v hv
    have kk : ∀ ls' : Array Slot, lv_has ls' M.2.2.1 ((i, v) :: (lst g lo).filter (fun q => !(q.1 == i) && !(q.1 + 1 == i && q.2.category == 2))) → W p l e R s m args below meth c H locs u.2.2.1 u.2.2.2 (MQ below (QQ g Q) args s u.1 u.2.1 (own0 g)) (F0 m (pc + 2) ls' (st.map (rv g))) := fun ls' h' => k p l e R s m args below meth c g H locs ls' C hR (hL.set1 (v := vR x) hv trivial h') (okt hs) hlc
    have hnn : i < M.2.2.1 := by rw [← hL.2.2]; exact hn
    revert kk
    cases hr : rfo g x with
    | none => rw [hr] at hv; subst hv; exact fun kk => lv_astoreN C.1 C.2.1 hd1 hL.1 hnn rfl kk
    | some b => rw [hr] at hv; subst hv; exact fun kk => lv_astore C.1 C.2.1 hd1 hL.1 hnn rfl kk
  exact key _ rfl
theorem T_iinc {i : Nat} {n : Int} {x : Int} {lo' : List (Option PV)} (hd : DI M pc (.iinc i n) 3 pc') (hi : lo[i]? = some (some (vI x))) (hl : lset1 lo i (vI (w32 (x + n))) = lo') (k : T d u M pc' lo' st h Q) : T d u M pc lo st h Q := by
  intro p l e R s m args below meth c g H locs ls C hR hL hs hlc
  obtain ⟨hd1, rfl⟩ := hd
  subst hl
  obtain ⟨j, hj⟩ := List.getElem?_of_mem (mem_lst (g := g) hi)
  refine lv_iinc (v := Int32.ofInt (w32 (x + n))) C.1 C.2.1 hd1 hL.1 hj (by rw [ow32, Int32.ofInt_add]) (by rw [← hL.2.2]; exact (List.getElem?_eq_some_iff.mp hi).1) rfl (fun ls' h' => ?_)
  exact k p l e R s m args below meth c g H locs ls' C hR (hL.set1 rfl (R32_w _) h') hs hlc
theorem T_dupI {a : Int} (hd : DI M pc .dup 1 pc') (k : T d u M pc' lo (vI a :: vI a :: st) h Q) : T d u M pc lo (vI a :: st) h Q := by
  intro p l e R s m args below meth c g H locs ls C hR hL hs hlc
  obtain ⟨hd1, rfl⟩ := hd
  have hk := k p l e R s m args below meth c g H locs ls C hR hL (okc (okh hs) (okc (okh hs) (okt hs))) hlc
  refine lv_dup C.1 C.2.1 hd1 rfl ?_
  exact hk
theorem T_dup {v : PV} (hd : DI M pc .dup 1 pc') (hc : cat2 v = false) (k : T d u M pc' lo (v :: v :: st) h Q) : T d u M pc lo (v :: st) h Q := by
  intro p l e R s m args below meth c g H locs ls C hR hL hs hlc
  obtain ⟨hd1, rfl⟩ := hd
  exact lv_dup C.1 C.2.1 hd1 (by rw [rv_cat, hc]; rfl) (k p l e R s m args below meth c g H locs ls C hR hL (okc (okh hs) hs) hlc)
theorem T_dup2 {v w : PV} (hd : DI M pc .dup2 1 pc') (hc : cat2 v = false) (hc2 : cat2 w = false) (k : T d u M pc' lo (v :: w :: v :: w :: st) h Q) : T d u M pc lo (v :: w :: st) h Q := by
  intro p l e R s m args below meth c g H locs ls C hR hL hs hlc
  obtain ⟨hd1, rfl⟩ := hd
  exact lv_dup2_11 C.1 C.2.1 hd1 (by rw [rv_cat, hc]; rfl) (by rw [rv_cat, hc2]; rfl) (k p l e R s m args below meth c g H locs ls C hR hL (okc (okh hs) (okc (okh (okt hs)) hs)) hlc)
theorem T_pop2 {v : PV} (hd : DI M pc .pop2 1 pc') (hc : cat2 v = true) (k : T d u M pc' lo st h Q) : T d u M pc lo (v :: st) h Q := by
  intro p l e R s m args below meth c g H locs ls C hR hL hs hlc
  obtain ⟨hd1, rfl⟩ := hd
  exact lv_pop2_2 C.1 C.2.1 hd1 (by rw [rv_cat, hc]; rfl) (k p l e R s m args below meth c g H locs ls C hR hL (okt hs) hlc)
theorem T_goto {off : Int} {tgt : Nat} (hd : DI M pc (.goto off) 3 pc') (ht : (pc : Int) + off = tgt) (k : T d u M tgt lo st h Q) : T d u M pc lo st h Q := by
  intro p l e R s m args below meth c g H locs ls C hR hL hs hlc
  exact lv_goto C.1 C.2.1 hd.1 ht (k p l e R s m args below meth c g H locs ls C hR hL hs hlc)
theorem T_icmp_eq {a b : Int} {off : Int} {tgt : Nat} (hd : DI M pc (.if_icmp .eq off) 3 pc') (ht : (pc : Int) + off = tgt) (kt : a = b → T d u M tgt lo st h Q) (kf : a ≠ b → T d u M pc' lo st h Q) : T d u M pc lo (vI b :: vI a :: st) h Q := by
  intro p l e R s m args below meth c g H locs ls C hR hL hs hlc
  obtain ⟨hd1, rfl⟩ := hd
  have ha : R32 a := okh (okt hs)
  have hb : R32 b := okh hs
  have kt := fun q => kt q p l e R s m args below meth c g H locs ls C hR hL (okt (okt hs)) hlc
  have kf := fun q => kf q p l e R s m args below meth c g H locs ls C hR hL (okt (okt hs)) hlc
  exact lv_icmp_eq C.1 C.2.1 hd1 ht (fun q => kt ((eq32 ha hb).mp q)) (fun q => kf (fun z => q ((eq32 ha hb).mpr z)))
theorem T_if_eq {a : Int} {off : Int} {tgt : Nat} (hd : DI M pc (.ifCond .eq off) 3 pc') (ht : (pc : Int) + off = tgt) (kt : a = 0 → T d u M tgt lo st h Q) (kf : a ≠ 0 → T d u M pc' lo st h Q) : T d u M pc lo (vI a :: st) h Q := by
  intro p l e R s m args below meth c g H locs ls C hR hL hs hlc
  obtain ⟨hd1, rfl⟩ := hd
  have ha : R32 a := okh hs
  have kt := fun q => kt q p l e R s m args below meth c g H locs ls C hR hL (okt hs) hlc
  have kf := fun q => kf q p l e R s m args below meth c g H locs ls C hR hL (okt hs) hlc
  have hb : R32 0 := R32_0
  exact lv_if_eq C.1 C.2.1 hd1 ht (fun q => kt ((eq32 ha hb).mp q)) (fun q => kf (fun z => q ((eq32 ha hb).mpr z)))
theorem T_icmp_ne {a b : Int} {off : Int} {tgt : Nat} (hd : DI M pc (.if_icmp .ne off) 3 pc') (ht : (pc : Int) + off = tgt) (kt : a ≠ b → T d u M tgt lo st h Q) (kf : a = b → T d u M pc' lo st h Q) : T d u M pc lo (vI b :: vI a :: st) h Q := by
  intro p l e R s m args below meth c g H locs ls C hR hL hs hlc
  obtain ⟨hd1, rfl⟩ := hd
  have ha : R32 a := okh (okt hs)
  have hb : R32 b := okh hs
  have kt := fun q => kt q p l e R s m args below meth c g H locs ls C hR hL (okt (okt hs)) hlc
  have kf := fun q => kf q p l e R s m args below meth c g H locs ls C hR hL (okt (okt hs)) hlc
  exact lv_icmp_ne C.1 C.2.1 hd1 ht (fun q => kt (fun z => q ((eq32 ha hb).mpr z))) (fun q => kf ((eq32 ha hb).mp q))
theorem T_if_ne {a : Int} {off : Int} {tgt : Nat} (hd : DI M pc (.ifCond .ne off) 3 pc') (ht : (pc : Int) + off = tgt) (kt : a ≠ 0 → T d u M tgt lo st h Q) (kf : a = 0 → T d u M pc' lo st h Q) : T d u M pc lo (vI a :: st) h Q := by
  intro p l e R s m args below meth c g H locs ls C hR hL hs hlc
  obtain ⟨hd1, rfl⟩ := hd
  have ha : R32 a := okh hs
  have kt := fun q => kt q p l e R s m args below meth c g H locs ls C hR hL (okt hs) hlc
  have kf := fun q => kf q p l e R s m args below meth c g H locs ls C hR hL (okt hs) hlc
  have hb : R32 0 := R32_0
  exact lv_if_ne C.1 C.2.1 hd1 ht (fun q => kt (fun z => q ((eq32 ha hb).mpr z))) (fun q => kf ((eq32 ha hb).mp q))
theorem T_icmp_lt {a b : Int} {off : Int} {tgt : Nat} (hd : DI M pc (.if_icmp .lt off) 3 pc') (ht : (pc : Int) + off = tgt) (kt : a < b → T d u M tgt lo st h Q) (kf : b ≤ a → T d u M pc' lo st h Q) : T d u M pc lo (vI b :: vI a :: st) h Q := by
  intro p l e R s m args below meth c g H locs ls C hR hL hs hlc
  obtain ⟨hd1, rfl⟩ := hd
  have ha : R32 a := okh (okt hs)
  have hb : R32 b := okh hs
  have kt := fun q => kt q p l e R s m args below meth c g H locs ls C hR hL (okt (okt hs)) hlc
  have kf := fun q => kf q p l e R s m args below meth c g H locs ls C hR hL (okt (okt hs)) hlc
  exact lv_icmp_lt C.1 C.2.1 hd1 ht (fun q => kt ((lt32 ha hb).mp q)) (fun q => kf (Int.not_lt.mp (fun z => q ((lt32 ha hb).mpr z))))
theorem T_if_lt {a : Int} {off : Int} {tgt : Nat} (hd : DI M pc (.ifCond .lt off) 3 pc') (ht : (pc : Int) + off = tgt) (kt : a < 0 → T d u M tgt lo st h Q) (kf : 0 ≤ a → T d u M pc' lo st h Q) : T d u M pc lo (vI a :: st) h Q := by
  intro p l e R s m args below meth c g H locs ls C hR hL hs hlc
  obtain ⟨hd1, rfl⟩ := hd
  have ha : R32 a := okh hs
  have kt := fun q => kt q p l e R s m args below meth c g H locs ls C hR hL (okt hs) hlc
  have kf := fun q => kf q p l e R s m args below meth c g H locs ls C hR hL (okt hs) hlc
  have hb : R32 0 := R32_0
  exact lv_if_lt C.1 C.2.1 hd1 ht (fun q => kt ((lt32 ha hb).mp q)) (fun q => kf (Int.not_lt.mp (fun z => q ((lt32 ha hb).mpr z))))
theorem T_icmp_ge {a b : Int} {off : Int} {tgt : Nat} (hd : DI M pc (.if_icmp .ge off) 3 pc') (ht : (pc : Int) + off = tgt) (kt : b ≤ a → T d u M tgt lo st h Q) (kf : a < b → T d u M pc' lo st h Q) : T d u M pc lo (vI b :: vI a :: st) h Q := by
  intro p l e R s m args below meth c g H locs ls C hR hL hs hlc
  obtain ⟨hd1, rfl⟩ := hd
  have ha : R32 a := okh (okt hs)
  have hb : R32 b := okh hs
  have kt := fun q => kt q p l e R s m args below meth c g H locs ls C hR hL (okt (okt hs)) hlc
  have kf := fun q => kf q p l e R s m args below meth c g H locs ls C hR hL (okt (okt hs)) hlc
  exact lv_icmp_ge C.1 C.2.1 hd1 ht (fun q => kt ((le32 hb ha).mp q)) (fun q => kf (Int.not_le.mp (fun z => q ((le32 hb ha).mpr z))))
theorem T_if_ge {a : Int} {off : Int} {tgt : Nat} (hd : DI M pc (.ifCond .ge off) 3 pc') (ht : (pc : Int) + off = tgt) (kt : 0 ≤ a → T d u M tgt lo st h Q) (kf : a < 0 → T d u M pc' lo st h Q) : T d u M pc lo (vI a :: st) h Q := by
  intro p l e R s m args below meth c g H locs ls C hR hL hs hlc
  obtain ⟨hd1, rfl⟩ := hd
  have ha : R32 a := okh hs
  have kt := fun q => kt q p l e R s m args below meth c g H locs ls C hR hL (okt hs) hlc
  have kf := fun q => kf q p l e R s m args below meth c g H locs ls C hR hL (okt hs) hlc
  have hb : R32 0 := R32_0
  exact lv_if_ge C.1 C.2.1 hd1 ht (fun q => kt ((le32 hb ha).mp q)) (fun q => kf (Int.not_le.mp (fun z => q ((le32 hb ha).mpr z))))
theorem T_icmp_gt {a b : Int} {off : Int} {tgt : Nat} (hd : DI M pc (.if_icmp .gt off) 3 pc') (ht : (pc : Int) + off = tgt) (kt : b < a → T d u M tgt lo st h Q) (kf : a ≤ b → T d u M pc' lo st h Q) : T d u M pc lo (vI b :: vI a :: st) h Q := by
  intro p l e R s m args below meth c g H locs ls C hR hL hs hlc
  obtain ⟨hd1, rfl⟩ := hd
  have ha : R32 a := okh (okt hs)
  have hb : R32 b := okh hs
  have kt := fun q => kt q p l e R s m args below meth c g H locs ls C hR hL (okt (okt hs)) hlc
  have kf := fun q => kf q p l e R s m args below meth c g H locs ls C hR hL (okt (okt hs)) hlc
  exact lv_icmp_gt C.1 C.2.1 hd1 ht (fun q => kt ((lt32 hb ha).mp q)) (fun q => kf (Int.not_lt.mp (fun z => q ((lt32 hb ha).mpr z))))
theorem T_if_gt {a : Int} {off : Int} {tgt : Nat} (hd : DI M pc (.ifCond .gt off) 3 pc') (ht : (pc : Int) + off = tgt) (kt : 0 < a → T d u M tgt lo st h Q) (kf : a ≤ 0 → T d u M pc' lo st h Q) : T d u M pc lo (vI a :: st) h Q := by
  intro p l e R s m args below meth c g H locs ls C hR hL hs hlc
  obtain ⟨hd1, rfl⟩ := hd
  have ha : R32 a := okh hs
  have kt := fun q => kt q p l e R s m args below meth c g H locs ls C hR hL (okt hs) hlc
  have kf := fun q => kf q p l e R s m args below meth c g H locs ls C hR hL (okt hs) hlc
  have hb : R32 0 := R32_0
  exact lv_if_gt C.1 C.2.1 hd1 ht (fun q => kt ((lt32 hb ha).mp q)) (fun q => kf (Int.not_lt.mp (fun z => q ((lt32 hb ha).mpr z))))
theorem T_icmp_le {a b : Int} {off : Int} {tgt : Nat} (hd : DI M pc (.if_icmp .le off) 3 pc') (ht : (pc : Int) + off = tgt) (kt : a ≤ b → T d u M tgt lo st h Q) (kf : b < a → T d u M pc' lo st h Q) : T d u M pc lo (vI b :: vI a :: st) h Q := by
  intro p l e R s m args below meth c g H locs ls C hR hL hs hlc
  obtain ⟨hd1, rfl⟩ := hd
  have ha : R32 a := okh (okt hs)
  have hb : R32 b := okh hs
  have kt := fun q => kt q p l e R s m args below meth c g H locs ls C hR hL (okt (okt hs)) hlc
  have kf := fun q => kf q p l e R s m args below meth c g H locs ls C hR hL (okt (okt hs)) hlc
  exact lv_icmp_le C.1 C.2.1 hd1 ht (fun q => kt ((le32 ha hb).mp q)) (fun q => kf (Int.not_le.mp (fun z => q ((le32 ha hb).mpr z))))
theorem T_if_le {a : Int} {off : Int} {tgt : Nat} (hd : DI M pc (.ifCond .le off) 3 pc') (ht : (pc : Int) + off = tgt) (kt : a ≤ 0 → T d u M tgt lo st h Q) (kf : 0 < a → T d u M pc' lo st h Q) : T d u M pc lo (vI a :: st) h Q := by
  intro p l e R s m args below meth c g H locs ls C hR hL hs hlc
  obtain ⟨hd1, rfl⟩ := hd
  have ha : R32 a := okh hs
  have kt := fun q => kt q p l e R s m args below meth c g H locs ls C hR hL (okt hs) hlc
  have kf := fun q => kf q p l e R s m args below meth c g H locs ls C hR hL (okt hs) hlc
  have hb : R32 0 := R32_0
  exact lv_if_le C.1 C.2.1 hd1 ht (fun q => kt ((le32 ha hb).mp q)) (fun q => kf (Int.not_le.mp (fun z => q ((le32 ha hb).mpr z))))
theorem T_lcmp {a b : Int} (hd : DI M pc .lcmp 1 pc') (k : T d u M pc' lo (vI (lcmpv a b) :: st) h Q) : T d u M pc lo (vJ b :: vJ a :: st) h Q := by
  intro p l e R s m args below meth c g H locs ls C hR hL hs hlc
  obtain ⟨hd1, rfl⟩ := hd
  have hk := k p l e R s m args below meth c g H locs ls C hR hL (okc (R32_lcmp a b) (okt (okt hs))) hlc
  have ha : R64 a := okh (okt hs)
  have hb : R64 b := okh hs
  have e9 : lg_cmp (Int64.ofInt a) (Int64.ofInt b) = Int32.ofInt (lcmpv a b) := by
    unfold lg_cmp lcmpv
    simp only [gt_iff_lt, lt64 hb ha, eq64 ha hb]
    by_cases h1 : a < b
    · rw [if_neg (by omega), if_neg (by omega), if_pos h1]; decide
    · rw [if_neg h1]
      by_cases h2 : a = b
      · rw [if_neg (by omega), if_pos h2, if_pos h2]; decide
      · rw [if_pos (by omega), if_neg h2]; decide
  refine W.lcmp C.1 C.2.1 hd1 ?_
  rw [e9]
  exact hk
theorem T_table {x dflt low hi : Int} {offs : Array Int} {len : Nat} {n : Nat} {tg : Nat → Nat} (hd : DI M pc (.tableswitch dflt low hi offs) len pc') (hn : offs.size = n) (hhi : hi = low + n - 1) (hnn : 0 < n) (ht : ∀ j, j < n → offs[j]? = some ((tg j : Int) - pc)) {dt : Nat} (hdt : (pc : Int) + dflt = dt) (kin : ∀ j, j < n → x = low + j → T d u M (tg j) lo st h Q) (kout : x < low ∨ low + n ≤ x → T d u M dt lo st h Q) : T d u M pc lo (vI x :: st) h Q := by
  intro p l e R s m args below meth c g H locs ls C hR hL hs hlc
  have hx : R32 x := okh hs
  have e9 := tr32 hx
  by_cases h1 : x < low ∨ low + n ≤ x
  · exact lv_tableOut C.1 C.2.1 hd.1 (by rw [e9]; omega) hdt (kout h1 p l e R s m args below meth c g H locs ls C hR hL (okt hs) hlc)
  · have hj : (x - low).toNat < n := by omega
    refine lv_tableIn (tgt := tg (x - low).toNat) C.1 C.2.1 hd.1 (by rw [e9]; omega) (by rw [e9]; omega) (by rw [e9]; exact ht _ hj) (by omega) ?_
    exact kin _ hj (by omega) p l e R s m args below meth c g H locs ls C hR hL (okt hs) hlc
theorem T_conv {lo' : List (Option PV)} {st' : List PV} {h' : PH} (k : T d u M pc lo' st' h' Q) (e1 : lo = lo') (e2 : st = st') (e3 : h = h') : T d u M pc lo st h Q := by subst e1 e2 e3; exact k
theorem T_acmp_ne {a b : Nat} {off : Int} {tgt : Nat} (hd : DI M pc (.if_acmp .ne off) 3 pc') (ht : (pc : Int) + off = tgt) (ha : 64 ≤ a) (hb : 64 ≤ b) (kt : a ≠ b → T d u M tgt lo st h Q) (kf : a = b → T d u M pc' lo st h Q) : T d u M pc lo (vR b :: vR a :: st) h Q := by
  intro p l e R s m args below meth c g H locs ls C hR hL hs hlc
  obtain ⟨hd1, rfl⟩ := hd
  have kt := fun q => kt q p l e R s m args below meth c g H locs ls C hR hL (okt (okt hs)) hlc
  have kf := fun q => kf q p l e R s m args below meth c g H locs ls C hR hL (okt (okt hs)) hlc
  have hi : rfo g a = rfo g b ↔ a = b := by
    unfold rfo ad
    rw [if_neg (by omega), if_neg (by omega), if_neg (by omega), if_neg (by omega)]
    constructor
    · intro q; have := Option.some.inj q; omega
    · intro q; rw [q]
  exact lv_acmp_ne C.1 C.2.1 hd1 ht (fun q => kt (fun z => q (hi.mpr z))) (fun q => kf (hi.mp q))
theorem T_fadd {a b : UInt32} (hd : DI M pc .fadd 1 pc') (hn : vf_n32 (FP.fadd a b)) (k : T d u M pc' lo (vF (FP.fadd a b) :: st) h Q) : T d u M pc lo (vF b :: vF a :: st) h Q := by
  intro p l e R s m args below meth c g H locs ls C hR hL hs hlc
  obtain ⟨hd1, rfl⟩ := hd
  exact lv_fadd C.1 C.2.1 hd1 hn (k p l e R s m args below meth c g H locs ls C hR hL (okc trivial (okt (okt hs))) hlc)
theorem T_fsub {a b : UInt32} (hd : DI M pc .fsub 1 pc') (hn : vf_n32 (FP.fsub a b)) (k : T d u M pc' lo (vF (FP.fsub a b) :: st) h Q) : T d u M pc lo (vF b :: vF a :: st) h Q := by
  intro p l e R s m args below meth c g H locs ls C hR hL hs hlc
  obtain ⟨hd1, rfl⟩ := hd
  exact lv_fsub C.1 C.2.1 hd1 hn (k p l e R s m args below meth c g H locs ls C hR hL (okc trivial (okt (okt hs))) hlc)
theorem T_fmul {a b : UInt32} (hd : DI M pc .fmul 1 pc') (hn : vf_n32 (FP.fmul a b)) (k : T d u M pc' lo (vF (FP.fmul a b) :: st) h Q) : T d u M pc lo (vF b :: vF a :: st) h Q := by
  intro p l e R s m args below meth c g H locs ls C hR hL hs hlc
  obtain ⟨hd1, rfl⟩ := hd
  exact lv_fmul C.1 C.2.1 hd1 hn (k p l e R s m args below meth c g H locs ls C hR hL (okc trivial (okt (okt hs))) hlc)
theorem T_fdiv {a b : UInt32} (hd : DI M pc .fdiv 1 pc') (hn : vf_n32 (FP.fdiv a b)) (k : T d u M pc' lo (vF (FP.fdiv a b) :: st) h Q) : T d u M pc lo (vF b :: vF a :: st) h Q := by
  intro p l e R s m args below meth c g H locs ls C hR hL hs hlc
  obtain ⟨hd1, rfl⟩ := hd
  exact lv_fdiv C.1 C.2.1 hd1 hn (k p l e R s m args below meth c g H locs ls C hR hL (okc trivial (okt (okt hs))) hlc)
theorem T_dadd {a b : UInt64} (hd : DI M pc .dadd 1 pc') (hn : vf_n64 (FP.dadd a b)) (k : T d u M pc' lo (vD (FP.dadd a b) :: st) h Q) : T d u M pc lo (vD b :: vD a :: st) h Q := by
  intro p l e R s m args below meth c g H locs ls C hR hL hs hlc
  obtain ⟨hd1, rfl⟩ := hd
  exact lv_dadd C.1 C.2.1 hd1 hn (k p l e R s m args below meth c g H locs ls C hR hL (okc trivial (okt (okt hs))) hlc)
theorem T_ddiv {a b : UInt64} (hd : DI M pc .ddiv 1 pc') (hn : vf_n64 (FP.ddiv a b)) (k : T d u M pc' lo (vD (FP.ddiv a b) :: st) h Q) : T d u M pc lo (vD b :: vD a :: st) h Q := by
  intro p l e R s m args below meth c g H locs ls C hR hL hs hlc
  obtain ⟨hd1, rfl⟩ := hd
  exact lv_ddiv C.1 C.2.1 hd1 hn (k p l e R s m args below meth c g H locs ls C hR hL (okc trivial (okt (okt hs))) hlc)
theorem T_d2f {a : UInt64} (hd : DI M pc .d2f 1 pc') (hn : vf_n32 (FP.d2f a)) (k : T d u M pc' lo (vF (FP.d2f a) :: st) h Q) : T d u M pc lo (vD a :: st) h Q := by
  intro p l e R s m args below meth c g H locs ls C hR hL hs hlc
  obtain ⟨hd1, rfl⟩ := hd
  exact lv_d2f C.1 C.2.1 hd1 hn (k p l e R s m args below meth c g H locs ls C hR hL (okc trivial (okt hs)) hlc)
theorem T_i2d {a : Int} (hd : DI M pc .i2d 1 pc') (k : T d u M pc' lo (vD (FP.i2d (Int32.ofInt a)) :: st) h Q) : T d u M pc lo (vI a :: st) h Q := by
  intro p l e R s m args below meth c g H locs ls C hR hL hs hlc
  obtain ⟨hd1, rfl⟩ := hd
  exact lv_i2d C.1 C.2.1 hd1 (k p l e R s m args below meth c g H locs ls C hR hL (okc trivial (okt hs)) hlc)
theorem T_i2f {a : Int} (hd : DI M pc .i2f 1 pc') (k : T d u M pc' lo (vF (FP.i2f (Int32.ofInt a)) :: st) h Q) : T d u M pc lo (vI a :: st) h Q := by
  intro p l e R s m args below meth c g H locs ls C hR hL hs hlc
  obtain ⟨hd1, rfl⟩ := hd
  exact lv_i2f C.1 C.2.1 hd1 (k p l e R s m args below meth c g H locs ls C hR hL (okc trivial (okt hs)) hlc)
theorem T_f2i {a : UInt32} (hd : DI M pc .f2i 1 pc') (k : T d u M pc' lo (vI (FP.f2i a).toInt :: st) h Q) : T d u M pc lo (vF a :: st) h Q := by
  intro p l e R s m args below meth c g H locs ls C hR hL hs hlc
  obtain ⟨hd1, rfl⟩ := hd
  have hk := k p l e R s m args below meth c g H locs ls C hR hL (okc (R32_i _) (okt hs)) hlc
  refine lv_f2i C.1 C.2.1 hd1 ?_
  rw [show FP.f2i a = Int32.ofInt (FP.f2i a).toInt from (oi32 _).symm]
  exact hk
theorem T_fcmp {a b : UInt32} {op : CmpOp} (hd : DI M pc (.fcmp op) 1 pc') (k : T d u M pc' lo (vI (Op.cmpValue (FP.fcmp a b) op).toInt :: st) h Q) : T d u M pc lo (vF b :: vF a :: st) h Q := by
  intro p l e R s m args below meth c g H locs ls C hR hL hs hlc
  obtain ⟨hd1, rfl⟩ := hd
  have hk := k p l e R s m args below meth c g H locs ls C hR hL (okc (R32_i _) (okt (okt hs))) hlc
  refine lv_fcmp C.1 C.2.1 hd1 ?_
  rw [show Op.cmpValue (FP.fcmp a b) op = Int32.ofInt (Op.cmpValue (FP.fcmp a b) op).toInt from (oi32 _).symm]
  exact hk
end
end
section
/-! THE CLASSES' TABLES -/
def clsOK (c : Nat) : Prop := ∀ r, vwCl[c]? = some r → (∀ w ∈ u_ws r.1 r.2.1 r.2.2, w ∈ gT) ∧ (∀ k, k < r.2.2 → parseFieldDescriptor (r.2.1 k).2.2.1 = some (fty c k)) ∧ (∀ a, a < r.2.2 → ∀ b, b < r.2.2 → a ≠ b → (r.2.1 a).2.1 ≠ (r.2.1 b).2.1)
theorem gT_of {w : Cond} (h : w ∈ tables_1) (hg : goodWord w = true) : w ∈ gT := List.mem_filter.mpr ⟨List.mem_append_right _ h, hg⟩
theorem gT_at {w : Cond} (i : Nat) (h : tables_1[i]? = some w) (hg : goodWord w = true) : w ∈ gT := gT_of (List.mem_of_getElem? h) hg
def inAt (ws : List Cond) (is : List Nat) : Bool := decide (is.map (fun i => tables_1[i]?) = ws.map some) && ws.all goodWord
theorem inAt_ok {ws : List Cond} {is : List Nat} (h : inAt ws is = true) : ∀ w ∈ ws, w ∈ gT := by
  intro w hw
  simp only [inAt, Bool.and_eq_true, decide_eq_true_eq] at h
  obtain ⟨h1, h2⟩ := h
  refine gT_of ?_ (List.all_eq_true.mp h2 w hw)
  have : some w ∈ is.map (fun i => tables_1[i]?) := by rw [h1]; exact List.mem_map.mpr ⟨w, hw, rfl⟩
  obtain ⟨i, -, hi⟩ := List.mem_map.mp this
  exact List.mem_of_getElem? hi
theorem i_cls_0 : inAt (u_ws RX0 TX0 5) [104, 106, 108, 110, 112] = true := by decide +kernel
theorem i_cls_1 : inAt (u_ws RX1 TX1 4) [147, 149, 151, 153] = true := by decide +kernel
theorem i_cls_2 : inAt (u_ws RX2 TX2 4) [175, 177, 179, 181] = true := by decide +kernel
theorem i_cls_3 : inAt (u_ws RX3 TX3 19) [244, 246, 248, 250, 252, 254, 256, 258, 260, 262, 264, 266, 268, 270, 272, 274, 276, 278, 280] = true := by decide +kernel
theorem i_cls_4 : inAt (u_ws RX4 TX4 3) [84, 86, 88] = true := by decide +kernel
theorem i_cls_5 : inAt (u_ws RX5 TX5 10) [301, 303, 305, 307, 309, 311, 313, 315, 317, 319] = true := by decide +kernel
theorem i_cls_6 : inAt (u_ws RX6 TX6 13) [400, 402, 404, 406, 408, 410, 412, 414, 416, 418, 420, 422, 424] = true := by decide +kernel
theorem i_cls_7 : inAt (u_ws RX7 TX7 10) [358, 360, 362, 364, 366, 368, 370, 372, 374, 376] = true := by decide +kernel
theorem i_cls_8 : inAt (u_ws RX8 TX8 5) [58, 60, 62, 64, 66] = true := by decide +kernel
theorem i_cls_9 : inAt (u_ws RX9 TX9 3) [127, 129, 131] = true := by decide +kernel
theorem i_cls_10 : inAt (u_ws RX10 TX10 19) [446, 448, 450, 452, 454, 456, 458, 460, 462, 464, 466, 468, 470, 472, 474, 476, 478, 480, 482] = true := by decide +kernel
theorem i_cls_11 : inAt (u_ws RX11 TX11 59) [1328, 1330, 1332, 1334, 1336, 1338, 1340, 1342, 1344, 1346, 1348, 1350, 1352, 1354, 1356, 1358, 1360, 1362, 1364, 1366, 1368, 1370, 1372, 1374, 1376, 1378, 1380, 1382, 1384, 1386, 1388, 1390, 1392, 1394, 1396, 1398, 1400, 1402, 1404, 1406, 1408, 1410, 1412, 1414, 1416, 1418, 1420, 1422, 1424, 1426, 1428, 1430, 1432, 1434, 1436, 1438, 1440, 1442, 1444] = true := by decide +kernel
theorem clsOK_all (c : Nat) : clsOK c := by
  intro r hr
  match c, hr with
  | 0, hr => cases hr; exact ⟨inAt_ok i_cls_0, tyX0_ok, nmX0⟩
  | 1, hr => cases hr; exact ⟨inAt_ok i_cls_1, tyX1_ok, nmX1⟩
  | 2, hr => cases hr; exact ⟨inAt_ok i_cls_2, tyX2_ok, nmX2⟩
  | 3, hr => cases hr; exact ⟨inAt_ok i_cls_3, tyX3_ok, nmX3⟩
  | 4, hr => cases hr; exact ⟨inAt_ok i_cls_4, tyX4_ok, nmX4⟩
  | 5, hr => cases hr; exact ⟨inAt_ok i_cls_5, tyX5_ok, nmX5⟩
  | 6, hr => cases hr; exact ⟨inAt_ok i_cls_6, tyX6_ok, nmX6⟩
  | 7, hr => cases hr; exact ⟨inAt_ok i_cls_7, tyX7_ok, nmX7⟩
  | 8, hr => cases hr; exact ⟨inAt_ok i_cls_8, tyX8_ok, nmX8⟩
  | 9, hr => cases hr; exact ⟨inAt_ok i_cls_9, tyX9_ok, nmX9⟩
  | 10, hr => cases hr; exact ⟨inAt_ok i_cls_10, tyX10_ok, nmX10⟩
  | 11, hr => cases hr; exact ⟨inAt_ok i_cls_11, tyX11_ok, nmX11⟩
  | c + 12, hr => simp [vwCl] at hr
end
section
/-! FIELDS -/
def FL (M : MD) (idx c k : Nat) : Prop := ∃ r : vw_C, vwCl[c]? = some r ∧ k < r.2.2 ∧ Cond.fieldLink M.1.cls idx r.1 (r.2.1 k).2.1 (r.2.1 k).2.2.1 ∈ gT ∧ (r.2.1 k).1 = r.1
/-- may be written: not final, or within its own class's constructor -/
def FW (M : MD) (c k : Nat) : Prop := ∃ r : vw_C, vwCl[c]? = some r ∧ ((r.2.1 k).2.2.2 = false ∨ ((r.2.1 k).2.2.2 = true ∧ M.1.name = "<init>" ∧ r.1 = M.1.cls))
theorem ad_big {g : Gx} {q : Nat} (h : 64 ≤ q) : ad g q = bs g + (q - 64) := by unfold ad; rw [if_neg (by omega)]
theorem ad_inj {g : Gx} {p q : Nat} (hp : 64 ≤ p) (hq : 64 ≤ q) (h : ad g p = ad g q) : p = q := by rw [ad_big hp, ad_big hq] at h; omega
theorem rfo_some {g : Gx} {q : Nat} (h : 0 < q) : rfo g q = some (ad g q) := by unfold rfo; rw [if_neg (by omega)]
theorem rv_ref {g : Gx} {q : Nat} (h : 0 < q) : rv g (vR q) = .ref (ad g q) := by show va_rf (rfo g q) = _; rw [rfo_some h]; rfl
theorem Rel.obj {g : Gx} {h : PH} {H : Heap} (hR : Rel g h H) {q c : Nat} {r : vw_C} (hc : cl h q = c + 1) (hr : vwCl[c]? = some r) : 64 ≤ q ∧ q < nx h ∧ t_OB (ad g q) (g.1 c) r.2.2 (g.2.1 c) H (fun k => rv g (fv h q c k)) := by
  have hlt : c < 12 := by
    have := (List.getElem?_eq_some_iff.mp hr).1
    exact this
  obtain ⟨h1, h2⟩ := hR.2.2.2.2.2.2.1 q (by omega) (by omega)
  exact ⟨h1, h2, (hR.2.2.1 q h1 h2).1 c r hc hr⟩
theorem Rel.arr {g : Gx} {h : PH} {H : Heap} (hR : Rel g h H) {q : Nat} (hc : 20 ≤ cl h q) (hc2 : cl h q < 26) : 64 ≤ q ∧ q < nx h ∧ H[ad g q]? = some (vp_cell (g.2.2.1 (cl h q - 20)) (acl g h q (cl h q))) := by
  obtain ⟨h1, h2⟩ := hR.2.2.2.2.2.2.1 q (by omega) (by omega)
  exact ⟨h1, h2, (hR.2.2.1 q h1 h2).2 hc hc2⟩
theorem fv_eq {h h' : PH} {q c k : Nat} (h1 : gi h' q k = gi h q k) (h2 : gj h' q k = gj h q k) (h3 : gr h' q k = gr h q k) : fv h' q c k = fv h q c k := by
  unfold fv; rw [h1, h2, h3]
theorem acl_eq {g : Gx} {h h' : PH} {q t : Nat} (h0 : ln h' q = ln h q) (h1 : ∀ k, gi h' q k = gi h q k) (h2 : ∀ k, gj h' q k = gj h q k) (h3 : ∀ k, gr h' q k = gr h q k) : acl g h' q t = acl g h q t := by
  unfold acl; simp only [h0, h1, h2, h3]
theorem cok_keep {g : Gx} {h h' : PH} {q : Nat} {H H' : Heap} (hc : cok g h q H) (e : H'[ad g q]? = H[ad g q]?) (h0 : ln h' q = ln h q) (hl : cl h' q = cl h q) (h1 : ∀ k, gi h' q k = gi h q k) (h2 : ∀ k, gj h' q k = gj h q k) (h3 : ∀ k, gr h' q k = gr h q k) : cok g h' q H' := by
  refine ⟨fun c r e1 e2 => ?_, fun e1 e2 => ?_⟩
  · rw [hl] at e1
    have := (hc.1 c r e1 e2).kept e
    exact this.to (fun k _ => by rw [fv_eq (h1 k) (h2 k) (h3 k)])
  · rw [hl] at e1 e2 ⊢
    rw [e, hc.2 e1 e2, acl_eq h0 h1 h2 h3]
/-- one cell has changed, on both sides -/
theorem Rel.upd {g : Gx} {h h' : PH} {H H' : Heap} {p : Nat} (hR : Rel g h H) (hp : 64 ≤ p) (hp2 : p < nx h) (e1 : H'.size = H.size) (e2 : ∀ a, a ≠ ad g p → H'[a]? = H[a]?) (hn : nx h' = nx h) (hcl : cl h' = cl h) (hln : ln h' = ln h)
    (hi : ∀ q k, q ≠ p → gi h' q k = gi h q k) (hj : ∀ q k, q ≠ p → gj h' q k = gj h q k) (hr : ∀ q k, q ≠ p → gr h' q k = gr h q k) (r1 : ∀ k, R32 (gi h' p k)) (r2 : ∀ k, R64 (gj h' p k)) (hc : cok g h' p H') : Rel g h' H' := by
  obtain ⟨a1, a2, a3, a4, a5, a6, a7, a8, a9, a10, a11⟩ := hR
  refine ⟨by rw [e1, a1, hn], by rw [hn]; exact a2, fun q hq1 hq2 => ?_, fun q k => ?_, fun q k => ?_, fun a ha => ?_, by rw [hcl, hn]; exact a7, by rw [hcl]; exact a8, by rw [hcl]; exact a9, by rw [hcl]; exact a10, a11.keep (by rw [hcl]) (by rw [hln]) (fun j => hi 62 j (by omega))⟩
  · rw [hn] at hq2
    by_cases e : q = p
    · subst e; exact hc
    · exact cok_keep (a3 q hq1 hq2) (e2 _ (fun z => e (ad_inj hq1 hp z))) (by rw [hln]) (by rw [hcl]) (fun k => hi q k e) (fun k => hj q k e) (fun k => hr q k e)
  · by_cases e : q = p
    · subst e; exact r1 k
    · rw [hi q k e]; exact a4 q k
  · by_cases e : q = p
    · subst e; exact r2 k
    · rw [hj q k e]; exact a5 q k
  · rw [e2 a (fun z => by rw [ad_big hp] at z; omega)]; exact a6 a ha
section
variable {d : Nat} {u : Bu} {M : MD} {pc pc' : Nat} {lo : List (Option PV)} {st : List PV} {h : PH} {Q : Option PV → PH → Prop}
theorem T_get {idx c k p : Nat} {v : PV} (hd : DI M pc (.getfield idx) 3 pc') (hf : FL M idx c k) (hc : cl h p = c + 1) (hv : fv h p c k = v) (k : T d u M pc' lo (v :: st) h Q) : T d u M pc lo (vR p :: st) h Q := by
  intro p' l e R s m args below meth c' g H locs ls C hR hL hs hlc
  obtain ⟨hd1, rfl⟩ := hd
  obtain ⟨r, hr, hk, hw, hown⟩ := hf
  have hokv : okv v := by
    rw [← hv]
    unfold fv
    split
    · exact hR.2.2.2.2.1 _ _
    · trivial
    · trivial
    · exact hR.2.2.2.1 _ _
  have hkk := k p' l e R s m args below meth c' g H locs ls C hR hL (okc hokv (okt hs)) hlc
  obtain ⟨h64, -, cell, q1, q2, q3, q4⟩ := hR.obj hc hr
  obtain ⟨hin, hty, hnm⟩ := clsOK_all c r hr
  obtain ⟨hS, hfc, kC, hkC, hkind⟩ := C.2.2.2.2.2.2.2.2.1.1.1 c _ hr
  obtain ⟨cf, kf, fi, f, hi, hsl⟩ := hS _ hk
  rw [hown] at hi
  have hst := (u_facts hfc hkC (u_lays (C.2.2.2.2.2.1) hin hk) (by rw [hown]; exact hi)).1
  refine W.eq (g2 := F0 m pc ls (.ref (ad g p) :: st.map (rv g))) (by rw [List.map_cons, rv_ref (by omega)]) ?_
  refine W.getf C.1 C.2.1 C.2.2.2.2.1 (C.2.2.2.2.2.1 _ hw) hi hst q1 (by rw [q3]; exact fun h => by cases h) (v := rv g v) ?_ rfl rfl hd1 hkk
  rw [hsl, q4 _ hk]
  show some (rv g (fv h p c _)) = _
  rw [hv]
theorem put_core {idx c k p : Nat} {v : PV} {h' : PH} (hd : DI M pc (.putfield idx) 3 pc') (hf : FL M idx c k) (hfw : FW M c k) (hc : cl h p = c + 1) (hfit : ∀ g : Gx, okv v → narrow (fty c k) (rv g v) = rv g v ∧ fits (fty c k) (rv g v) = true)
    (hn : nx h' = nx h) (hcl : cl h' = cl h) (hln : ln h' = ln h) (hi : ∀ q k, q ≠ p → gi h' q k = gi h q k) (hj : ∀ q k, q ≠ p → gj h' q k = gj h q k) (hr : ∀ q k, q ≠ p → gr h' q k = gr h q k)
    (r1 : okv v → (∀ k, R32 (gi h p k)) → ∀ k, R32 (gi h' p k)) (r2 : okv v → (∀ k, R64 (gj h p k)) → ∀ k, R64 (gj h' p k)) (hfv : ∀ j, fv h' p c j = if j = k then v else fv h p c j) (k : T d u M pc' lo st h' Q) : T d u M pc lo (v :: vR p :: st) h Q := by
  intro p' l e R s m args below meth c' g H locs ls C hR hL hs hlc
  obtain ⟨hd1, rfl⟩ := hd
  obtain ⟨r, hr0, hk, hw, hown⟩ := hf
  obtain ⟨r', hr1, hfin⟩ := hfw
  cases hr0.symm.trans hr1
  have hov : okv v := okh hs
  obtain ⟨h64, hlt, cell, q1, q2, q3, q4⟩ := hR.obj hc hr0
  obtain ⟨hin, hty, hnm⟩ := clsOK_all c r hr0
  obtain ⟨hS, hfc, kC, hkC, hkind⟩ := C.2.2.2.2.2.2.2.2.1.1.1 c _ hr0
  have hap := va_apart (own := "") (C.2.2.2.2.2.1) hin (fty c) hty hnm C.2.2.2.2.2.2.2.2.1.1 hr0
  obtain ⟨cf, kf, fi, f, hi0, hsl⟩ := hS _ hk
  have hi1 := hi0
  rw [hown] at hi1
  have hst := (u_facts hfc hkC (u_lays (C.2.2.2.2.2.1) hin hk) hi0).1
  have hlay := C.2.2.2.2.2.1 _ (hin _ (u_in_lay hk))
  unfold u_lay at hlay
  have hlocs : ∀ q ∈ locs ++ [⟨ad g p, f.slot⟩], own0 g q.base := by
    intro q hq
    rcases List.mem_append.mp hq with h | h
    · exact hlc q h
    · rw [List.mem_singleton.mp h]; show bs g ≤ ad g p; rw [ad_big h64]; omega
  have fin : ∀ H' : Heap, H'[ad g p]? = some (cell.setSlot f.slot (rv g v)) → H'.size = H.size → (∀ q, q ≠ ad g p → H'[q]? = H[q]?) → W p' l e R s m args below meth c' H' (locs ++ [⟨ad g p, f.slot⟩]) u.2.2.1 u.2.2.2 (MQ below (QQ g Q) args s u.1 u.2.1 (own0 g)) (F0 m (pc + 3) ls (st.map (rv g))) := by
    intro H' e1 e2 e3
    refine k p' l e R s m args below meth c' g H' _ ls C ?_ hL (okt (okt hs)) hlocs
    refine hR.upd h64 hlt e2 e3 hn hcl hln hi hj hr (r1 hov (hR.2.2.2.1 p)) (r2 hov (hR.2.2.2.2.1 p)) ⟨fun c2 r2 x1 x2 => ?_, fun x1 x2 => ?_⟩
    · rw [hcl, hc] at x1
      have : c2 = c := by omega
      subst this
      cases hr0.symm.trans x2
      rw [hsl] at e1
      refine t_OB.to (V := updV (fun j => rv g (fv h p c2 j)) _ (rv g v)) ⟨_, e1, q2, q3, t_set q4 hap hk (rv g v)⟩ (fun j _ => ?_)
      rw [hfv j]
      unfold updV
      split <;> rfl
    · rw [hcl, hc] at x1
      have := (List.getElem?_eq_some_iff.mp hr0).1
      exfalso
      have h12 : c < 12 := this
      omega
  refine W.eq (g2 := F0 m pc ls (rv g v :: .ref (ad g p) :: st.map (rv g))) (by rw [List.map_cons, List.map_cons, rv_ref (by omega)]) ?_
  have hft := hfit g hov
  rcases hfin with hfin | ⟨hfin, hnm2, hcls⟩
  · rw [if_neg (by rw [hfin]; decide)] at hlay
    have h6 := u_store hfc hkC hkind hlay hi0 (hty _ hk) hft.1 hft.2
    exact W.putK C.1 C.2.1 (f := f) ⟨C.2.2.2.2.1, C.2.2.2.2.2.1 _ hw, ⟨_, _, _, hi1⟩, hst⟩ (by rw [q2]; exact h6) q1 q3 (by rw [hsl]; exact k2_hasslot (q4 _ hk)) rfl rfl hd1 fin
  · rw [if_pos hfin] at hlay
    have hcf : m.cls = cf := by
      obtain ⟨_, _, c', _, _, _, -, -, hf', -, -, -, hown2, -⟩ := Cond.laysFinal_spec hlay
      have e1 : c' = cf := by have := hi0.symm.trans hf'; simp at this; exact this.1.symm
      rw [hown, hcls] at hown2
      rw [← e1]; exact Option.some.inj (C.2.2.2.2.1.symm.trans hown2)
    have h6 := u_fits hfc hkC hkind (Or.inr hlay) hi0 (hty _ hk) hft.1 hft.2
    exact W.putFinK C.1 C.2.1 C.2.2.2.2.1 (C.2.2.2.2.2.1 _ hw) hi1 hst hcf (by rw [C.2.2.2.2.2.2.2.1]; exact hnm2) (by rw [q2]; exact h6) q1 q3 (by rw [hsl]; exact k2_hasslot (q4 _ hk)) rfl rfl hd1 fin
theorem T_rng (k : ((∀ q k, R32 (gi h q k)) ∧ ∀ q k, R64 (gj h q k)) → T d u M pc lo st h Q) : T d u M pc lo st h Q := by
  intro p' l e R s m args below meth c' g H locs ls C hR hL hs hlc
  exact k ⟨hR.2.2.2.1, hR.2.2.2.2.1⟩ p' l e R s m args below meth c' g H locs ls C hR hL hs hlc
theorem T_rlo (k : (∀ (i : Nat) (v : PV), lo[i]? = some (some v) → okv v) → T d u M pc lo st h Q) : T d u M pc lo st h Q := by
  intro p' l e R s m args below meth c' g H locs ls C hR hL hs hlc
  exact k hL.2.1 p' l e R s m args below meth c' g H locs ls C hR hL hs hlc
theorem T_rst (k : (∀ v ∈ st, okv v) → T d u M pc lo st h Q) : T d u M pc lo st h Q := by
  intro p' l e R s m args below meth c' g H locs ls C hR hL hs hlc
  exact k hs p' l e R s m args below meth c' g H locs ls C hR hL hs hlc
theorem T_putI {idx c k p : Nat} {x : Int} (hd : DI M pc (.putfield idx) 3 pc') (hf : FL M idx c k) (hfw : FW M c k) (hc : cl h p = c + 1) (hty : fty c k = .int) (kk : T d u M pc' lo st (si h p k x) Q) : T d u M pc lo (vI x :: vR p :: st) h Q := by
  refine put_core (h' := si h p k x) hd hf hfw hc (fun g _ => by rw [hty]; exact ⟨rfl, rfl⟩) rfl rfl rfl (fun q j hq => by show (if q = p ∧ j = k then x else gi h q j) = _; rw [if_neg (fun z => hq z.1)]) (fun _ _ _ => rfl) (fun _ _ _ => rfl) (fun hv h1 j => ?_) (fun _ h1 => h1) (fun j => ?_) kk
  · show R32 (if p = p ∧ j = k then x else gi h p j)
    split
    · exact hv
    · exact h1 j
  · by_cases hj : j = k
    · subst hj
      rw [if_pos rfl]
      unfold fv; rw [hty]
      show vI (if p = p ∧ j = j then x else gi h p j) = vI x
      rw [if_pos ⟨rfl, rfl⟩]
    · rw [if_neg hj]
      exact fv_eq (by show (if p = p ∧ j = k then x else gi h p j) = _; rw [if_neg (fun z => hj z.2)]) rfl rfl
theorem zfit {x : Int} (hx : x = 0 ∨ x = 1) : narrow .boolean (.int (Int32.ofInt x)) = .int (Int32.ofInt x) ∧ fits .boolean (.int (Int32.ofInt x)) = true := by rcases hx with rfl | rfl <;> exact ⟨by decide, by decide⟩
theorem T_putZ {idx c k p : Nat} {x : Int} (hd : DI M pc (.putfield idx) 3 pc') (hf : FL M idx c k) (hfw : FW M c k) (hc : cl h p = c + 1) (hty : fty c k = .boolean) (hx : x = 0 ∨ x = 1) (kk : T d u M pc' lo st (si h p k x) Q) : T d u M pc lo (vI x :: vR p :: st) h Q := by
  refine put_core (h' := si h p k x) hd hf hfw hc (fun g _ => by rw [hty]; exact zfit hx) rfl rfl rfl (fun q j hq => by show (if q = p ∧ j = k then x else gi h q j) = _; rw [if_neg (fun z => hq z.1)]) (fun _ _ _ => rfl) (fun _ _ _ => rfl) (fun hv h1 j => ?_) (fun _ h1 => h1) (fun j => ?_) kk
  · show R32 (if p = p ∧ j = k then x else gi h p j)
    split
    · exact hv
    · exact h1 j
  · by_cases hj : j = k
    · subst hj
      rw [if_pos rfl]
      unfold fv; rw [hty]
      show vI (if p = p ∧ j = j then x else gi h p j) = vI x
      rw [if_pos ⟨rfl, rfl⟩]
    · rw [if_neg hj]
      exact fv_eq (by show (if p = p ∧ j = k then x else gi h p j) = _; rw [if_neg (fun z => hj z.2)]) rfl rfl
theorem T_putJ {idx c k p : Nat} {x : Int} (hd : DI M pc (.putfield idx) 3 pc') (hf : FL M idx c k) (hfw : FW M c k) (hc : cl h p = c + 1) (hty : fty c k = .long) (kk : T d u M pc' lo st (sj h p k x) Q) : T d u M pc lo (vJ x :: vR p :: st) h Q := by
  refine put_core (h' := sj h p k x) hd hf hfw hc (fun g _ => by rw [hty]; exact ⟨rfl, rfl⟩) rfl rfl rfl (fun _ _ _ => rfl) (fun q j hq => by show (if q = p ∧ j = k then x else gj h q j) = _; rw [if_neg (fun z => hq z.1)]) (fun _ _ _ => rfl) (fun _ h1 => h1) (fun hv h1 j => ?_) (fun j => ?_) kk
  · show R64 (if p = p ∧ j = k then x else gj h p j)
    split
    · exact hv
    · exact h1 j
  · by_cases hj : j = k
    · subst hj
      rw [if_pos rfl]
      unfold fv; rw [hty]
      show vJ (if p = p ∧ j = j then x else gj h p j) = vJ x
      rw [if_pos ⟨rfl, rfl⟩]
    · rw [if_neg hj]
      exact fv_eq rfl (by show (if p = p ∧ j = k then x else gj h p j) = _; rw [if_neg (fun z => hj z.2)]) rfl
theorem fitR {g : Gx} {ty : FieldType} (hty : (∃ C, ty = .object C) ∨ ∃ t, ty = .array t) (x : Nat) : narrow ty (rv g (vR x)) = rv g (vR x) ∧ fits ty (rv g (vR x)) = true := by
  rcases hty with ⟨C, rfl⟩ | ⟨t, rfl⟩ <;> (show narrow _ (va_rf (rfo g x)) = va_rf (rfo g x) ∧ fits _ (va_rf (rfo g x)) = true; cases rfo g x <;> exact ⟨rfl, rfl⟩)
theorem T_putR {idx c k p x : Nat} (hd : DI M pc (.putfield idx) 3 pc') (hf : FL M idx c k) (hfw : FW M c k) (hc : cl h p = c + 1) (hty : (∃ C, fty c k = .object C) ∨ ∃ t, fty c k = .array t) (kk : T d u M pc' lo st (sr h p k x) Q) : T d u M pc lo (vR x :: vR p :: st) h Q := by
  refine put_core (h' := sr h p k x) hd hf hfw hc (fun g _ => fitR hty x) rfl rfl rfl (fun _ _ _ => rfl) (fun _ _ _ => rfl) (fun q j hq => by show (if q = p ∧ j = k then x else gr h q j) = _; rw [if_neg (fun z => hq z.1)]) (fun _ h1 => h1) (fun _ h1 => h1) (fun j => ?_) kk
  by_cases hj : j = k
  · subst hj
    rw [if_pos rfl]
    unfold fv
    rcases hty with ⟨C, hty⟩ | ⟨t, hty⟩ <;> (rw [hty]; show vR (if p = p ∧ j = j then x else gr h p j) = vR x; rw [if_pos ⟨rfl, rfl⟩])
  · rw [if_neg hj]
    exact fv_eq rfl rfl (by show (if p = p ∧ j = k then x else gr h p j) = _; rw [if_neg (fun z => hj z.2)])
end
end
section
/-! ARRAYS -/
theorem ix_nat {i : Int} (hi : R32 i) : (Int32.ofInt i).toNatClampNeg = i.toNat := by show (Int32.ofInt i).toInt.toNat = _; rw [tr32 hi]
theorem ix_neg {i : Int} (hi : R32 i) (h0 : 0 ≤ i) : ¬ Int32.ofInt i < 0 := by
  rw [Int32.lt_iff_toInt_lt, tr32 hi, Int32.toInt_zero]; omega
theorem ix_in {i : Int} {cA : ClassId} {n : Nat} {f : Nat → Value} (hi : R32 i) (h0 : 0 ≤ i) (h1 : i < n) : ¬ (Int32.ofInt i < 0 ∨ (arrV cA n f).slots.size ≤ (Int32.ofInt i).toNatClampNeg) := by
  rw [arrV_size, ix_nat hi]
  rintro (q | q)
  · exact ix_neg hi h0 q
  · omega
theorem own_app {g : Gx} {locs : List Loc} {p i : Nat} (h : ∀ q ∈ locs, own0 g q.base) (hp : 64 ≤ p) : ∀ q ∈ locs ++ [⟨ad g p, i⟩], own0 g q.base := by
  intro q hq
  rcases List.mem_append.mp hq with h1 | h1
  · exact h q h1
  · rw [List.mem_singleton.mp h1]; show bs g ≤ ad g p; rw [ad_big hp]; omega
def zb (x : Int) : Int := (vp_nar .boolean (Int32.ofInt x)).toInt
section
variable {d : Nat} {u : Bu} {M : MD} {pc pc' : Nat} {lo : List (Option PV)} {st : List PV} {h : PH} {Q : Option PV → PH → Prop}
theorem T_iaload {a : Nat} {i : Int} (hd : DI M pc .iaload 1 pc') (hc : cl h a = 20) (h0 : 0 ≤ i) (h1 : i < ln h a) (k : T d u M pc' lo (vI (gi h a i.toNat) :: st) h Q) : T d u M pc lo (vI i :: vR a :: st) h Q := by
  intro p' l e R s m args below meth c' g H locs ls C hR hL hs hlc
  obtain ⟨hd1, rfl⟩ := hd
  obtain ⟨b1, b2, b3⟩ := hR.arr (q := a) (by omega) (by omega)
  rw [hc] at b3
  have hi : R32 i := okh hs
  have hkk := k p' l e R s m args below meth c' g H locs ls C hR hL (okc (hR.2.2.2.1 _ _) (okt (okt hs))) hlc
  refine W.eq (g2 := F0 m pc ls (.int (Int32.ofInt i) :: .ref (ad g a) :: st.map (rv g))) (by rw [List.map_cons, List.map_cons, rv_ref (by omega)]; rfl) ?_
  exact W.iald (v := rv g (vI (gi h a i.toNat))) C.1 C.2.1 b3 ((C.2.2.2.2.2.2.2.2.1.1.2 0 _ rfl).1 (ln h a) (fun j => .int (Int32.ofInt (gi h a j)))) (fun q => by cases q) (ix_in hi h0 h1) (by rw [ix_nat hi]; exact arrV_read (N := ln h a) (j := i.toNat) _ _ (by omega)) rfl rfl hd1 hkk
theorem T_baload {a : Nat} {i : Int} (hd : DI M pc .baload 1 pc') (hc : cl h a = 21) (h0 : 0 ≤ i) (h1 : i < ln h a) (k : T d u M pc' lo (vI (gi h a i.toNat) :: st) h Q) : T d u M pc lo (vI i :: vR a :: st) h Q := by
  intro p' l e R s m args below meth c' g H locs ls C hR hL hs hlc
  obtain ⟨hd1, rfl⟩ := hd
  obtain ⟨b1, b2, b3⟩ := hR.arr (q := a) (by omega) (by omega)
  rw [hc] at b3
  have hi : R32 i := okh hs
  have hkk := k p' l e R s m args below meth c' g H locs ls C hR hL (okc (hR.2.2.2.1 _ _) (okt (okt hs))) hlc
  refine W.eq (g2 := F0 m pc ls (.int (Int32.ofInt i) :: .ref (ad g a) :: st.map (rv g))) (by rw [List.map_cons, List.map_cons, rv_ref (by omega)]; rfl) ?_
  exact W.bald (v := rv g (vI (gi h a i.toNat))) C.1 C.2.1 b3 ((C.2.2.2.2.2.2.2.2.1.1.2 1 _ rfl).1 (ln h a) (fun j => .int (Int32.ofInt (gi h a j)))) (fun q => by cases q) (ix_in hi h0 h1) (by rw [ix_nat hi]; exact arrV_read (N := ln h a) (j := i.toNat) _ _ (by omega)) rfl rfl hd1 hkk
theorem T_zaload {a : Nat} {i : Int} (hd : DI M pc .baload 1 pc') (hc : cl h a = 23) (h0 : 0 ≤ i) (h1 : i < ln h a) (k : T d u M pc' lo (vI (gi h a i.toNat) :: st) h Q) : T d u M pc lo (vI i :: vR a :: st) h Q := by
  intro p' l e R s m args below meth c' g H locs ls C hR hL hs hlc
  obtain ⟨hd1, rfl⟩ := hd
  obtain ⟨b1, b2, b3⟩ := hR.arr (q := a) (by omega) (by omega)
  rw [hc] at b3
  have hi : R32 i := okh hs
  have hkk := k p' l e R s m args below meth c' g H locs ls C hR hL (okc (hR.2.2.2.1 _ _) (okt (okt hs))) hlc
  refine W.eq (g2 := F0 m pc ls (.int (Int32.ofInt i) :: .ref (ad g a) :: st.map (rv g))) (by rw [List.map_cons, List.map_cons, rv_ref (by omega)]; rfl) ?_
  exact W.zald (v := rv g (vI (gi h a i.toNat))) C.1 C.2.1 b3 ((C.2.2.2.2.2.2.2.2.1.1.2 3 _ rfl).1 (ln h a) (fun j => .int (Int32.ofInt (gi h a j)))) (fun q => by cases q) (ix_in hi h0 h1) (by rw [ix_nat hi]; exact arrV_read (N := ln h a) (j := i.toNat) _ _ (by omega)) rfl rfl hd1 hkk
theorem T_laload {a : Nat} {i : Int} (hd : DI M pc .laload 1 pc') (hc : cl h a = 22) (h0 : 0 ≤ i) (h1 : i < ln h a) (k : T d u M pc' lo (vJ (gj h a i.toNat) :: st) h Q) : T d u M pc lo (vI i :: vR a :: st) h Q := by
  intro p' l e R s m args below meth c' g H locs ls C hR hL hs hlc
  obtain ⟨hd1, rfl⟩ := hd
  obtain ⟨b1, b2, b3⟩ := hR.arr (q := a) (by omega) (by omega)
  rw [hc] at b3
  have hi : R32 i := okh hs
  have hkk := k p' l e R s m args below meth c' g H locs ls C hR hL (okc (hR.2.2.2.2.1 _ _) (okt (okt hs))) hlc
  refine W.eq (g2 := F0 m pc ls (.int (Int32.ofInt i) :: .ref (ad g a) :: st.map (rv g))) (by rw [List.map_cons, List.map_cons, rv_ref (by omega)]; rfl) ?_
  exact W.lald (v := rv g (vJ (gj h a i.toNat))) C.1 C.2.1 b3 ((C.2.2.2.2.2.2.2.2.1.1.2 2 _ rfl).1 (ln h a) (fun j => .long (Int64.ofInt (gj h a j)))) (fun q => by cases q) (ix_in hi h0 h1) (by rw [ix_nat hi]; exact arrV_read (N := ln h a) (j := i.toNat) _ _ (by omega)) rfl rfl hd1 hkk
theorem T_aaloadP {a : Nat} {i : Int} (hd : DI M pc .aaload 1 pc') (hc : cl h a = 24) (h0 : 0 ≤ i) (h1 : i < ln h a) (k : T d u M pc' lo (vR (gr h a i.toNat) :: st) h Q) : T d u M pc lo (vI i :: vR a :: st) h Q := by
  intro p' l e R s m args below meth c' g H locs ls C hR hL hs hlc
  obtain ⟨hd1, rfl⟩ := hd
  obtain ⟨b1, b2, b3⟩ := hR.arr (q := a) (by omega) (by omega)
  rw [hc] at b3
  have hi : R32 i := okh hs
  have hkk := k p' l e R s m args below meth c' g H locs ls C hR hL (okc trivial (okt (okt hs))) hlc
  refine W.eq (g2 := F0 m pc ls (.int (Int32.ofInt i) :: .ref (ad g a) :: st.map (rv g))) (by rw [List.map_cons, List.map_cons, rv_ref (by omega)]; rfl) ?_
  exact W.aald (ty := .object RX3) (v := rv g (vR (gr h a i.toNat))) C.1 C.2.1 b3 ((C.2.2.2.2.2.2.2.2.1.1.2 4 _ rfl).1 (ln h a) (fun j => va_rf (rfo g (gr h a j)))) rfl (fun q => by cases q) (ix_in hi h0 h1) (by rw [ix_nat hi]; exact arrV_read (N := ln h a) (j := i.toNat) _ _ (by omega)) rfl rfl hd1 hkk
theorem T_aaloadS {a : Nat} {i : Int} (hd : DI M pc .aaload 1 pc') (hc : cl h a = 25) (h0 : 0 ≤ i) (h1 : i < ln h a) (k : T d u M pc' lo (vR (gr h a i.toNat) :: st) h Q) : T d u M pc lo (vI i :: vR a :: st) h Q := by
  intro p' l e R s m args below meth c' g H locs ls C hR hL hs hlc
  obtain ⟨hd1, rfl⟩ := hd
  obtain ⟨b1, b2, b3⟩ := hR.arr (q := a) (by omega) (by omega)
  rw [hc] at b3
  have hi : R32 i := okh hs
  have hkk := k p' l e R s m args below meth c' g H locs ls C hR hL (okc trivial (okt (okt hs))) hlc
  refine W.eq (g2 := F0 m pc ls (.int (Int32.ofInt i) :: .ref (ad g a) :: st.map (rv g))) (by rw [List.map_cons, List.map_cons, rv_ref (by omega)]; rfl) ?_
  exact W.aald (ty := .object RX8) (v := rv g (vR (gr h a i.toNat))) C.1 C.2.1 b3 ((C.2.2.2.2.2.2.2.2.1.1.2 5 _ rfl).1 (ln h a) (fun j => va_rf (rfo g (gr h a j)))) rfl (fun q => by cases q) (ix_in hi h0 h1) (by rw [ix_nat hi]; exact arrV_read (N := ln h a) (j := i.toNat) _ _ (by omega)) rfl rfl hd1 hkk
theorem T_iastore {a : Nat} {i x : Int} (hd : DI M pc .iastore 1 pc') (hc : cl h a = 20) (h0 : 0 ≤ i) (h1 : i < ln h a) (k : T d u M pc' lo st (si h a i.toNat x) Q) : T d u M pc lo (vI x :: vI i :: vR a :: st) h Q := by
  intro p' l e R s m args below meth c' g H locs ls C hR hL hs hlc
  obtain ⟨hd1, rfl⟩ := hd
  obtain ⟨b1, b2, b3⟩ := hR.arr (q := a) (by omega) (by omega)
  rw [hc] at b3
  have hi : R32 i := okh (okt hs)
  refine W.eq (g2 := F0 m pc ls (.int (Int32.ofInt x) :: .int (Int32.ofInt i) :: .ref (ad g a) :: st.map (rv g))) (by rw [List.map_cons, List.map_cons, List.map_cons, rv_ref (by omega)]; rfl) ?_
  refine W.iast C.1 C.2.1 b3 ((C.2.2.2.2.2.2.2.2.1.1.2 0 _ rfl).1 (ln h a) (fun j => .int (Int32.ofInt (gi h a j)))) (fun q => by cases q) (ix_in hi h0 h1) rfl rfl hd1 (fun H' e1 e2 e3 => ?_)
  refine k p' l e R s m args below meth c' g H' _ ls C ?_ hL (okt (okt (okt hs))) (own_app hlc b1)
  rw [ix_nat hi] at e1
  refine hR.upd (p := a) b1 b2 e2 e3 rfl rfl rfl (fun q j hq => by show (if q = a ∧ j = i.toNat then x else gi h q j) = _; rw [if_neg (fun z => hq z.1)]) (fun _ _ _ => rfl) (fun _ _ _ => rfl) (fun j => ?_) (hR.2.2.2.2.1 a) ⟨fun c2 r2 x1 x2 => absurd (List.getElem?_eq_some_iff.mp x2).1 (by rw [show cl (si h a i.toNat x) a = cl h a from rfl, hc] at x1; show ¬ c2 < 12; omega), fun _ _ => ?_⟩
  · show R32 (if a = a ∧ j = i.toNat then x else gi h a j)
    split
    · exact okh hs
    · exact hR.2.2.2.1 a j
  · rw [show cl (si h a i.toNat x) a = 20 from hc, e1]
    show some ((arrV _ _ _).setSlot _ _) = some (vp_cell _ (ln h a, _))
    rw [vp_cell_i, arrV_store]
    congr 2
    funext j
    show updV _ _ _ j = .int (Int32.ofInt (if a = a ∧ j = i.toNat then x else gi h a j))
    unfold updV
    by_cases hj : j = i.toNat
    · rw [if_pos hj, if_pos ⟨rfl, hj⟩]
    · rw [if_neg hj, if_neg (fun z => hj z.2)]
theorem T_bastore {a : Nat} {i x : Int} (hd : DI M pc .bastore 1 pc') (hc : cl h a = 21) (h0 : 0 ≤ i) (h1 : i < ln h a) (k : T d u M pc' lo st (si h a i.toNat (i2b x)) Q) : T d u M pc lo (vI x :: vI i :: vR a :: st) h Q := by
  intro p' l e R s m args below meth c' g H locs ls C hR hL hs hlc
  obtain ⟨hd1, rfl⟩ := hd
  obtain ⟨b1, b2, b3⟩ := hR.arr (q := a) (by omega) (by omega)
  rw [hc] at b3
  have hi : R32 i := okh (okt hs)
  refine W.eq (g2 := F0 m pc ls (.int (Int32.ofInt x) :: .int (Int32.ofInt i) :: .ref (ad g a) :: st.map (rv g))) (by rw [List.map_cons, List.map_cons, List.map_cons, rv_ref (by omega)]; rfl) ?_
  refine W.bast C.1 C.2.1 b3 ((C.2.2.2.2.2.2.2.2.1.1.2 1 _ rfl).1 (ln h a) (fun j => .int (Int32.ofInt (gi h a j)))) (fun q => by cases q) (ix_in hi h0 h1) rfl rfl hd1 (fun H' e1 e2 e3 => ?_)
  refine k p' l e R s m args below meth c' g H' _ ls C ?_ hL (okt (okt (okt hs))) (own_app hlc b1)
  rw [ix_nat hi] at e1
  refine hR.upd (p := a) b1 b2 e2 e3 rfl rfl rfl (fun q j hq => by show (if q = a ∧ j = i.toNat then (i2b x) else gi h q j) = _; rw [if_neg (fun z => hq z.1)]) (fun _ _ _ => rfl) (fun _ _ _ => rfl) (fun j => ?_) (hR.2.2.2.2.1 a) ⟨fun c2 r2 x1 x2 => absurd (List.getElem?_eq_some_iff.mp x2).1 (by rw [show cl (si h a i.toNat (i2b x)) a = cl h a from rfl, hc] at x1; show ¬ c2 < 12; omega), fun _ _ => ?_⟩
  · show R32 (if a = a ∧ j = i.toNat then (i2b x) else gi h a j)
    split
    · exact R32_i _
    · exact hR.2.2.2.1 a j
  · rw [show cl (si h a i.toNat (i2b x)) a = 21 from hc, e1]
    show some ((arrV _ _ _).setSlot _ _) = some (vp_cell _ (ln h a, _))
    rw [vp_cell_i, arrV_store]
    congr 2
    funext j
    show updV _ _ _ j = .int (Int32.ofInt (if a = a ∧ j = i.toNat then (i2b x) else gi h a j))
    unfold updV
    by_cases hj : j = i.toNat
    · rw [if_pos hj, if_pos ⟨rfl, hj⟩]; show narrow .byte (.int (Int32.ofInt x)) = _; rw [show i2b x = (Int32.ofInt x).toInt8.toInt32.toInt from rfl, oi32]; rfl
    · rw [if_neg hj, if_neg (fun z => hj z.2)]
theorem T_zastore {a : Nat} {i x : Int} (hd : DI M pc .bastore 1 pc') (hc : cl h a = 23) (h0 : 0 ≤ i) (h1 : i < ln h a) (k : T d u M pc' lo st (si h a i.toNat (zb x)) Q) : T d u M pc lo (vI x :: vI i :: vR a :: st) h Q := by
  intro p' l e R s m args below meth c' g H locs ls C hR hL hs hlc
  obtain ⟨hd1, rfl⟩ := hd
  obtain ⟨b1, b2, b3⟩ := hR.arr (q := a) (by omega) (by omega)
  rw [hc] at b3
  have hi : R32 i := okh (okt hs)
  refine W.eq (g2 := F0 m pc ls (.int (Int32.ofInt x) :: .int (Int32.ofInt i) :: .ref (ad g a) :: st.map (rv g))) (by rw [List.map_cons, List.map_cons, List.map_cons, rv_ref (by omega)]; rfl) ?_
  refine W.zast C.1 C.2.1 b3 ((C.2.2.2.2.2.2.2.2.1.1.2 3 _ rfl).1 (ln h a) (fun j => .int (Int32.ofInt (gi h a j)))) (fun q => by cases q) (ix_in hi h0 h1) rfl rfl hd1 (fun H' e1 e2 e3 => ?_)
  refine k p' l e R s m args below meth c' g H' _ ls C ?_ hL (okt (okt (okt hs))) (own_app hlc b1)
  rw [ix_nat hi] at e1
  refine hR.upd (p := a) b1 b2 e2 e3 rfl rfl rfl (fun q j hq => by show (if q = a ∧ j = i.toNat then (zb x) else gi h q j) = _; rw [if_neg (fun z => hq z.1)]) (fun _ _ _ => rfl) (fun _ _ _ => rfl) (fun j => ?_) (hR.2.2.2.2.1 a) ⟨fun c2 r2 x1 x2 => absurd (List.getElem?_eq_some_iff.mp x2).1 (by rw [show cl (si h a i.toNat (zb x)) a = cl h a from rfl, hc] at x1; show ¬ c2 < 12; omega), fun _ _ => ?_⟩
  · show R32 (if a = a ∧ j = i.toNat then (zb x) else gi h a j)
    split
    · exact R32_i _
    · exact hR.2.2.2.1 a j
  · rw [show cl (si h a i.toNat (zb x)) a = 23 from hc, e1]
    show some ((arrV _ _ _).setSlot _ _) = some (vp_cell _ (ln h a, _))
    rw [vp_cell_i, arrV_store]
    congr 2
    funext j
    show updV _ _ _ j = .int (Int32.ofInt (if a = a ∧ j = i.toNat then (zb x) else gi h a j))
    unfold updV
    by_cases hj : j = i.toNat
    · rw [if_pos hj, if_pos ⟨rfl, hj⟩]; show narrow .boolean (.int (Int32.ofInt x)) = _; rw [show zb x = (vp_nar .boolean (Int32.ofInt x)).toInt from rfl, oi32]; rfl
    · rw [if_neg hj, if_neg (fun z => hj z.2)]
theorem T_lastore {a : Nat} {i x : Int} (hd : DI M pc .lastore 1 pc') (hc : cl h a = 22) (h0 : 0 ≤ i) (h1 : i < ln h a) (k : T d u M pc' lo st (sj h a i.toNat x) Q) : T d u M pc lo (vJ x :: vI i :: vR a :: st) h Q := by
  intro p' l e R s m args below meth c' g H locs ls C hR hL hs hlc
  obtain ⟨hd1, rfl⟩ := hd
  obtain ⟨b1, b2, b3⟩ := hR.arr (q := a) (by omega) (by omega)
  rw [hc] at b3
  have hi : R32 i := okh (okt hs)
  refine W.eq (g2 := F0 m pc ls (.long (Int64.ofInt x) :: .int (Int32.ofInt i) :: .ref (ad g a) :: st.map (rv g))) (by rw [List.map_cons, List.map_cons, List.map_cons, rv_ref (by omega)]; rfl) ?_
  refine W.last C.1 C.2.1 b3 ((C.2.2.2.2.2.2.2.2.1.1.2 2 _ rfl).1 (ln h a) (fun j => .long (Int64.ofInt (gj h a j)))) (fun q => by cases q) (ix_in hi h0 h1) rfl rfl hd1 (fun H' e1 e2 e3 => ?_)
  refine k p' l e R s m args below meth c' g H' _ ls C ?_ hL (okt (okt (okt hs))) (own_app hlc b1)
  rw [ix_nat hi] at e1
  refine hR.upd (p := a) b1 b2 e2 e3 rfl rfl rfl (fun _ _ _ => rfl) (fun q j hq => by show (if q = a ∧ j = i.toNat then x else gj h q j) = _; rw [if_neg (fun z => hq z.1)]) (fun _ _ _ => rfl) (hR.2.2.2.1 a) (fun j => ?_) ⟨fun c2 r2 x1 x2 => absurd (List.getElem?_eq_some_iff.mp x2).1 (by rw [show cl (sj h a i.toNat x) a = cl h a from rfl, hc] at x1; show ¬ c2 < 12; omega), fun _ _ => ?_⟩
  · show R64 (if a = a ∧ j = i.toNat then x else gj h a j)
    split
    · exact okh hs
    · exact hR.2.2.2.2.1 a j
  · rw [show cl (sj h a i.toNat x) a = 22 from hc, e1]
    show some ((arrV _ _ _).setSlot _ _) = some (vp_cell _ (ln h a, _))
    rw [vp_cell_l, arrV_store]
    congr 2
    funext j
    show updV _ _ _ j = .long (Int64.ofInt (if a = a ∧ j = i.toNat then x else gj h a j))
    unfold updV
    by_cases hj : j = i.toNat
    · rw [if_pos hj, if_pos ⟨rfl, hj⟩]
    · rw [if_neg hj, if_neg (fun z => hj z.2)]
theorem T_alen {a : Nat} (hd : DI M pc .arraylength 1 pc') (hc : 20 ≤ cl h a) (hc2 : cl h a < 26) (hn : ln h a < 2147483648) (k : T d u M pc' lo (vI (ln h a) :: st) h Q) : T d u M pc lo (vR a :: st) h Q := by
  intro p' l e R s m args below meth c' g H locs ls C hR hL hs hlc
  obtain ⟨hd1, rfl⟩ := hd
  obtain ⟨b1, b2, b3⟩ := hR.arr (q := a) hc hc2
  have hkk := k p' l e R s m args below meth c' g H locs ls C hR hL (okc (show R32 _ by unfold R32; omega) (okt hs)) hlc
  refine W.eq (g2 := F0 m pc ls (.ref (ad g a) :: st.map (rv g))) (by rw [List.map_cons, rv_ref (by omega)]) ?_
  have hty : ∃ ty, s.isArrayOf (vp_cell (g.2.2.1 (cl h a - 20)) (acl g h a (cl h a))) ty ∧ (vp_cell (g.2.2.1 (cl h a - 20)) (acl g h a (cl h a))).slots.size = ln h a := by
    have hK := C.2.2.2.2.2.2.2.2.1.1.2
    rcases (show cl h a = 20 ∨ cl h a = 21 ∨ cl h a = 22 ∨ cl h a = 23 ∨ cl h a = 24 ∨ cl h a = 25 by omega) with z | z | z | z | z | z <;> rw [z]
    · exact ⟨_, (hK 0 _ rfl).1 _ _, arrV_size _ _ _⟩
    · exact ⟨_, (hK 1 _ rfl).1 _ _, arrV_size _ _ _⟩
    · exact ⟨_, (hK 2 _ rfl).1 _ _, arrV_size _ _ _⟩
    · exact ⟨_, (hK 3 _ rfl).1 _ _, arrV_size _ _ _⟩
    · exact ⟨_, (hK 4 _ rfl).1 _ _, arrV_size _ _ _⟩
    · exact ⟨_, (hK 5 _ rfl).1 _ _, arrV_size _ _ _⟩
  obtain ⟨ty, hta, hts⟩ := hty
  exact W.alen (n := Int32.ofInt (ln h a)) C.1 C.2.1 b3 hta (by rw [hts]; rfl) rfl rfl hd1 hkk
theorem T_aastoreP {a x : Nat} {i : Int} (hd : DI M pc .aastore 1 pc') (hc : cl h a = 24) (h0 : 0 ≤ i) (h1 : i < ln h a) (hx : cl h x = 3 + 1) (k : T d u M pc' lo st (sr h a i.toNat x) Q) : T d u M pc lo (vR x :: vI i :: vR a :: st) h Q := by
  intro p' l e R s m args below meth c' g H locs ls C hR hL hs hlc
  obtain ⟨hd1, rfl⟩ := hd
  obtain ⟨b1, b2, b3⟩ := hR.arr (q := a) (by omega) (by omega)
  rw [hc] at b3
  have hi : R32 i := okh (okt hs)
  have hK := C.2.2.2.2.2.2.2.2.1.1
  obtain ⟨x1, -, cellV, g1, g2, g3, -⟩ := hR.obj (r := (RX3, TX3, 19)) hx rfl
  have hcls := (hK.1 3 _ rfl).2
  obtain ⟨kA, comp, k1, k2, k3, -⟩ := (hK.2 4 _ rfl).2
  have hcomp : comp = g.1 3 := Option.some.inj (k3.symm.trans hcls.1)
  subst hcomp
  obtain ⟨kC, hkC, -⟩ := hcls.2
  refine W.eq (g2 := F0 m pc ls (.ref (ad g x) :: .int (Int32.ofInt i) :: .ref (ad g a) :: st.map (rv g))) (by rw [List.map_cons, List.map_cons, List.map_cons, rv_ref (by omega), rv_ref (by omega)]; rfl) ?_
  have hlt : (Int32.ofInt i).toNatClampNeg < ln h a := by rw [ix_nat hi]; omega
  refine W.aast C.1 C.2.1 b3 (fun q h => by cases h) (fun h => by cases h) k1 k2 rfl hkC ⟨ix_neg hi h0, Nat.lt_of_lt_of_eq hlt (arrV_size _ _ _).symm⟩ g1 (fun q h => by rw [g3] at h; cases h) (by rw [g2]; exact hkC) (by rw [g2]; exact va_assign hcls) rfl rfl hd1 fun H' e1 e2 e3 => ?_
  refine k p' l e R s m args below meth c' g H' _ ls C ?_ hL (okt (okt (okt hs))) (own_app hlc b1)
  rw [ix_nat hi] at e1
  refine hR.upd (p := a) b1 b2 e2 e3 rfl rfl rfl (fun _ _ _ => rfl) (fun _ _ _ => rfl) (fun q j hq => by show (if q = a ∧ j = i.toNat then x else gr h q j) = _; rw [if_neg (fun z => hq z.1)]) (hR.2.2.2.1 a) (hR.2.2.2.2.1 a) ⟨fun c2 r2 x1 x2 => absurd (List.getElem?_eq_some_iff.mp x2).1 (by rw [show cl (sr h a i.toNat x) a = cl h a from rfl, hc] at x1; show ¬ c2 < 12; omega), fun _ _ => ?_⟩
  rw [show cl (sr h a i.toNat x) a = 24 from hc, e1]
  show some ((arrV _ _ _).setSlot _ _) = some (vp_cell _ (ln h a, _))
  rw [vp_cell_q, arrV_store]
  congr 2
  funext j
  show updV _ _ _ j = va_rf (rfo g (if a = a ∧ j = i.toNat then x else gr h a j))
  unfold updV
  by_cases hj : j = i.toNat
  · rw [if_pos hj, if_pos ⟨rfl, hj⟩, rfo_some (by omega)]; rfl
  · rw [if_neg hj, if_neg (fun z => hj z.2)]
theorem T_aastoreS {a x : Nat} {i : Int} (hd : DI M pc .aastore 1 pc') (hc : cl h a = 25) (h0 : 0 ≤ i) (h1 : i < ln h a) (hx : cl h x = 8 + 1) (k : T d u M pc' lo st (sr h a i.toNat x) Q) : T d u M pc lo (vR x :: vI i :: vR a :: st) h Q := by
  intro p' l e R s m args below meth c' g H locs ls C hR hL hs hlc
  obtain ⟨hd1, rfl⟩ := hd
  obtain ⟨b1, b2, b3⟩ := hR.arr (q := a) (by omega) (by omega)
  rw [hc] at b3
  have hi : R32 i := okh (okt hs)
  have hK := C.2.2.2.2.2.2.2.2.1.1
  obtain ⟨x1, -, cellV, g1, g2, g3, -⟩ := hR.obj (r := (RX8, TX8, 5)) hx rfl
  have hcls := (hK.1 8 _ rfl).2
  obtain ⟨kA, comp, k1, k2, k3, -⟩ := (hK.2 5 _ rfl).2
  have hcomp : comp = g.1 8 := Option.some.inj (k3.symm.trans hcls.1)
  subst hcomp
  obtain ⟨kC, hkC, -⟩ := hcls.2
  refine W.eq (g2 := F0 m pc ls (.ref (ad g x) :: .int (Int32.ofInt i) :: .ref (ad g a) :: st.map (rv g))) (by rw [List.map_cons, List.map_cons, List.map_cons, rv_ref (by omega), rv_ref (by omega)]; rfl) ?_
  have hlt : (Int32.ofInt i).toNatClampNeg < ln h a := by rw [ix_nat hi]; omega
  refine W.aast C.1 C.2.1 b3 (fun q h => by cases h) (fun h => by cases h) k1 k2 rfl hkC ⟨ix_neg hi h0, Nat.lt_of_lt_of_eq hlt (arrV_size _ _ _).symm⟩ g1 (fun q h => by rw [g3] at h; cases h) (by rw [g2]; exact hkC) (by rw [g2]; exact va_assign hcls) rfl rfl hd1 fun H' e1 e2 e3 => ?_
  refine k p' l e R s m args below meth c' g H' _ ls C ?_ hL (okt (okt (okt hs))) (own_app hlc b1)
  rw [ix_nat hi] at e1
  refine hR.upd (p := a) b1 b2 e2 e3 rfl rfl rfl (fun _ _ _ => rfl) (fun _ _ _ => rfl) (fun q j hq => by show (if q = a ∧ j = i.toNat then x else gr h q j) = _; rw [if_neg (fun z => hq z.1)]) (hR.2.2.2.1 a) (hR.2.2.2.2.1 a) ⟨fun c2 r2 x1 x2 => absurd (List.getElem?_eq_some_iff.mp x2).1 (by rw [show cl (sr h a i.toNat x) a = cl h a from rfl, hc] at x1; show ¬ c2 < 12; omega), fun _ _ => ?_⟩
  rw [show cl (sr h a i.toNat x) a = 25 from hc, e1]
  show some ((arrV _ _ _).setSlot _ _) = some (vp_cell _ (ln h a, _))
  rw [vp_cell_q, arrV_store]
  congr 2
  funext j
  show updV _ _ _ j = va_rf (rfo g (if a = a ∧ j = i.toNat then x else gr h a j))
  unfold updV
  by_cases hj : j = i.toNat
  · rw [if_pos hj, if_pos ⟨rfl, hj⟩, rfo_some (by omega)]; rfl
  · rw [if_neg hj, if_neg (fun z => hj z.2)]
end
end
section
/-! CALLS -/
def MOK (N : MD) (n : Nat) : Prop := Cond.code N.1 N.2.1 N.2.2.1 N.2.2.2 ∈ gT ∧ Cond.initialized N.1.cls ∈ gT ∧ (N.1.cls ≠ "java/lang/invoke/MethodHandle" ∧ N.1.cls ≠ "java/lang/invoke/VarHandle") ∧ (parseMethodDescriptor N.1.desc).map (fun d => d.parameters.length) = some n ∧ N.2.2.1 ≤ 45
def IOK (N : MD) : Prop := Cond.instanceMethod N.1 ∈ gT ∧ Cond.selects N.1.cls N.1 N.1 ∈ gT
theorem gT_good {N : MD} {n : Nat} (hN : MOK N n) : GoodIn gT (wsA N) := by
  intro w hw
  rcases List.mem_cons.mp hw with rfl | h
  · exact ⟨hN.1, good_of_word (List.mem_filter.mp hN.1).2⟩
  · exact ⟨h, good_of_word (List.mem_filter.mp h).2⟩
theorem CallA.mono {d mc ms : Nat} {N : MD} {as : List PV} {h : PH} {Q1 Q2 : Option PV → PH → Prop} (hc : CallA d mc ms N as h Q1) (hq : ∀ r h1, (∀ v, r = some v → okv v) → Q1 r h1 → Q2 r h1) : CallA d mc ms N as h Q2 := by
  intro l g ho p e ha hcc hk s m args below hf happ hP hK
  obtain ⟨k, o, h1, h2, h3, ⟨r, h', a1, a2, a3, a4, a5⟩, h5⟩ := hc l g ho p e ha hcc hk s m args below hf happ hP hK
  exact ⟨k, o, h1, h2, h3, ⟨r, h', a1, a2, hq r h' a2 a3, a4, a5⟩, h5⟩
theorem CallA.monoI {d mc ms : Nat} {N : MD} {as : List PV} {h : PH} {P P' : Int → PH → Prop} (hc : CallA d mc ms N as h (onI P)) (hq : ∀ x h1, R32 x → P x h1 → P' x h1) : CallA d mc ms N as h (onI P') :=
  hc.mono (fun r h1 ho => match r, ho with
    | none, _ => fun z => z
    | some (.inl x), ho => fun z hx => hq x h1 hx (z hx)
    | some (.inr _), _ => fun z => z)
theorem CallA.monoJ {d mc ms : Nat} {N : MD} {as : List PV} {h : PH} {P P' : Int → PH → Prop} (hc : CallA d mc ms N as h (onJ P)) (hq : ∀ x h1, R64 x → P x h1 → P' x h1) : CallA d mc ms N as h (onJ P') :=
  hc.mono (fun r h1 ho => match r, ho with
    | none, _ => fun z => z
    | some (.inl _), _ => fun z => z
    | some (.inr (.inl x)), ho => fun z hx => hq x h1 hx (z hx)
    | some (.inr (.inr _)), _ => fun z => z)
theorem CallA.monoR {d mc ms : Nat} {N : MD} {as : List PV} {h : PH} {P P' : Nat → PH → Prop} (hc : CallA d mc ms N as h (onR P)) (hq : ∀ x h1, P x h1 → P' x h1) : CallA d mc ms N as h (onR P') :=
  hc.mono (fun r h1 ho => match r, ho with
    | none, _ => fun z => z
    | some (.inl _), _ => fun z => z
    | some (.inr (.inl _)), _ => fun z => z
    | some (.inr (.inr (.inl x))), _ => fun z => hq x h1 z
    | some (.inr (.inr (.inr _))), _ => fun z => z)
theorem CallA.monoF {d mc ms : Nat} {N : MD} {as : List PV} {h : PH} {P P' : UInt32 → PH → Prop} (hc : CallA d mc ms N as h (onF P)) (hq : ∀ x h1, P x h1 → P' x h1) : CallA d mc ms N as h (onF P') :=
  hc.mono (fun r h1 ho => match r, ho with
    | none, _ => fun z => z
    | some (.inl _), _ => fun z => z
    | some (.inr (.inl _)), _ => fun z => z
    | some (.inr (.inr (.inl _))), _ => fun z => z
    | some (.inr (.inr (.inr (.inl x)))), _ => fun z => hq x h1 z
    | some (.inr (.inr (.inr (.inr _)))), _ => fun z => z)
theorem CallA.monoV {d mc ms : Nat} {N : MD} {as : List PV} {h : PH} {P P' : PH → Prop} (hc : CallA d mc ms N as h (onV P)) (hq : ∀ h1, P h1 → P' h1) : CallA d mc ms N as h (onV P') :=
  hc.mono (fun _ h1 _ z => ⟨z.1, hq h1 z.2⟩)
def wst (st : List PV) : Nat := match st with
  | [] => 0
  | v :: l => (if cat2 v then 2 else 1) + wst l
theorem wst_eq (g : Gx) (st : List PV) : ((st.map (rv g)).map fun v => v.category).sum = wst st := by
  induction st with
  | nil => rfl
  | cons v l ih => simp only [List.map_cons, List.sum_cons, rv_cat, wst, ih]
section
variable {d : Nat} {u : Bu} {M : MD} {pc pc' : Nat} {lo : List (Option PV)} {st stk : List PV} {h : PH} {Q : Option PV → PH → Prop}
theorem run_fin {p : Program} {l : Launch} {e : Env} {R : Room} {s : State} {m : MethodId} {args : Array Value} {below : List Frame} {meth : Method} {c : Code} {H : Heap} {locs : List Loc} {cells slots mc ms : Nat} {Qz : State → Prop} {ls : Array Slot} {st0 rest : List Value} {g : Gx} {Q' : Option PV → PH → Prop} {a : Array Value}
    (hr : va_Run p l e R s m args below meth c H locs cells slots mc ms (F0 m pc ls st0) rest (QQ g Q' a) (own0 g)) (hlc : ∀ q ∈ locs, own0 g q.base)
    (kk : ∀ (r : Option PV) (h1 : PH) (H1 : Heap) (locs1 : List Loc), (∀ v, r = some v → okv v) → Q' r h1 → Rel g h1 H1 → (∀ q ∈ locs1, own0 g q.base) → W p l e R s m args below meth c H1 locs1 (cells + mc) (slots + ms) Qz (F0 m (pc + 3) ls ((r.map (rv g)).toList ++ rest))) : W p l e R s m args below meth c H locs cells slots Qz (F0 m pc ls st0) := by
  intro T hT X
  obtain ⟨v, st₀, t, T', L, h0, X', hL, e1, e2, ⟨r, h1, a1, a2, a3, a4, a5⟩, st⟩ := hr T hT X
  cases a1
  obtain ⟨t2, b1, b2⟩ := kk r h1 T'.heap (locs ++ L) a2 a3 (by rw [e1]; exact a4) (fun q hq => by
    rcases List.mem_append.mp hq with z | z
    · exact hlc q z
    · exact hL q z) T' rfl X'
  exact ⟨t2, st t2 b1, b2⟩
theorem T_callV {idx n b c : Nat} {N : MD} {as : List PV} {r : vw_C} {mc ms : Nat} {Q' : Option PV → PH → Prop} (hd : DI M pc (.invokevirtual idx) 3 pc') (hl : Cond.methodLink M.1.cls idx N.1 ∈ gT) (hN : MOK N n) (hI : IOK N) (hb : cl h b = c + 1) (hr : vwCl[c]? = some r) (hrc : N.1.cls = r.1) (hn : as.length = n) (hw : wst st ≤ 8) (hbu : u.2.2.1 + mc ≤ u.1 ∧ u.2.2.2 + ms ≤ u.2.1) (hs : stk = as.reverse ++ vR b :: st)
    (hc : CallA d mc ms N (vR b :: as) h Q') (k : ∀ r h1, (∀ v, r = some v → okv v) → Q' r h1 → T (d + 1) (u.1, u.2.1, u.2.2.1 + mc, u.2.2.2 + ms) M pc' lo (r.toList ++ st) h1 Q) : T (d + 1) u M pc lo stk h Q := by
  subst hs
  intro p' l e R s m args below meth c' g H locs ls C hR hL hs hlc
  obtain ⟨hd1, rfl⟩ := hd
  obtain ⟨hx, hcb, hret, hml, hown, hts, hlk, hnm, hK, ⟨f1, f2, f3, f4⟩, ⟨f5, f6⟩, hold, hbs⟩ := id C
  have hoa : ∀ v ∈ vR b :: as, okv v := by
    intro v hv
    rcases List.mem_cons.mp hv with rfl | hv
    · trivial
    · exact hs v (List.mem_append_left _ (List.mem_reverse.mpr hv))
  have hos : ∀ v ∈ st, okv v := fun v hv => hs v (List.mem_append_right _ (List.mem_cons_of_mem _ hv))
  obtain ⟨h64, -, cell, q1, q2, q3, -⟩ := hR.obj hb hr
  have hrecv : ∃ cellB : Cell, H[ad g b]? = some cellB ∧ cellB.vm.isStatics = false ∧ s.vm.findClass N.1.cls = some cellB.cls := ⟨cell, q1, by rw [q3]; rfl, by rw [hrc, q2]; exact (hK.1.1 c r hr).2.1⟩
  have hM := hc l g hoa
  rw [List.map_cons, rv_ref (by omega)] at hM
  have cb : CallB R s args M.1.cls idx N.1 N.2.1 N.2.2.1 N.2.2.2 (wsA N) (rmd d mc ms) mc ms n := callB_of n hts (gT_good hN) rfl rfl rfl (hts _ hN.2.1) (hts _ hl) ⟨hN.2.2.1.1, hN.2.2.1.2, hN.2.2.2.1⟩ ⟨f1, by have := hN.2.2.2.2; show 8 + (N.2.2.1 + 11) + 64 * d ≤ R.locals; omega⟩
  refine run_fin (g := g) (Q' := Q') (mc := mc) (ms := ms) (rest := st.map (rv g)) (va_runV (As := as.map (rv g)) (b := ad g b) (C := N.1.cls) ⟨hx, hcb, hml, hown, hts⟩ hM ⟨cb, hts _ hI.1, hts _ hI.2⟩ ⟨fun a U g' mk q => ⟨q.1, q.2.1, q.2.2.1.same rfl, q.2.2.2⟩, hrecv, fun U hU hW => ⟨rfl, by rw [hU]; exact hR, hK.warm hW, hbs⟩⟩ rfl (by rw [List.length_map, hn]) hL.1.1 (by rw [List.map_append, List.map_reverse, List.map_cons, rv_ref (by omega)]) (lv_room (by rw [wst_eq]; exact hw)) hd1 ⟨by omega, by omega⟩) hlc ?_
  intro r1 h1 H1 locs1 ho hq hR1 hl1
  have hkk := k r1 h1 ho hq p' l e R s m args below meth c' g H1 locs1 ls ⟨hx, hcb, hret, hml, hown, hts, hlk, hnm, hK, ⟨f1, f2, f3, f4⟩, hbu, hold, hbs⟩ hR1 hL (by
    intro v hv
    rcases List.mem_append.mp hv with z | z
    · exact ho v (by cases r1 with
        | none => cases z
        | some w => rw [List.mem_singleton.mp z])
    · exact hos v z) hl1
  have e1 : (r1.toList ++ st).map (rv g) = (r1.map (rv g)).toList ++ st.map (rv g) := by cases r1 <;> rfl
  rw [e1] at hkk
  exact hkk
theorem T_callS {idx n : Nat} {N : MD} {as : List PV} {mc ms : Nat} {Q' : Option PV → PH → Prop} (hd : DI M pc (.invokestatic idx) 3 pc') (hl : Cond.methodLink M.1.cls idx N.1 ∈ gT) (hN : MOK N n) (hI : Cond.static N.1 ∈ gT) (hn : as.length = n) (hw : wst st ≤ 8) (hbu : u.2.2.1 + mc ≤ u.1 ∧ u.2.2.2 + ms ≤ u.2.1) (hs : stk = as.reverse ++ st)
    (hc : CallA d mc ms N as h Q') (k : ∀ r h1, (∀ v, r = some v → okv v) → Q' r h1 → T (d + 1) (u.1, u.2.1, u.2.2.1 + mc, u.2.2.2 + ms) M pc' lo (r.toList ++ st) h1 Q) : T (d + 1) u M pc lo stk h Q := by
  subst hs
  intro p' l e R s m args below meth c' g H locs ls C hR hL hs hlc
  obtain ⟨hd1, rfl⟩ := hd
  obtain ⟨hx, hcb, hret, hml, hown, hts, hlk, hnm, hK, ⟨f1, f2, f3, f4⟩, ⟨f5, f6⟩, hold, hbs⟩ := id C
  have hoa : ∀ v ∈ as, okv v := fun v hv => hs v (List.mem_append_left _ (List.mem_reverse.mpr hv))
  have hos : ∀ v ∈ st, okv v := fun v hv => hs v (List.mem_append_right _ hv)
  have hM := hc l g hoa
  have cb : CallB R s args M.1.cls idx N.1 N.2.1 N.2.2.1 N.2.2.2 (wsA N) (rmd d mc ms) mc ms n := callB_of n hts (gT_good hN) rfl rfl rfl (hts _ hN.2.1) (hts _ hl) ⟨hN.2.2.1.1, hN.2.2.1.2, hN.2.2.2.1⟩ ⟨f1, by have := hN.2.2.2.2; show 8 + (N.2.2.1 + 11) + 64 * d ≤ R.locals; omega⟩
  refine run_fin (g := g) (Q' := Q') (mc := mc) (ms := ms) (rest := st.map (rv g)) (va_runS (As := as.map (rv g)) ⟨hx, hcb, hml, hown, hts⟩ hM ⟨cb, hts _ hI⟩ ⟨fun a U g' mk q => ⟨q.1, q.2.1, q.2.2.1.same rfl, q.2.2.2⟩, fun U hU hW => ⟨rfl, by rw [hU]; exact hR, hK.warm hW, hbs⟩⟩ rfl (by rw [List.length_map, hn]) hL.1.1 (by rw [List.map_append, List.map_reverse]) (lv_room (by rw [wst_eq]; exact hw)) hd1 ⟨by omega, by omega⟩) hlc ?_
  intro r1 h1 H1 locs1 ho hq hR1 hl1
  have hkk := k r1 h1 ho hq p' l e R s m args below meth c' g H1 locs1 ls ⟨hx, hcb, hret, hml, hown, hts, hlk, hnm, hK, ⟨f1, f2, f3, f4⟩, hbu, hold, hbs⟩ hR1 hL (by
    intro v hv
    rcases List.mem_append.mp hv with z | z
    · exact ho v (by cases r1 with
        | none => cases z
        | some w => rw [List.mem_singleton.mp z])
    · exact hos v z) hl1
  have e1 : (r1.toList ++ st).map (rv g) = (r1.map (rv g)).toList ++ st.map (rv g) := by cases r1 <;> rfl
  rw [e1] at hkk
  exact hkk
theorem T_callI {idx n b : Nat} {N : MD} {as : List PV} {mc ms : Nat} {Q' : Option PV → PH → Prop} (hd : DI M pc (.invokespecial idx) 3 pc') (hl : Cond.methodLink M.1.cls idx N.1 ∈ gT ∨ Cond.methodLinkNest M.1.cls idx N.1 RX10 ∈ nestL) (hN : MOK N n) (hret0 : N.2.2.2 = none) (hI : Cond.instanceMethod N.1 ∈ gT) (hnmi : N.1.name = "<init>") (hb : 64 ≤ b) (hn : as.length = n) (hw : wst st ≤ 8) (hbu : u.2.2.1 + mc ≤ u.1 ∧ u.2.2.2 + ms ≤ u.2.1) (hs : stk = as.reverse ++ vR b :: st)
    (hc : CallA d mc ms N (vR b :: as) h Q') (k : ∀ r h1, (∀ v, r = some v → okv v) → Q' r h1 → T (d + 1) (u.1, u.2.1, u.2.2.1 + mc, u.2.2.2 + ms) M pc' lo (r.toList ++ st) h1 Q) : T (d + 1) u M pc lo stk h Q := by
  subst hs
  intro p' l e R s m args below meth c' g H locs ls C hR hL hs hlc
  obtain ⟨hd1, rfl⟩ := hd
  obtain ⟨hx, hcb, hret, hml, hown, hts, hlk, hnm, hK, ⟨f1, f2, f3, f4⟩, ⟨f5, f6⟩, hold, hbs⟩ := id C
  have hoa : ∀ v ∈ vR b :: as, okv v := by
    intro v hv
    rcases List.mem_cons.mp hv with rfl | hv
    · trivial
    · exact hs v (List.mem_append_left _ (List.mem_reverse.mpr hv))
  have hos : ∀ v ∈ st, okv v := fun v hv => hs v (List.mem_append_right _ (List.mem_cons_of_mem _ hv))
  have hM := hc l g hoa
  rw [List.map_cons, rv_ref (by omega)] at hM
  have hpre : PreS s H (fun a U => a = (Value.ref (ad g b) :: as.map (rv g)).toArray ∧ Rel g h U.heap ∧ KK g U ∧ bs g ≤ (h00 g).size) (Value.ref (ad g b) :: as.map (rv g)) := ⟨fun a U g' mk q => ⟨q.1, q.2.1, q.2.2.1.same rfl, q.2.2.2⟩, fun U hU hW => ⟨rfl, by rw [hU]; exact hR, hK.warm hW, hbs⟩⟩
  have hroom : (rmd d mc ms).frames + 1 ≤ R.frames ∧ 8 + (N.2.2.1 + 11) + (rmd d mc ms).locals ≤ R.locals := ⟨f1, by have := hN.2.2.2.2; show 8 + (N.2.2.1 + 11) + 64 * d ≤ R.locals; omega⟩
  have hgd := gT_good hN
  have hrun : va_Run p' l e R s m args below meth c' H locs u.2.2.1 u.2.2.2 mc ms (F0 m pc ls ((as.reverse ++ vR b :: st).map (rv g))) (st.map (rv g)) (QQ g Q' (Value.ref (ad g b) :: as.map (rv g)).toArray) (own0 g) := by
    have hcw : Cond.code N.1 N.2.1 N.2.2.1 none ∈ wsA N := by rw [← hret0]; exact List.mem_cons_self
    rcases hl with hl | hl
    · have cb : CallB R s args M.1.cls idx N.1 N.2.1 N.2.2.1 none (wsA N) (rmd d mc ms) mc ms n := callB_of (ws' := gT) n hts hgd (by unfold wsA; rw [hret0]) rfl rfl (hts _ hN.2.1) (hts _ hl) ⟨hN.2.2.1.1, hN.2.2.1.2, hN.2.2.2.1⟩ hroom
      exact va_runI (As := as.map (rv g)) ⟨hx, hcb, hml, hown, hts⟩ hM ⟨cb, hnmi, hts _ hI⟩ hpre rfl (by rw [List.length_map, hn]) hL.1.1 (by rw [List.map_append, List.map_reverse, List.map_cons, rv_ref (by omega)]) (lv_room (by rw [wst_eq]; exact hw)) hd1 ⟨by omega, by omega⟩
    · have cb : va_CN R s args M.1.cls idx N.1 RX10 N.2.1 N.2.2.1 none (wsA N) (rmd d mc ms) mc ms n := va_cnB (ws' := gT) n hts hgd (by unfold wsA; rw [hret0]) rfl rfl (hK.2.1 _ hl) (hts _ hN.2.1) ⟨hN.2.2.1.1, hN.2.2.1.2, hN.2.2.2.1⟩ hroom
      exact va_runIN (As := as.map (rv g)) ⟨hx, hcb, hml, hown, hts⟩ hM ⟨cb, hnmi, hts _ hI⟩ hpre rfl (by rw [List.length_map, hn]) hL.1.1 (by rw [List.map_append, List.map_reverse, List.map_cons, rv_ref (by omega)]) (lv_room (by rw [wst_eq]; exact hw)) hd1 ⟨by omega, by omega⟩
  refine run_fin (g := g) (Q' := Q') hrun hlc ?_
  intro r1 h1 H1 locs1 ho hq hR1 hl1
  have hkk := k r1 h1 ho hq p' l e R s m args below meth c' g H1 locs1 ls ⟨hx, hcb, hret, hml, hown, hts, hlk, hnm, hK, ⟨f1, f2, f3, f4⟩, hbu, hold, hbs⟩ hR1 hL (by
    intro v hv
    rcases List.mem_append.mp hv with z | z
    · exact ho v (by cases r1 with
        | none => cases z
        | some w => rw [List.mem_singleton.mp z])
    · exact hos v z) hl1
  have e1 : (r1.toList ++ st).map (rv g) = (r1.map (rv g)).toList ++ st.map (rv g) := by cases r1 <;> rfl
  rw [e1] at hkk
  exact hkk
end
end
section
/-! CALLS BY THEIR ANSWERS; NEW CELLS -/
section
variable {d : Nat} {u : Bu} {M : MD} {pc pc' : Nat} {lo : List (Option PV)} {st stk : List PV} {h : PH} {Q : Option PV → PH → Prop}
theorem bu0 (h : u.2.2.1 ≤ u.1 ∧ u.2.2.2 ≤ u.2.1) : u.2.2.1 + 0 ≤ u.1 ∧ u.2.2.2 + 0 ≤ u.2.1 := h
theorem T_bu (k : (u.2.2.1 ≤ u.1 ∧ u.2.2.2 ≤ u.2.1) → T d u M pc lo st h Q) : T d u M pc lo st h Q := by
  intro p' l e R s m args below meth c' g H locs ls C
  exact k C.2.2.2.2.2.2.2.2.2.2.1 p' l e R s m args below meth c' g H locs ls C
theorem T_vI {idx n b c : Nat} {N : MD} {as : List PV} {r : vw_C} (hd : DI M pc (.invokevirtual idx) 3 pc') (hl : Cond.methodLink M.1.cls idx N.1 ∈ gT) (hN : MOK N n) (hI : IOK N) (hb : cl h b = c + 1) (hr : vwCl[c]? = some r) (hrc : N.1.cls = r.1) (hn : as.length = n) (hw : wst st ≤ 8) (hs : stk = as.reverse ++ vR b :: st)
    (hc : Call d N (vR b :: as) h (onI fun x h1 => T (d + 1) u M pc' lo (vI x :: st) h1 Q)) : T (d + 1) u M pc lo stk h Q :=
  T_bu fun hbu => T_callV hd hl hN hI hb hr hrc hn hw hbu hs hc (fun r h1 ho hq => match r, ho, hq with
    | some (.inl x), ho, hq => hq (ho _ rfl))
theorem T_vJ {idx n b c : Nat} {N : MD} {as : List PV} {r : vw_C} (hd : DI M pc (.invokevirtual idx) 3 pc') (hl : Cond.methodLink M.1.cls idx N.1 ∈ gT) (hN : MOK N n) (hI : IOK N) (hb : cl h b = c + 1) (hr : vwCl[c]? = some r) (hrc : N.1.cls = r.1) (hn : as.length = n) (hw : wst st ≤ 8) (hs : stk = as.reverse ++ vR b :: st)
    (hc : Call d N (vR b :: as) h (onJ fun x h1 => T (d + 1) u M pc' lo (vJ x :: st) h1 Q)) : T (d + 1) u M pc lo stk h Q :=
  T_bu fun hbu => T_callV hd hl hN hI hb hr hrc hn hw hbu hs hc (fun r h1 ho hq => match r, ho, hq with
    | some (.inr (.inl x)), ho, hq => hq (ho _ rfl))
theorem T_vR {idx n b c : Nat} {N : MD} {as : List PV} {r : vw_C} (hd : DI M pc (.invokevirtual idx) 3 pc') (hl : Cond.methodLink M.1.cls idx N.1 ∈ gT) (hN : MOK N n) (hI : IOK N) (hb : cl h b = c + 1) (hr : vwCl[c]? = some r) (hrc : N.1.cls = r.1) (hn : as.length = n) (hw : wst st ≤ 8) (hs : stk = as.reverse ++ vR b :: st)
    (hc : Call d N (vR b :: as) h (onR fun x h1 => T (d + 1) u M pc' lo (vR x :: st) h1 Q)) : T (d + 1) u M pc lo stk h Q :=
  T_bu fun hbu => T_callV hd hl hN hI hb hr hrc hn hw hbu hs hc (fun r h1 ho hq => match r, ho, hq with
    | some (.inr (.inr (.inl x))), _, hq => hq)
theorem T_vV {idx n b c : Nat} {N : MD} {as : List PV} {r : vw_C} (hd : DI M pc (.invokevirtual idx) 3 pc') (hl : Cond.methodLink M.1.cls idx N.1 ∈ gT) (hN : MOK N n) (hI : IOK N) (hb : cl h b = c + 1) (hr : vwCl[c]? = some r) (hrc : N.1.cls = r.1) (hn : as.length = n) (hw : wst st ≤ 8) (hs : stk = as.reverse ++ vR b :: st)
    (hc : Call d N (vR b :: as) h (onV fun h1 => T (d + 1) u M pc' lo st h1 Q)) : T (d + 1) u M pc lo stk h Q :=
  T_bu fun hbu => T_callV hd hl hN hI hb hr hrc hn hw hbu hs hc (fun r h1 _ hq => by obtain ⟨rfl, hq⟩ := hq; exact hq)
theorem T_sI {idx n : Nat} {N : MD} {as : List PV} (hd : DI M pc (.invokestatic idx) 3 pc') (hl : Cond.methodLink M.1.cls idx N.1 ∈ gT) (hN : MOK N n) (hI : Cond.static N.1 ∈ gT) (hn : as.length = n) (hw : wst st ≤ 8) (hs : stk = as.reverse ++ st)
    (hc : Call d N as h (onI fun x h1 => T (d + 1) u M pc' lo (vI x :: st) h1 Q)) : T (d + 1) u M pc lo stk h Q :=
  T_bu fun hbu => T_callS hd hl hN hI hn hw hbu hs hc (fun r h1 ho hq => match r, ho, hq with
    | some (.inl x), ho, hq => hq (ho _ rfl))
theorem T_sJ {idx n : Nat} {N : MD} {as : List PV} (hd : DI M pc (.invokestatic idx) 3 pc') (hl : Cond.methodLink M.1.cls idx N.1 ∈ gT) (hN : MOK N n) (hI : Cond.static N.1 ∈ gT) (hn : as.length = n) (hw : wst st ≤ 8) (hs : stk = as.reverse ++ st)
    (hc : Call d N as h (onJ fun x h1 => T (d + 1) u M pc' lo (vJ x :: st) h1 Q)) : T (d + 1) u M pc lo stk h Q :=
  T_bu fun hbu => T_callS hd hl hN hI hn hw hbu hs hc (fun r h1 ho hq => match r, ho, hq with
    | some (.inr (.inl x)), ho, hq => hq (ho _ rfl))
theorem T_sF {idx n : Nat} {N : MD} {as : List PV} (hd : DI M pc (.invokestatic idx) 3 pc') (hl : Cond.methodLink M.1.cls idx N.1 ∈ gT) (hN : MOK N n) (hI : Cond.static N.1 ∈ gT) (hn : as.length = n) (hw : wst st ≤ 8) (hs : stk = as.reverse ++ st)
    (hc : Call d N as h (onF fun x h1 => T (d + 1) u M pc' lo (vF x :: st) h1 Q)) : T (d + 1) u M pc lo stk h Q :=
  T_bu fun hbu => T_callS hd hl hN hI hn hw hbu hs hc (fun r h1 ho hq => match r, ho, hq with
    | some (.inr (.inr (.inr (.inl x)))), _, hq => hq)
theorem T_sV {idx n : Nat} {N : MD} {as : List PV} (hd : DI M pc (.invokestatic idx) 3 pc') (hl : Cond.methodLink M.1.cls idx N.1 ∈ gT) (hN : MOK N n) (hI : Cond.static N.1 ∈ gT) (hn : as.length = n) (hw : wst st ≤ 8) (hs : stk = as.reverse ++ st)
    (hc : Call d N as h (onV fun h1 => T (d + 1) u M pc' lo st h1 Q)) : T (d + 1) u M pc lo stk h Q :=
  T_bu fun hbu => T_callS hd hl hN hI hn hw hbu hs hc (fun r h1 _ hq => by obtain ⟨rfl, hq⟩ := hq; exact hq)
theorem T_iV {idx n b : Nat} {N : MD} {as : List PV} {mc ms m0 s0 c0 t0 : Nat} (hd : DI M pc (.invokespecial idx) 3 pc') (hl : Cond.methodLink M.1.cls idx N.1 ∈ gT ∨ Cond.methodLinkNest M.1.cls idx N.1 RX10 ∈ nestL) (hN : MOK N n) (hret0 : N.2.2.2 = none) (hI : Cond.instanceMethod N.1 ∈ gT) (hnmi : N.1.name = "<init>") (hb : 64 ≤ b) (hn : as.length = n) (hw : wst st ≤ 8) (hbu : c0 + mc ≤ m0 ∧ t0 + ms ≤ s0) (hs : stk = as.reverse ++ vR b :: st)
    (hc : CallA d mc ms N (vR b :: as) h (onV fun h1 => T (d + 1) (m0, s0, c0 + mc, t0 + ms) M pc' lo st h1 Q)) : T (d + 1) (m0, s0, c0, t0) M pc lo stk h Q :=
  T_callI (u := (m0, s0, c0, t0)) hd hl hN hret0 hI hnmi hb hn hw hbu hs hc (fun r h1 _ hq => by obtain ⟨rfl, hq⟩ := hq; exact hq)
theorem T_objInit {idx b : Nat} (hd : DI M pc (.invokespecial idx) 3 pc') (hl : Cond.methodLink M.1.cls idx Lib.objectInit ∈ gT) (hI : Cond.instanceMethod Lib.objectInit ∈ gT) (hC : Cond.code Lib.objectInit ⟨#[0xb1]⟩ 1 none ∈ gT) (hb : 0 < b) (hw : wst st ≤ 8) (k : T (d + 1) u M pc' lo st h Q) : T (d + 1) u M pc lo (vR b :: st) h Q := by
  intro p' l e R s m args below meth c' g H locs ls C hR hL hs hlc
  obtain ⟨hd1, rfl⟩ := hd
  have hts := C.2.2.2.2.2.1
  refine W.eq (g2 := F0 m pc ls (.ref (ad g b) :: st.map (rv g))) (by rw [List.map_cons, rv_ref hb]) ?_
  refine W.objInit C.1 C.2.1 C.2.2.2.2.1 (hts _ hl) (hts _ hI) (hts _ hC) rfl (hL.1.1.trans C.2.2.2.1.symm) rfl hd1 (by have := C.2.2.2.2.2.2.2.2.2.1.1; omega) ?_ (k p' l e R s m args below meth c' g H locs ls C hR hL (okt hs) hlc)
  have h1 := lv_room (m := m) (pc := pc) (ls := ls) (rest := .ref (ad g b) :: st.map (rv g)) (st := st.map (rv g)) (by rw [wst_eq]; exact hw)
  have := C.2.2.2.2.2.2.2.2.2.1.2.1
  omega
theorem Rel.new {g : Gx} {H H' : Heap} {c n : Nat} (hR : Rel g h H) (e1 : H'.size = H.size + 1) (e2 : ∀ a, a < H.size → H'[a]? = H[a]?) (hc : c < 26) (hok : cok g (nw h c n) (nx h) H') : Rel g (nw h c n) H' := by
  obtain ⟨a1, a2, a3, a4, a5, a6, a7, a8, a9, a10, a11⟩ := hR
  have hcl : ∀ q, cl (nw h c n) q = if q = nx h then c else cl h q := fun q => rfl
  have hnx : nx (nw h c n) = nx h + 1 := rfl
  have hbs : bs g ≤ H.size := by rw [a1, ad_big a2]; omega
  refine ⟨by rw [e1, a1, hnx, ad_big a2, ad_big (by omega)]; omega, by rw [hnx]; omega, fun q hq1 hq2 => ?_, fun q k => ?_, fun q k => ?_, fun a ha => ?_, fun q => ?_, fun q => ?_, fun q => ?_, fun q => ?_, ?_⟩
  · by_cases e : q = nx h
    · subst e; exact hok
    · have hq3 : q < nx h := by omega
      have h1 : ∀ k, gi (nw h c n) q k = gi h q k := fun k => by show up1 (gi h) (nx h) (fun _ => 0) q k = _; unfold up1; rw [if_neg e]
      have h2 : ∀ k, gj (nw h c n) q k = gj h q k := fun k => by show up1 (gj h) (nx h) (fun _ => 0) q k = _; unfold up1; rw [if_neg e]
      have h3 : ∀ k, gr (nw h c n) q k = gr h q k := fun k => by show up1 (gr h) (nx h) (fun _ => 0) q k = _; unfold up1; rw [if_neg e]
      exact cok_keep (a3 q hq1 hq3) (e2 _ (by rw [a1, ad_big hq1, ad_big a2]; omega)) (by show (if q = nx h then n else ln h q) = _; rw [if_neg e]) (by rw [hcl, if_neg e]) h1 h2 h3
  · show R32 (up1 (gi h) (nx h) (fun _ => 0) q k)
    unfold up1
    split
    · exact R32_0
    · exact a4 q k
  · show R64 (up1 (gj h) (nx h) (fun _ => 0) q k)
    unfold up1
    split
    · exact R64_0
    · exact a5 q k
  · rw [e2 a (by omega)]; exact a6 a ha
  · rw [hcl, hnx]
    by_cases e : q = nx h
    · intro _ _; omega
    · rw [if_neg e]; intro z1 z2; have := a7 q z1 z2; omega
  · rw [hcl]
    by_cases e : q = nx h
    · rw [if_pos e]; omega
    · rw [if_neg e]; exact a8 q
  · rw [hcl]
    by_cases e : q = nx h
    · rw [if_pos e]; omega
    · rw [if_neg e]; exact a9 q
  · rw [hcl]
    by_cases e : q = nx h
    · rw [if_pos e]; omega
    · rw [if_neg e]; exact a10 q
  · have e : (62 : Nat) ≠ nx h := by omega
    exact a11.keep (by rw [hcl, if_neg e]) (by show (if 62 = nx h then n else ln h 62) = _; rw [if_neg e]) (fun k => by show up1 (gi h) (nx h) (fun _ => 0) 62 k = _; unfold up1; rw [if_neg e])
theorem fty_plain : ∀ c, c < 12 → ∀ k, k < 60 → fty c k ≠ .float ∧ fty c k ≠ .double := by decide +kernel
theorem dflt_fv {g : Gx} {c k n : Nat} (h1 : fty c k ≠ .float) (h2 : fty c k ≠ .double) : defaultValue (fty c k) = rv g (fv (nw h (c + 1) n) (nx h) c k) := by
  have e1 : gi (nw h (c + 1) n) (nx h) k = 0 := by show up1 (gi h) (nx h) (fun _ => 0) (nx h) k = _; unfold up1; rw [if_pos rfl]
  have e2 : gj (nw h (c + 1) n) (nx h) k = 0 := by show up1 (gj h) (nx h) (fun _ => 0) (nx h) k = _; unfold up1; rw [if_pos rfl]
  have e3 : gr (nw h (c + 1) n) (nx h) k = 0 := by show up1 (gr h) (nx h) (fun _ => 0) (nx h) k = _; unfold up1; rw [if_pos rfl]
  unfold fv
  rw [e1, e2, e3]
  cases hf : fty c k <;> first | exact absurd hf h1 | exact absurd hf h2 | rfl
theorem T_new {idx c N m0 s0 c0 t0 : Nat} {r : vw_C} (hd : DI M pc (.new idx) 3 pc') (hr : vwCl[c]? = some r) (hl : Cond.classLink M.1.cls idx r.1 ∈ gT) (hi : Cond.instantiable r.1 r.2.2 ∈ gT) (hini : Cond.initialized r.1 ∈ gT) (hN : r.2.2 = N) (hN2 : N < 60) (hbu : c0 + 1 ≤ m0 ∧ t0 + N ≤ s0) (k : 64 ≤ nx h → T d (m0, s0, c0 + 1, t0 + N) M pc' lo (vR (nx h) :: st) (nw h (c + 1) 0) Q) : T d (m0, s0, c0, t0) M pc lo st h Q := by
  intro p' l e R s m args below meth c' g H locs ls C hR hL hs hlc
  obtain ⟨hd1, rfl⟩ := hd
  obtain ⟨hx, hcb, hret, hml, hown, hts, hlk, hnm, hK, ⟨f1, f2, f3, f4⟩, ⟨f5, f6⟩, hold, hbs⟩ := id C
  subst hN
  have hlt : c < 12 := (List.getElem?_eq_some_iff.mp hr).1
  obtain ⟨hin, hty, hnm3⟩ := clsOK_all c r hr
  have hKn := hK.1.1 c _ hr
  refine W.newcK hx hcb hown (hts _ hl) (hts _ hi) (hts _ hini) rfl hd1 (Nat.le_trans hbu.1 f3) (Nat.le_trans hbu.2 f4) hKn.2.1 rfl fun H1 kC hkC e1 z1 o1 => ?_
  have hR1 : Rel g (nw h (c + 1) 0) H1 := by
    refine hR.new z1 o1 (by omega) ⟨fun c2 r2 x1 x2 => ?_, fun x1 x2 => ?_⟩
    · have hc2 : c + 1 = c2 + 1 := by
        have : cl (nw h (c + 1) 0) (nx h) = c + 1 := by show (if nx h = nx h then c + 1 else _) = _; rw [if_pos rfl]
        omega
      have : c2 = c := by omega
      subst this
      cases hr.symm.trans x2
      have hb := u_born (fty c2) hts hin hKn hkC e1 hty
      rw [← hR.1]
      exact hb.to (fun k hk => dflt_fv (fty_plain c2 hlt k (by omega)).1 (fty_plain c2 hlt k (by omega)).2)
    · have : cl (nw h (c + 1) 0) (nx h) = c + 1 := by show (if nx h = nx h then c + 1 else _) = _; rw [if_pos rfl]
      omega
  have hkk := k hR.2.1 p' l e R s m args below meth c' g H1 locs ls ⟨hx, hcb, hret, hml, hown, hts, hlk, hnm, hK, ⟨f1, f2, f3, f4⟩, hbu, hold, hbs⟩ hR1 hL (okc trivial hs) hlc
  rw [List.map_cons, rv_ref (by have := hR.2.1; omega), ← hR.1] at hkk
  exact hkk
theorem T_newarray {n m0 s0 c0 t0 cc ti : Nat} {ar : ArrayType} (hd : DI M pc (.newarray ar) 2 pc') (hw : Cond.arrayClass (newarray.typeOf ar) ∈ gT) (hc : cc = 20 ∨ cc = 21 ∨ cc = 22 ∨ cc = 23) (hty : aty cc = newarray.typeOf ar) (hti : cc = ti + 20) (hn : n ≤ 10000) (hbu : c0 + 1 ≤ m0 ∧ t0 + n ≤ s0) (k : 64 ≤ nx h → T d (m0, s0, c0 + 1, t0 + n) M pc' lo (vR (nx h) :: st) (nw h cc n) Q) : T d (m0, s0, c0, t0) M pc lo (vI n :: st) h Q := by
  intro p' l e R s m args below meth c' g H locs ls C hR hL hs hlc
  obtain ⟨hd1, rfl⟩ := hd
  obtain ⟨hx, hcb, hret, hml, hown, hts, hlk, hnm, hK, ⟨f1, f2, f3, f4⟩, ⟨f5, f6⟩, hold, hbs⟩ := id C
  have hni : R32 (n : Int) := okh hs
  have hcb2 : componentBytes (newarray.typeOf ar) ≤ 8 := by cases ar <;> decide
  refine va_newaK (N := n) hx hcb (hts _ hw) rfl hd1 rfl (ix_neg hni (by omega)) (by rw [ix_nat hni]; rfl) (by
    have := Nat.mul_le_mul hn hcb2
    omega) (Nat.le_trans hbu.1 f3) (Nat.le_trans hbu.2 f4) rfl fun H1 cA e1 z1 o1 hAr hNm => ?_
  have hclq : cl (nw h cc n) (nx h) = cc := by show (if nx h = nx h then cc else _) = _; rw [if_pos rfl]
  have hlnq : ln (nw h cc n) (nx h) = n := by show (if nx h = nx h then n else _) = _; rw [if_pos rfl]
  have g1 : ∀ k, gi (nw h cc n) (nx h) k = 0 := fun k => by show up1 (gi h) (nx h) (fun _ => 0) (nx h) k = _; unfold up1; rw [if_pos rfl]
  have g2 : ∀ k, gj (nw h cc n) (nx h) k = 0 := fun k => by show up1 (gj h) (nx h) (fun _ => 0) (nx h) k = _; unfold up1; rw [if_pos rfl]
  have hcA : g.2.2.1 ti = cA := by
    rcases hc with z | z | z | z <;> rw [z] at hty hti <;> rw [← hty] at hNm
    · have h1 : va_RA s _ _ := (hK.1.2 0 _ rfl).2
      rw [show ti = 0 by omega]
      exact Option.some.inj (h1.symm.trans hNm)
    · have h1 : va_RA s _ _ := (hK.1.2 1 _ rfl).2
      rw [show ti = 1 by omega]
      exact Option.some.inj (h1.symm.trans hNm)
    · have h1 : va_RA s _ _ := (hK.1.2 2 _ rfl).2
      rw [show ti = 2 by omega]
      exact Option.some.inj (h1.symm.trans hNm)
    · have h1 : va_RA s _ _ := (hK.1.2 3 _ rfl).2
      rw [show ti = 3 by omega]
      exact Option.some.inj (h1.symm.trans hNm)
  have hR1 : Rel g (nw h cc n) H1 := by
    refine hR.new z1 o1 (by omega) ⟨fun c2 r2 x1 x2 => ?_, fun x1 x2 => ?_⟩
    · have : c2 < 12 := (List.getElem?_eq_some_iff.mp x2).1
      omega
    · rw [← hR.1, e1, hclq, show cc - 20 = ti by omega, hcA, ← hty]
      rcases hc with z | z | z | z <;> subst z <;> simp only [acl, hlnq, g1, g2, vp_cell, aty, defaultValue] <;> rfl
  have hkk := k hR.2.1 p' l e R s m args below meth c' g H1 locs ls ⟨hx, hcb, hret, hml, hown, hts, hlk, hnm, hK, ⟨f1, f2, f3, f4⟩, hbu, hold, hbs⟩ hR1 hL (okc trivial (okt hs)) hlc
  rw [List.map_cons, rv_ref (by have := hR.2.1; omega), ← hR.1] at hkk
  exact hkk
theorem T_anew {idx n m0 s0 c0 t0 cc ti : Nat} {C : String} (hd : DI M pc (.anewarray idx) 3 pc') (hl : Cond.classLink M.1.cls idx C ∈ gT) (hc : (cc = 24 ∧ ti = 4 ∧ C = RX3) ∨ (cc = 25 ∧ ti = 5 ∧ C = RX8)) (hn : n ≤ 10000) (hbu : c0 + 1 ≤ m0 ∧ t0 + n ≤ s0) (k : 64 ≤ nx h → T d (m0, s0, c0 + 1, t0 + n) M pc' lo (vR (nx h) :: st) (nw h cc n) Q) : T d (m0, s0, c0, t0) M pc lo (vI n :: st) h Q := by
  intro p' l e R s m args below meth c' g H locs ls C0 hR hL hs hlc
  obtain ⟨hd1, rfl⟩ := hd
  obtain ⟨hx, hcb, hret, hml, hown, hts, hlk, hnm, hK, ⟨f1, f2, f3, f4⟩, ⟨f5, f6⟩, hold, hbs⟩ := id C0
  have hni : R32 (n : Int) := okh hs
  have hnn : (Int32.ofInt (n : Int)).toNatClampNeg = n := by rw [ix_nat hni]; rfl
  have hover : va_AO C s := by
    rcases hc with ⟨-, -, rfl⟩ | ⟨-, -, rfl⟩
    · exact hK.2.2.2.2.1
    · exact hK.2.2.2.2.2.1
  refine W.anew hx hcb hown (hts _ hl) (va_AO.use hover) rfl hd1 rfl (ix_neg hni (by omega)) (by rw [hnn]; omega) (Nat.le_trans hbu.1 f3) (by rw [hnn]; exact Nat.le_trans hbu.2 f4) fun cA kA comp x1 x2 x3 x4 => ?_
  rw [hnn]
  have hclq : cl (nw h cc n) (nx h) = cc := by show (if nx h = nx h then cc else _) = _; rw [if_pos rfl]
  have hlnq : ln (nw h cc n) (nx h) = n := by show (if nx h = nx h then n else _) = _; rw [if_pos rfl]
  have g3 : ∀ k, gr (nw h cc n) (nx h) k = 0 := fun k => by show up1 (gr h) (nx h) (fun _ => 0) (nx h) k = _; unfold up1; rw [if_pos rfl]
  have hcA : g.2.2.1 ti = cA := by
    rcases hc with ⟨-, rfl, rfl⟩ | ⟨-, rfl, rfl⟩
    · obtain ⟨_, _, -, -, -, h4⟩ := (hK.1.2 4 _ rfl).2
      exact Option.some.inj (h4.symm.trans x1)
    · obtain ⟨_, _, -, -, -, h4⟩ := (hK.1.2 5 _ rfl).2
      exact Option.some.inj (h4.symm.trans x1)
  generalize hH1 : H.push ({ cls := cA, slots := Array.replicate n .null, vm := .none } : Cell) = H1
  have z1 : H1.size = H.size + 1 := by rw [← hH1, Array.size_push]
  have e1 : H1[H.size]? = some (arrV cA n (fun _ => .null)) := by rw [← hH1, Array.getElem?_push_size, ← arrV_new]
  have o1 : ∀ a, a < H.size → H1[a]? = H[a]? := fun a ha => by rw [← hH1, Array.getElem?_push, if_neg (Nat.ne_of_lt ha)]
  have hR1 : Rel g (nw h cc n) H1 := by
    refine hR.new z1 o1 (by omega) ⟨fun c2 r2 y1 y2 => ?_, fun y1 y2 => ?_⟩
    · have : c2 < 12 := (List.getElem?_eq_some_iff.mp y2).1
      omega
    · rw [← hR.1, e1, hclq]
      rcases hc with ⟨z, z2, -⟩ | ⟨z, z2, -⟩ <;> subst z <;> subst z2 <;> rw [← hcA] <;> simp only [acl, hlnq, g3, vp_cell] <;> rfl
  have hkk := k hR.2.1 p' l e R s m args below meth c' g H1 locs ls ⟨hx, hcb, hret, hml, hown, hts, hlk, hnm, hK, ⟨f1, f2, f3, f4⟩, hbu, hold, hbs⟩ hR1 hL (okc trivial (okt hs)) hlc
  rw [List.map_cons, rv_ref (by have := hR.2.1; omega), ← hR.1] at hkk
  exact hkk
end
end
section
/-! TEXT CONSTANTS, THE SCRIPT, STATICS OF THE JDK -/
theorem ad_str (g : Gx) {a : Nat} (h : a < 64) : ad g a = g.2.2.2.2.2 a := by unfold ad; rw [if_pos h]
theorem old_at {g : Gx} {h : PH} {H : Heap} (hR : Rel g h H) {a : Nat} (ha : ¬ own0 g a) : H[a]? = (h00 g)[a]? := hR.2.2.2.2.2.1 a (Nat.not_le.mp ha)
section
variable {d : Nat} {u : Bu} {M : MD} {pc pc' : Nat} {lo : List (Option PV)} {st stk : List PV} {h : PH} {Q : Option PV → PH → Prop}
theorem T_ldcS {idx i : Nat} (hd : DI M pc (.ldc idx) 2 pc') (hi : i < 27) (hx : sIdx.getD i 0 = idx) (ho : sOwn i = M.1.cls) (k : T d u M pc' lo (vR (1 + i) :: st) h Q) : T d u M pc lo st h Q := by
  intro p' l e R s m args below meth c' g H locs ls C hR hL hs hlc
  obtain ⟨hd1, rfl⟩ := hd
  have hkk := k p' l e R s m args below meth c' g H locs ls C hR hL (okc trivial hs) hlc
  rw [List.map_cons, rv_ref (by omega)] at hkk
  have hZ := (C.2.2.2.2.2.2.2.2.1.2.2.1 i hi).1
  rw [hx, ho] at hZ
  exact va_ldcS C.1 C.2.1 C.2.2.2.2.1 hZ hd1 hkk
theorem T_strV {idx i : Nat} (hd : DI M pc (.getfield idx) 3 pc') (hw : Cond.fieldLink M.1.cls idx "java/lang/String" "value" "[B" ∈ gT) (hi : i < 27) (k : T d u M pc' lo (vR (33 + i) :: st) h Q) : T d u M pc lo (vR (1 + i) :: st) h Q := by
  intro p' l e R s m args below meth c' g H locs ls C hR hL hs hlc
  obtain ⟨hd1, rfl⟩ := hd
  have hkk := k p' l e R s m args below meth c' g H locs ls C hR hL (okc trivial (okt hs)) hlc
  rw [List.map_cons, rv_ref (by omega)] at hkk
  obtain ⟨cf, kf, fi, f, cell, q1, q2, q3, q4, q5, q6⟩ := (C.2.2.2.2.2.2.2.2.1.2.2.1 i hi).2.2.2.1
  rw [← old_at hR q6] at q3
  refine W.eq (g2 := F0 m pc ls (.ref (ad g (1 + i)) :: st.map (rv g))) (by rw [List.map_cons, rv_ref (by omega)]) ?_
  exact W.getf C.1 C.2.1 C.2.2.2.2.1 (C.2.2.2.2.2.1 _ hw) q1 q2 q3 q4 q5 rfl rfl hd1 hkk
theorem T_strC {idx i : Nat} (hd : DI M pc (.getfield idx) 3 pc') (hw : Cond.fieldLink M.1.cls idx "java/lang/String" "coder" "B" ∈ gT) (hi : i < 27) (k : T d u M pc' lo (vI 0 :: st) h Q) : T d u M pc lo (vR (1 + i) :: st) h Q := by
  intro p' l e R s m args below meth c' g H locs ls C hR hL hs hlc
  obtain ⟨hd1, rfl⟩ := hd
  have hkk := k p' l e R s m args below meth c' g H locs ls C hR hL (okc R32_0 (okt hs)) hlc
  obtain ⟨cf, kf, fi, f, cell, q1, q2, q3, q4, q5, q6⟩ := (C.2.2.2.2.2.2.2.2.1.2.2.1 i hi).2.2.1
  rw [← old_at hR q6] at q3
  refine W.eq (g2 := F0 m pc ls (.ref (ad g (1 + i)) :: st.map (rv g))) (by rw [List.map_cons, rv_ref (by omega)]) ?_
  exact W.getf C.1 C.2.1 C.2.2.2.2.1 (C.2.2.2.2.2.1 _ hw) q1 q2 q3 q4 (v := .int 0) q5 rfl rfl hd1 hkk
theorem T_strL {i : Nat} (hd : DI M pc .arraylength 1 pc') (hi : i < 27) (hs : sLen i < 10000) (k : T d u M pc' lo (vI (sLen i) :: st) h Q) : T d u M pc lo (vR (33 + i) :: st) h Q := by
  intro p' l e R s m args below meth c' g H locs ls C hR hL hst hlc
  obtain ⟨hd1, rfl⟩ := hd
  have hkk := k p' l e R s m args below meth c' g H locs ls C hR hL (okc (show R32 _ by unfold R32; omega) (okt hst)) hlc
  obtain ⟨cell, q1, q2, q3, q4, q5, q6, q7⟩ := (C.2.2.2.2.2.2.2.2.1.2.2.1 i hi).2.2.2.2
  rw [← old_at hR q7] at q1
  refine W.eq (g2 := F0 m pc ls (.ref (ad g (33 + i)) :: st.map (rv g))) (by rw [List.map_cons, rv_ref (by omega)]) ?_
  exact W.alen (n := Int32.ofInt (sLen i)) C.1 C.2.1 q1 q2 (by rw [q5]; rfl) rfl rfl hd1 hkk
theorem T_strB {i : Nat} {j : Int} (hd : DI M pc .baload 1 pc') (hi : i < 27) (h0 : 0 ≤ j) (h1 : j < sLen i) (hok : R32 (sChr i j.toNat)) (k : T d u M pc' lo (vI (sChr i j.toNat) :: st) h Q) : T d u M pc lo (vI j :: vR (33 + i) :: st) h Q := by
  intro p' l e R s m args below meth c' g H locs ls C hR hL hs hlc
  obtain ⟨hd1, rfl⟩ := hd
  have hj : R32 j := okh hs
  have hkk := k p' l e R s m args below meth c' g H locs ls C hR hL (okc hok (okt (okt hs))) hlc
  obtain ⟨cell, q1, q2, q3, q4, q5, q6, q7⟩ := (C.2.2.2.2.2.2.2.2.1.2.2.1 i hi).2.2.2.2
  rw [← old_at hR q7] at q1
  refine W.eq (g2 := F0 m pc ls (.int (Int32.ofInt j) :: .ref (ad g (33 + i)) :: st.map (rv g))) (by rw [List.map_cons, List.map_cons, rv_ref (by omega)]; rfl) ?_
  exact W.bald C.1 C.2.1 q1 q2 q3 (by
    rw [ix_nat hj]
    rintro (z | z)
    · exact ix_neg hj h0 z
    · omega) (by rw [ix_nat hj]; exact q6 _ (by omega)) rfl rfl hd1 hkk
theorem T_cstr {idx : Nat} (hd : DI M pc (.getstatic idx) 3 pc') (hw : Cond.fieldLink M.1.cls idx "java/lang/String" "COMPACT_STRINGS" "Z" ∈ gT) (k : T d u M pc' lo (vI 1 :: st) h Q) : T d u M pc lo st h Q := by
  intro p' l e R s m args below meth c' g H locs ls C hR hL hs hlc
  obtain ⟨hd1, rfl⟩ := hd
  have hkk := k p' l e R s m args below meth c' g H locs ls C hR hL (okc (show R32 1 by unfold R32; omega) hs) hlc
  obtain ⟨cf, kf, fi, f, a, cell, h1, h2, h3, h4, h5, h6, h7, h8⟩ := C.2.2.2.2.2.2.2.2.1.2.2.2.1
  rw [← old_at hR h8] at h5
  exact W.gets C.1 C.2.1 C.2.2.2.2.1 (C.2.2.2.2.2.1 _ hw) h1 h2 h3 h4 h5 (fun e => by rw [e] at h6; cases h6) (v := .int 1) h7 rfl hd1 hkk
theorem T_sioo {idx : Nat} (hd : DI M pc (.getstatic idx) 3 pc') (hw : Cond.fieldLink M.1.cls idx "jdk/internal/util/Preconditions" "SIOOBE_FORMATTER" "Ljava/util/function/BiFunction;" ∈ gT) (k : ∀ a, T d u M pc' lo (vR a :: st) h Q) : T d u M pc lo st h Q := by
  intro p' l e R s m args below meth c' g H locs ls C hR hL hs hlc
  obtain ⟨hd1, rfl⟩ := hd
  obtain ⟨a0, -, cf, kf, fi, f, a, cell, h1, h2, h3, h4, h5, h6, h7, h8⟩ := C.2.2.2.2.2.2.2.2.1.2.2.2.2.2.2.1
  have hkk := k a0 p' l e R s m args below meth c' g H locs ls C hR hL (okc trivial hs) hlc
  rw [← old_at hR h8] at h5
  exact W.gets C.1 C.2.1 C.2.2.2.2.1 (C.2.2.2.2.2.1 _ hw) h1 h2 h3 h4 h5 (fun e => by rw [e] at h6; cases h6) h7 rfl hd1 hkk
theorem T_pop {v : PV} (hd : DI M pc .pop 1 pc') (hc : cat2 v = false) (k : T d u M pc' lo st h Q) : T d u M pc lo (v :: st) h Q := by
  intro p l e R s m args below meth c g H locs ls C hR hL hs hlc
  obtain ⟨hd1, rfl⟩ := hd
  exact lv_pop C.1 C.2.1 hd1 (by rw [rv_cat, hc]; rfl) (k p l e R s m args below meth c g H locs ls C hR hL (okt hs) hlc)
theorem T_slen (hd : DI M pc .arraylength 1 pc') (hc : cl h 62 = 30) (k : ln h 62 ≤ 3072 → T d u M pc' lo (vI (ln h 62) :: st) h Q) : T d u M pc lo (vR 62 :: st) h Q := by
  intro p' l e R s m args below meth c' g H locs ls C hR hL hst hlc
  obtain ⟨hd1, rfl⟩ := hd
  obtain ⟨z1, z2, scr, z3, z4, z5, z6⟩ := hR.2.2.2.2.2.2.2.2.2.2 hc
  have hkk := k z1 p' l e R s m args below meth c' g H locs ls C hR hL (okc (show R32 _ by unfold R32; omega) (okt hst)) hlc
  have hao := C.2.2.2.2.2.2.2.2.1.2.2.2.2.2.2.2 scr z3
  rw [← hR.2.2.2.2.2.1 _ z2] at z3
  refine W.eq (g2 := F0 m pc ls (.ref (ad g 62) :: st.map (rv g))) (by rw [List.map_cons, rv_ref (by omega)]) ?_
  exact W.alen (n := Int32.ofInt (ln h 62)) C.1 C.2.1 z3 hao (by rw [z5]; rfl) rfl rfl hd1 hkk
theorem T_sld {j : Int} (hd : DI M pc .iaload 1 pc') (hc : cl h 62 = 30) (h0 : 0 ≤ j) (h1 : j < ln h 62) (k : T d u M pc' lo (vI (gi h 62 j.toNat) :: st) h Q) : T d u M pc lo (vI j :: vR 62 :: st) h Q := by
  intro p' l e R s m args below meth c' g H locs ls C hR hL hs hlc
  obtain ⟨hd1, rfl⟩ := hd
  obtain ⟨z1, z2, scr, z3, z4, z5, z6⟩ := hR.2.2.2.2.2.2.2.2.2.2 hc
  have hj : R32 j := okh hs
  have hkk := k p' l e R s m args below meth c' g H locs ls C hR hL (okc (hR.2.2.2.1 _ _) (okt (okt hs))) hlc
  have hao := C.2.2.2.2.2.2.2.2.1.2.2.2.2.2.2.2 scr z3
  rw [← hR.2.2.2.2.2.1 _ z2] at z3
  refine W.eq (g2 := F0 m pc ls (.int (Int32.ofInt j) :: .ref (ad g 62) :: st.map (rv g))) (by rw [List.map_cons, List.map_cons, rv_ref (by omega)]; rfl) ?_
  exact W.iald C.1 C.2.1 z3 hao z4 (by
    rw [ix_nat hj]
    rintro (z | z)
    · exact ix_neg hj h0 z
    · omega) (by rw [ix_nat hj]; exact z6 _ (by omega)) rfl rfl hd1 hkk
theorem T_vIs {idx n i : Nat} {N : MD} {as : List PV} (hd : DI M pc (.invokevirtual idx) 3 pc') (hl : Cond.methodLink M.1.cls idx N.1 ∈ gT) (hN : MOK N n) (hI : IOK N) (hi : i < 27) (hrc : N.1.cls = "java/lang/String") (hn : as.length = n) (hw : wst st ≤ 8) (hs : stk = as.reverse ++ vR (1 + i) :: st)
    (hc : Call d N (vR (1 + i) :: as) h (onI fun x h1 => T (d + 1) u M pc' lo (vI x :: st) h1 Q)) : T (d + 1) u M pc lo stk h Q := by
  subst hs
  intro p' l e R s m args below meth c' g H locs ls C hR hL hs hlc
  obtain ⟨hd1, rfl⟩ := hd
  obtain ⟨hx, hcb, hret, hml, hown, hts, hlk, hnm, hK, ⟨f1, f2, f3, f4⟩, ⟨f5, f6⟩, hold, hbs⟩ := id C
  have hoa : ∀ v ∈ vR (1 + i) :: as, okv v := by
    intro v hv
    rcases List.mem_cons.mp hv with rfl | hv
    · trivial
    · exact hs v (List.mem_append_left _ (List.mem_reverse.mpr hv))
  have hos : ∀ v ∈ st, okv v := fun v hv => hs v (List.mem_append_right _ (List.mem_cons_of_mem _ hv))
  obtain ⟨cell, q1, q2, q3, q4⟩ := (hK.2.2.1 i hi).2.1
  have hrecv : ∃ cellB : Cell, H[ad g (1 + i)]? = some cellB ∧ cellB.vm.isStatics = false ∧ s.vm.findClass N.1.cls = some cellB.cls := ⟨cell, by rw [old_at hR q4]; exact q1, q2, by rw [hrc]; exact q3⟩
  have hM := hc l g hoa
  rw [List.map_cons, rv_ref (by omega)] at hM
  have cb : CallB R s args M.1.cls idx N.1 N.2.1 N.2.2.1 N.2.2.2 (wsA N) (rmd d 0 0) 0 0 n := callB_of n hts (gT_good hN) rfl rfl rfl (hts _ hN.2.1) (hts _ hl) ⟨hN.2.2.1.1, hN.2.2.1.2, hN.2.2.2.1⟩ ⟨f1, by have := hN.2.2.2.2; show 8 + (N.2.2.1 + 11) + 64 * d ≤ R.locals; omega⟩
  refine run_fin (g := g) (mc := 0) (ms := 0) (rest := st.map (rv g)) (va_runV (As := as.map (rv g)) (b := ad g (1 + i)) (C := N.1.cls) ⟨hx, hcb, hml, hown, hts⟩ hM ⟨cb, hts _ hI.1, hts _ hI.2⟩ ⟨fun a U g' mk q => ⟨q.1, q.2.1, q.2.2.1.same rfl, q.2.2.2⟩, hrecv, fun U hU hW => ⟨rfl, by rw [hU]; exact hR, hK.warm hW, hbs⟩⟩ rfl (by rw [List.length_map, hn]) hL.1.1 (by rw [List.map_append, List.map_reverse, List.map_cons, rv_ref (by omega)]) (lv_room (by rw [wst_eq]; exact hw)) hd1 ⟨by omega, by omega⟩) hlc ?_
  intro r1 h1 H1 locs1 ho hq hR1 hl1
  match r1, ho, hq with
  | some (.inl x), ho, hq => exact hq (ho _ rfl) p' l e R s m args below meth c' g H1 locs1 ls C hR1 hL (okc (ho _ rfl) hos) hl1
end
end
section
/-! THE SHAPE behind the constructors: it stays as it is -/
def CLl : List Nat := [11, 21, 24, 9, 20, 20, 20, 9, 20, 20, 20, 5, 25, 9, 20, 20, 20, 9, 20, 20, 20, 9, 20, 20, 20, 9, 20, 20, 20, 9, 20, 20, 20, 9, 20, 20, 20, 9, 20, 20, 20, 9, 20, 20, 20, 9, 20, 20, 20, 9, 20, 20, 20, 20, 25, 1, 20, 20, 22, 10, 22, 20, 20, 2, 20, 20, 4, 20, 20, 20, 20, 20, 9, 20, 20, 20, 3, 20, 20, 20, 3, 20, 20, 20, 20, 20, 4, 20, 20, 20, 20, 20, 9, 20, 20, 20, 3, 20, 20, 20, 3, 20, 20, 20, 20, 20, 4, 20, 20, 20, 20, 20, 9, 20, 20, 20, 3, 20, 20, 20, 3, 20, 20, 20, 20, 20, 4, 20, 20, 20, 20, 20, 9, 20, 20, 20, 3, 20, 20, 20, 3, 20, 20, 20, 20, 20, 9, 20, 20, 20, 9, 20, 20, 20, 6, 7, 8, 20, 20, 20, 20, 20, 20, 20, 20, 20, 20, 20, 20, 7, 8, 20, 20, 20, 20, 20, 20, 20, 20, 20, 20, 20, 20, 12, 20, 23, 20, 20, 20, 20, 20, 20, 20, 20, 20, 20, 20, 20, 20, 20, 20, 20, 20, 20, 20, 22, 22, 20, 20, 20, 20, 20, 20, 20, 22]
def LNl : List Nat := [0, 900, 4, 0, 6, 6, 6, 0, 6, 6, 6, 0, 10, 0, 6, 6, 6, 0, 6, 6, 6, 0, 6, 6, 6, 0, 6, 6, 6, 0, 6, 6, 6, 0, 6, 6, 6, 0, 6, 6, 6, 0, 6, 6, 6, 0, 6, 6, 6, 0, 6, 6, 6, 2, 2, 0, 30, 31, 31, 0, 160, 4, 4, 0, 9, 9, 0, 6, 6, 6, 30, 30, 0, 6, 6, 6, 0, 900, 4, 64, 0, 900, 4, 64, 300, 1200, 0, 6, 6, 6, 30, 30, 0, 6, 6, 6, 0, 900, 4, 64, 0, 900, 4, 64, 300, 1200, 0, 6, 6, 6, 30, 30, 0, 6, 6, 6, 0, 900, 4, 64, 0, 900, 4, 64, 300, 1200, 0, 6, 6, 6, 30, 30, 0, 6, 6, 6, 0, 900, 4, 64, 0, 900, 4, 64, 300, 1200, 0, 6, 6, 6, 0, 6, 6, 6, 0, 0, 0, 140, 140, 140, 140, 21, 6, 6, 30, 30, 6, 6, 366, 0, 0, 140, 140, 140, 140, 21, 6, 6, 30, 30, 6, 6, 366, 0, 3639, 2, 900, 1213, 900, 6, 6, 140, 140, 140, 140, 30, 30, 30, 6, 6, 366, 20, 30, 31, 31, 31, 31, 30, 30, 10, 9, 9, 4, 4, 160]
def CLf (q : Nat) : Nat := if q < 64 then (if 1 ≤ q ∧ q ≤ 27 then 31 else if 33 ≤ q ∧ q ≤ 59 then 32 else if q = 62 then 30 else 0) else CLl.getD (q - 64) 0
def LNf (q : Nat) : Nat := if q < 64 then 0 else LNl.getD (q - 64) 0
/-- class, field, how far ahead lies what it holds, its class, its length -/
def RFl : List (Nat × Nat × Nat × Nat × Nat) := [(0, 0, 1, 20, 30), (0, 1, 2, 20, 31), (0, 2, 3, 22, 31), (1, 2, 1, 20, 9), (1, 3, 2, 20, 9), (2, 0, 1, 20, 900), (2, 1, 2, 20, 4), (2, 2, 3, 20, 64), (3, 6, 1, 20, 6), (3, 7, 2, 20, 6), (3, 8, 3, 20, 6), (3, 10, 4, 20, 30), (3, 11, 5, 20, 30), (3, 12, 6, 9, 0), (3, 13, 10, 3, 0), (3, 14, 14, 3, 0), (3, 15, 18, 20, 300), (3, 16, 19, 20, 1200), (4, 0, 1, 25, 10), (6, 3, 1, 8, 0), (6, 4, 9, 20, 30), (6, 5, 10, 20, 30), (6, 6, 11, 20, 6), (6, 7, 12, 20, 6), (6, 8, 13, 20, 366), (7, 0, 1, 20, 140), (7, 1, 2, 20, 140), (7, 2, 3, 20, 140), (7, 3, 4, 20, 140), (7, 5, 5, 20, 21), (7, 7, 6, 20, 6), (7, 8, 7, 20, 6), (8, 0, 1, 20, 6), (8, 1, 2, 20, 6), (8, 2, 3, 20, 6), (9, 0, 1, 22, 160), (9, 1, 2, 20, 4), (9, 2, 3, 20, 4), (10, 0, 1, 21, 900), (10, 2, 154, 6, 0), (10, 3, 2, 24, 4), (10, 5, 3, 9, 0), (10, 6, 7, 9, 0), (10, 7, 11, 5, 0), (10, 8, 53, 20, 2), (10, 9, 54, 25, 2), (10, 10, 155, 7, 0), (10, 11, 169, 7, 0), (10, 13, 55, 1, 0), (10, 14, 59, 10, 0), (10, 15, 63, 2, 0), (11, 1, 1, 20, 3639), (11, 2, 2, 23, 2), (11, 3, 3, 20, 900), (11, 4, 4, 20, 1213), (11, 16, 5, 20, 900), (11, 17, 6, 20, 6), (11, 23, 7, 20, 6), (11, 24, 8, 20, 140), (11, 25, 9, 20, 140), (11, 26, 10, 20, 140), (11, 27, 11, 20, 140), (11, 28, 12, 20, 30), (11, 29, 13, 20, 30), (11, 30, 14, 20, 30), (11, 32, 15, 20, 6), (11, 33, 16, 20, 6), (11, 34, 17, 20, 366), (11, 38, 18, 20, 20), (11, 41, 19, 20, 30), (11, 43, 20, 20, 31), (11, 44, 21, 20, 31), (11, 45, 22, 22, 31), (11, 46, 23, 22, 31), (11, 47, 24, 20, 30), (11, 48, 25, 20, 30), (11, 49, 26, 20, 10), (11, 54, 27, 20, 9), (11, 55, 28, 20, 9), (11, 56, 29, 20, 4), (11, 57, 30, 20, 4), (11, 58, 31, 22, 160)]
def shp (h : PH) : Prop := nx h = 279 ∧ (∀ q, cl h q = CLf q) ∧ (∀ q, q ≠ 62 → ln h q = LNf q) ∧ (∀ r ∈ RFl, ∀ q, CLf q = r.1 + 1 → gr h q r.2.1 = q + r.2.2.1) ∧
  gr h 218 0 = 65 ∧ (∀ i, i < 4 → gr h 66 i = 130 + 20 * i) ∧ (∀ i, i < 10 → gr h 76 i = 77 + 4 * i) ∧ (∀ i, i < 2 → gr h 118 i = 210 + 4 * i) ∧
  (∀ q, CLf q = 7 → CLf (gr h q 0) = 4 ∧ CLf (gr h q 1) = 9) ∧ CLf (gr h 218 6) = 4 ∧ CLf (gr h 218 7) = 3
theorem CLf_lt {q c : Nat} (h : CLf q = c + 1) (hc : c < 26) : 64 ≤ q ∧ q < 279 := by
  unfold CLf at h
  split at h
  · split at h
    · omega
    · split at h
      · omega
      · split at h
        · omega
        · omega
  · refine ⟨by omega, ?_⟩
    rcases Nat.lt_or_ge q 279 with z | z
    · exact z
    · rw [List.getD_eq_getElem?_getD, List.getElem?_eq_none (by show CLl.length ≤ _; rw [show CLl.length = 215 from rfl]; omega)] at h
      simp at h
def RFchk : Bool := (List.range 279).all (fun q => RFl.all (fun r => decide (CLf q = r.1 + 1 → CLf (q + r.2.2.1) = r.2.2.2.1 ∧ LNf (q + r.2.2.1) = r.2.2.2.2)))
theorem RFchk_ok : RFchk = true := by decide +kernel
theorem RF_at {r : Nat × Nat × Nat × Nat × Nat} (hr : r ∈ RFl) {q : Nat} (hq : CLf q = r.1 + 1) : CLf (q + r.2.2.1) = r.2.2.2.1 ∧ LNf (q + r.2.2.1) = r.2.2.2.2 := by
  have hc : r.1 < 26 := by
    have := List.all_eq_true.mp (show RFl.all (fun r => decide (r.1 < 26)) = true by decide +kernel) r hr
    simpa using this
  have h1 := List.all_eq_true.mp RFchk_ok q (List.mem_range.mpr (CLf_lt hq hc).2)
  have h2 := List.all_eq_true.mp h1 r hr
  exact (of_decide_eq_true h2) hq
def T2 (d : Nat) (M : MD) (pc : Nat) (lo : List (Option PV)) (st : List PV) (h : PH) (Q : Option PV → PH → Prop) : Prop := shp h → T d (0, 0, 0, 0) M pc lo st h (fun r h1 => shp h1 ∧ Q r h1)
def C2 (d : Nat) (M : MD) (as : List PV) (h : PH) (Q : Option PV → PH → Prop) : Prop := shp h → Call d M as h (fun r h1 => shp h1 ∧ Q r h1)
theorem shp_si {h : PH} (hs : shp h) (q k : Nat) (v : Int) : shp (si h q k v) := hs
theorem shp_sj {h : PH} (hs : shp h) (q k : Nat) (v : Int) : shp (sj h q k v) := hs
theorem C2.mono {d : Nat} {N : MD} {as : List PV} {h : PH} {Q1 Q2 : Option PV → PH → Prop} (hc : C2 d N as h Q1) (hq : ∀ r h1, Q1 r h1 → Q2 r h1) : C2 d N as h Q2 := fun hs => (hc hs).mono (fun r h1 _ z => ⟨z.1, hq r h1 z.2⟩)
theorem C2.monoI {d : Nat} {N : MD} {as : List PV} {h : PH} {P P' : Int → PH → Prop} (hc : C2 d N as h (onI P)) (hq : ∀ x h1, P x h1 → P' x h1) : C2 d N as h (onI P') :=
  hc.mono (fun r h1 => match r with
    | none => fun z => z
    | some (.inl x) => fun z hx => hq x h1 (z hx)
    | some (.inr _) => fun z => z)
theorem C2.monoJ {d : Nat} {N : MD} {as : List PV} {h : PH} {P P' : Int → PH → Prop} (hc : C2 d N as h (onJ P)) (hq : ∀ x h1, P x h1 → P' x h1) : C2 d N as h (onJ P') :=
  hc.mono (fun r h1 => match r with
    | none => fun z => z
    | some (.inl _) => fun z => z
    | some (.inr (.inl x)) => fun z hx => hq x h1 (z hx)
    | some (.inr (.inr _)) => fun z => z)
theorem C2.monoR {d : Nat} {N : MD} {as : List PV} {h : PH} {P P' : Nat → PH → Prop} (hc : C2 d N as h (onR P)) (hq : ∀ x h1, P x h1 → P' x h1) : C2 d N as h (onR P') :=
  hc.mono (fun r h1 => match r with
    | none => fun z => z
    | some (.inl _) => fun z => z
    | some (.inr (.inl _)) => fun z => z
    | some (.inr (.inr (.inl x))) => fun z => hq x h1 z
    | some (.inr (.inr (.inr _))) => fun z => z)
theorem C2.monoF {d : Nat} {N : MD} {as : List PV} {h : PH} {P P' : UInt32 → PH → Prop} (hc : C2 d N as h (onF P)) (hq : ∀ x h1, P x h1 → P' x h1) : C2 d N as h (onF P') :=
  hc.mono (fun r h1 => match r with
    | none => fun z => z
    | some (.inl _) => fun z => z
    | some (.inr (.inl _)) => fun z => z
    | some (.inr (.inr (.inl _))) => fun z => z
    | some (.inr (.inr (.inr (.inl x)))) => fun z => hq x h1 z
    | some (.inr (.inr (.inr (.inr _)))) => fun z => z)
theorem C2.monoV {d : Nat} {N : MD} {as : List PV} {h : PH} {P P' : PH → Prop} (hc : C2 d N as h (onV P)) (hq : ∀ h1, P h1 → P' h1) : C2 d N as h (onV P') :=
  hc.mono (fun _ h1 z => ⟨z.1, hq h1 z.2⟩)
/-- entry -/
theorem C2.of {d : Nat} {M : MD} {as : List PV} {h : PH} {Q : Option PV → PH → Prop} {lo : List (Option PV)} (hy : plainName M.1.cls = true) (hn : (entA as).length ≤ M.2.2.1) (hl : entL as M.2.2.1 = lo) (k : (∀ v ∈ as, okv v) → T2 d M 0 lo [] h Q) : C2 d M as h Q := fun hs => Call.of hy hn hl (fun ho => k ho hs)
def msk (m : List Bool) (lo : List (Option PV)) : List (Option PV) := match m, lo with
  | true :: m, x :: l => x :: msk m l
  | false :: m, _ :: l => none :: msk m l
  | _, l => l
theorem msk_at {m : List Bool} {lo : List (Option PV)} {i : Nat} {v : PV} (h : (msk m lo)[i]? = some (some v)) : lo[i]? = some (some v) := by
  induction lo generalizing m i with
  | nil =>
    cases m with
    | nil => exact h
    | cons b m => cases b <;> exact h
  | cons x l ih =>
    cases m with
    | nil => exact h
    | cons b m =>
      cases b with
      | true =>
        cases i with
        | zero => exact h
        | succ i => exact ih h
      | false =>
        cases i with
        | zero => simp [msk] at h
        | succ i => exact ih h
theorem msk_len (m : List Bool) (lo : List (Option PV)) : (msk m lo).length = lo.length := by
  induction lo generalizing m with
  | nil => cases m with
    | nil => rfl
    | cons b m => cases b <;> rfl
  | cons x l ih =>
    cases m with
    | nil => rfl
    | cons b m => cases b <;> simp [msk, ih]
theorem T_msk {d : Nat} {u : Bu} {M : MD} {pc : Nat} {lo lo' : List (Option PV)} {st : List PV} {h : PH} {Q : Option PV → PH → Prop} (m : List Bool) (hl : msk m lo = lo') (k : T d u M pc lo' st h Q) : T d u M pc lo st h Q := by
  subst hl
  intro p' l e R s mm args below meth c' g H locs ls C hR hL hs hlc
  refine k p' l e R s mm args below meth c' g H locs ls C hR ⟨⟨hL.1.1, hL.1.2.1, fun q hq => ?_⟩, fun i v hv => hL.2.1 i v (msk_at hv), by rw [msk_len]; exact hL.2.2⟩ hs hlc
  obtain ⟨v, h1, h2⟩ := lst_mem hq
  have := hL.at (msk_at h1)
  rw [h2]; exact this
theorem T2_msk {d : Nat} {M : MD} {pc : Nat} {lo lo' : List (Option PV)} {st : List PV} {h : PH} {Q : Option PV → PH → Prop} (m : List Bool) (hl : msk m lo = lo') (k : T2 d M pc lo' st h Q) : T2 d M pc lo st h Q := fun hs => T_msk m hl (k hs)
section
variable {d : Nat} {M : MD} {pc pc' : Nat} {lo : List (Option PV)} {st stk : List PV} {h : PH} {Q : Option PV → PH → Prop}
theorem T2_iadd {a b : Int} (hd : DI M pc .iadd 1 pc') (k : T2 d M pc' lo (vI (w32 (a + b)) :: st) h Q) : T2 d M pc lo (vI b :: vI a :: st) h Q := fun hsp => T_iadd hd (k hsp)
theorem T2_isub {a b : Int} (hd : DI M pc .isub 1 pc') (k : T2 d M pc' lo (vI (w32 (a - b)) :: st) h Q) : T2 d M pc lo (vI b :: vI a :: st) h Q := fun hsp => T_isub hd (k hsp)
theorem T2_imul {a b : Int} (hd : DI M pc .imul 1 pc') (k : T2 d M pc' lo (vI (w32 (a * b)) :: st) h Q) : T2 d M pc lo (vI b :: vI a :: st) h Q := fun hsp => T_imul hd (k hsp)
theorem T2_ladd {a b : Int} (hd : DI M pc .ladd 1 pc') (k : T2 d M pc' lo (vJ (w64 (a + b)) :: st) h Q) : T2 d M pc lo (vJ b :: vJ a :: st) h Q := fun hsp => T_ladd hd (k hsp)
theorem T2_lsub {a b : Int} (hd : DI M pc .lsub 1 pc') (k : T2 d M pc' lo (vJ (w64 (a - b)) :: st) h Q) : T2 d M pc lo (vJ b :: vJ a :: st) h Q := fun hsp => T_lsub hd (k hsp)
theorem T2_lmul {a b : Int} (hd : DI M pc .lmul 1 pc') (k : T2 d M pc' lo (vJ (w64 (a * b)) :: st) h Q) : T2 d M pc lo (vJ b :: vJ a :: st) h Q := fun hsp => T_lmul hd (k hsp)
theorem T2_iand {a b : Int} (hd : DI M pc .iand 1 pc') (k : T2 d M pc' lo (vI (iand a b) :: st) h Q) : T2 d M pc lo (vI b :: vI a :: st) h Q := fun hsp => T_iand hd (k hsp)
theorem T2_ior {a b : Int} (hd : DI M pc .ior 1 pc') (k : T2 d M pc' lo (vI (ior a b) :: st) h Q) : T2 d M pc lo (vI b :: vI a :: st) h Q := fun hsp => T_ior hd (k hsp)
theorem T2_ixor {a b : Int} (hd : DI M pc .ixor 1 pc') (k : T2 d M pc' lo (vI (ixor a b) :: st) h Q) : T2 d M pc lo (vI b :: vI a :: st) h Q := fun hsp => T_ixor hd (k hsp)
theorem T2_land {a b : Int} (hd : DI M pc .land 1 pc') (k : T2 d M pc' lo (vJ (land a b) :: st) h Q) : T2 d M pc lo (vJ b :: vJ a :: st) h Q := fun hsp => T_land hd (k hsp)
theorem T2_lor {a b : Int} (hd : DI M pc .lor 1 pc') (k : T2 d M pc' lo (vJ (lor a b) :: st) h Q) : T2 d M pc lo (vJ b :: vJ a :: st) h Q := fun hsp => T_lor hd (k hsp)
theorem T2_ishl {a b : Int} (hd : DI M pc .ishl 1 pc') (k : T2 d M pc' lo (vI (ishl a b) :: st) h Q) : T2 d M pc lo (vI b :: vI a :: st) h Q := fun hsp => T_ishl hd (k hsp)
theorem T2_ishr {a b : Int} (hd : DI M pc .ishr 1 pc') (k : T2 d M pc' lo (vI (ishr a b) :: st) h Q) : T2 d M pc lo (vI b :: vI a :: st) h Q := fun hsp => T_ishr hd (k hsp)
theorem T2_iushr {a b : Int} (hd : DI M pc .iushr 1 pc') (k : T2 d M pc' lo (vI (iushr a b) :: st) h Q) : T2 d M pc lo (vI b :: vI a :: st) h Q := fun hsp => T_iushr hd (k hsp)
theorem T2_lshl {a b : Int} (hd : DI M pc .lshl 1 pc') (k : T2 d M pc' lo (vJ (lshl a b) :: st) h Q) : T2 d M pc lo (vI b :: vJ a :: st) h Q := fun hsp => T_lshl hd (k hsp)
theorem T2_lshr {a b : Int} (hd : DI M pc .lshr 1 pc') (k : T2 d M pc' lo (vJ (lshr a b) :: st) h Q) : T2 d M pc lo (vI b :: vJ a :: st) h Q := fun hsp => T_lshr hd (k hsp)
theorem T2_i2l {a : Int} (hd : DI M pc .i2l 1 pc') (k : T2 d M pc' lo (vJ a :: st) h Q) : T2 d M pc lo (vI a :: st) h Q := fun hsp => T_i2l hd (k hsp)
theorem T2_l2i {a : Int} (hd : DI M pc .l2i 1 pc') (k : T2 d M pc' lo (vI (w32 a) :: st) h Q) : T2 d M pc lo (vJ a :: st) h Q := fun hsp => T_l2i hd (k hsp)
theorem T2_i2b {a : Int} (hd : DI M pc .i2b 1 pc') (k : T2 d M pc' lo (vI (i2b a) :: st) h Q) : T2 d M pc lo (vI a :: st) h Q := fun hsp => T_i2b hd (k hsp)
theorem T2_i2s {a : Int} (hd : DI M pc .i2s 1 pc') (k : T2 d M pc' lo (vI (i2s a) :: st) h Q) : T2 d M pc lo (vI a :: st) h Q := fun hsp => T_i2s hd (k hsp)
theorem T2_i2c {a : Int} (hd : DI M pc .i2c 1 pc') (k : T2 d M pc' lo (vI (i2c a) :: st) h Q) : T2 d M pc lo (vI a :: st) h Q := fun hsp => T_i2c hd (k hsp)
theorem T2_idiv {a b : Int} (hd : DI M pc .idiv 1 pc') (hb : b ≠ 0) (k : T2 d M pc' lo (vI (w32 (a.tdiv b)) :: st) h Q) : T2 d M pc lo (vI b :: vI a :: st) h Q := fun hsp => T_idiv hd hb (k hsp)
theorem T2_irem {a b : Int} (hd : DI M pc .irem 1 pc') (hb : b ≠ 0) (k : T2 d M pc' lo (vI (a.tmod b) :: st) h Q) : T2 d M pc lo (vI b :: vI a :: st) h Q := fun hsp => T_irem hd hb (k hsp)
theorem T2_ldiv {a b : Int} (hd : DI M pc .ldiv 1 pc') (hb : b ≠ 0) (k : T2 d M pc' lo (vJ (w64 (a.tdiv b)) :: st) h Q) : T2 d M pc lo (vJ b :: vJ a :: st) h Q := fun hsp => T_ldiv hd hb (k hsp)
theorem T2_lrem {a b : Int} (hd : DI M pc .lrem 1 pc') (hb : b ≠ 0) (k : T2 d M pc' lo (vJ (a.tmod b) :: st) h Q) : T2 d M pc lo (vJ b :: vJ a :: st) h Q := fun hsp => T_lrem hd hb (k hsp)
theorem T2_iconst {x : Int} (hd : DI M pc (.iconst x) 1 pc') (hx : R32 x) (k : T2 d M pc' lo (vI x :: st) h Q) : T2 d M pc lo (st) h Q := fun hsp => T_iconst hd hx (k hsp)
theorem T2_bipush {x : Int} (hd : DI M pc (.bipush x) 2 pc') (hx : -128 ≤ x ∧ x < 128) (k : T2 d M pc' lo (vI x :: st) h Q) : T2 d M pc lo (st) h Q := fun hsp => T_bipush hd hx (k hsp)
theorem T2_sipush {x : Int} (hd : DI M pc (.sipush x) 3 pc') (hx : -32768 ≤ x ∧ x < 32768) (k : T2 d M pc' lo (vI x :: st) h Q) : T2 d M pc lo (st) h Q := fun hsp => T_sipush hd hx (k hsp)
theorem T2_lconst0  (hd : DI M pc (.lconst 0) 1 pc') (k : T2 d M pc' lo (vJ 0 :: st) h Q) : T2 d M pc lo (st) h Q := fun hsp => T_lconst0 hd (k hsp)
theorem T2_lconst1  (hd : DI M pc (.lconst 1) 1 pc') (k : T2 d M pc' lo (vJ 1 :: st) h Q) : T2 d M pc lo (st) h Q := fun hsp => T_lconst1 hd (k hsp)
theorem T2_ldc {i : Nat} {x : Int} (hd : DI M pc (.ldc i) 2 pc') (hw : Cond.constant M.1.cls i (Int32.ofInt x) ∈ gT) (hx : R32 x) (k : T2 d M pc' lo (vI x :: st) h Q) : T2 d M pc lo (st) h Q := fun hsp => T_ldc hd hw hx (k hsp)
theorem T2_ldcw {i : Nat} {x : Int} (hd : DI M pc (.ldc_w i) 3 pc') (hw : Cond.constant M.1.cls i (Int32.ofInt x) ∈ gT) (hx : R32 x) (k : T2 d M pc' lo (vI x :: st) h Q) : T2 d M pc lo (st) h Q := fun hsp => T_ldcw hd hw hx (k hsp)
theorem T2_ldc2 {i : Nat} {x : Int} (hd : DI M pc (.ldc2_w i) 3 pc') (hw : Cond.constantLong M.1.cls i (Int64.ofInt x) ∈ gT) (hx : R64 x) (k : T2 d M pc' lo (vJ x :: st) h Q) : T2 d M pc lo (st) h Q := fun hsp => T_ldc2 hd hw hx (k hsp)
theorem T2_ldc2d {i : Nat} {x : UInt64} (hd : DI M pc (.ldc2_w i) 3 pc') (hw : Cond.constantDouble M.1.cls i x ∈ gT) (k : T2 d M pc' lo (vD x :: st) h Q) : T2 d M pc lo (st) h Q := fun hsp => T_ldc2d hd hw (k hsp)
theorem T2_iload_n {k : Fin 4} {x : Int} (hd : DI M pc (.iload_n k) 1 pc') (hi : lo[(k : Nat)]? = some (some (vI x))) (k : T2 d M pc' lo (vI x :: st) h Q) : T2 d M pc lo (st) h Q := fun hsp => T_iload_n hd hi (k hsp)
theorem T2_iload {i : Nat} {x : Int} (hd : DI M pc (.iload i) 2 pc') (hi : lo[i]? = some (some (vI x))) (k : T2 d M pc' lo (vI x :: st) h Q) : T2 d M pc lo (st) h Q := fun hsp => T_iload hd hi (k hsp)
theorem T2_lload_n {k : Fin 4} {x : Int} (hd : DI M pc (.lload_n k) 1 pc') (hi : lo[(k : Nat)]? = some (some (vJ x))) (k : T2 d M pc' lo (vJ x :: st) h Q) : T2 d M pc lo (st) h Q := fun hsp => T_lload_n hd hi (k hsp)
theorem T2_lload {i : Nat} {x : Int} (hd : DI M pc (.lload i) 2 pc') (hi : lo[i]? = some (some (vJ x))) (k : T2 d M pc' lo (vJ x :: st) h Q) : T2 d M pc lo (st) h Q := fun hsp => T_lload hd hi (k hsp)
theorem T2_fload_n {k : Fin 4} {x : UInt32} (hd : DI M pc (.fload_n k) 1 pc') (hi : lo[(k : Nat)]? = some (some (vF x))) (k : T2 d M pc' lo (vF x :: st) h Q) : T2 d M pc lo (st) h Q := fun hsp => T_fload_n hd hi (k hsp)
theorem T2_fload {i : Nat} {x : UInt32} (hd : DI M pc (.fload i) 2 pc') (hi : lo[i]? = some (some (vF x))) (k : T2 d M pc' lo (vF x :: st) h Q) : T2 d M pc lo (st) h Q := fun hsp => T_fload hd hi (k hsp)
theorem T2_dload_n {k : Fin 4} {x : UInt64} (hd : DI M pc (.dload_n k) 1 pc') (hi : lo[(k : Nat)]? = some (some (vD x))) (k : T2 d M pc' lo (vD x :: st) h Q) : T2 d M pc lo (st) h Q := fun hsp => T_dload_n hd hi (k hsp)
theorem T2_dload {i : Nat} {x : UInt64} (hd : DI M pc (.dload i) 2 pc') (hi : lo[i]? = some (some (vD x))) (k : T2 d M pc' lo (vD x :: st) h Q) : T2 d M pc lo (st) h Q := fun hsp => T_dload hd hi (k hsp)
theorem T2_aload_n {k : Fin 4} {x : Nat} (hd : DI M pc (.aload_n k) 1 pc') (hi : lo[(k : Nat)]? = some (some (vR x))) (k : T2 d M pc' lo (vR x :: st) h Q) : T2 d M pc lo st h Q := fun hsp => T_aload_n hd hi (k hsp)
theorem T2_aload {i x : Nat} (hd : DI M pc (.aload i) 2 pc') (hi : lo[i]? = some (some (vR x))) (k : T2 d M pc' lo (vR x :: st) h Q) : T2 d M pc lo st h Q := fun hsp => T_aload hd hi (k hsp)
theorem T2_istore_n {k : Fin 4} {i : Nat} {x : Int} {lo' : List (Option PV)} (hd : DI M pc (.istore_n k) 1 pc') (hki : (k : Nat) = i) (hn : i < lo.length) (hl : lset1 lo i (vI x) = lo') (k : T2 d M pc' lo' st h Q) : T2 d M pc lo (vI x :: st) h Q := fun hsp => T_istore_n hd hki hn hl (k hsp)
theorem T2_istore {i : Nat} {x : Int} {lo' : List (Option PV)} (hd : DI M pc (.istore i) 2 pc') (hn : i < lo.length) (hl : lset1 lo i (vI x) = lo') (k : T2 d M pc' lo' st h Q) : T2 d M pc lo (vI x :: st) h Q := fun hsp => T_istore hd hn hl (k hsp)
theorem T2_lstore_n {k : Fin 4} {i : Nat} {x : Int} {lo' : List (Option PV)} (hd : DI M pc (.lstore_n k) 1 pc') (hki : (k : Nat) = i) (hn : i + 1 < lo.length) (hl : lset2 lo i (vJ x) = lo') (k : T2 d M pc' lo' st h Q) : T2 d M pc lo (vJ x :: st) h Q := fun hsp => T_lstore_n hd hki hn hl (k hsp)
theorem T2_lstore {i : Nat} {x : Int} {lo' : List (Option PV)} (hd : DI M pc (.lstore i) 2 pc') (hn : i + 1 < lo.length) (hl : lset2 lo i (vJ x) = lo') (k : T2 d M pc' lo' st h Q) : T2 d M pc lo (vJ x :: st) h Q := fun hsp => T_lstore hd hn hl (k hsp)
theorem T2_fstore_n {k : Fin 4} {i : Nat} {x : UInt32} {lo' : List (Option PV)} (hd : DI M pc (.fstore_n k) 1 pc') (hki : (k : Nat) = i) (hn : i < lo.length) (hl : lset1 lo i (vF x) = lo') (k : T2 d M pc' lo' st h Q) : T2 d M pc lo (vF x :: st) h Q := fun hsp => T_fstore_n hd hki hn hl (k hsp)
theorem T2_fstore {i : Nat} {x : UInt32} {lo' : List (Option PV)} (hd : DI M pc (.fstore i) 2 pc') (hn : i < lo.length) (hl : lset1 lo i (vF x) = lo') (k : T2 d M pc' lo' st h Q) : T2 d M pc lo (vF x :: st) h Q := fun hsp => T_fstore hd hn hl (k hsp)
theorem T2_dstore_n {k : Fin 4} {i : Nat} {x : UInt64} {lo' : List (Option PV)} (hd : DI M pc (.dstore_n k) 1 pc') (hki : (k : Nat) = i) (hn : i + 1 < lo.length) (hl : lset2 lo i (vD x) = lo') (k : T2 d M pc' lo' st h Q) : T2 d M pc lo (vD x :: st) h Q := fun hsp => T_dstore_n hd hki hn hl (k hsp)
theorem T2_dstore {i : Nat} {x : UInt64} {lo' : List (Option PV)} (hd : DI M pc (.dstore i) 2 pc') (hn : i + 1 < lo.length) (hl : lset2 lo i (vD x) = lo') (k : T2 d M pc' lo' st h Q) : T2 d M pc lo (vD x :: st) h Q := fun hsp => T_dstore hd hn hl (k hsp)
theorem T2_astore_n {k : Fin 4} {i x : Nat} {lo' : List (Option PV)} (hd : DI M pc (.astore_n k) 1 pc') (hki : (k : Nat) = i) (hn : i < lo.length) (hl : lset1 lo i (vR x) = lo') (k : T2 d M pc' lo' st h Q) : T2 d M pc lo (vR x :: st) h Q := fun hsp => T_astore_n hd hki hn hl (k hsp)
theorem T2_astore {i x : Nat} {lo' : List (Option PV)} (hd : DI M pc (.astore i) 2 pc') (hn : i < lo.length) (hl : lset1 lo i (vR x) = lo') (k : T2 d M pc' lo' st h Q) : T2 d M pc lo (vR x :: st) h Q := fun hsp => T_astore hd hn hl (k hsp)
theorem T2_iinc {i : Nat} {n : Int} {x : Int} {lo' : List (Option PV)} (hd : DI M pc (.iinc i n) 3 pc') (hi : lo[i]? = some (some (vI x))) (hl : lset1 lo i (vI (w32 (x + n))) = lo') (k : T2 d M pc' lo' st h Q) : T2 d M pc lo st h Q := fun hsp => T_iinc hd hi hl (k hsp)
theorem T2_dupI {a : Int} (hd : DI M pc .dup 1 pc') (k : T2 d M pc' lo (vI a :: vI a :: st) h Q) : T2 d M pc lo (vI a :: st) h Q := fun hsp => T_dupI hd (k hsp)
theorem T2_dup {v : PV} (hd : DI M pc .dup 1 pc') (hc : cat2 v = false) (k : T2 d M pc' lo (v :: v :: st) h Q) : T2 d M pc lo (v :: st) h Q := fun hsp => T_dup hd hc (k hsp)
theorem T2_dup2 {v w : PV} (hd : DI M pc .dup2 1 pc') (hc : cat2 v = false) (hc2 : cat2 w = false) (k : T2 d M pc' lo (v :: w :: v :: w :: st) h Q) : T2 d M pc lo (v :: w :: st) h Q := fun hsp => T_dup2 hd hc hc2 (k hsp)
theorem T2_pop2 {v : PV} (hd : DI M pc .pop2 1 pc') (hc : cat2 v = true) (k : T2 d M pc' lo st h Q) : T2 d M pc lo (v :: st) h Q := fun hsp => T_pop2 hd hc (k hsp)
theorem T2_goto {off : Int} {tgt : Nat} (hd : DI M pc (.goto off) 3 pc') (ht : (pc : Int) + off = tgt) (k : T2 d M tgt lo st h Q) : T2 d M pc lo st h Q := fun hsp => T_goto hd ht (k hsp)
theorem T2_icmp_eq {a b : Int} {off : Int} {tgt : Nat} (hd : DI M pc (.if_icmp .eq off) 3 pc') (ht : (pc : Int) + off = tgt) (kt : a = b → T2 d M tgt lo st h Q) (kf : a ≠ b → T2 d M pc' lo st h Q) : T2 d M pc lo (vI b :: vI a :: st) h Q := fun hsp => T_icmp_eq hd ht (fun z0 => kt z0 hsp) (fun z0 => kf z0 hsp)
theorem T2_if_eq {a : Int} {off : Int} {tgt : Nat} (hd : DI M pc (.ifCond .eq off) 3 pc') (ht : (pc : Int) + off = tgt) (kt : a = 0 → T2 d M tgt lo st h Q) (kf : a ≠ 0 → T2 d M pc' lo st h Q) : T2 d M pc lo (vI a :: st) h Q := fun hsp => T_if_eq hd ht (fun z0 => kt z0 hsp) (fun z0 => kf z0 hsp)
theorem T2_icmp_ne {a b : Int} {off : Int} {tgt : Nat} (hd : DI M pc (.if_icmp .ne off) 3 pc') (ht : (pc : Int) + off = tgt) (kt : a ≠ b → T2 d M tgt lo st h Q) (kf : a = b → T2 d M pc' lo st h Q) : T2 d M pc lo (vI b :: vI a :: st) h Q := fun hsp => T_icmp_ne hd ht (fun z0 => kt z0 hsp) (fun z0 => kf z0 hsp)
theorem T2_if_ne {a : Int} {off : Int} {tgt : Nat} (hd : DI M pc (.ifCond .ne off) 3 pc') (ht : (pc : Int) + off = tgt) (kt : a ≠ 0 → T2 d M tgt lo st h Q) (kf : a = 0 → T2 d M pc' lo st h Q) : T2 d M pc lo (vI a :: st) h Q := fun hsp => T_if_ne hd ht (fun z0 => kt z0 hsp) (fun z0 => kf z0 hsp)
theorem T2_icmp_lt {a b : Int} {off : Int} {tgt : Nat} (hd : DI M pc (.if_icmp .lt off) 3 pc') (ht : (pc : Int) + off = tgt) (kt : a < b → T2 d M tgt lo st h Q) (kf : b ≤ a → T2 d M pc' lo st h Q) : T2 d M pc lo (vI b :: vI a :: st) h Q := fun hsp => T_icmp_lt hd ht (fun z0 => kt z0 hsp) (fun z0 => kf z0 hsp)
theorem T2_if_lt {a : Int} {off : Int} {tgt : Nat} (hd : DI M pc (.ifCond .lt off) 3 pc') (ht : (pc : Int) + off = tgt) (kt : a < 0 → T2 d M tgt lo st h Q) (kf : 0 ≤ a → T2 d M pc' lo st h Q) : T2 d M pc lo (vI a :: st) h Q := fun hsp => T_if_lt hd ht (fun z0 => kt z0 hsp) (fun z0 => kf z0 hsp)
theorem T2_icmp_ge {a b : Int} {off : Int} {tgt : Nat} (hd : DI M pc (.if_icmp .ge off) 3 pc') (ht : (pc : Int) + off = tgt) (kt : b ≤ a → T2 d M tgt lo st h Q) (kf : a < b → T2 d M pc' lo st h Q) : T2 d M pc lo (vI b :: vI a :: st) h Q := fun hsp => T_icmp_ge hd ht (fun z0 => kt z0 hsp) (fun z0 => kf z0 hsp)
theorem T2_if_ge {a : Int} {off : Int} {tgt : Nat} (hd : DI M pc (.ifCond .ge off) 3 pc') (ht : (pc : Int) + off = tgt) (kt : 0 ≤ a → T2 d M tgt lo st h Q) (kf : a < 0 → T2 d M pc' lo st h Q) : T2 d M pc lo (vI a :: st) h Q := fun hsp => T_if_ge hd ht (fun z0 => kt z0 hsp) (fun z0 => kf z0 hsp)
theorem T2_icmp_gt {a b : Int} {off : Int} {tgt : Nat} (hd : DI M pc (.if_icmp .gt off) 3 pc') (ht : (pc : Int) + off = tgt) (kt : b < a → T2 d M tgt lo st h Q) (kf : a ≤ b → T2 d M pc' lo st h Q) : T2 d M pc lo (vI b :: vI a :: st) h Q := fun hsp => T_icmp_gt hd ht (fun z0 => kt z0 hsp) (fun z0 => kf z0 hsp)
theorem T2_if_gt {a : Int} {off : Int} {tgt : Nat} (hd : DI M pc (.ifCond .gt off) 3 pc') (ht : (pc : Int) + off = tgt) (kt : 0 < a → T2 d M tgt lo st h Q) (kf : a ≤ 0 → T2 d M pc' lo st h Q) : T2 d M pc lo (vI a :: st) h Q := fun hsp => T_if_gt hd ht (fun z0 => kt z0 hsp) (fun z0 => kf z0 hsp)
theorem T2_icmp_le {a b : Int} {off : Int} {tgt : Nat} (hd : DI M pc (.if_icmp .le off) 3 pc') (ht : (pc : Int) + off = tgt) (kt : a ≤ b → T2 d M tgt lo st h Q) (kf : b < a → T2 d M pc' lo st h Q) : T2 d M pc lo (vI b :: vI a :: st) h Q := fun hsp => T_icmp_le hd ht (fun z0 => kt z0 hsp) (fun z0 => kf z0 hsp)
theorem T2_if_le {a : Int} {off : Int} {tgt : Nat} (hd : DI M pc (.ifCond .le off) 3 pc') (ht : (pc : Int) + off = tgt) (kt : a ≤ 0 → T2 d M tgt lo st h Q) (kf : 0 < a → T2 d M pc' lo st h Q) : T2 d M pc lo (vI a :: st) h Q := fun hsp => T_if_le hd ht (fun z0 => kt z0 hsp) (fun z0 => kf z0 hsp)
theorem T2_lcmp {a b : Int} (hd : DI M pc .lcmp 1 pc') (k : T2 d M pc' lo (vI (lcmpv a b) :: st) h Q) : T2 d M pc lo (vJ b :: vJ a :: st) h Q := fun hsp => T_lcmp hd (k hsp)
theorem T2_table {x dflt low hi : Int} {offs : Array Int} {len : Nat} {n : Nat} {tg : Nat → Nat} (hd : DI M pc (.tableswitch dflt low hi offs) len pc') (hn : offs.size = n) (hhi : hi = low + n - 1) (hnn : 0 < n) (ht : ∀ j, j < n → offs[j]? = some ((tg j : Int) - pc)) {dt : Nat} (hdt : (pc : Int) + dflt = dt) (kin : ∀ j, j < n → x = low + j → T2 d M (tg j) lo st h Q) (kout : x < low ∨ low + n ≤ x → T2 d M dt lo st h Q) : T2 d M pc lo (vI x :: st) h Q := fun hsp => T_table hd hn hhi hnn ht hdt (fun y0 z0 z1 => kin y0 z0 z1 hsp) (fun z0 => kout z0 hsp)
theorem T2_acmp_ne {a b : Nat} {off : Int} {tgt : Nat} (hd : DI M pc (.if_acmp .ne off) 3 pc') (ht : (pc : Int) + off = tgt) (ha : 64 ≤ a) (hb : 64 ≤ b) (kt : a ≠ b → T2 d M tgt lo st h Q) (kf : a = b → T2 d M pc' lo st h Q) : T2 d M pc lo (vR b :: vR a :: st) h Q := fun hsp => T_acmp_ne hd ht ha hb (fun z0 => kt z0 hsp) (fun z0 => kf z0 hsp)
theorem T2_fadd {a b : UInt32} (hd : DI M pc .fadd 1 pc') (hn : vf_n32 (FP.fadd a b)) (k : T2 d M pc' lo (vF (FP.fadd a b) :: st) h Q) : T2 d M pc lo (vF b :: vF a :: st) h Q := fun hsp => T_fadd hd hn (k hsp)
theorem T2_fsub {a b : UInt32} (hd : DI M pc .fsub 1 pc') (hn : vf_n32 (FP.fsub a b)) (k : T2 d M pc' lo (vF (FP.fsub a b) :: st) h Q) : T2 d M pc lo (vF b :: vF a :: st) h Q := fun hsp => T_fsub hd hn (k hsp)
theorem T2_fmul {a b : UInt32} (hd : DI M pc .fmul 1 pc') (hn : vf_n32 (FP.fmul a b)) (k : T2 d M pc' lo (vF (FP.fmul a b) :: st) h Q) : T2 d M pc lo (vF b :: vF a :: st) h Q := fun hsp => T_fmul hd hn (k hsp)
theorem T2_fdiv {a b : UInt32} (hd : DI M pc .fdiv 1 pc') (hn : vf_n32 (FP.fdiv a b)) (k : T2 d M pc' lo (vF (FP.fdiv a b) :: st) h Q) : T2 d M pc lo (vF b :: vF a :: st) h Q := fun hsp => T_fdiv hd hn (k hsp)
theorem T2_dadd {a b : UInt64} (hd : DI M pc .dadd 1 pc') (hn : vf_n64 (FP.dadd a b)) (k : T2 d M pc' lo (vD (FP.dadd a b) :: st) h Q) : T2 d M pc lo (vD b :: vD a :: st) h Q := fun hsp => T_dadd hd hn (k hsp)
theorem T2_ddiv {a b : UInt64} (hd : DI M pc .ddiv 1 pc') (hn : vf_n64 (FP.ddiv a b)) (k : T2 d M pc' lo (vD (FP.ddiv a b) :: st) h Q) : T2 d M pc lo (vD b :: vD a :: st) h Q := fun hsp => T_ddiv hd hn (k hsp)
theorem T2_d2f {a : UInt64} (hd : DI M pc .d2f 1 pc') (hn : vf_n32 (FP.d2f a)) (k : T2 d M pc' lo (vF (FP.d2f a) :: st) h Q) : T2 d M pc lo (vD a :: st) h Q := fun hsp => T_d2f hd hn (k hsp)
theorem T2_i2d {a : Int} (hd : DI M pc .i2d 1 pc') (k : T2 d M pc' lo (vD (FP.i2d (Int32.ofInt a)) :: st) h Q) : T2 d M pc lo (vI a :: st) h Q := fun hsp => T_i2d hd (k hsp)
theorem T2_i2f {a : Int} (hd : DI M pc .i2f 1 pc') (k : T2 d M pc' lo (vF (FP.i2f (Int32.ofInt a)) :: st) h Q) : T2 d M pc lo (vI a :: st) h Q := fun hsp => T_i2f hd (k hsp)
theorem T2_f2i {a : UInt32} (hd : DI M pc .f2i 1 pc') (k : T2 d M pc' lo (vI (FP.f2i a).toInt :: st) h Q) : T2 d M pc lo (vF a :: st) h Q := fun hsp => T_f2i hd (k hsp)
theorem T2_fcmp {a b : UInt32} {op : CmpOp} (hd : DI M pc (.fcmp op) 1 pc') (k : T2 d M pc' lo (vI (Op.cmpValue (FP.fcmp a b) op).toInt :: st) h Q) : T2 d M pc lo (vF b :: vF a :: st) h Q := fun hsp => T_fcmp hd (k hsp)
theorem T2_ldcS {idx i : Nat} (hd : DI M pc (.ldc idx) 2 pc') (hi : i < 27) (hx : sIdx.getD i 0 = idx) (ho : sOwn i = M.1.cls) (k : T2 d M pc' lo (vR (1 + i) :: st) h Q) : T2 d M pc lo st h Q := fun hsp => T_ldcS hd hi hx ho (k hsp)
theorem T2_strV {idx i : Nat} (hd : DI M pc (.getfield idx) 3 pc') (hw : Cond.fieldLink M.1.cls idx "java/lang/String" "value" "[B" ∈ gT) (hi : i < 27) (k : T2 d M pc' lo (vR (33 + i) :: st) h Q) : T2 d M pc lo (vR (1 + i) :: st) h Q := fun hsp => T_strV hd hw hi (k hsp)
theorem T2_strC {idx i : Nat} (hd : DI M pc (.getfield idx) 3 pc') (hw : Cond.fieldLink M.1.cls idx "java/lang/String" "coder" "B" ∈ gT) (hi : i < 27) (k : T2 d M pc' lo (vI 0 :: st) h Q) : T2 d M pc lo (vR (1 + i) :: st) h Q := fun hsp => T_strC hd hw hi (k hsp)
theorem T2_strL {i : Nat} (hd : DI M pc .arraylength 1 pc') (hi : i < 27) (hs : sLen i < 10000) (k : T2 d M pc' lo (vI (sLen i) :: st) h Q) : T2 d M pc lo (vR (33 + i) :: st) h Q := fun hsp => T_strL hd hi hs (k hsp)
theorem T2_strB {i : Nat} {j : Int} (hd : DI M pc .baload 1 pc') (hi : i < 27) (h0 : 0 ≤ j) (h1 : j < sLen i) (hok : R32 (sChr i j.toNat)) (k : T2 d M pc' lo (vI (sChr i j.toNat) :: st) h Q) : T2 d M pc lo (vI j :: vR (33 + i) :: st) h Q := fun hsp => T_strB hd hi h0 h1 hok (k hsp)
theorem T2_cstr {idx : Nat} (hd : DI M pc (.getstatic idx) 3 pc') (hw : Cond.fieldLink M.1.cls idx "java/lang/String" "COMPACT_STRINGS" "Z" ∈ gT) (k : T2 d M pc' lo (vI 1 :: st) h Q) : T2 d M pc lo st h Q := fun hsp => T_cstr hd hw (k hsp)
theorem T2_pop {v : PV} (hd : DI M pc .pop 1 pc') (hc : cat2 v = false) (k : T2 d M pc' lo st h Q) : T2 d M pc lo (v :: st) h Q := fun hsp => T_pop hd hc (k hsp)
theorem T2_sioo {idx : Nat} (hd : DI M pc (.getstatic idx) 3 pc') (hw : Cond.fieldLink M.1.cls idx "jdk/internal/util/Preconditions" "SIOOBE_FORMATTER" "Ljava/util/function/BiFunction;" ∈ gT) (k : ∀ a, T2 d M pc' lo (vR a :: st) h Q) : T2 d M pc lo st h Q := fun hsp => T_sioo hd hw (fun a => k a hsp)
theorem T2_ret (hd : DI M pc .return_ 1 pc') (hr : M.2.2.2 = none) (hq : Q none h) : T2 d M pc lo [] h Q := fun hsp => T_ret hd hr ⟨hsp, hq⟩
theorem T2_iret {x : Int} (hd : DI M pc .ireturn 1 pc') (hr : M.2.2.2 = some .int) (hq : Q (some (vI x)) h) : T2 d M pc lo [vI x] h Q := fun hsp => T_iret hd hr ⟨hsp, hq⟩
theorem T2_zret {x : Int} (hd : DI M pc .ireturn 1 pc') (hr : M.2.2.2 = some .boolean) (hx : x = 0 ∨ x = 1) (hq : Q (some (vI x)) h) : T2 d M pc lo [vI x] h Q := fun hsp => T_zret hd hr hx ⟨hsp, hq⟩
theorem T2_zretG {x : Int} {ty : FieldType} (hd : DI M pc .ireturn 1 pc') (hr : M.2.2.2 = some ty) (hn : narrow ty (.int (Int32.ofInt x)) = .int (Int32.ofInt x)) (hq : Q (some (vI x)) h) : T2 d M pc lo [vI x] h Q := fun hsp => T_zretG hd hr hn ⟨hsp, hq⟩
theorem T2_lret {x : Int} (hd : DI M pc .lreturn 1 pc') (hr : M.2.2.2 = some .long) (hq : Q (some (vJ x)) h) : T2 d M pc lo [vJ x] h Q := fun hsp => T_lret hd hr ⟨hsp, hq⟩
theorem T2_fret {x : UInt32} (hd : DI M pc .freturn 1 pc') (hr : M.2.2.2 = some .float) (hq : Q (some (vF x)) h) : T2 d M pc lo [vF x] h Q := fun hsp => T_fret hd hr ⟨hsp, hq⟩
theorem T2_aret {a : Nat} {rt : FieldType} (hd : DI M pc .areturn 1 pc') (hr : M.2.2.2 = some rt) (hrt : (∃ n, rt = .object n) ∨ ∃ t, rt = .array t) (hq : Q (some (vR a)) h) : T2 d M pc lo [vR a] h Q := fun hsp => T_aret hd hr hrt ⟨hsp, hq⟩
theorem T2_rng (k : ((∀ q k, R32 (gi h q k)) ∧ ∀ q k, R64 (gj h q k)) → T2 d M pc lo st h Q) : T2 d M pc lo st h Q := fun hsp => T_rng (fun z => k z hsp)
theorem T2_rlo (k : (∀ (i : Nat) (v : PV), lo[i]? = some (some v) → okv v) → T2 d M pc lo st h Q) : T2 d M pc lo st h Q := fun hsp => T_rlo (fun z => k z hsp)
theorem T2_shp (k : shp h → T2 d M pc lo st h Q) : T2 d M pc lo st h Q := fun hsp => k hsp hsp
theorem T2_getI {idx c k p : Nat} (hd : DI M pc (.getfield idx) 3 pc') (hf : FL M idx c k) (hc : CLf p = c + 1) (hv : ∀ h' : PH, fv h' p c k = vI (gi h' p k)) (kk : T2 d M pc' lo (vI (gi h p k) :: st) h Q) : T2 d M pc lo (vR p :: st) h Q := fun hsp => T_get hd hf ((hsp.2.1 p).trans hc) (hv h) (kk hsp)
theorem T2_getJ {idx c k p : Nat} (hd : DI M pc (.getfield idx) 3 pc') (hf : FL M idx c k) (hc : CLf p = c + 1) (hv : ∀ h' : PH, fv h' p c k = vJ (gj h' p k)) (kk : T2 d M pc' lo (vJ (gj h p k) :: st) h Q) : T2 d M pc lo (vR p :: st) h Q := fun hsp => T_get hd hf ((hsp.2.1 p).trans hc) (hv h) (kk hsp)
/-- a reference that stays -/
theorem T2_getR {idx c k p off a b : Nat} (hd : DI M pc (.getfield idx) 3 pc') (hf : FL M idx c k) (hc : CLf p = c + 1) (hv : ∀ h' : PH, fv h' p c k = vR (gr h' p k)) (hr : (c, k, off, a, b) ∈ RFl) (kk : T2 d M pc' lo (vR (p + off) :: st) h Q) : T2 d M pc lo (vR p :: st) h Q := fun hsp => T_get hd hf ((hsp.2.1 p).trans hc) (by rw [hv h, hsp.2.2.2.1 _ hr p hc]) (kk hsp)
theorem T2_getText {idx : Nat} (hd : DI M pc (.getfield idx) 3 pc') (hf : FL M idx 5 0) (kk : T2 d M pc' lo (vR 65 :: st) h Q) : T2 d M pc lo (vR 218 :: st) h Q := fun hsp => T_get hd hf ((hsp.2.1 218).trans rfl) (by show vR (gr h 218 0) = _; rw [hsp.2.2.2.2.1]) (kk hsp)
theorem T2_getSP {idx p : Nat} (hd : DI M pc (.getfield idx) 3 pc') (hf : FL M idx 6 0) (hc : CLf p = 7) (kk : CLf (gr h p 0) = 4 → T2 d M pc' lo (vR (gr h p 0) :: st) h Q) : T2 d M pc lo (vR p :: st) h Q := fun hsp => T_get hd hf ((hsp.2.1 p).trans hc) rfl (kk (hsp.2.2.2.2.2.2.2.2.1 p hc).1 hsp)
theorem T2_getSS {idx p : Nat} (hd : DI M pc (.getfield idx) 3 pc') (hf : FL M idx 6 1) (hc : CLf p = 7) (kk : CLf (gr h p 1) = 9 → T2 d M pc' lo (vR (gr h p 1) :: st) h Q) : T2 d M pc lo (vR p :: st) h Q := fun hsp => T_get hd hf ((hsp.2.1 p).trans hc) rfl (kk (hsp.2.2.2.2.2.2.2.2.1 p hc).2 hsp)
theorem T2_getRP {idx : Nat} (hd : DI M pc (.getfield idx) 3 pc') (hf : FL M idx 5 6) (kk : CLf (gr h 218 6) = 4 → T2 d M pc' lo (vR (gr h 218 6) :: st) h Q) : T2 d M pc lo (vR 218 :: st) h Q := fun hsp => T_get hd hf ((hsp.2.1 218).trans rfl) rfl (kk hsp.2.2.2.2.2.2.2.2.2.1 hsp)
theorem T2_getRL {idx : Nat} (hd : DI M pc (.getfield idx) 3 pc') (hf : FL M idx 5 7) (kk : CLf (gr h 218 7) = 3 → T2 d M pc' lo (vR (gr h 218 7) :: st) h Q) : T2 d M pc lo (vR 218 :: st) h Q := fun hsp => T_get hd hf ((hsp.2.1 218).trans rfl) rfl (kk hsp.2.2.2.2.2.2.2.2.2.2 hsp)
theorem T2_putI {idx c k p : Nat} {x : Int} (hd : DI M pc (.putfield idx) 3 pc') (hf : FL M idx c k) (hfw : FW M c k) (hc : CLf p = c + 1) (hty : fty c k = .int) (kk : T2 d M pc' lo st (si h p k x) Q) : T2 d M pc lo (vI x :: vR p :: st) h Q := fun hsp => T_putI hd hf hfw ((hsp.2.1 p).trans hc) hty (kk hsp)
theorem T2_putZ {idx c k p : Nat} {x : Int} (hd : DI M pc (.putfield idx) 3 pc') (hf : FL M idx c k) (hfw : FW M c k) (hc : CLf p = c + 1) (hty : fty c k = .boolean) (hx : x = 0 ∨ x = 1) (kk : T2 d M pc' lo st (si h p k x) Q) : T2 d M pc lo (vI x :: vR p :: st) h Q := fun hsp => T_putZ hd hf hfw ((hsp.2.1 p).trans hc) hty hx (kk hsp)
theorem T2_putJ {idx c k p : Nat} {x : Int} (hd : DI M pc (.putfield idx) 3 pc') (hf : FL M idx c k) (hfw : FW M c k) (hc : CLf p = c + 1) (hty : fty c k = .long) (kk : T2 d M pc' lo st (sj h p k x) Q) : T2 d M pc lo (vJ x :: vR p :: st) h Q := fun hsp => T_putJ hd hf hfw ((hsp.2.1 p).trans hc) hty (kk hsp)
theorem sr_gr (h : PH) (p k x q j : Nat) : gr (sr h p k x) q j = if q = p ∧ j = k then x else gr h q j := rfl
theorem T2_putR {idx c k p x : Nat} (hd : DI M pc (.putfield idx) 3 pc') (hf : FL M idx c k) (hfw : FW M c k) (hc : CLf p = c + 1) (hty : (∃ C, fty c k = .object C) ∨ ∃ t, fty c k = .array t) (hm : (c = 6 ∧ k = 0 ∧ CLf x = 4) ∨ (c = 6 ∧ k = 1 ∧ CLf x = 9) ∨ (c = 5 ∧ p = 218 ∧ k = 6 ∧ CLf x = 4) ∨ (c = 5 ∧ p = 218 ∧ k = 7 ∧ CLf x = 3)) (kk : T2 d M pc' lo st (sr h p k x) Q) : T2 d M pc lo (vR x :: vR p :: st) h Q := by
  intro hsp
  refine T_putR hd hf hfw ((hsp.2.1 p).trans hc) hty (kk ?_)
  obtain ⟨a1, a2, a3, a4, a5, a6, a7, a8, a9, a10, a11⟩ := hsp
  have hrf : ∀ r ∈ RFl, ¬ (r.1 = c ∧ r.2.1 = k) := by
    rcases hm with ⟨rfl, rfl, -⟩ | ⟨rfl, rfl, -⟩ | ⟨rfl, -, rfl, -⟩ | ⟨rfl, -, rfl, -⟩ <;> decide
  have hne : p ≠ 66 ∧ p ≠ 76 ∧ p ≠ 118 := by
    refine ⟨?_, ?_, ?_⟩ <;> (rintro rfl; rcases hm with ⟨rfl, -⟩ | ⟨rfl, -⟩ | ⟨rfl, -⟩ | ⟨rfl, -⟩ <;> exact absurd hc (by decide))
  refine ⟨a1, a2, a3, fun r hr q hq => ?_, ?_, fun i hi => ?_, fun i hi => ?_, fun i hi => ?_, fun q hq => ?_, ?_, ?_⟩
  · rw [sr_gr, if_neg]
    · exact a4 r hr q hq
    · rintro ⟨rfl, hk⟩
      rw [hc] at hq
      exact hrf r hr ⟨by omega, hk⟩
  · rw [sr_gr, if_neg]
    · exact a5
    · rintro ⟨rfl, hk⟩
      rcases hm with ⟨rfl, -⟩ | ⟨rfl, -⟩ | ⟨-, -, rfl, -⟩ | ⟨-, -, rfl, -⟩
      · exact absurd hc (by decide)
      · exact absurd hc (by decide)
      · exact absurd hk (by decide)
      · exact absurd hk (by decide)
  · rw [sr_gr, if_neg (fun z => hne.1 z.1.symm)]; exact a6 i hi
  · rw [sr_gr, if_neg (fun z => hne.2.1 z.1.symm)]; exact a7 i hi
  · rw [sr_gr, if_neg (fun z => hne.2.2 z.1.symm)]; exact a8 i hi
  · rw [sr_gr, sr_gr]
    refine ⟨?_, ?_⟩
    · split
      · rename_i z
        obtain ⟨z1, z2⟩ := z
        rcases hm with ⟨-, -, hx⟩ | ⟨-, hk, -⟩ | ⟨-, hp, -⟩ | ⟨-, hp, -⟩
        · exact hx
        · rw [hk] at z2; exact absurd z2 (by decide)
        · rw [z1, hp] at hq; exact absurd hq (by decide)
        · rw [z1, hp] at hq; exact absurd hq (by decide)
      · exact (a9 q hq).1
    · split
      · rename_i z
        obtain ⟨z1, z2⟩ := z
        rcases hm with ⟨-, hk, -⟩ | ⟨-, -, hx⟩ | ⟨-, hp, -⟩ | ⟨-, hp, -⟩
        · rw [hk] at z2; exact absurd z2 (by decide)
        · exact hx
        · rw [z1, hp] at hq; exact absurd hq (by decide)
        · rw [z1, hp] at hq; exact absurd hq (by decide)
      · exact (a9 q hq).2
  · rw [sr_gr]
    split
    · rename_i z
      obtain ⟨z1, z2⟩ := z
      subst z1
      rcases hm with ⟨rfl, -⟩ | ⟨rfl, -⟩ | ⟨-, -, -, hx⟩ | ⟨-, -, hk, -⟩
      · exact absurd hc (by decide)
      · exact absurd hc (by decide)
      · exact hx
      · rw [hk] at z2; exact absurd z2 (by decide)
    · exact a10
  · rw [sr_gr]
    split
    · rename_i z
      obtain ⟨z1, z2⟩ := z
      subst z1
      rcases hm with ⟨rfl, -⟩ | ⟨rfl, -⟩ | ⟨-, -, hk, -⟩ | ⟨-, -, -, hx⟩
      · exact absurd hc (by decide)
      · exact absurd hc (by decide)
      · rw [hk] at z2; exact absurd z2 (by decide)
      · exact hx
    · exact a11
theorem lnf {h : PH} (hsp : shp h) {a n : Nat} (hn : LNf a = n) (h62 : a ≠ 62) : ln h a = n := (hsp.2.2.1 a h62).trans hn
theorem c62 {a c : Nat} (hc : CLf a = c) (h : c ≠ 30) : a ≠ 62 := by rintro rfl; exact h hc.symm
theorem T2_iaload {a n : Nat} {i : Int} (hd : DI M pc .iaload 1 pc') (hc : CLf a = 20) (hn : LNf a = n) (h0 : 0 ≤ i) (h1 : i < n) (k : T2 d M pc' lo (vI (gi h a i.toNat) :: st) h Q) : T2 d M pc lo (vI i :: vR a :: st) h Q := fun hsp => T_iaload hd ((hsp.2.1 a).trans hc) h0 (by rw [lnf hsp hn (c62 hc (by decide))]; exact h1) (k hsp)
theorem T2_baload {a n : Nat} {i : Int} (hd : DI M pc .baload 1 pc') (hc : CLf a = 21) (hn : LNf a = n) (h0 : 0 ≤ i) (h1 : i < n) (k : T2 d M pc' lo (vI (gi h a i.toNat) :: st) h Q) : T2 d M pc lo (vI i :: vR a :: st) h Q := fun hsp => T_baload hd ((hsp.2.1 a).trans hc) h0 (by rw [lnf hsp hn (c62 hc (by decide))]; exact h1) (k hsp)
theorem T2_zaload {a n : Nat} {i : Int} (hd : DI M pc .baload 1 pc') (hc : CLf a = 23) (hn : LNf a = n) (h0 : 0 ≤ i) (h1 : i < n) (k : T2 d M pc' lo (vI (gi h a i.toNat) :: st) h Q) : T2 d M pc lo (vI i :: vR a :: st) h Q := fun hsp => T_zaload hd ((hsp.2.1 a).trans hc) h0 (by rw [lnf hsp hn (c62 hc (by decide))]; exact h1) (k hsp)
theorem T2_laload {a n : Nat} {i : Int} (hd : DI M pc .laload 1 pc') (hc : CLf a = 22) (hn : LNf a = n) (h0 : 0 ≤ i) (h1 : i < n) (k : T2 d M pc' lo (vJ (gj h a i.toNat) :: st) h Q) : T2 d M pc lo (vI i :: vR a :: st) h Q := fun hsp => T_laload hd ((hsp.2.1 a).trans hc) h0 (by rw [lnf hsp hn (c62 hc (by decide))]; exact h1) (k hsp)
theorem T2_iastore {a n : Nat} {i x : Int} (hd : DI M pc .iastore 1 pc') (hc : CLf a = 20) (hn : LNf a = n) (h0 : 0 ≤ i) (h1 : i < n) (k : T2 d M pc' lo st (si h a i.toNat x) Q) : T2 d M pc lo (vI x :: vI i :: vR a :: st) h Q := fun hsp => T_iastore hd ((hsp.2.1 a).trans hc) h0 (by rw [lnf hsp hn (c62 hc (by decide))]; exact h1) (k hsp)
theorem T2_bastore {a n : Nat} {i x : Int} (hd : DI M pc .bastore 1 pc') (hc : CLf a = 21) (hn : LNf a = n) (h0 : 0 ≤ i) (h1 : i < n) (k : T2 d M pc' lo st (si h a i.toNat (i2b x)) Q) : T2 d M pc lo (vI x :: vI i :: vR a :: st) h Q := fun hsp => T_bastore hd ((hsp.2.1 a).trans hc) h0 (by rw [lnf hsp hn (c62 hc (by decide))]; exact h1) (k hsp)
theorem T2_zastore {a n : Nat} {i x : Int} (hd : DI M pc .bastore 1 pc') (hc : CLf a = 23) (hn : LNf a = n) (h0 : 0 ≤ i) (h1 : i < n) (k : T2 d M pc' lo st (si h a i.toNat (zb x)) Q) : T2 d M pc lo (vI x :: vI i :: vR a :: st) h Q := fun hsp => T_zastore hd ((hsp.2.1 a).trans hc) h0 (by rw [lnf hsp hn (c62 hc (by decide))]; exact h1) (k hsp)
theorem T2_lastore {a n : Nat} {i x : Int} (hd : DI M pc .lastore 1 pc') (hc : CLf a = 22) (hn : LNf a = n) (h0 : 0 ≤ i) (h1 : i < n) (k : T2 d M pc' lo st (sj h a i.toNat x) Q) : T2 d M pc lo (vJ x :: vI i :: vR a :: st) h Q := fun hsp => T_lastore hd ((hsp.2.1 a).trans hc) h0 (by rw [lnf hsp hn (c62 hc (by decide))]; exact h1) (k hsp)
theorem T2_aaldP {i : Int} (hd : DI M pc .aaload 1 pc') (h0 : 0 ≤ i) (h1 : i < 4) (k : T2 d M pc' lo (vR (130 + 20 * i.toNat) :: st) h Q) : T2 d M pc lo (vI i :: vR 66 :: st) h Q := fun hsp => T_aaloadP hd ((hsp.2.1 66).trans rfl) h0 (by rw [lnf hsp (show LNf 66 = 4 from rfl) (by decide)]; exact h1) (by rw [hsp.2.2.2.2.2.1 i.toNat (by omega)]; exact k hsp)
theorem T2_aaldG {i : Int} (hd : DI M pc .aaload 1 pc') (h0 : 0 ≤ i) (h1 : i < 10) (k : T2 d M pc' lo (vR (77 + 4 * i.toNat) :: st) h Q) : T2 d M pc lo (vI i :: vR 76 :: st) h Q := fun hsp => T_aaloadS hd ((hsp.2.1 76).trans rfl) h0 (by rw [lnf hsp (show LNf 76 = 10 from rfl) (by decide)]; exact h1) (by rw [hsp.2.2.2.2.2.2.1 i.toNat (by omega)]; exact k hsp)
theorem T2_aaldS {i : Int} (hd : DI M pc .aaload 1 pc') (h0 : 0 ≤ i) (h1 : i < 2) (k : T2 d M pc' lo (vR (210 + 4 * i.toNat) :: st) h Q) : T2 d M pc lo (vI i :: vR 118 :: st) h Q := fun hsp => T_aaloadS hd ((hsp.2.1 118).trans rfl) h0 (by rw [lnf hsp (show LNf 118 = 2 from rfl) (by decide)]; exact h1) (by rw [hsp.2.2.2.2.2.2.2.1 i.toNat (by omega)]; exact k hsp)
theorem T2_alen {a n c : Nat} (hd : DI M pc .arraylength 1 pc') (hc : CLf a = c) (hc1 : 20 ≤ c) (hc2 : c < 26) (hn : LNf a = n) (hn2 : n < 2147483648) (k : T2 d M pc' lo (vI n :: st) h Q) : T2 d M pc lo (vR a :: st) h Q := by
  intro hsp
  have e := lnf hsp hn (c62 hc (by omega))
  refine T_alen hd (by rw [hsp.2.1 a, hc]; exact hc1) (by rw [hsp.2.1 a, hc]; exact hc2) (by rw [e]; exact hn2) ?_
  rw [e]; exact k hsp
theorem T2_vI {idx n b c : Nat} {N : MD} {as : List PV} {r : vw_C} (hd : DI M pc (.invokevirtual idx) 3 pc') (hl : Cond.methodLink M.1.cls idx N.1 ∈ gT) (hN : MOK N n) (hI : IOK N) (hb : CLf b = c + 1) (hr : vwCl[c]? = some r) (hrc : N.1.cls = r.1) (hn : as.length = n) (hw : wst st ≤ 8) (hs : stk = as.reverse ++ vR b :: st)
    (hc : C2 d N (vR b :: as) h (onI fun x h1 => T2 (d + 1) M pc' lo (vI x :: st) h1 Q)) : T2 (d + 1) M pc lo stk h Q := fun hsp =>
  T_vI hd hl hN hI ((hsp.2.1 b).trans hb) hr hrc hn hw hs ((hc hsp).mono (fun r h1 _ z => match r, z with
    | some (.inl x), z => fun hx => z.2 hx z.1))
theorem T2_vJ {idx n b c : Nat} {N : MD} {as : List PV} {r : vw_C} (hd : DI M pc (.invokevirtual idx) 3 pc') (hl : Cond.methodLink M.1.cls idx N.1 ∈ gT) (hN : MOK N n) (hI : IOK N) (hb : CLf b = c + 1) (hr : vwCl[c]? = some r) (hrc : N.1.cls = r.1) (hn : as.length = n) (hw : wst st ≤ 8) (hs : stk = as.reverse ++ vR b :: st)
    (hc : C2 d N (vR b :: as) h (onJ fun x h1 => T2 (d + 1) M pc' lo (vJ x :: st) h1 Q)) : T2 (d + 1) M pc lo stk h Q := fun hsp =>
  T_vJ hd hl hN hI ((hsp.2.1 b).trans hb) hr hrc hn hw hs ((hc hsp).mono (fun r h1 _ z => match r, z with
    | some (.inr (.inl x)), z => fun hx => z.2 hx z.1))
theorem T2_vR {idx n b c : Nat} {N : MD} {as : List PV} {r : vw_C} (hd : DI M pc (.invokevirtual idx) 3 pc') (hl : Cond.methodLink M.1.cls idx N.1 ∈ gT) (hN : MOK N n) (hI : IOK N) (hb : CLf b = c + 1) (hr : vwCl[c]? = some r) (hrc : N.1.cls = r.1) (hn : as.length = n) (hw : wst st ≤ 8) (hs : stk = as.reverse ++ vR b :: st)
    (hc : C2 d N (vR b :: as) h (onR fun x h1 => T2 (d + 1) M pc' lo (vR x :: st) h1 Q)) : T2 (d + 1) M pc lo stk h Q := fun hsp =>
  T_vR hd hl hN hI ((hsp.2.1 b).trans hb) hr hrc hn hw hs ((hc hsp).mono (fun r h1 _ z => match r, z with
    | some (.inr (.inr (.inl x))), z => z.2 z.1))
theorem T2_vV {idx n b c : Nat} {N : MD} {as : List PV} {r : vw_C} (hd : DI M pc (.invokevirtual idx) 3 pc') (hl : Cond.methodLink M.1.cls idx N.1 ∈ gT) (hN : MOK N n) (hI : IOK N) (hb : CLf b = c + 1) (hr : vwCl[c]? = some r) (hrc : N.1.cls = r.1) (hn : as.length = n) (hw : wst st ≤ 8) (hs : stk = as.reverse ++ vR b :: st)
    (hc : C2 d N (vR b :: as) h (onV fun h1 => T2 (d + 1) M pc' lo st h1 Q)) : T2 (d + 1) M pc lo stk h Q := fun hsp =>
  T_vV hd hl hN hI ((hsp.2.1 b).trans hb) hr hrc hn hw hs ((hc hsp).mono (fun r h1 _ z => ⟨z.2.1, z.2.2 z.1⟩))
theorem T2_vIs {idx n i : Nat} {N : MD} {as : List PV} (hd : DI M pc (.invokevirtual idx) 3 pc') (hl : Cond.methodLink M.1.cls idx N.1 ∈ gT) (hN : MOK N n) (hI : IOK N) (hi : i < 27) (hrc : N.1.cls = "java/lang/String") (hn : as.length = n) (hw : wst st ≤ 8) (hs : stk = as.reverse ++ vR (1 + i) :: st)
    (hc : C2 d N (vR (1 + i) :: as) h (onI fun x h1 => T2 (d + 1) M pc' lo (vI x :: st) h1 Q)) : T2 (d + 1) M pc lo stk h Q := fun hsp =>
  T_vIs hd hl hN hI hi hrc hn hw hs ((hc hsp).mono (fun r h1 _ z => match r, z with
    | some (.inl x), z => fun hx => z.2 hx z.1))
theorem T2_sI {idx n : Nat} {N : MD} {as : List PV} (hd : DI M pc (.invokestatic idx) 3 pc') (hl : Cond.methodLink M.1.cls idx N.1 ∈ gT) (hN : MOK N n) (hI : Cond.static N.1 ∈ gT) (hn : as.length = n) (hw : wst st ≤ 8) (hs : stk = as.reverse ++ st)
    (hc : C2 d N as h (onI fun x h1 => T2 (d + 1) M pc' lo (vI x :: st) h1 Q)) : T2 (d + 1) M pc lo stk h Q := fun hsp =>
  T_sI hd hl hN hI hn hw hs ((hc hsp).mono (fun r h1 _ z => match r, z with
    | some (.inl x), z => fun hx => z.2 hx z.1))
theorem T2_sJ {idx n : Nat} {N : MD} {as : List PV} (hd : DI M pc (.invokestatic idx) 3 pc') (hl : Cond.methodLink M.1.cls idx N.1 ∈ gT) (hN : MOK N n) (hI : Cond.static N.1 ∈ gT) (hn : as.length = n) (hw : wst st ≤ 8) (hs : stk = as.reverse ++ st)
    (hc : C2 d N as h (onJ fun x h1 => T2 (d + 1) M pc' lo (vJ x :: st) h1 Q)) : T2 (d + 1) M pc lo stk h Q := fun hsp =>
  T_sJ hd hl hN hI hn hw hs ((hc hsp).mono (fun r h1 _ z => match r, z with
    | some (.inr (.inl x)), z => fun hx => z.2 hx z.1))
theorem T2_sF {idx n : Nat} {N : MD} {as : List PV} (hd : DI M pc (.invokestatic idx) 3 pc') (hl : Cond.methodLink M.1.cls idx N.1 ∈ gT) (hN : MOK N n) (hI : Cond.static N.1 ∈ gT) (hn : as.length = n) (hw : wst st ≤ 8) (hs : stk = as.reverse ++ st)
    (hc : C2 d N as h (onF fun x h1 => T2 (d + 1) M pc' lo (vF x :: st) h1 Q)) : T2 (d + 1) M pc lo stk h Q := fun hsp =>
  T_sF hd hl hN hI hn hw hs ((hc hsp).mono (fun r h1 _ z => match r, z with
    | some (.inr (.inr (.inr (.inl x)))), z => z.2 z.1))
theorem T2_sV {idx n : Nat} {N : MD} {as : List PV} (hd : DI M pc (.invokestatic idx) 3 pc') (hl : Cond.methodLink M.1.cls idx N.1 ∈ gT) (hN : MOK N n) (hI : Cond.static N.1 ∈ gT) (hn : as.length = n) (hw : wst st ≤ 8) (hs : stk = as.reverse ++ st)
    (hc : C2 d N as h (onV fun h1 => T2 (d + 1) M pc' lo st h1 Q)) : T2 (d + 1) M pc lo stk h Q := fun hsp =>
  T_sV hd hl hN hI hn hw hs ((hc hsp).mono (fun r h1 _ z => ⟨z.2.1, z.2.2 z.1⟩))
end
end
