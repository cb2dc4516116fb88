section
-- ===== PART A: goes FIRST, ahead of the names: the tables' words, and 'selects' of the private methods out of them =====
/-- a private method of a class that the tables say can be made, by its rows of tables_1 -/
def lw_okq (q : MethodName × Nat) : Prop := (q.1.cls ≠ "java/lang/invoke/MethodHandle" ∧ q.1.cls ≠ "java/lang/invoke/VarHandle") ∧ Cond.instantiable q.1.cls q.2 ∈ tables_1 ∧ Cond.privateMethod q.1 ∈ tables_1 ∧ Cond.instanceMethod q.1 ∈ tables_1
theorem lw_p0 : lw_okq (⟨"BrotliWords$Packer", "choose", "(II)V"⟩, 18) := ⟨⟨by decide +kernel, by decide +kernel⟩, List.mem_of_getElem? (i := 288) (by decide +kernel), List.mem_of_getElem? (i := 573) (by decide +kernel), List.mem_of_getElem? (i := 574) (by decide +kernel)⟩
theorem lw_p1 : lw_okq (⟨"BrotliWords$Finder", "hash", "(I)I"⟩, 12) := ⟨⟨by decide +kernel, by decide +kernel⟩, List.mem_of_getElem? (i := 335) (by decide +kernel), List.mem_of_getElem? (i := 592) (by decide +kernel), List.mem_of_getElem? (i := 593) (by decide +kernel)⟩
theorem lw_p2 : lw_okq (⟨"BrotliWords$Finder", "findCopy", "(I)V"⟩, 12) := ⟨⟨by decide +kernel, by decide +kernel⟩, List.mem_of_getElem? (i := 335) (by decide +kernel), List.mem_of_getElem? (i := 597) (by decide +kernel), List.mem_of_getElem? (i := 598) (by decide +kernel)⟩
theorem lw_p3 : lw_okq (⟨"BrotliWords$Finder", "sameBytes", "(III)I"⟩, 12) := ⟨⟨by decide +kernel, by decide +kernel⟩, List.mem_of_getElem? (i := 335) (by decide +kernel), List.mem_of_getElem? (i := 601) (by decide +kernel), List.mem_of_getElem? (i := 602) (by decide +kernel)⟩
theorem lw_p4 : lw_okq (⟨"BrotliWords$Finder", "findWord", "(IIZ)V"⟩, 12) := ⟨⟨by decide +kernel, by decide +kernel⟩, List.mem_of_getElem? (i := 335) (by decide +kernel), List.mem_of_getElem? (i := 605) (by decide +kernel), List.mem_of_getElem? (i := 606) (by decide +kernel)⟩
theorem lw_p5 : lw_okq (⟨"BrotliWords$Finder", "isCore", "(III)Z"⟩, 12) := ⟨⟨by decide +kernel, by decide +kernel⟩, List.mem_of_getElem? (i := 335) (by decide +kernel), List.mem_of_getElem? (i := 610) (by decide +kernel), List.mem_of_getElem? (i := 611) (by decide +kernel)⟩
theorem lw_p6 : lw_okq (⟨"BrotliWords$Finder", "offer", "(IIII)V"⟩, 12) := ⟨⟨by decide +kernel, by decide +kernel⟩, List.mem_of_getElem? (i := 335) (by decide +kernel), List.mem_of_getElem? (i := 614) (by decide +kernel), List.mem_of_getElem? (i := 615) (by decide +kernel)⟩
theorem lw_p7 : lw_okq (⟨"BrotliWords$Finder", "offerBehind", "(III)V"⟩, 12) := ⟨⟨by decide +kernel, by decide +kernel⟩, List.mem_of_getElem? (i := 335) (by decide +kernel), List.mem_of_getElem? (i := 618) (by decide +kernel), List.mem_of_getElem? (i := 619) (by decide +kernel)⟩
theorem lw_p8 : lw_okq (⟨"BrotliWords$Packer", "longest", "(I)I"⟩, 18) := ⟨⟨by decide +kernel, by decide +kernel⟩, List.mem_of_getElem? (i := 288) (by decide +kernel), List.mem_of_getElem? (i := 622) (by decide +kernel), List.mem_of_getElem? (i := 623) (by decide +kernel)⟩
theorem lw_p9 : lw_okq (⟨"BrotliWords$Packer", "makesAt", "(I)I"⟩, 18) := ⟨⟨by decide +kernel, by decide +kernel⟩, List.mem_of_getElem? (i := 288) (by decide +kernel), List.mem_of_getElem? (i := 626) (by decide +kernel), List.mem_of_getElem? (i := 627) (by decide +kernel)⟩
theorem lw_p10 : lw_okq (⟨"BrotliWords$Packer", "takeCheapest", "(I)V"⟩, 18) := ⟨⟨by decide +kernel, by decide +kernel⟩, List.mem_of_getElem? (i := 288) (by decide +kernel), List.mem_of_getElem? (i := 631) (by decide +kernel), List.mem_of_getElem? (i := 632) (by decide +kernel)⟩
theorem lw_p11 : lw_okq (⟨"BrotliWords$Packer", "listCommands", "(I)V"⟩, 18) := ⟨⟨by decide +kernel, by decide +kernel⟩, List.mem_of_getElem? (i := 288) (by decide +kernel), List.mem_of_getElem? (i := 635) (by decide +kernel), List.mem_of_getElem? (i := 636) (by decide +kernel)⟩
theorem lw_p12 : lw_okq (⟨"BrotliWords$Packer", "addCommand", "(IIII)V"⟩, 18) := ⟨⟨by decide +kernel, by decide +kernel⟩, List.mem_of_getElem? (i := 288) (by decide +kernel), List.mem_of_getElem? (i := 642) (by decide +kernel), List.mem_of_getElem? (i := 643) (by decide +kernel)⟩
theorem lw_p13 : lw_okq (⟨"BrotliWords$Packer", "distanceSign", "(I)I"⟩, 18) := ⟨⟨by decide +kernel, by decide +kernel⟩, List.mem_of_getElem? (i := 288) (by decide +kernel), List.mem_of_getElem? (i := 646) (by decide +kernel), List.mem_of_getElem? (i := 647) (by decide +kernel)⟩
theorem lw_p14 : lw_okq (⟨"BrotliWords$Packer", "addWord", "(II)V"⟩, 18) := ⟨⟨by decide +kernel, by decide +kernel⟩, List.mem_of_getElem? (i := 288) (by decide +kernel), List.mem_of_getElem? (i := 670) (by decide +kernel), List.mem_of_getElem? (i := 671) (by decide +kernel)⟩
theorem lw_p15 : lw_okq (⟨"BrotliWords$Packer", "tellPart", "(I)V"⟩, 18) := ⟨⟨by decide +kernel, by decide +kernel⟩, List.mem_of_getElem? (i := 288) (by decide +kernel), List.mem_of_getElem? (i := 678) (by decide +kernel), List.mem_of_getElem? (i := 679) (by decide +kernel)⟩
def lw_privs_1 : List (MethodName × Nat) := [(⟨"BrotliWords$Packer", "choose", "(II)V"⟩, 18), (⟨"BrotliWords$Finder", "hash", "(I)I"⟩, 12), (⟨"BrotliWords$Finder", "findCopy", "(I)V"⟩, 12), (⟨"BrotliWords$Finder", "sameBytes", "(III)I"⟩, 12), (⟨"BrotliWords$Finder", "findWord", "(IIZ)V"⟩, 12), (⟨"BrotliWords$Finder", "isCore", "(III)Z"⟩, 12), (⟨"BrotliWords$Finder", "offer", "(IIII)V"⟩, 12), (⟨"BrotliWords$Finder", "offerBehind", "(III)V"⟩, 12), (⟨"BrotliWords$Packer", "longest", "(I)I"⟩, 18), (⟨"BrotliWords$Packer", "makesAt", "(I)I"⟩, 18), (⟨"BrotliWords$Packer", "takeCheapest", "(I)V"⟩, 18), (⟨"BrotliWords$Packer", "listCommands", "(I)V"⟩, 18), (⟨"BrotliWords$Packer", "addCommand", "(IIII)V"⟩, 18), (⟨"BrotliWords$Packer", "distanceSign", "(I)I"⟩, 18), (⟨"BrotliWords$Packer", "addWord", "(II)V"⟩, 18), (⟨"BrotliWords$Packer", "tellPart", "(I)V"⟩, 18)]
theorem lw_r1 : ∀ q ∈ lw_privs_1, lw_okq q := List.forall_mem_cons.mpr ⟨lw_p0, List.forall_mem_cons.mpr ⟨lw_p1, List.forall_mem_cons.mpr ⟨lw_p2, List.forall_mem_cons.mpr ⟨lw_p3, List.forall_mem_cons.mpr ⟨lw_p4, List.forall_mem_cons.mpr ⟨lw_p5, List.forall_mem_cons.mpr ⟨lw_p6, List.forall_mem_cons.mpr ⟨lw_p7, List.forall_mem_cons.mpr ⟨lw_p8, List.forall_mem_cons.mpr ⟨lw_p9, List.forall_mem_cons.mpr ⟨lw_p10, List.forall_mem_cons.mpr ⟨lw_p11, List.forall_mem_cons.mpr ⟨lw_p12, List.forall_mem_cons.mpr ⟨lw_p13, List.forall_mem_cons.mpr ⟨lw_p14, List.forall_mem_cons.mpr ⟨lw_p15, fun _ h => absurd h List.not_mem_nil⟩⟩⟩⟩⟩⟩⟩⟩⟩⟩⟩⟩⟩⟩⟩⟩
theorem lw_p16 : lw_okq (⟨"BrotliWords$CodeWriter", "settle", "(I)V"⟩, 11) := ⟨⟨by decide +kernel, by decide +kernel⟩, List.mem_of_getElem? (i := 294) (by decide +kernel), List.mem_of_getElem? (i := 696) (by decide +kernel), List.mem_of_getElem? (i := 697) (by decide +kernel)⟩
theorem lw_p17 : lw_okq (⟨"BrotliWords$CodeWriter", "sortOrder", "()V"⟩, 11) := ⟨⟨by decide +kernel, by decide +kernel⟩, List.mem_of_getElem? (i := 294) (by decide +kernel), List.mem_of_getElem? (i := 700) (by decide +kernel), List.mem_of_getElem? (i := 701) (by decide +kernel)⟩
theorem lw_p18 : lw_okq (⟨"BrotliWords$CodeWriter", "comesLater", "(II)Z"⟩, 11) := ⟨⟨by decide +kernel, by decide +kernel⟩, List.mem_of_getElem? (i := 294) (by decide +kernel), List.mem_of_getElem? (i := 704) (by decide +kernel), List.mem_of_getElem? (i := 705) (by decide +kernel)⟩
theorem lw_p19 : lw_okq (⟨"BrotliWords$CodeWriter", "joinAll", "()V"⟩, 11) := ⟨⟨by decide +kernel, by decide +kernel⟩, List.mem_of_getElem? (i := 294) (by decide +kernel), List.mem_of_getElem? (i := 708) (by decide +kernel), List.mem_of_getElem? (i := 709) (by decide +kernel)⟩
theorem lw_p20 : lw_okq (⟨"BrotliWords$CodeWriter", "depthOfAll", "()I"⟩, 11) := ⟨⟨by decide +kernel, by decide +kernel⟩, List.mem_of_getElem? (i := 294) (by decide +kernel), List.mem_of_getElem? (i := 712) (by decide +kernel), List.mem_of_getElem? (i := 713) (by decide +kernel)⟩
theorem lw_p21 : lw_okq (⟨"BrotliWords$CodeWriter", "makeCodes", "()V"⟩, 11) := ⟨⟨by decide +kernel, by decide +kernel⟩, List.mem_of_getElem? (i := 294) (by decide +kernel), List.mem_of_getElem? (i := 716) (by decide +kernel), List.mem_of_getElem? (i := 717) (by decide +kernel)⟩
theorem lw_p22 : lw_okq (⟨"BrotliWords$CodeWriter", "tellShort", "(LBrotliWords$Bytes;)V"⟩, 11) := ⟨⟨by decide +kernel, by decide +kernel⟩, List.mem_of_getElem? (i := 294) (by decide +kernel), List.mem_of_getElem? (i := 723) (by decide +kernel), List.mem_of_getElem? (i := 724) (by decide +kernel)⟩
theorem lw_p23 : lw_okq (⟨"BrotliWords$CodeWriter", "listMarks", "()V"⟩, 11) := ⟨⟨by decide +kernel, by decide +kernel⟩, List.mem_of_getElem? (i := 294) (by decide +kernel), List.mem_of_getElem? (i := 729) (by decide +kernel), List.mem_of_getElem? (i := 730) (by decide +kernel)⟩
theorem lw_p24 : lw_okq (⟨"BrotliWords$CodeWriter", "zerosFrom", "(I)I"⟩, 11) := ⟨⟨by decide +kernel, by decide +kernel⟩, List.mem_of_getElem? (i := 294) (by decide +kernel), List.mem_of_getElem? (i := 733) (by decide +kernel), List.mem_of_getElem? (i := 734) (by decide +kernel)⟩
theorem lw_p25 : lw_okq (⟨"BrotliWords$CodeWriter", "tellAsMarks", "(LBrotliWords$Bytes;)V"⟩, 11) := ⟨⟨by decide +kernel, by decide +kernel⟩, List.mem_of_getElem? (i := 294) (by decide +kernel), List.mem_of_getElem? (i := 739) (by decide +kernel), List.mem_of_getElem? (i := 740) (by decide +kernel)⟩
theorem lw_p26 : lw_okq (⟨"BrotliWords$Packer", "writeCommands", "()V"⟩, 18) := ⟨⟨by decide +kernel, by decide +kernel⟩, List.mem_of_getElem? (i := 288) (by decide +kernel), List.mem_of_getElem? (i := 753) (by decide +kernel), List.mem_of_getElem? (i := 754) (by decide +kernel)⟩
theorem lw_p27 : lw_okq (⟨"BrotliWords$Packer", "writeRaw", "(I)V"⟩, 18) := ⟨⟨by decide +kernel, by decide +kernel⟩, List.mem_of_getElem? (i := 288) (by decide +kernel), List.mem_of_getElem? (i := 762) (by decide +kernel), List.mem_of_getElem? (i := 763) (by decide +kernel)⟩
theorem lw_p28 : lw_okq (⟨"BrotliWords$Opener", "begin", "()V"⟩, 16) := ⟨⟨by decide +kernel, by decide +kernel⟩, List.mem_of_getElem? (i := 73) (by decide +kernel), List.mem_of_getElem? (i := 779) (by decide +kernel), List.mem_of_getElem? (i := 780) (by decide +kernel)⟩
theorem lw_p29 : lw_okq (⟨"BrotliWords$Opener", "readSpan", "()V"⟩, 16) := ⟨⟨by decide +kernel, by decide +kernel⟩, List.mem_of_getElem? (i := 73) (by decide +kernel), List.mem_of_getElem? (i := 789) (by decide +kernel), List.mem_of_getElem? (i := 790) (by decide +kernel)⟩
theorem lw_p30 : lw_okq (⟨"BrotliWords$Opener", "shortSpan", "(I)I"⟩, 16) := ⟨⟨by decide +kernel, by decide +kernel⟩, List.mem_of_getElem? (i := 73) (by decide +kernel), List.mem_of_getElem? (i := 802) (by decide +kernel), List.mem_of_getElem? (i := 803) (by decide +kernel)⟩
theorem lw_p31 : lw_okq (⟨"BrotliWords$Opener", "readPart", "()I"⟩, 16) := ⟨⟨by decide +kernel, by decide +kernel⟩, List.mem_of_getElem? (i := 73) (by decide +kernel), List.mem_of_getElem? (i := 810) (by decide +kernel), List.mem_of_getElem? (i := 811) (by decide +kernel)⟩
def lw_privs_2 : List (MethodName × Nat) := [(⟨"BrotliWords$CodeWriter", "settle", "(I)V"⟩, 11), (⟨"BrotliWords$CodeWriter", "sortOrder", "()V"⟩, 11), (⟨"BrotliWords$CodeWriter", "comesLater", "(II)Z"⟩, 11), (⟨"BrotliWords$CodeWriter", "joinAll", "()V"⟩, 11), (⟨"BrotliWords$CodeWriter", "depthOfAll", "()I"⟩, 11), (⟨"BrotliWords$CodeWriter", "makeCodes", "()V"⟩, 11), (⟨"BrotliWords$CodeWriter", "tellShort", "(LBrotliWords$Bytes;)V"⟩, 11), (⟨"BrotliWords$CodeWriter", "listMarks", "()V"⟩, 11), (⟨"BrotliWords$CodeWriter", "zerosFrom", "(I)I"⟩, 11), (⟨"BrotliWords$CodeWriter", "tellAsMarks", "(LBrotliWords$Bytes;)V"⟩, 11), (⟨"BrotliWords$Packer", "writeCommands", "()V"⟩, 18), (⟨"BrotliWords$Packer", "writeRaw", "(I)V"⟩, 18), (⟨"BrotliWords$Opener", "begin", "()V"⟩, 16), (⟨"BrotliWords$Opener", "readSpan", "()V"⟩, 16), (⟨"BrotliWords$Opener", "shortSpan", "(I)I"⟩, 16), (⟨"BrotliWords$Opener", "readPart", "()I"⟩, 16)]
theorem lw_r2 : ∀ q ∈ lw_privs_2, lw_okq q := List.forall_mem_cons.mpr ⟨lw_p16, List.forall_mem_cons.mpr ⟨lw_p17, List.forall_mem_cons.mpr ⟨lw_p18, List.forall_mem_cons.mpr ⟨lw_p19, List.forall_mem_cons.mpr ⟨lw_p20, List.forall_mem_cons.mpr ⟨lw_p21, List.forall_mem_cons.mpr ⟨lw_p22, List.forall_mem_cons.mpr ⟨lw_p23, List.forall_mem_cons.mpr ⟨lw_p24, List.forall_mem_cons.mpr ⟨lw_p25, List.forall_mem_cons.mpr ⟨lw_p26, List.forall_mem_cons.mpr ⟨lw_p27, List.forall_mem_cons.mpr ⟨lw_p28, List.forall_mem_cons.mpr ⟨lw_p29, List.forall_mem_cons.mpr ⟨lw_p30, List.forall_mem_cons.mpr ⟨lw_p31, fun _ h => absurd h List.not_mem_nil⟩⟩⟩⟩⟩⟩⟩⟩⟩⟩⟩⟩⟩⟩⟩⟩
theorem lw_p32 : lw_okq (⟨"BrotliWords$Opener", "addPart", "(II)V"⟩, 16) := ⟨⟨by decide +kernel, by decide +kernel⟩, List.mem_of_getElem? (i := 73) (by decide +kernel), List.mem_of_getElem? (i := 814) (by decide +kernel), List.mem_of_getElem? (i := 815) (by decide +kernel)⟩
theorem lw_p33 : lw_okq (⟨"BrotliWords$Opener", "note", "(II)V"⟩, 16) := ⟨⟨by decide +kernel, by decide +kernel⟩, List.mem_of_getElem? (i := 73) (by decide +kernel), List.mem_of_getElem? (i := 818) (by decide +kernel), List.mem_of_getElem? (i := 819) (by decide +kernel)⟩
theorem lw_p34 : lw_okq (⟨"BrotliWords$Opener", "passOver", "(Z)V"⟩, 16) := ⟨⟨by decide +kernel, by decide +kernel⟩, List.mem_of_getElem? (i := 73) (by decide +kernel), List.mem_of_getElem? (i := 822) (by decide +kernel), List.mem_of_getElem? (i := 823) (by decide +kernel)⟩
theorem lw_p35 : lw_okq (⟨"BrotliWords$Opener", "readSize", "(I)I"⟩, 16) := ⟨⟨by decide +kernel, by decide +kernel⟩, List.mem_of_getElem? (i := 73) (by decide +kernel), List.mem_of_getElem? (i := 836) (by decide +kernel), List.mem_of_getElem? (i := 837) (by decide +kernel)⟩
theorem lw_p36 : lw_okq (⟨"BrotliWords$Opener", "readKinds", "(I)V"⟩, 16) := ⟨⟨by decide +kernel, by decide +kernel⟩, List.mem_of_getElem? (i := 73) (by decide +kernel), List.mem_of_getElem? (i := 847) (by decide +kernel), List.mem_of_getElem? (i := 848) (by decide +kernel)⟩
theorem lw_p37 : lw_okq (⟨"BrotliWords$Opener", "readHowMany", "()I"⟩, 16) := ⟨⟨by decide +kernel, by decide +kernel⟩, List.mem_of_getElem? (i := 73) (by decide +kernel), List.mem_of_getElem? (i := 851) (by decide +kernel), List.mem_of_getElem? (i := 852) (by decide +kernel)⟩
theorem lw_p38 : lw_okq (⟨"BrotliWords$CodeReader", "readShort", "(LBrotliWords$Code;I)V"⟩, 8) := ⟨⟨by decide +kernel, by decide +kernel⟩, List.mem_of_getElem? (i := 171) (by decide +kernel), List.mem_of_getElem? (i := 865) (by decide +kernel), List.mem_of_getElem? (i := 866) (by decide +kernel)⟩
theorem lw_p39 : lw_okq (⟨"BrotliWords$CodeReader", "isNew", "(II)Z"⟩, 8) := ⟨⟨by decide +kernel, by decide +kernel⟩, List.mem_of_getElem? (i := 171) (by decide +kernel), List.mem_of_getElem? (i := 871) (by decide +kernel), List.mem_of_getElem? (i := 872) (by decide +kernel)⟩
theorem lw_p40 : lw_okq (⟨"BrotliWords$CodeReader", "readMarks", "(I)V"⟩, 8) := ⟨⟨by decide +kernel, by decide +kernel⟩, List.mem_of_getElem? (i := 171) (by decide +kernel), List.mem_of_getElem? (i := 890) (by decide +kernel), List.mem_of_getElem? (i := 891) (by decide +kernel)⟩
theorem lw_p41 : lw_okq (⟨"BrotliWords$CodeReader", "markLength", "()I"⟩, 8) := ⟨⟨by decide +kernel, by decide +kernel⟩, List.mem_of_getElem? (i := 171) (by decide +kernel), List.mem_of_getElem? (i := 894) (by decide +kernel), List.mem_of_getElem? (i := 895) (by decide +kernel)⟩
theorem lw_p42 : lw_okq (⟨"BrotliWords$CodeReader", "buildMarks", "(I)V"⟩, 8) := ⟨⟨by decide +kernel, by decide +kernel⟩, List.mem_of_getElem? (i := 171) (by decide +kernel), List.mem_of_getElem? (i := 899) (by decide +kernel), List.mem_of_getElem? (i := 900) (by decide +kernel)⟩
theorem lw_p43 : lw_okq (⟨"BrotliWords$CodeReader", "readLengths", "(I)V"⟩, 8) := ⟨⟨by decide +kernel, by decide +kernel⟩, List.mem_of_getElem? (i := 171) (by decide +kernel), List.mem_of_getElem? (i := 903) (by decide +kernel), List.mem_of_getElem? (i := 904) (by decide +kernel)⟩
theorem lw_p44 : lw_okq (⟨"BrotliWords$CodeReader", "come", "(III)V"⟩, 8) := ⟨⟨by decide +kernel, by decide +kernel⟩, List.mem_of_getElem? (i := 171) (by decide +kernel), List.mem_of_getElem? (i := 912) (by decide +kernel), List.mem_of_getElem? (i := 913) (by decide +kernel)⟩
theorem lw_p45 : lw_okq (⟨"BrotliWords$Opener", "readForm", "()V"⟩, 16) := ⟨⟨by decide +kernel, by decide +kernel⟩, List.mem_of_getElem? (i := 73) (by decide +kernel), List.mem_of_getElem? (i := 926) (by decide +kernel), List.mem_of_getElem? (i := 927) (by decide +kernel)⟩
theorem lw_p46 : lw_okq (⟨"BrotliWords$Opener", "readTrees", "(I)V"⟩, 16) := ⟨⟨by decide +kernel, by decide +kernel⟩, List.mem_of_getElem? (i := 73) (by decide +kernel), List.mem_of_getElem? (i := 930) (by decide +kernel), List.mem_of_getElem? (i := 931) (by decide +kernel)⟩
theorem lw_p47 : lw_okq (⟨"BrotliWords$Opener", "fillMap", "([III)V"⟩, 16) := ⟨⟨by decide +kernel, by decide +kernel⟩, List.mem_of_getElem? (i := 73) (by decide +kernel), List.mem_of_getElem? (i := 944) (by decide +kernel), List.mem_of_getElem? (i := 945) (by decide +kernel)⟩
def lw_privs_3 : List (MethodName × Nat) := [(⟨"BrotliWords$Opener", "addPart", "(II)V"⟩, 16), (⟨"BrotliWords$Opener", "note", "(II)V"⟩, 16), (⟨"BrotliWords$Opener", "passOver", "(Z)V"⟩, 16), (⟨"BrotliWords$Opener", "readSize", "(I)I"⟩, 16), (⟨"BrotliWords$Opener", "readKinds", "(I)V"⟩, 16), (⟨"BrotliWords$Opener", "readHowMany", "()I"⟩, 16), (⟨"BrotliWords$CodeReader", "readShort", "(LBrotliWords$Code;I)V"⟩, 8), (⟨"BrotliWords$CodeReader", "isNew", "(II)Z"⟩, 8), (⟨"BrotliWords$CodeReader", "readMarks", "(I)V"⟩, 8), (⟨"BrotliWords$CodeReader", "markLength", "()I"⟩, 8), (⟨"BrotliWords$CodeReader", "buildMarks", "(I)V"⟩, 8), (⟨"BrotliWords$CodeReader", "readLengths", "(I)V"⟩, 8), (⟨"BrotliWords$CodeReader", "come", "(III)V"⟩, 8), (⟨"BrotliWords$Opener", "readForm", "()V"⟩, 16), (⟨"BrotliWords$Opener", "readTrees", "(I)V"⟩, 16), (⟨"BrotliWords$Opener", "fillMap", "([III)V"⟩, 16)]
theorem lw_r3 : ∀ q ∈ lw_privs_3, lw_okq q := List.forall_mem_cons.mpr ⟨lw_p32, List.forall_mem_cons.mpr ⟨lw_p33, List.forall_mem_cons.mpr ⟨lw_p34, List.forall_mem_cons.mpr ⟨lw_p35, List.forall_mem_cons.mpr ⟨lw_p36, List.forall_mem_cons.mpr ⟨lw_p37, List.forall_mem_cons.mpr ⟨lw_p38, List.forall_mem_cons.mpr ⟨lw_p39, List.forall_mem_cons.mpr ⟨lw_p40, List.forall_mem_cons.mpr ⟨lw_p41, List.forall_mem_cons.mpr ⟨lw_p42, List.forall_mem_cons.mpr ⟨lw_p43, List.forall_mem_cons.mpr ⟨lw_p44, List.forall_mem_cons.mpr ⟨lw_p45, List.forall_mem_cons.mpr ⟨lw_p46, List.forall_mem_cons.mpr ⟨lw_p47, fun _ h => absurd h List.not_mem_nil⟩⟩⟩⟩⟩⟩⟩⟩⟩⟩⟩⟩⟩⟩⟩⟩
theorem lw_p48 : lw_okq (⟨"BrotliWords$Opener", "undoFront", "([II)V"⟩, 16) := ⟨⟨by decide +kernel, by decide +kernel⟩, List.mem_of_getElem? (i := 73) (by decide +kernel), List.mem_of_getElem? (i := 950) (by decide +kernel), List.mem_of_getElem? (i := 951) (by decide +kernel)⟩
theorem lw_p49 : lw_okq (⟨"BrotliWords$Opener", "readCodes", "()V"⟩, 16) := ⟨⟨by decide +kernel, by decide +kernel⟩, List.mem_of_getElem? (i := 73) (by decide +kernel), List.mem_of_getElem? (i := 954) (by decide +kernel), List.mem_of_getElem? (i := 955) (by decide +kernel)⟩
theorem lw_p50 : lw_okq (⟨"BrotliWords$Opener", "makeCommand", "()V"⟩, 16) := ⟨⟨by decide +kernel, by decide +kernel⟩, List.mem_of_getElem? (i := 73) (by decide +kernel), List.mem_of_getElem? (i := 972) (by decide +kernel), List.mem_of_getElem? (i := 973) (by decide +kernel)⟩
theorem lw_p51 : lw_okq (⟨"BrotliWords$Blocks", "changeTo", "(I)V"⟩, 6) := ⟨⟨by decide +kernel, by decide +kernel⟩, List.mem_of_getElem? (i := 203) (by decide +kernel), List.mem_of_getElem? (i := 980) (by decide +kernel), List.mem_of_getElem? (i := 981) (by decide +kernel)⟩
theorem lw_p52 : lw_okq (⟨"BrotliWords$Opener", "noteOneMore", "(I)V"⟩, 16) := ⟨⟨by decide +kernel, by decide +kernel⟩, List.mem_of_getElem? (i := 73) (by decide +kernel), List.mem_of_getElem? (i := 992) (by decide +kernel), List.mem_of_getElem? (i := 993) (by decide +kernel)⟩
theorem lw_p53 : lw_okq (⟨"BrotliWords$Opener", "makeLiteral", "()V"⟩, 16) := ⟨⟨by decide +kernel, by decide +kernel⟩, List.mem_of_getElem? (i := 73) (by decide +kernel), List.mem_of_getElem? (i := 996) (by decide +kernel), List.mem_of_getElem? (i := 997) (by decide +kernel)⟩
theorem lw_p54 : lw_okq (⟨"BrotliWords$Opener", "readDistanceSign", "(I)I"⟩, 16) := ⟨⟨by decide +kernel, by decide +kernel⟩, List.mem_of_getElem? (i := 73) (by decide +kernel), List.mem_of_getElem? (i := 1020) (by decide +kernel), List.mem_of_getElem? (i := 1021) (by decide +kernel)⟩
theorem lw_p55 : lw_okq (⟨"BrotliWords$Opener", "readDistance", "(I)I"⟩, 16) := ⟨⟨by decide +kernel, by decide +kernel⟩, List.mem_of_getElem? (i := 73) (by decide +kernel), List.mem_of_getElem? (i := 1024) (by decide +kernel), List.mem_of_getElem? (i := 1025) (by decide +kernel)⟩
theorem lw_p56 : lw_okq (⟨"BrotliWords$Opener", "makeCopy", "(III)V"⟩, 16) := ⟨⟨by decide +kernel, by decide +kernel⟩, List.mem_of_getElem? (i := 73) (by decide +kernel), List.mem_of_getElem? (i := 1028) (by decide +kernel), List.mem_of_getElem? (i := 1029) (by decide +kernel)⟩
theorem lw_p57 : lw_okq (⟨"BrotliWords$Opener", "makeWord", "(II)V"⟩, 16) := ⟨⟨by decide +kernel, by decide +kernel⟩, List.mem_of_getElem? (i := 73) (by decide +kernel), List.mem_of_getElem? (i := 1033) (by decide +kernel), List.mem_of_getElem? (i := 1034) (by decide +kernel)⟩
theorem lw_p58 : lw_okq (⟨"BrotliWords$Opener", "finish", "()I"⟩, 16) := ⟨⟨by decide +kernel, by decide +kernel⟩, List.mem_of_getElem? (i := 73) (by decide +kernel), List.mem_of_getElem? (i := 1041) (by decide +kernel), List.mem_of_getElem? (i := 1042) (by decide +kernel)⟩
theorem lw_p59 : lw_okq (⟨"java/lang/Throwable", "fillInStackTrace", "(I)Ljava/lang/Throwable;"⟩, 6) := ⟨⟨by decide +kernel, by decide +kernel⟩, List.mem_of_getElem? (i := 1134) (by decide +kernel), List.mem_of_getElem? (i := 1132) (by decide +kernel), List.mem_of_getElem? (i := 1133) (by decide +kernel)⟩
theorem lw_p60 : lw_okq (⟨"BrotliWordsModel", "ringAtFirst", "()V"⟩, 65) := ⟨⟨by decide +kernel, by decide +kernel⟩, List.mem_of_getElem? (i := 1092) (by decide +kernel), List.mem_of_getElem? (i := 1165) (by decide +kernel), List.mem_of_getElem? (i := 1166) (by decide +kernel)⟩
theorem lw_p61 : lw_okq (⟨"BrotliWordsModel", "emptyTape", "()V"⟩, 65) := ⟨⟨by decide +kernel, by decide +kernel⟩, List.mem_of_getElem? (i := 1092) (by decide +kernel), List.mem_of_getElem? (i := 1392) (by decide +kernel), List.mem_of_getElem? (i := 1393) (by decide +kernel)⟩
theorem lw_p62 : lw_okq (⟨"BrotliWordsModel", "wordAt", "(II)I"⟩, 65) := ⟨⟨by decide +kernel, by decide +kernel⟩, List.mem_of_getElem? (i := 1092) (by decide +kernel), List.mem_of_getElem? (i := 1402) (by decide +kernel), List.mem_of_getElem? (i := 1403) (by decide +kernel)⟩
theorem lw_p63 : lw_okq (⟨"BrotliWordsModel", "allWords", "()I"⟩, 65) := ⟨⟨by decide +kernel, by decide +kernel⟩, List.mem_of_getElem? (i := 1092) (by decide +kernel), List.mem_of_getElem? (i := 1410) (by decide +kernel), List.mem_of_getElem? (i := 1411) (by decide +kernel)⟩
def lw_privs_4 : List (MethodName × Nat) := [(⟨"BrotliWords$Opener", "undoFront", "([II)V"⟩, 16), (⟨"BrotliWords$Opener", "readCodes", "()V"⟩, 16), (⟨"BrotliWords$Opener", "makeCommand", "()V"⟩, 16), (⟨"BrotliWords$Blocks", "changeTo", "(I)V"⟩, 6), (⟨"BrotliWords$Opener", "noteOneMore", "(I)V"⟩, 16), (⟨"BrotliWords$Opener", "makeLiteral", "()V"⟩, 16), (⟨"BrotliWords$Opener", "readDistanceSign", "(I)I"⟩, 16), (⟨"BrotliWords$Opener", "readDistance", "(I)I"⟩, 16), (⟨"BrotliWords$Opener", "makeCopy", "(III)V"⟩, 16), (⟨"BrotliWords$Opener", "makeWord", "(II)V"⟩, 16), (⟨"BrotliWords$Opener", "finish", "()I"⟩, 16), (⟨"java/lang/Throwable", "fillInStackTrace", "(I)Ljava/lang/Throwable;"⟩, 6), (⟨"BrotliWordsModel", "ringAtFirst", "()V"⟩, 65), (⟨"BrotliWordsModel", "emptyTape", "()V"⟩, 65), (⟨"BrotliWordsModel", "wordAt", "(II)I"⟩, 65), (⟨"BrotliWordsModel", "allWords", "()I"⟩, 65)]
theorem lw_r4 : ∀ q ∈ lw_privs_4, lw_okq q := List.forall_mem_cons.mpr ⟨lw_p48, List.forall_mem_cons.mpr ⟨lw_p49, List.forall_mem_cons.mpr ⟨lw_p50, List.forall_mem_cons.mpr ⟨lw_p51, List.forall_mem_cons.mpr ⟨lw_p52, List.forall_mem_cons.mpr ⟨lw_p53, List.forall_mem_cons.mpr ⟨lw_p54, List.forall_mem_cons.mpr ⟨lw_p55, List.forall_mem_cons.mpr ⟨lw_p56, List.forall_mem_cons.mpr ⟨lw_p57, List.forall_mem_cons.mpr ⟨lw_p58, List.forall_mem_cons.mpr ⟨lw_p59, List.forall_mem_cons.mpr ⟨lw_p60, List.forall_mem_cons.mpr ⟨lw_p61, List.forall_mem_cons.mpr ⟨lw_p62, List.forall_mem_cons.mpr ⟨lw_p63, fun _ h => absurd h List.not_mem_nil⟩⟩⟩⟩⟩⟩⟩⟩⟩⟩⟩⟩⟩⟩⟩⟩
theorem lw_p64 : lw_okq (⟨"BrotliWordsModel", "digestNow", "()I"⟩, 65) := ⟨⟨by decide +kernel, by decide +kernel⟩, List.mem_of_getElem? (i := 1092) (by decide +kernel), List.mem_of_getElem? (i := 1418) (by decide +kernel), List.mem_of_getElem? (i := 1419) (by decide +kernel)⟩
theorem lw_p65 : lw_okq (⟨"BrotliWordsModel", "change", "(III)V"⟩, 65) := ⟨⟨by decide +kernel, by decide +kernel⟩, List.mem_of_getElem? (i := 1092) (by decide +kernel), List.mem_of_getElem? (i := 1428) (by decide +kernel), List.mem_of_getElem? (i := 1429) (by decide +kernel)⟩
theorem lw_p66 : lw_okq (⟨"BrotliWordsModel", "putChanged", "(I)V"⟩, 65) := ⟨⟨by decide +kernel, by decide +kernel⟩, List.mem_of_getElem? (i := 1092) (by decide +kernel), List.mem_of_getElem? (i := 1432) (by decide +kernel), List.mem_of_getElem? (i := 1433) (by decide +kernel)⟩
theorem lw_p67 : lw_okq (⟨"BrotliWordsModel", "readAll", "()V"⟩, 65) := ⟨⟨by decide +kernel, by decide +kernel⟩, List.mem_of_getElem? (i := 1092) (by decide +kernel), List.mem_of_getElem? (i := 1440) (by decide +kernel), List.mem_of_getElem? (i := 1441) (by decide +kernel)⟩
theorem lw_p68 : lw_okq (⟨"BrotliWordsModel", "number", "(I)I"⟩, 65) := ⟨⟨by decide +kernel, by decide +kernel⟩, List.mem_of_getElem? (i := 1092) (by decide +kernel), List.mem_of_getElem? (i := 1444) (by decide +kernel), List.mem_of_getElem? (i := 1445) (by decide +kernel)⟩
theorem lw_p69 : lw_okq (⟨"BrotliWordsModel", "bit", "()I"⟩, 65) := ⟨⟨by decide +kernel, by decide +kernel⟩, List.mem_of_getElem? (i := 1092) (by decide +kernel), List.mem_of_getElem? (i := 1448) (by decide +kernel), List.mem_of_getElem? (i := 1449) (by decide +kernel)⟩
theorem lw_p70 : lw_okq (⟨"BrotliWordsModel", "fail", "(I)V"⟩, 65) := ⟨⟨by decide +kernel, by decide +kernel⟩, List.mem_of_getElem? (i := 1092) (by decide +kernel), List.mem_of_getElem? (i := 1452) (by decide +kernel), List.mem_of_getElem? (i := 1453) (by decide +kernel)⟩
theorem lw_p71 : lw_okq (⟨"BrotliWordsModel", "readSpan", "()V"⟩, 65) := ⟨⟨by decide +kernel, by decide +kernel⟩, List.mem_of_getElem? (i := 1092) (by decide +kernel), List.mem_of_getElem? (i := 1456) (by decide +kernel), List.mem_of_getElem? (i := 1457) (by decide +kernel)⟩
theorem lw_p72 : lw_okq (⟨"BrotliWordsModel", "newPart", "(II)V"⟩, 65) := ⟨⟨by decide +kernel, by decide +kernel⟩, List.mem_of_getElem? (i := 1092) (by decide +kernel), List.mem_of_getElem? (i := 1460) (by decide +kernel), List.mem_of_getElem? (i := 1461) (by decide +kernel)⟩
theorem lw_p73 : lw_okq (⟨"BrotliWordsModel", "tell", "(II)V"⟩, 65) := ⟨⟨by decide +kernel, by decide +kernel⟩, List.mem_of_getElem? (i := 1092) (by decide +kernel), List.mem_of_getElem? (i := 1464) (by decide +kernel), List.mem_of_getElem? (i := 1465) (by decide +kernel)⟩
theorem lw_p74 : lw_okq (⟨"BrotliWordsModel", "passOver", "(Z)V"⟩, 65) := ⟨⟨by decide +kernel, by decide +kernel⟩, List.mem_of_getElem? (i := 1092) (by decide +kernel), List.mem_of_getElem? (i := 1469) (by decide +kernel), List.mem_of_getElem? (i := 1470) (by decide +kernel)⟩
theorem lw_p75 : lw_okq (⟨"BrotliWordsModel", "toByte", "()V"⟩, 65) := ⟨⟨by decide +kernel, by decide +kernel⟩, List.mem_of_getElem? (i := 1092) (by decide +kernel), List.mem_of_getElem? (i := 1473) (by decide +kernel), List.mem_of_getElem? (i := 1474) (by decide +kernel)⟩
theorem lw_p76 : lw_okq (⟨"BrotliWordsModel", "readLength", "(I)I"⟩, 65) := ⟨⟨by decide +kernel, by decide +kernel⟩, List.mem_of_getElem? (i := 1092) (by decide +kernel), List.mem_of_getElem? (i := 1477) (by decide +kernel), List.mem_of_getElem? (i := 1478) (by decide +kernel)⟩
theorem lw_p77 : lw_okq (⟨"BrotliWordsModel", "readPart", "(ZI)V"⟩, 65) := ⟨⟨by decide +kernel, by decide +kernel⟩, List.mem_of_getElem? (i := 1092) (by decide +kernel), List.mem_of_getElem? (i := 1481) (by decide +kernel), List.mem_of_getElem? (i := 1482) (by decide +kernel)⟩
theorem lw_p78 : lw_okq (⟨"BrotliWordsModel", "putOut", "(I)V"⟩, 65) := ⟨⟨by decide +kernel, by decide +kernel⟩, List.mem_of_getElem? (i := 1092) (by decide +kernel), List.mem_of_getElem? (i := 1485) (by decide +kernel), List.mem_of_getElem? (i := 1486) (by decide +kernel)⟩
theorem lw_p79 : lw_okq (⟨"BrotliWordsModel", "readCoded", "(I)V"⟩, 65) := ⟨⟨by decide +kernel, by decide +kernel⟩, List.mem_of_getElem? (i := 1092) (by decide +kernel), List.mem_of_getElem? (i := 1489) (by decide +kernel), List.mem_of_getElem? (i := 1490) (by decide +kernel)⟩
def lw_privs_5 : List (MethodName × Nat) := [(⟨"BrotliWordsModel", "digestNow", "()I"⟩, 65), (⟨"BrotliWordsModel", "change", "(III)V"⟩, 65), (⟨"BrotliWordsModel", "putChanged", "(I)V"⟩, 65), (⟨"BrotliWordsModel", "readAll", "()V"⟩, 65), (⟨"BrotliWordsModel", "number", "(I)I"⟩, 65), (⟨"BrotliWordsModel", "bit", "()I"⟩, 65), (⟨"BrotliWordsModel", "fail", "(I)V"⟩, 65), (⟨"BrotliWordsModel", "readSpan", "()V"⟩, 65), (⟨"BrotliWordsModel", "newPart", "(II)V"⟩, 65), (⟨"BrotliWordsModel", "tell", "(II)V"⟩, 65), (⟨"BrotliWordsModel", "passOver", "(Z)V"⟩, 65), (⟨"BrotliWordsModel", "toByte", "()V"⟩, 65), (⟨"BrotliWordsModel", "readLength", "(I)I"⟩, 65), (⟨"BrotliWordsModel", "readPart", "(ZI)V"⟩, 65), (⟨"BrotliWordsModel", "putOut", "(I)V"⟩, 65), (⟨"BrotliWordsModel", "readCoded", "(I)V"⟩, 65)]
theorem lw_r5 : ∀ q ∈ lw_privs_5, lw_okq q := List.forall_mem_cons.mpr ⟨lw_p64, List.forall_mem_cons.mpr ⟨lw_p65, List.forall_mem_cons.mpr ⟨lw_p66, List.forall_mem_cons.mpr ⟨lw_p67, List.forall_mem_cons.mpr ⟨lw_p68, List.forall_mem_cons.mpr ⟨lw_p69, List.forall_mem_cons.mpr ⟨lw_p70, List.forall_mem_cons.mpr ⟨lw_p71, List.forall_mem_cons.mpr ⟨lw_p72, List.forall_mem_cons.mpr ⟨lw_p73, List.forall_mem_cons.mpr ⟨lw_p74, List.forall_mem_cons.mpr ⟨lw_p75, List.forall_mem_cons.mpr ⟨lw_p76, List.forall_mem_cons.mpr ⟨lw_p77, List.forall_mem_cons.mpr ⟨lw_p78, List.forall_mem_cons.mpr ⟨lw_p79, fun _ h => absurd h List.not_mem_nil⟩⟩⟩⟩⟩⟩⟩⟩⟩⟩⟩⟩⟩⟩⟩⟩
theorem lw_p80 : lw_okq (⟨"BrotliWordsModel", "readHeads", "()V"⟩, 65) := ⟨⟨by decide +kernel, by decide +kernel⟩, List.mem_of_getElem? (i := 1092) (by decide +kernel), List.mem_of_getElem? (i := 1493) (by decide +kernel), List.mem_of_getElem? (i := 1494) (by decide +kernel)⟩
theorem lw_p81 : lw_okq (⟨"BrotliWordsModel", "noMaps", "()V"⟩, 65) := ⟨⟨by decide +kernel, by decide +kernel⟩, List.mem_of_getElem? (i := 1092) (by decide +kernel), List.mem_of_getElem? (i := 1497) (by decide +kernel), List.mem_of_getElem? (i := 1498) (by decide +kernel)⟩
theorem lw_p82 : lw_okq (⟨"BrotliWordsModel", "readKinds", "(I)V"⟩, 65) := ⟨⟨by decide +kernel, by decide +kernel⟩, List.mem_of_getElem? (i := 1092) (by decide +kernel), List.mem_of_getElem? (i := 1501) (by decide +kernel), List.mem_of_getElem? (i := 1502) (by decide +kernel)⟩
theorem lw_p83 : lw_okq (⟨"BrotliWordsModel", "howMany", "()I"⟩, 65) := ⟨⟨by decide +kernel, by decide +kernel⟩, List.mem_of_getElem? (i := 1092) (by decide +kernel), List.mem_of_getElem? (i := 1505) (by decide +kernel), List.mem_of_getElem? (i := 1506) (by decide +kernel)⟩
theorem lw_p84 : lw_okq (⟨"BrotliWordsModel", "readCode", "(II)V"⟩, 65) := ⟨⟨by decide +kernel, by decide +kernel⟩, List.mem_of_getElem? (i := 1092) (by decide +kernel), List.mem_of_getElem? (i := 1509) (by decide +kernel), List.mem_of_getElem? (i := 1510) (by decide +kernel)⟩
theorem lw_p85 : lw_okq (⟨"BrotliWordsModel", "noLengths", "(II)V"⟩, 65) := ⟨⟨by decide +kernel, by decide +kernel⟩, List.mem_of_getElem? (i := 1092) (by decide +kernel), List.mem_of_getElem? (i := 1513) (by decide +kernel), List.mem_of_getElem? (i := 1514) (by decide +kernel)⟩
theorem lw_p86 : lw_okq (⟨"BrotliWordsModel", "readFew", "(II)V"⟩, 65) := ⟨⟨by decide +kernel, by decide +kernel⟩, List.mem_of_getElem? (i := 1092) (by decide +kernel), List.mem_of_getElem? (i := 1517) (by decide +kernel), List.mem_of_getElem? (i := 1518) (by decide +kernel)⟩
theorem lw_p87 : lw_okq (⟨"BrotliWordsModel", "readMarks", "(I)V"⟩, 65) := ⟨⟨by decide +kernel, by decide +kernel⟩, List.mem_of_getElem? (i := 1092) (by decide +kernel), List.mem_of_getElem? (i := 1527) (by decide +kernel), List.mem_of_getElem? (i := 1528) (by decide +kernel)⟩
theorem lw_p88 : lw_okq (⟨"BrotliWordsModel", "markLength", "()I"⟩, 65) := ⟨⟨by decide +kernel, by decide +kernel⟩, List.mem_of_getElem? (i := 1092) (by decide +kernel), List.mem_of_getElem? (i := 1531) (by decide +kernel), List.mem_of_getElem? (i := 1532) (by decide +kernel)⟩
theorem lw_p89 : lw_okq (⟨"BrotliWordsModel", "layCodes", "(II)V"⟩, 65) := ⟨⟨by decide +kernel, by decide +kernel⟩, List.mem_of_getElem? (i := 1092) (by decide +kernel), List.mem_of_getElem? (i := 1538) (by decide +kernel), List.mem_of_getElem? (i := 1539) (by decide +kernel)⟩
theorem lw_p90 : lw_okq (⟨"BrotliWordsModel", "readLengths", "(II)V"⟩, 65) := ⟨⟨by decide +kernel, by decide +kernel⟩, List.mem_of_getElem? (i := 1092) (by decide +kernel), List.mem_of_getElem? (i := 1542) (by decide +kernel), List.mem_of_getElem? (i := 1543) (by decide +kernel)⟩
theorem lw_p91 : lw_okq (⟨"BrotliWordsModel", "sign", "(II)I"⟩, 65) := ⟨⟨by decide +kernel, by decide +kernel⟩, List.mem_of_getElem? (i := 1092) (by decide +kernel), List.mem_of_getElem? (i := 1547) (by decide +kernel), List.mem_of_getElem? (i := 1548) (by decide +kernel)⟩
theorem lw_p92 : lw_okq (⟨"BrotliWordsModel", "blockCount", "(I)I"⟩, 65) := ⟨⟨by decide +kernel, by decide +kernel⟩, List.mem_of_getElem? (i := 1092) (by decide +kernel), List.mem_of_getElem? (i := 1551) (by decide +kernel), List.mem_of_getElem? (i := 1552) (by decide +kernel)⟩
theorem lw_p93 : lw_okq (⟨"BrotliWordsModel", "readMap", "([III)V"⟩, 65) := ⟨⟨by decide +kernel, by decide +kernel⟩, List.mem_of_getElem? (i := 1092) (by decide +kernel), List.mem_of_getElem? (i := 1561) (by decide +kernel), List.mem_of_getElem? (i := 1562) (by decide +kernel)⟩
theorem lw_p94 : lw_okq (⟨"BrotliWordsModel", "distanceSigns", "()I"⟩, 65) := ⟨⟨by decide +kernel, by decide +kernel⟩, List.mem_of_getElem? (i := 1092) (by decide +kernel), List.mem_of_getElem? (i := 1565) (by decide +kernel), List.mem_of_getElem? (i := 1566) (by decide +kernel)⟩
theorem lw_p95 : lw_okq (⟨"BrotliWordsModel", "keepCodes", "()V"⟩, 65) := ⟨⟨by decide +kernel, by decide +kernel⟩, List.mem_of_getElem? (i := 1092) (by decide +kernel), List.mem_of_getElem? (i := 1569) (by decide +kernel), List.mem_of_getElem? (i := 1570) (by decide +kernel)⟩
def lw_privs_6 : List (MethodName × Nat) := [(⟨"BrotliWordsModel", "readHeads", "()V"⟩, 65), (⟨"BrotliWordsModel", "noMaps", "()V"⟩, 65), (⟨"BrotliWordsModel", "readKinds", "(I)V"⟩, 65), (⟨"BrotliWordsModel", "howMany", "()I"⟩, 65), (⟨"BrotliWordsModel", "readCode", "(II)V"⟩, 65), (⟨"BrotliWordsModel", "noLengths", "(II)V"⟩, 65), (⟨"BrotliWordsModel", "readFew", "(II)V"⟩, 65), (⟨"BrotliWordsModel", "readMarks", "(I)V"⟩, 65), (⟨"BrotliWordsModel", "markLength", "()I"⟩, 65), (⟨"BrotliWordsModel", "layCodes", "(II)V"⟩, 65), (⟨"BrotliWordsModel", "readLengths", "(II)V"⟩, 65), (⟨"BrotliWordsModel", "sign", "(II)I"⟩, 65), (⟨"BrotliWordsModel", "blockCount", "(I)I"⟩, 65), (⟨"BrotliWordsModel", "readMap", "([III)V"⟩, 65), (⟨"BrotliWordsModel", "distanceSigns", "()I"⟩, 65), (⟨"BrotliWordsModel", "keepCodes", "()V"⟩, 65)]
theorem lw_r6 : ∀ q ∈ lw_privs_6, lw_okq q := List.forall_mem_cons.mpr ⟨lw_p80, List.forall_mem_cons.mpr ⟨lw_p81, List.forall_mem_cons.mpr ⟨lw_p82, List.forall_mem_cons.mpr ⟨lw_p83, List.forall_mem_cons.mpr ⟨lw_p84, List.forall_mem_cons.mpr ⟨lw_p85, List.forall_mem_cons.mpr ⟨lw_p86, List.forall_mem_cons.mpr ⟨lw_p87, List.forall_mem_cons.mpr ⟨lw_p88, List.forall_mem_cons.mpr ⟨lw_p89, List.forall_mem_cons.mpr ⟨lw_p90, List.forall_mem_cons.mpr ⟨lw_p91, List.forall_mem_cons.mpr ⟨lw_p92, List.forall_mem_cons.mpr ⟨lw_p93, List.forall_mem_cons.mpr ⟨lw_p94, List.forall_mem_cons.mpr ⟨lw_p95, fun _ h => absurd h List.not_mem_nil⟩⟩⟩⟩⟩⟩⟩⟩⟩⟩⟩⟩⟩⟩⟩⟩
theorem lw_p96 : lw_okq (⟨"BrotliWordsModel", "takeOne", "(I)V"⟩, 65) := ⟨⟨by decide +kernel, by decide +kernel⟩, List.mem_of_getElem? (i := 1092) (by decide +kernel), List.mem_of_getElem? (i := 1573) (by decide +kernel), List.mem_of_getElem? (i := 1574) (by decide +kernel)⟩
theorem lw_p97 : lw_okq (⟨"BrotliWordsModel", "tellMore", "(I)V"⟩, 65) := ⟨⟨by decide +kernel, by decide +kernel⟩, List.mem_of_getElem? (i := 1092) (by decide +kernel), List.mem_of_getElem? (i := 1595) (by decide +kernel), List.mem_of_getElem? (i := 1596) (by decide +kernel)⟩
theorem lw_p98 : lw_okq (⟨"BrotliWordsModel", "readLiteral", "()V"⟩, 65) := ⟨⟨by decide +kernel, by decide +kernel⟩, List.mem_of_getElem? (i := 1092) (by decide +kernel), List.mem_of_getElem? (i := 1599) (by decide +kernel), List.mem_of_getElem? (i := 1600) (by decide +kernel)⟩
theorem lw_p99 : lw_okq (⟨"BrotliWordsModel", "context", "()I"⟩, 65) := ⟨⟨by decide +kernel, by decide +kernel⟩, List.mem_of_getElem? (i := 1092) (by decide +kernel), List.mem_of_getElem? (i := 1603) (by decide +kernel), List.mem_of_getElem? (i := 1604) (by decide +kernel)⟩
theorem lw_p100 : lw_okq (⟨"BrotliWordsModel", "back", "(I)I"⟩, 65) := ⟨⟨by decide +kernel, by decide +kernel⟩, List.mem_of_getElem? (i := 1092) (by decide +kernel), List.mem_of_getElem? (i := 1607) (by decide +kernel), List.mem_of_getElem? (i := 1608) (by decide +kernel)⟩
theorem lw_p101 : lw_okq (⟨"BrotliWordsModel", "goBack", "(ZII)V"⟩, 65) := ⟨⟨by decide +kernel, by decide +kernel⟩, List.mem_of_getElem? (i := 1092) (by decide +kernel), List.mem_of_getElem? (i := 1634) (by decide +kernel), List.mem_of_getElem? (i := 1635) (by decide +kernel)⟩
theorem lw_p102 : lw_okq (⟨"BrotliWordsModel", "distanceOf", "(I)I"⟩, 65) := ⟨⟨by decide +kernel, by decide +kernel⟩, List.mem_of_getElem? (i := 1092) (by decide +kernel), List.mem_of_getElem? (i := 1638) (by decide +kernel), List.mem_of_getElem? (i := 1639) (by decide +kernel)⟩
theorem lw_p103 : lw_okq (⟨"BrotliWordsModel", "tellWord", "(III)V"⟩, 65) := ⟨⟨by decide +kernel, by decide +kernel⟩, List.mem_of_getElem? (i := 1092) (by decide +kernel), List.mem_of_getElem? (i := 1642) (by decide +kernel), List.mem_of_getElem? (i := 1643) (by decide +kernel)⟩
theorem lw_p104 : lw_okq (⟨"BrotliWordsModel", "bitsOf", "(I)I"⟩, 65) := ⟨⟨by decide +kernel, by decide +kernel⟩, List.mem_of_getElem? (i := 1092) (by decide +kernel), List.mem_of_getElem? (i := 1646) (by decide +kernel), List.mem_of_getElem? (i := 1647) (by decide +kernel)⟩
theorem lw_p105 : lw_okq (⟨"BrotliWordsModel", "toRing", "(I)V"⟩, 65) := ⟨⟨by decide +kernel, by decide +kernel⟩, List.mem_of_getElem? (i := 1092) (by decide +kernel), List.mem_of_getElem? (i := 1650) (by decide +kernel), List.mem_of_getElem? (i := 1651) (by decide +kernel)⟩
theorem lw_p106 : lw_okq (⟨"BrotliWordsModel", "write", "(II)V"⟩, 65) := ⟨⟨by decide +kernel, by decide +kernel⟩, List.mem_of_getElem? (i := 1092) (by decide +kernel), List.mem_of_getElem? (i := 1697) (by decide +kernel), List.mem_of_getElem? (i := 1698) (by decide +kernel)⟩
theorem lw_p107 : lw_okq (⟨"BrotliWordsModel", "packRaw", "()V"⟩, 65) := ⟨⟨by decide +kernel, by decide +kernel⟩, List.mem_of_getElem? (i := 1092) (by decide +kernel), List.mem_of_getElem? (i := 1701) (by decide +kernel), List.mem_of_getElem? (i := 1702) (by decide +kernel)⟩
theorem lw_p108 : lw_okq (⟨"BrotliWordsModel", "writeToByte", "()V"⟩, 65) := ⟨⟨by decide +kernel, by decide +kernel⟩, List.mem_of_getElem? (i := 1092) (by decide +kernel), List.mem_of_getElem? (i := 1705) (by decide +kernel), List.mem_of_getElem? (i := 1706) (by decide +kernel)⟩
theorem lw_p109 : lw_okq (⟨"BrotliWordsModel", "packCoded", "(I)V"⟩, 65) := ⟨⟨by decide +kernel, by decide +kernel⟩, List.mem_of_getElem? (i := 1092) (by decide +kernel), List.mem_of_getElem? (i := 1709) (by decide +kernel), List.mem_of_getElem? (i := 1710) (by decide +kernel)⟩
theorem lw_p110 : lw_okq (⟨"BrotliWordsModel", "findWays", "(I)V"⟩, 65) := ⟨⟨by decide +kernel, by decide +kernel⟩, List.mem_of_getElem? (i := 1092) (by decide +kernel), List.mem_of_getElem? (i := 1713) (by decide +kernel), List.mem_of_getElem? (i := 1714) (by decide +kernel)⟩
theorem lw_p111 : lw_okq (⟨"BrotliWordsModel", "findCopy", "(I)V"⟩, 65) := ⟨⟨by decide +kernel, by decide +kernel⟩, List.mem_of_getElem? (i := 1092) (by decide +kernel), List.mem_of_getElem? (i := 1717) (by decide +kernel), List.mem_of_getElem? (i := 1718) (by decide +kernel)⟩
def lw_privs_7 : List (MethodName × Nat) := [(⟨"BrotliWordsModel", "takeOne", "(I)V"⟩, 65), (⟨"BrotliWordsModel", "tellMore", "(I)V"⟩, 65), (⟨"BrotliWordsModel", "readLiteral", "()V"⟩, 65), (⟨"BrotliWordsModel", "context", "()I"⟩, 65), (⟨"BrotliWordsModel", "back", "(I)I"⟩, 65), (⟨"BrotliWordsModel", "goBack", "(ZII)V"⟩, 65), (⟨"BrotliWordsModel", "distanceOf", "(I)I"⟩, 65), (⟨"BrotliWordsModel", "tellWord", "(III)V"⟩, 65), (⟨"BrotliWordsModel", "bitsOf", "(I)I"⟩, 65), (⟨"BrotliWordsModel", "toRing", "(I)V"⟩, 65), (⟨"BrotliWordsModel", "write", "(II)V"⟩, 65), (⟨"BrotliWordsModel", "packRaw", "()V"⟩, 65), (⟨"BrotliWordsModel", "writeToByte", "()V"⟩, 65), (⟨"BrotliWordsModel", "packCoded", "(I)V"⟩, 65), (⟨"BrotliWordsModel", "findWays", "(I)V"⟩, 65), (⟨"BrotliWordsModel", "findCopy", "(I)V"⟩, 65)]
theorem lw_r7 : ∀ q ∈ lw_privs_7, lw_okq q := List.forall_mem_cons.mpr ⟨lw_p96, List.forall_mem_cons.mpr ⟨lw_p97, List.forall_mem_cons.mpr ⟨lw_p98, List.forall_mem_cons.mpr ⟨lw_p99, List.forall_mem_cons.mpr ⟨lw_p100, List.forall_mem_cons.mpr ⟨lw_p101, List.forall_mem_cons.mpr ⟨lw_p102, List.forall_mem_cons.mpr ⟨lw_p103, List.forall_mem_cons.mpr ⟨lw_p104, List.forall_mem_cons.mpr ⟨lw_p105, List.forall_mem_cons.mpr ⟨lw_p106, List.forall_mem_cons.mpr ⟨lw_p107, List.forall_mem_cons.mpr ⟨lw_p108, List.forall_mem_cons.mpr ⟨lw_p109, List.forall_mem_cons.mpr ⟨lw_p110, List.forall_mem_cons.mpr ⟨lw_p111, fun _ h => absurd h List.not_mem_nil⟩⟩⟩⟩⟩⟩⟩⟩⟩⟩⟩⟩⟩⟩⟩⟩
theorem lw_p112 : lw_okq (⟨"BrotliWordsModel", "findWord", "(I)V"⟩, 65) := ⟨⟨by decide +kernel, by decide +kernel⟩, List.mem_of_getElem? (i := 1092) (by decide +kernel), List.mem_of_getElem? (i := 1721) (by decide +kernel), List.mem_of_getElem? (i := 1722) (by decide +kernel)⟩
theorem lw_p113 : lw_okq (⟨"BrotliWordsModel", "findCommands", "()V"⟩, 65) := ⟨⟨by decide +kernel, by decide +kernel⟩, List.mem_of_getElem? (i := 1092) (by decide +kernel), List.mem_of_getElem? (i := 1726) (by decide +kernel), List.mem_of_getElem? (i := 1727) (by decide +kernel)⟩
theorem lw_p114 : lw_okq (⟨"BrotliWordsModel", "madeBy", "(I)I"⟩, 65) := ⟨⟨by decide +kernel, by decide +kernel⟩, List.mem_of_getElem? (i := 1092) (by decide +kernel), List.mem_of_getElem? (i := 1730) (by decide +kernel), List.mem_of_getElem? (i := 1731) (by decide +kernel)⟩
theorem lw_p115 : lw_okq (⟨"BrotliWordsModel", "addCommand", "(IIIZZ)V"⟩, 65) := ⟨⟨by decide +kernel, by decide +kernel⟩, List.mem_of_getElem? (i := 1092) (by decide +kernel), List.mem_of_getElem? (i := 1734) (by decide +kernel), List.mem_of_getElem? (i := 1735) (by decide +kernel)⟩
theorem lw_p116 : lw_okq (⟨"BrotliWordsModel", "signOf", "(I)I"⟩, 65) := ⟨⟨by decide +kernel, by decide +kernel⟩, List.mem_of_getElem? (i := 1092) (by decide +kernel), List.mem_of_getElem? (i := 1738) (by decide +kernel), List.mem_of_getElem? (i := 1739) (by decide +kernel)⟩
theorem lw_p117 : lw_okq (⟨"BrotliWordsModel", "writeCodes", "()V"⟩, 65) := ⟨⟨by decide +kernel, by decide +kernel⟩, List.mem_of_getElem? (i := 1092) (by decide +kernel), List.mem_of_getElem? (i := 1748) (by decide +kernel), List.mem_of_getElem? (i := 1749) (by decide +kernel)⟩
theorem lw_p118 : lw_okq (⟨"BrotliWordsModel", "countSigns", "()V"⟩, 65) := ⟨⟨by decide +kernel, by decide +kernel⟩, List.mem_of_getElem? (i := 1092) (by decide +kernel), List.mem_of_getElem? (i := 1752) (by decide +kernel), List.mem_of_getElem? (i := 1753) (by decide +kernel)⟩
theorem lw_p119 : lw_okq (⟨"BrotliWordsModel", "writeCode", "(II)V"⟩, 65) := ⟨⟨by decide +kernel, by decide +kernel⟩, List.mem_of_getElem? (i := 1092) (by decide +kernel), List.mem_of_getElem? (i := 1756) (by decide +kernel), List.mem_of_getElem? (i := 1757) (by decide +kernel)⟩
theorem lw_p120 : lw_okq (⟨"BrotliWordsModel", "findLengths", "(III)I"⟩, 65) := ⟨⟨by decide +kernel, by decide +kernel⟩, List.mem_of_getElem? (i := 1092) (by decide +kernel), List.mem_of_getElem? (i := 1760) (by decide +kernel), List.mem_of_getElem? (i := 1761) (by decide +kernel)⟩
theorem lw_p121 : lw_okq (⟨"BrotliWordsModel", "joinAll", "(III)I"⟩, 65) := ⟨⟨by decide +kernel, by decide +kernel⟩, List.mem_of_getElem? (i := 1092) (by decide +kernel), List.mem_of_getElem? (i := 1764) (by decide +kernel), List.mem_of_getElem? (i := 1765) (by decide +kernel)⟩
theorem lw_p122 : lw_okq (⟨"BrotliWordsModel", "leastOpen", "(I)I"⟩, 65) := ⟨⟨by decide +kernel, by decide +kernel⟩, List.mem_of_getElem? (i := 1092) (by decide +kernel), List.mem_of_getElem? (i := 1768) (by decide +kernel), List.mem_of_getElem? (i := 1769) (by decide +kernel)⟩
theorem lw_p123 : lw_okq (⟨"BrotliWordsModel", "writeFew", "(III)V"⟩, 65) := ⟨⟨by decide +kernel, by decide +kernel⟩, List.mem_of_getElem? (i := 1092) (by decide +kernel), List.mem_of_getElem? (i := 1772) (by decide +kernel), List.mem_of_getElem? (i := 1773) (by decide +kernel)⟩
theorem lw_p124 : lw_okq (⟨"BrotliWordsModel", "findMarks", "(II)V"⟩, 65) := ⟨⟨by decide +kernel, by decide +kernel⟩, List.mem_of_getElem? (i := 1092) (by decide +kernel), List.mem_of_getElem? (i := 1776) (by decide +kernel), List.mem_of_getElem? (i := 1777) (by decide +kernel)⟩
theorem lw_p125 : lw_okq (⟨"BrotliWordsModel", "putMark", "(II)V"⟩, 65) := ⟨⟨by decide +kernel, by decide +kernel⟩, List.mem_of_getElem? (i := 1092) (by decide +kernel), List.mem_of_getElem? (i := 1780) (by decide +kernel), List.mem_of_getElem? (i := 1781) (by decide +kernel)⟩
theorem lw_p126 : lw_okq (⟨"BrotliWordsModel", "writeMarkLength", "(I)V"⟩, 65) := ⟨⟨by decide +kernel, by decide +kernel⟩, List.mem_of_getElem? (i := 1092) (by decide +kernel), List.mem_of_getElem? (i := 1784) (by decide +kernel), List.mem_of_getElem? (i := 1785) (by decide +kernel)⟩
theorem lw_p127 : lw_okq (⟨"BrotliWordsModel", "writeSign", "(II)V"⟩, 65) := ⟨⟨by decide +kernel, by decide +kernel⟩, List.mem_of_getElem? (i := 1092) (by decide +kernel), List.mem_of_getElem? (i := 1788) (by decide +kernel), List.mem_of_getElem? (i := 1789) (by decide +kernel)⟩
def lw_privs_8 : List (MethodName × Nat) := [(⟨"BrotliWordsModel", "findWord", "(I)V"⟩, 65), (⟨"BrotliWordsModel", "findCommands", "()V"⟩, 65), (⟨"BrotliWordsModel", "madeBy", "(I)I"⟩, 65), (⟨"BrotliWordsModel", "addCommand", "(IIIZZ)V"⟩, 65), (⟨"BrotliWordsModel", "signOf", "(I)I"⟩, 65), (⟨"BrotliWordsModel", "writeCodes", "()V"⟩, 65), (⟨"BrotliWordsModel", "countSigns", "()V"⟩, 65), (⟨"BrotliWordsModel", "writeCode", "(II)V"⟩, 65), (⟨"BrotliWordsModel", "findLengths", "(III)I"⟩, 65), (⟨"BrotliWordsModel", "joinAll", "(III)I"⟩, 65), (⟨"BrotliWordsModel", "leastOpen", "(I)I"⟩, 65), (⟨"BrotliWordsModel", "writeFew", "(III)V"⟩, 65), (⟨"BrotliWordsModel", "findMarks", "(II)V"⟩, 65), (⟨"BrotliWordsModel", "putMark", "(II)V"⟩, 65), (⟨"BrotliWordsModel", "writeMarkLength", "(I)V"⟩, 65), (⟨"BrotliWordsModel", "writeSign", "(II)V"⟩, 65)]
theorem lw_r8 : ∀ q ∈ lw_privs_8, lw_okq q := List.forall_mem_cons.mpr ⟨lw_p112, List.forall_mem_cons.mpr ⟨lw_p113, List.forall_mem_cons.mpr ⟨lw_p114, List.forall_mem_cons.mpr ⟨lw_p115, List.forall_mem_cons.mpr ⟨lw_p116, List.forall_mem_cons.mpr ⟨lw_p117, List.forall_mem_cons.mpr ⟨lw_p118, List.forall_mem_cons.mpr ⟨lw_p119, List.forall_mem_cons.mpr ⟨lw_p120, List.forall_mem_cons.mpr ⟨lw_p121, List.forall_mem_cons.mpr ⟨lw_p122, List.forall_mem_cons.mpr ⟨lw_p123, List.forall_mem_cons.mpr ⟨lw_p124, List.forall_mem_cons.mpr ⟨lw_p125, List.forall_mem_cons.mpr ⟨lw_p126, List.forall_mem_cons.mpr ⟨lw_p127, fun _ h => absurd h List.not_mem_nil⟩⟩⟩⟩⟩⟩⟩⟩⟩⟩⟩⟩⟩⟩⟩⟩
theorem lw_p128 : lw_okq (⟨"BrotliWordsModel", "writeCommands", "()V"⟩, 65) := ⟨⟨by decide +kernel, by decide +kernel⟩, List.mem_of_getElem? (i := 1092) (by decide +kernel), List.mem_of_getElem? (i := 1792) (by decide +kernel), List.mem_of_getElem? (i := 1793) (by decide +kernel)⟩
def lw_privs_9 : List (MethodName × Nat) := [(⟨"BrotliWordsModel", "writeCommands", "()V"⟩, 65)]
theorem lw_r9 : ∀ q ∈ lw_privs_9, lw_okq q := List.forall_mem_cons.mpr ⟨lw_p128, fun _ h => absurd h List.not_mem_nil⟩
def lw_privs : List (MethodName × Nat) := lw_privs_1 ++ (lw_privs_2 ++ (lw_privs_3 ++ (lw_privs_4 ++ (lw_privs_5 ++ (lw_privs_6 ++ (lw_privs_7 ++ (lw_privs_8 ++ (lw_privs_9))))))))
def lw_tbl : List Cond := k2_sels lw_privs ++ tables_1
theorem lw_privs_ok : ∀ q ∈ lw_privs, lw_okq q := by
  show ∀ q ∈ lw_privs_1 ++ (lw_privs_2 ++ (lw_privs_3 ++ (lw_privs_4 ++ (lw_privs_5 ++ (lw_privs_6 ++ (lw_privs_7 ++ (lw_privs_8 ++ (lw_privs_9)))))))), lw_okq q
  exact List.forall_mem_append.mpr ⟨lw_r1, List.forall_mem_append.mpr ⟨lw_r2, List.forall_mem_append.mpr ⟨lw_r3, List.forall_mem_append.mpr ⟨lw_r4, List.forall_mem_append.mpr ⟨lw_r5, List.forall_mem_append.mpr ⟨lw_r6, List.forall_mem_append.mpr ⟨lw_r7, List.forall_mem_append.mpr ⟨lw_r8, lw_r9⟩⟩⟩⟩⟩⟩⟩⟩
def RX0 : String := "BrotliWords$BitReader"
def TX0 : u_T := fun k => match k with
  | 0 => ("BrotliWords$BitReader", "tape", "LBrotliWords$Bytes;", true)
  | 1 => ("BrotliWords$BitReader", "at", "I", false)
  | 2 => ("BrotliWords$BitReader", "limit", "I", false)
  | _ => ("BrotliWords$BitReader", "rule", "I", false)
def tyX0 : Nat → FieldType := fun k => match k with
  | 0 => .object "BrotliWords$Bytes"
  | 1 => .int
  | 2 => .int
  | _ => .int
abbrev wsX00 : List Cond := u_ws RX0 TX0 4
theorem nmX0 : ∀ a, a < 4 → ∀ b, b < 4 → a ≠ b → (TX0 a).2.1 ≠ (TX0 b).2.1 := by decide +kernel
theorem tyX0_ok : ∀ k, k < 4 → parseFieldDescriptor (TX0 k).2.2.1 = some (tyX0 k) := by decide +kernel
def RX1 : String := "BrotliWords$Blocks"
def TX1 : u_T := fun k => match k with
  | 0 => ("BrotliWords$Blocks", "kindCode", "LBrotliWords$Code;", true)
  | 1 => ("BrotliWords$Blocks", "countCode", "LBrotliWords$Code;", true)
  | 2 => ("BrotliWords$Blocks", "kinds", "I", false)
  | 3 => ("BrotliWords$Blocks", "kind", "I", false)
  | 4 => ("BrotliWords$Blocks", "before", "I", false)
  | _ => ("BrotliWords$Blocks", "left", "I", false)
def tyX1 : Nat → FieldType := fun k => match k with
  | 0 => .object "BrotliWords$Code"
  | 1 => .object "BrotliWords$Code"
  | 2 => .int
  | 3 => .int
  | 4 => .int
  | _ => .int
abbrev wsX10 : List Cond := u_ws RX1 TX1 6
theorem nmX1 : ∀ a, a < 6 → ∀ b, b < 6 → a ≠ b → (TX1 a).2.1 ≠ (TX1 b).2.1 := by decide +kernel
theorem tyX1_ok : ∀ k, k < 6 → parseFieldDescriptor (TX1 k).2.2.1 = some (tyX1 k) := by decide +kernel
def RX2 : String := "BrotliWords$Bytes"
def TX2 : u_T := fun k => match k with
  | 0 => ("BrotliWords$Bytes", "row", "[B", true)
  | 1 => ("BrotliWords$Bytes", "size", "I", false)
  | _ => ("BrotliWords$Bytes", "bitSize", "I", false)
def tyX2 : Nat → FieldType := fun k => match k with
  | 0 => .array .byte
  | 1 => .int
  | _ => .int
abbrev wsX20 : List Cond := u_ws RX2 TX2 3
theorem nmX2 : ∀ a, a < 3 → ∀ b, b < 3 → a ≠ b → (TX2 a).2.1 ≠ (TX2 b).2.1 := by decide +kernel
theorem tyX2_ok : ∀ k, k < 3 → parseFieldDescriptor (TX2 k).2.2.1 = some (tyX2 k) := by decide +kernel
def RX3 : String := "BrotliWords$Code"
def TX3 : u_T := fun k => match k with
  | 0 => ("BrotliWords$Code", "signs", "[I", true)
  | 1 => ("BrotliWords$Code", "many", "[I", true)
  | _ => ("BrotliWords$Code", "used", "I", false)
def tyX3 : Nat → FieldType := fun k => match k with
  | 0 => .array .int
  | 1 => .array .int
  | _ => .int
abbrev wsX30 : List Cond := u_ws RX3 TX3 3
theorem nmX3 : ∀ a, a < 3 → ∀ b, b < 3 → a ≠ b → (TX3 a).2.1 ≠ (TX3 b).2.1 := by decide +kernel
theorem tyX3_ok : ∀ k, k < 3 → parseFieldDescriptor (TX3 k).2.2.1 = some (tyX3 k) := by decide +kernel
def RX4 : String := "BrotliWords$CodeReader"
def TX4 : u_T := fun k => match k with
  | 0 => ("BrotliWords$CodeReader", "reader", "LBrotliWords$BitReader;", true)
  | 1 => ("BrotliWords$CodeReader", "lengths", "[I", true)
  | 2 => ("BrotliWords$CodeReader", "markLengths", "[I", true)
  | 3 => ("BrotliWords$CodeReader", "toldSigns", "[I", true)
  | 4 => ("BrotliWords$CodeReader", "marks", "LBrotliWords$Code;", true)
  | 5 => ("BrotliWords$CodeReader", "filled", "I", false)
  | 6 => ("BrotliWords$CodeReader", "sum", "I", false)
  | _ => ("BrotliWords$CodeReader", "latest", "I", false)
def tyX4 : Nat → FieldType := fun k => match k with
  | 0 => .object "BrotliWords$BitReader"
  | 1 => .array .int
  | 2 => .array .int
  | 3 => .array .int
  | 4 => .object "BrotliWords$Code"
  | 5 => .int
  | 6 => .int
  | _ => .int
abbrev wsX40 : List Cond := u_ws RX4 TX4 8
theorem nmX4 : ∀ a, a < 8 → ∀ b, b < 8 → a ≠ b → (TX4 a).2.1 ≠ (TX4 b).2.1 := by decide +kernel
theorem tyX4_ok : ∀ k, k < 8 → parseFieldDescriptor (TX4 k).2.2.1 = some (tyX4 k) := by decide +kernel
def RX5 : String := "BrotliWords$CodeWriter"
def TX5 : u_T := fun k => match k with
  | 0 => ("BrotliWords$CodeWriter", "weights", "[I", true)
  | 1 => ("BrotliWords$CodeWriter", "lengths", "[I", true)
  | 2 => ("BrotliWords$CodeWriter", "codes", "[I", true)
  | 3 => ("BrotliWords$CodeWriter", "order", "[I", true)
  | 4 => ("BrotliWords$CodeWriter", "marks", "[I", true)
  | 5 => ("BrotliWords$CodeWriter", "runs", "[I", true)
  | 6 => ("BrotliWords$CodeWriter", "nodeWeights", "[I", true)
  | 7 => ("BrotliWords$CodeWriter", "parents", "[I", true)
  | 8 => ("BrotliWords$CodeWriter", "depths", "[I", true)
  | 9 => ("BrotliWords$CodeWriter", "used", "I", false)
  | _ => ("BrotliWords$CodeWriter", "markCount", "I", false)
def tyX5 : Nat → FieldType := fun k => match k with
  | 0 => .array .int
  | 1 => .array .int
  | 2 => .array .int
  | 3 => .array .int
  | 4 => .array .int
  | 5 => .array .int
  | 6 => .array .int
  | 7 => .array .int
  | 8 => .array .int
  | 9 => .int
  | _ => .int
abbrev wsX50 : List Cond := u_ws RX5 TX5 11
theorem nmX5 : ∀ a, a < 11 → ∀ b, b < 11 → a ≠ b → (TX5 a).2.1 ≠ (TX5 b).2.1 := by decide +kernel
theorem tyX5_ok : ∀ k, k < 11 → parseFieldDescriptor (TX5 k).2.2.1 = some (tyX5 k) := by decide +kernel
def RX6 : String := "BrotliWords$Finder"
def TX6 : u_T := fun k => match k with
  | 0 => ("BrotliWords$Finder", "copyMade", "[I", true)
  | 1 => ("BrotliWords$Finder", "copyBack", "[I", true)
  | 2 => ("BrotliWords$Finder", "wordMade", "[I", true)
  | 3 => ("BrotliWords$Finder", "wordKey", "[I", true)
  | 4 => ("BrotliWords$Finder", "tape", "LBrotliWords$Bytes;", true)
  | 5 => ("BrotliWords$Finder", "words", "LBrotliWords$Words;", true)
  | 6 => ("BrotliWords$Finder", "placeHead", "[I", true)
  | 7 => ("BrotliWords$Finder", "placeBefore", "[I", true)
  | 8 => ("BrotliWords$Finder", "coreHead", "[I", true)
  | 9 => ("BrotliWords$Finder", "coreBefore", "[I", true)
  | 10 => ("BrotliWords$Finder", "known", "I", false)
  | _ => ("BrotliWords$Finder", "size", "I", false)
def tyX6 : Nat → FieldType := fun k => match k with
  | 0 => .array .int
  | 1 => .array .int
  | 2 => .array .int
  | 3 => .array .int
  | 4 => .object "BrotliWords$Bytes"
  | 5 => .object "BrotliWords$Words"
  | 6 => .array .int
  | 7 => .array .int
  | 8 => .array .int
  | 9 => .array .int
  | 10 => .int
  | _ => .int
abbrev wsX60 : List Cond := u_ws RX6 TX6 12
theorem nmX6 : ∀ a, a < 12 → ∀ b, b < 12 → a ≠ b → (TX6 a).2.1 ≠ (TX6 b).2.1 := by decide +kernel
theorem tyX6_ok : ∀ k, k < 12 → parseFieldDescriptor (TX6 k).2.2.1 = some (tyX6 k) := by decide +kernel
def RX7 : String := "BrotliWords$Layout"
def TX7 : u_T := fun k => match k with
  | 0 => ("BrotliWords$Layout", "kinds", "[I", true)
  | 1 => ("BrotliWords$Layout", "trees", "[I", true)
  | 2 => ("BrotliWords$Layout", "modes", "[I", true)
  | 3 => ("BrotliWords$Layout", "literalMap", "[I", true)
  | 4 => ("BrotliWords$Layout", "distanceMap", "[I", true)
  | 5 => ("BrotliWords$Layout", "literals", "[LBrotliWords$Code;", true)
  | 6 => ("BrotliWords$Layout", "commands", "[LBrotliWords$Code;", true)
  | 7 => ("BrotliWords$Layout", "distances", "[LBrotliWords$Code;", true)
  | 8 => ("BrotliWords$Layout", "postfix", "I", false)
  | _ => ("BrotliWords$Layout", "direct", "I", false)
def tyX7 : Nat → FieldType := fun k => match k with
  | 0 => .array .int
  | 1 => .array .int
  | 2 => .array .int
  | 3 => .array .int
  | 4 => .array .int
  | 5 => .array (.object "BrotliWords$Code")
  | 6 => .array (.object "BrotliWords$Code")
  | 7 => .array (.object "BrotliWords$Code")
  | 8 => .int
  | _ => .int
abbrev wsX70 : List Cond := u_ws RX7 TX7 10
theorem nmX7 : ∀ a, a < 10 → ∀ b, b < 10 → a ≠ b → (TX7 a).2.1 ≠ (TX7 b).2.1 := by decide +kernel
theorem tyX7_ok : ∀ k, k < 10 → parseFieldDescriptor (TX7 k).2.2.1 = some (tyX7 k) := by decide +kernel
def RX8 : String := "BrotliWords$Opener"
def TX8 : u_T := fun k => match k with
  | 0 => ("BrotliWords$Opener", "reader", "LBrotliWords$BitReader;", true)
  | 1 => ("BrotliWords$Opener", "lastFour", "[I", true)
  | 2 => ("BrotliWords$Opener", "parts", "[I", true)
  | 3 => ("BrotliWords$Opener", "partCount", "I", false)
  | 4 => ("BrotliWords$Opener", "told", "LBrotliWords$Layout;", false)
  | 5 => ("BrotliWords$Opener", "anyTold", "Z", false)
  | 6 => ("BrotliWords$Opener", "coming", "LBrotliWords$Layout;", false)
  | 7 => ("BrotliWords$Opener", "made", "LBrotliWords$Bytes;", true)
  | 8 => ("BrotliWords$Opener", "words", "LBrotliWords$Words;", true)
  | 9 => ("BrotliWords$Opener", "codes", "LBrotliWords$CodeReader;", true)
  | 10 => ("BrotliWords$Opener", "mapCode", "LBrotliWords$Code;", true)
  | 11 => ("BrotliWords$Opener", "front", "[I", true)
  | 12 => ("BrotliWords$Opener", "blocks", "[LBrotliWords$Blocks;", true)
  | 13 => ("BrotliWords$Opener", "range", "I", false)
  | 14 => ("BrotliWords$Opener", "goal", "I", false)
  | _ => ("BrotliWords$Opener", "last", "Z", false)
def tyX8 : Nat → FieldType := fun k => match k with
  | 0 => .object "BrotliWords$BitReader"
  | 1 => .array .int
  | 2 => .array .int
  | 3 => .int
  | 4 => .object "BrotliWords$Layout"
  | 5 => .boolean
  | 6 => .object "BrotliWords$Layout"
  | 7 => .object "BrotliWords$Bytes"
  | 8 => .object "BrotliWords$Words"
  | 9 => .object "BrotliWords$CodeReader"
  | 10 => .object "BrotliWords$Code"
  | 11 => .array .int
  | 12 => .array (.object "BrotliWords$Blocks")
  | 13 => .int
  | 14 => .int
  | _ => .boolean
abbrev wsX80 : List Cond := u_ws RX8 TX8 16
theorem nmX8 : ∀ a, a < 16 → ∀ b, b < 16 → a ≠ b → (TX8 a).2.1 ≠ (TX8 b).2.1 := by decide +kernel
theorem tyX8_ok : ∀ k, k < 16 → parseFieldDescriptor (TX8 k).2.2.1 = some (tyX8 k) := by decide +kernel
def RX9 : String := "BrotliWords$Packer"
def TX9 : u_T := fun k => match k with
  | 0 => ("BrotliWords$Packer", "inserts", "[I", true)
  | 1 => ("BrotliWords$Packer", "copies", "[I", true)
  | 2 => ("BrotliWords$Packer", "backs", "[I", true)
  | 3 => ("BrotliWords$Packer", "signs", "[I", true)
  | 4 => ("BrotliWords$Packer", "many", "I", false)
  | 5 => ("BrotliWords$Packer", "backSigns", "[I", true)
  | 6 => ("BrotliWords$Packer", "makes", "[I", true)
  | 7 => ("BrotliWords$Packer", "choice", "[I", true)
  | 8 => ("BrotliWords$Packer", "cost", "[I", true)
  | 9 => ("BrotliWords$Packer", "lastFour", "[I", true)
  | 10 => ("BrotliWords$Packer", "tape", "LBrotliWords$Bytes;", true)
  | 11 => ("BrotliWords$Packer", "to", "LBrotliWords$Bytes;", true)
  | 12 => ("BrotliWords$Packer", "words", "LBrotliWords$Words;", true)
  | 13 => ("BrotliWords$Packer", "finder", "LBrotliWords$Finder;", true)
  | 14 => ("BrotliWords$Packer", "literalCode", "LBrotliWords$CodeWriter;", true)
  | 15 => ("BrotliWords$Packer", "commandCode", "LBrotliWords$CodeWriter;", true)
  | 16 => ("BrotliWords$Packer", "distanceCode", "LBrotliWords$CodeWriter;", true)
  | _ => ("BrotliWords$Packer", "markCode", "LBrotliWords$CodeWriter;", true)
def tyX9 : Nat → FieldType := fun k => match k with
  | 0 => .array .int
  | 1 => .array .int
  | 2 => .array .int
  | 3 => .array .int
  | 4 => .int
  | 5 => .array .int
  | 6 => .array .int
  | 7 => .array .int
  | 8 => .array .int
  | 9 => .array .int
  | 10 => .object "BrotliWords$Bytes"
  | 11 => .object "BrotliWords$Bytes"
  | 12 => .object "BrotliWords$Words"
  | 13 => .object "BrotliWords$Finder"
  | 14 => .object "BrotliWords$CodeWriter"
  | 15 => .object "BrotliWords$CodeWriter"
  | 16 => .object "BrotliWords$CodeWriter"
  | _ => .object "BrotliWords$CodeWriter"
abbrev wsX90 : List Cond := u_ws RX9 TX9 18
theorem nmX9 : ∀ a, a < 18 → ∀ b, b < 18 → a ≠ b → (TX9 a).2.1 ≠ (TX9 b).2.1 := by decide +kernel
theorem tyX9_ok : ∀ k, k < 18 → parseFieldDescriptor (TX9 k).2.2.1 = some (tyX9 k) := by decide +kernel
def RX10 : String := "BrotliWords$Words"
def TX10 : u_T := fun k => match k with
  | 0 => ("BrotliWords$Words", "row", "[B", true)
  | _ => ("BrotliWords$Words", "many", "[I", true)
def tyX10 : Nat → FieldType := fun k => match k with
  | 0 => .array .byte
  | _ => .array .int
abbrev wsX100 : List Cond := u_ws RX10 TX10 2
theorem nmX10 : ∀ a, a < 2 → ∀ b, b < 2 → a ≠ b → (TX10 a).2.1 ≠ (TX10 b).2.1 := by decide +kernel
theorem tyX10_ok : ∀ k, k < 2 → parseFieldDescriptor (TX10 k).2.2.1 = some (tyX10 k) := by decide +kernel
def RX11 : String := "BrotliWords"
def TX11 : u_T := fun k => match k with
  | 0 => ("BrotliWords", "tape", "LBrotliWords$Bytes;", true)
  | 1 => ("BrotliWords", "made", "LBrotliWords$Bytes;", true)
  | 2 => ("BrotliWords", "words", "LBrotliWords$Words;", true)
  | 3 => ("BrotliWords", "opener", "LBrotliWords$Opener;", true)
  | _ => ("BrotliWords", "packer", "LBrotliWords$Packer;", true)
def tyX11 : Nat → FieldType := fun k => match k with
  | 0 => .object "BrotliWords$Bytes"
  | 1 => .object "BrotliWords$Bytes"
  | 2 => .object "BrotliWords$Words"
  | 3 => .object "BrotliWords$Opener"
  | _ => .object "BrotliWords$Packer"
abbrev wsX110 : List Cond := u_ws RX11 TX11 5
theorem nmX11 : ∀ a, a < 5 → ∀ b, b < 5 → a ≠ b → (TX11 a).2.1 ≠ (TX11 b).2.1 := by decide +kernel
theorem tyX11_ok : ∀ k, k < 5 → parseFieldDescriptor (TX11 k).2.2.1 = some (tyX11 k) := by decide +kernel
def RX12 : String := "BrotliWordsModel$Stop"
def TX12 : u_T := fun k => match k with
  | 0 => ("java/lang/Throwable", "cause", "Ljava/lang/Throwable;", false)
  | 1 => ("java/lang/Throwable", "stackTrace", "[Ljava/lang/StackTraceElement;", false)
  | 2 => ("java/lang/Throwable", "suppressedExceptions", "Ljava/util/List;", false)
  | 3 => ("java/lang/Throwable", "detailMessage", "Ljava/lang/String;", false)
  | 4 => ("java/lang/Throwable", "backtrace", "Ljava/lang/Object;", false)
  | 5 => ("java/lang/Throwable", "depth", "I", false)
  | _ => ("BrotliWordsModel$Stop", "rule", "I", false)
def tyX12 : Nat → FieldType := fun k => match k with
  | 0 => .object "java/lang/Throwable"
  | 1 => .array (.object "java/lang/StackTraceElement")
  | 2 => .object "java/util/List"
  | 3 => .object "java/lang/String"
  | 4 => .object "java/lang/Object"
  | 5 => .int
  | _ => .int
abbrev wsX120 : List Cond := u_ws RX12 TX12 7
theorem nmX12 : ∀ a, a < 7 → ∀ b, b < 7 → a ≠ b → (TX12 a).2.1 ≠ (TX12 b).2.1 := by decide +kernel
theorem tyX12_ok : ∀ k, k < 7 → parseFieldDescriptor (TX12 k).2.2.1 = some (tyX12 k) := by decide +kernel
def RX13 : String := "BrotliWordsModel"
def TX13 : u_T := fun k => match k with
  | 0 => ("BrotliWordsModel", "thrown", "I", false)
  | 1 => ("BrotliWordsModel", "stop", "LBrotliWordsModel$Stop;", true)
  | 2 => ("BrotliWordsModel", "tape", "[B", true)
  | 3 => ("BrotliWordsModel", "tapeSize", "I", false)
  | 4 => ("BrotliWordsModel", "bitsAt", "I", false)
  | 5 => ("BrotliWordsModel", "out", "[B", true)
  | 6 => ("BrotliWordsModel", "outSize", "I", false)
  | 7 => ("BrotliWordsModel", "words", "[B", true)
  | 8 => ("BrotliWordsModel", "wordCount", "[I", true)
  | 9 => ("BrotliWordsModel", "changedWord", "[B", true)
  | 10 => ("BrotliWordsModel", "changedSize", "I", false)
  | 11 => ("BrotliWordsModel", "len", "[I", true)
  | 12 => ("BrotliWordsModel", "code", "[I", true)
  | 13 => ("BrotliWordsModel", "lone", "[I", true)
  | 14 => ("BrotliWordsModel", "in", "[B", true)
  | 15 => ("BrotliWordsModel", "inSize", "I", false)
  | 16 => ("BrotliWordsModel", "pos", "I", false)
  | 17 => ("BrotliWordsModel", "few", "[I", true)
  | 18 => ("BrotliWordsModel", "parts", "[I", true)
  | 19 => ("BrotliWordsModel", "partCount", "I", false)
  | 20 => ("BrotliWordsModel", "posRead", "I", false)
  | 21 => ("BrotliWordsModel", "ring", "[I", true)
  | 22 => ("BrotliWordsModel", "postfix", "I", false)
  | 23 => ("BrotliWordsModel", "direct", "I", false)
  | 24 => ("BrotliWordsModel", "kinds", "[I", true)
  | 25 => ("BrotliWordsModel", "kind", "[I", true)
  | 26 => ("BrotliWordsModel", "kindBefore", "[I", true)
  | 27 => ("BrotliWordsModel", "left", "[I", true)
  | 28 => ("BrotliWordsModel", "mode", "[I", true)
  | 29 => ("BrotliWordsModel", "literalTrees", "I", false)
  | 30 => ("BrotliWordsModel", "distanceTrees", "I", false)
  | 31 => ("BrotliWordsModel", "literalMap", "[I", true)
  | 32 => ("BrotliWordsModel", "distanceMap", "[I", true)
  | 33 => ("BrotliWordsModel", "hasCodes", "Z", false)
  | 34 => ("BrotliWordsModel", "keptKinds", "[I", true)
  | 35 => ("BrotliWordsModel", "keptLiteralTrees", "I", false)
  | 36 => ("BrotliWordsModel", "keptDistanceTrees", "I", false)
  | 37 => ("BrotliWordsModel", "keptDistanceSigns", "I", false)
  | 38 => ("BrotliWordsModel", "keptLength", "[I", true)
  | 39 => ("BrotliWordsModel", "keptLiteralMap", "[I", true)
  | 40 => ("BrotliWordsModel", "keptDistanceMap", "[I", true)
  | 41 => ("BrotliWordsModel", "front", "[I", true)
  | 42 => ("BrotliWordsModel", "range", "I", false)
  | 43 => ("BrotliWordsModel", "outBits", "I", false)
  | 44 => ("BrotliWordsModel", "weight", "[I", true)
  | 45 => ("BrotliWordsModel", "above", "[I", true)
  | 46 => ("BrotliWordsModel", "isOpen", "[Z", true)
  | 47 => ("BrotliWordsModel", "often", "[I", true)
  | 48 => ("BrotliWordsModel", "mark", "[I", true)
  | 49 => ("BrotliWordsModel", "zeros", "[I", true)
  | 50 => ("BrotliWordsModel", "marks", "I", false)
  | 51 => ("BrotliWordsModel", "copyMany", "[I", true)
  | 52 => ("BrotliWordsModel", "copyBack", "[I", true)
  | 53 => ("BrotliWordsModel", "wordMany", "[I", true)
  | 54 => ("BrotliWordsModel", "wordLength", "[I", true)
  | 55 => ("BrotliWordsModel", "wordNumber", "[I", true)
  | 56 => ("BrotliWordsModel", "wordChange", "[I", true)
  | 57 => ("BrotliWordsModel", "way", "[I", true)
  | 58 => ("BrotliWordsModel", "cost", "[I", true)
  | 59 => ("BrotliWordsModel", "packSize", "I", false)
  | 60 => ("BrotliWordsModel", "command", "[I", true)
  | 61 => ("BrotliWordsModel", "distanceSign", "[I", true)
  | 62 => ("BrotliWordsModel", "copyOf", "[I", true)
  | 63 => ("BrotliWordsModel", "commands", "I", false)
  | _ => ("BrotliWordsModel", "ringOfPack", "[I", true)
def tyX13 : Nat → FieldType := fun k => match k with
  | 0 => .int
  | 1 => .object "BrotliWordsModel$Stop"
  | 2 => .array .byte
  | 3 => .int
  | 4 => .int
  | 5 => .array .byte
  | 6 => .int
  | 7 => .array .byte
  | 8 => .array .int
  | 9 => .array .byte
  | 10 => .int
  | 11 => .array .int
  | 12 => .array .int
  | 13 => .array .int
  | 14 => .array .byte
  | 15 => .int
  | 16 => .int
  | 17 => .array .int
  | 18 => .array .int
  | 19 => .int
  | 20 => .int
  | 21 => .array .int
  | 22 => .int
  | 23 => .int
  | 24 => .array .int
  | 25 => .array .int
  | 26 => .array .int
  | 27 => .array .int
  | 28 => .array .int
  | 29 => .int
  | 30 => .int
  | 31 => .array .int
  | 32 => .array .int
  | 33 => .boolean
  | 34 => .array .int
  | 35 => .int
  | 36 => .int
  | 37 => .int
  | 38 => .array .int
  | 39 => .array .int
  | 40 => .array .int
  | 41 => .array .int
  | 42 => .int
  | 43 => .int
  | 44 => .array .int
  | 45 => .array .int
  | 46 => .array .boolean
  | 47 => .array .int
  | 48 => .array .int
  | 49 => .array .int
  | 50 => .int
  | 51 => .array .int
  | 52 => .array .int
  | 53 => .array .int
  | 54 => .array .int
  | 55 => .array .int
  | 56 => .array .int
  | 57 => .array .int
  | 58 => .array .int
  | 59 => .int
  | 60 => .array .int
  | 61 => .array .int
  | 62 => .array .int
  | 63 => .int
  | _ => .array .int
abbrev wsX130 : List Cond := u_ws RX13 TX13 65
theorem nmX13 : ∀ a, a < 65 → ∀ b, b < 65 → a ≠ b → (TX13 a).2.1 ≠ (TX13 b).2.1 := by decide +kernel
theorem tyX13_ok : ∀ k, k < 65 → parseFieldDescriptor (TX13 k).2.2.1 = some (tyX13 k) := by decide +kernel
def RL : String := "BrotliWordsLaw"
abbrev vwCl : List vw_C := [(RX0, TX0, 4), (RX1, TX1, 6), (RX2, TX2, 3), (RX3, TX3, 3), (RX4, TX4, 8), (RX5, TX5, 11), (RX6, TX6, 12), (RX7, TX7, 10), (RX8, TX8, 16), (RX9, TX9, 18), (RX10, TX10, 2), (RX11, TX11, 5), (RX12, TX12, 7), (RX13, TX13, 65)]
end
section
/-! Contracts whose methods may throw; calls over them. -/
def am_FE (st t : State) (L : List Loc) (k n : Nat) : Prop := st.WarmedH t.vm ∧ st.sameButNew ({ t with vm := st.vm } : State) L k n
def am_Met (l : Launch) (y : MethodName) (ws : List Cond) (rm : Room) (Pc : Array Value → State → Prop) (Qc : Array Value → State → Outcome → State → Prop) (mc ms : Nat) (free : Addr → Prop) : Prop :=
  MetFree l y (headSpec ws rm) Pc (fun _ _ _ _ _ => True) (fun a st o t => Qc a st o t ∧ ∃ L, am_FE st t L mc ms ∧ ∀ q ∈ L, free q.base)
def am_tgt (U : State) (g : JFrame) (len : Nat) : Outcome → State
  | .returned v => U.setTop { g with pc := g.pc + len, stack := v.toList ++ g.stack }
  | .threw x => (U.setTop g).pushFrame (.throwing x)
def am_Back (l : Launch) (R : Room) (p : Program) (e : Env) (below : List Frame) (s : State) (sargs : Array Value) (y : MethodName) (len W : Nat)
    (Pre : Pt → Array Value → Prop) (Post : Pt → Array Value → Outcome → Pt → Prop) : Prop :=
  ∀ (m : MethodId) (meth : Method) (c : Code) (A : Pt) (g : JFrame) (ig : Instr) (mk : MethodId) (a : Array Value),
    Stand p l e R s m sargs below meth c A.U A.locs A.cells A.slots → g.method = m → g.locals.size = c.maxLocals → decode c.code g.pc = .ok (ig, len) →
    2 * g.monitorRoom + (g.stack.map fun v => v.category).sum ≤ W → A.U.methodNamed? y = some mk → Pre A a →
    ∃ (o : Outcome) (B : Pt), Stand p l e R s m sargs below meth c B.U B.locs B.cells B.slots ∧ Post A a o B ∧
      Steps p.tables e below (doInvoke e (A.U.setTop g) [] mk a).1 (am_tgt B.U g len o)
def am_PostOf (Qc : Array Value → State → Outcome → State → Prop) (mc ms : Nat) (free : Addr → Prop) : Pt → Array Value → Outcome → Pt → Prop := fun A a o B =>
  ∃ (g : JFrame) (mk : MethodId) (t : State) (L : List Loc), B.U.heap = t.heap ∧ B.U.vm = t.vm ∧ Qc a (A.U.calling g mk a) o t ∧ B.locs = A.locs ++ L ∧ (∀ q ∈ L, free q.base) ∧ B.cells = A.cells + mc ∧ B.slots = A.slots + ms
section AmBack
variable {l : Launch} {R : Room} {p : Program} {e : Env} {below : List Frame} {s : State} {sargs : Array Value} {y : MethodName} {len W : Nat}
set_option maxHeartbeats 1000000 in
theorem am_back_of {ws : List Cond} {rm : Room} {Pc : Array Value → State → Prop} {Qc : Array Value → State → Outcome → State → Prop} {mc ms : Nat} {free : Addr → Prop} {maxL : Nat}
    (hM : am_Met l y ws rm Pc Qc mc ms free) (hblind : FrameBlind Pc) (hrc : rm.cells = mc) (hrs : rm.slots = ms)
    (hframes : rm.frames + 1 ≤ R.frames) (hlocals : W + (maxL + 11) + rm.locals ≤ R.locals)
    (hws : ∀ w ∈ ws, ∀ a' U, s.WarmedH U.vm → w.before a' U = true)
    (hcode : ∀ (U : State) mk, s.WarmedH U.vm → U.methodNamed? y = some mk → ∃ meth c, U.vm.method? mk = some meth ∧ meth.code = some c ∧ c.maxLocals = maxL)
    (hinit : ∀ a' U, s.WarmedH U.vm → (Cond.initialized y.cls).before a' U = true) :
    am_Back l R p e below s sargs y len W (PreOf R mc ms Pc) (am_PostOf Qc mc ms free) := by
  intro m meth c A g ig mk a X hg hsize hdg hW hn hp
  obtain ⟨U, Ls, c0, s0⟩ := A
  obtain ⟨h4, h5, hPc⟩ := hp
  dsimp only [Pt.U, Pt.locs, Pt.cells, Pt.slots] at h4 h5 hPc X hn ⊢
  have h1 : (headSpec ws rm).pre.before a U = true := atoms_intro fun w hw => hws w hw _ _ X.warmed
  obtain ⟨methY, cY, hmY, hcY, hlY⟩ := hcode U mk X.warmed hn
  obtain ⟨kY, hkY, -⟩ := className_of_methodNamed hn
  have hinitY : kY.init = .initialized := Cond.initialized_spec (findClass_of_methodNamed hn) hkY (hinit a U X.warmed)
  have h : At U g.method c below := by rw [hg]; exact X.here
  have happ : (headSpec ws rm).appliesLoose y e.platform (U.calling g mk a) = true :=
    Spec.appliesLoose_calling (g := g) h hdg hn hkY hinitY
      (X.room_calling (g := g) (R' := (headSpec ws rm).room) hsize hmY hcY hframes (by rw [hlY]; show _ + (maxL + 11) + rm.locals ≤ _; omega) (by show c0 + rm.cells ≤ _; rw [hrc]; exact h4) (by show s0 + rm.slots ≤ _; rw [hrs]; exact h5)) h1
  obtain ⟨mid, hmid⟩ := h.above
  have hfr : (U.setTop g).frames = (.java g :: mid) ++ below := by rw [State.frames_setTop' g h.top, hmid]; rfl
  obtain ⟨o, s₂, hsteps, -, hend, hq, L, ⟨hW₂, hsm⟩, hL⟩ := Steps.callFree hM p X.admits X.cas X.clock (acts := []) hfr happ (hblind _ _ _ _ hPc) trivial
  have hsm : (U.calling g mk a).sameButNew ({ s₂ with vm := (U.calling g mk a).vm } : State) L mc ms := hsm
  have hq : Qc a (U.calling g mk a) o s₂ := hq
  obtain ⟨e2, q2, q3, q4, q5, q6⟩ := id hsm
  have hW' : U.WarmedH s₂.vm := hW₂
  cases o with
  | returned v =>
    rw [State.frames_setTop' g h.top] at hend
    have e3 : s₂ = ({ (U.calling g mk a).setFrames s₂.frames with heap := s₂.heap, slotsUsed := s₂.slotsUsed } : State).setVm s₂.vm := by
      have : s₂ = ({ s₂ with vm := (U.calling g mk a).vm } : State).setVm s₂.vm := rfl
      rw [e2] at this
      exact this
    obtain ⟨c₂, i₂, len₂, hc₂, hd₂, hf₂⟩ := hend
    have hcc : c₂ = c := by
      have h1 : s₂.code? g.method = U.code? g.method := by
        rw [State.code?_eq, State.code?_eq, hW'.alike.method?]
      exact Option.some.inj (hc₂.symm.trans (h1.trans h.code))
    subst hcc
    have hlen : len₂ = len := by rw [hdg] at hd₂; cases hd₂; rfl
    subst hlen
    obtain ⟨g₀, hg0⟩ := Option.isSome_iff_exists.mp h.top
    obtain ⟨r, hr⟩ := State.topJava?_eq_some.mp hg0
    have hs₂ : s₂ = (({ U with heap := s₂.heap, slotsUsed := s₂.slotsUsed } : State).setVm s₂.vm).setTop { g with pc := g.pc + len₂, stack := v.toList ++ g.stack } := by
      have hr' : (({ U with heap := s₂.heap, slotsUsed := s₂.slotsUsed } : State).setVm s₂.vm).frames = .java g₀ :: r := hr
      refine e3.trans ?_
      rw [hf₂, State.calling_eq h.top, State.setFrames_setFrames, State.setTop_of_frames _ hr', hr]
      rfl
    have hsame : U.sameButNew ({ U with heap := s₂.heap, slotsUsed := s₂.slotsUsed } : State) L mc ms := by
      refine ⟨?_, q2, q3, q4, q5, q6⟩
      obtain ⟨t, ht, -⟩ := State.frames_cons hr
      show ({ U with heap := s₂.heap, slotsUsed := s₂.slotsUsed } : State) = { U.setFrames U.frames with heap := s₂.heap, slotsUsed := s₂.slotsUsed }
      rw [State.setFrames_self ht]
    subst hg
    refine ⟨.returned v, ⟨(({ U with heap := s₂.heap, slotsUsed := s₂.slotsUsed } : State).setVm s₂.vm), Ls ++ L, c0 + mc, s0 + ms⟩,
      ⟨X.admits, X.cas, X.clock, X.frames, X.room, X.hears, X.method, X.code, (X.here.setHeapUsed s₂.heap s₂.slotsUsed).setVm hW'.alike, X.tail, State.WarmedH.trans X.warmed hW', X.limits, X.bytes, X.same.trans (hsame.setVm s.vm)⟩,
      ⟨g, mk, s₂, L, rfl, rfl, hq, rfl, hL, rfl, rfl⟩, ?_⟩
    show Steps p.tables e below _ ((({ U with heap := s₂.heap, slotsUsed := s₂.slotsUsed } : State).setVm s₂.vm).setTop { g with pc := g.pc + len₂, stack := v.toList ++ g.stack })
    rw [← hs₂]
    exact hsteps
  | threw x =>
    have hbl : (U.setTop g).frames = .java g :: below := by
      obtain ⟨g₀, hf0⟩ := X.frames_eq
      rw [State.frames_setTop' g h.top, hf0]
      rfl
    rw [hbl] at hend
    obtain ⟨T', X', hWT, hsT, ht⟩ := X.outOfThrown hg hend hW₂ hsm
    refine ⟨.threw x, ⟨T', Ls ++ L, c0 + mc, s0 + ms⟩, X', ⟨g, mk, s₂, L, ?_, ?_, hq, rfl, hL, rfl, rfl⟩, ?_⟩
    · show T'.heap = s₂.heap
      rw [ht]; rfl
    · show T'.vm = s₂.vm
      rw [ht]; rfl
    · show Steps p.tables e below _ ((T'.setTop g).pushFrame (.throwing x))
      rw [← ht]
      exact hsteps
end AmBack
end
section
section AmEnt
variable {p : Program} {l : Launch} {e : Env} {R : Room} {s : State} {m : MethodId} {args : Array Value} {below : List Frame} {meth : Method} {c : Code} {H : Heap} {locs : List Loc} {cells slots : Nat} {Q : State → Prop}
/-- the instruction at g enters y with the arguments a and leaves the frame with 'rest' -/
def am_Ent (p : Program) (l : Launch) (e : Env) (R : Room) (s : State) (m : MethodId) (args : Array Value) (below : List Frame) (meth : Method) (c : Code) (H : Heap) (locs : List Loc) (cells slots : Nat) (g : JFrame) (y : MethodName) (a : Array Value) (rest : List Value) : Prop :=
  ∀ T : State, T.heap = H → Stand p l e R s m args below meth c T locs cells slots → ∃ (vm₁ : Vm) (mk : MethodId) (ig : Instr), s.WarmedH vm₁ ∧ Stand p l e R s m args below meth c (T.setVm vm₁) locs cells slots ∧ (T.setVm vm₁).methodNamed? y = some mk ∧ decode c.code g.pc = .ok (ig, 3) ∧
    ∀ target, Steps p.tables e below (doInvoke e ((T.setVm vm₁).setTop { g with stack := rest }) [] mk a).1 target → Steps p.tables e below (T.setTop g) target
/-- what a throw that has come to the frame g leads to -/
def am_WT (p : Program) (l : Launch) (e : Env) (R : Room) (s : State) (m : MethodId) (args : Array Value) (below : List Frame) (meth : Method) (c : Code) (H : Heap) (locs : List Loc) (cells slots : Nat) (Q : State → Prop) (g : JFrame) (x : Addr) : Prop :=
  ∀ T : State, T.heap = H → Stand p l e R s m args below meth c T locs cells slots → ∃ t, Steps p.tables e below ((T.setTop g).pushFrame (.throwing x)) t ∧ Q t
theorem am_entV {own C : String} {index : Nat} {y : MethodName} (hexec : p.tables.exec = Jvm.exec) (hown : s.vm.findClass own = some m.cls) (hlink : (Cond.methodLink own index y).before args s = true) (hinst : (Cond.instanceMethod y).before args s = true) (hsel : (Cond.selects C y y).before args s = true)
    (hy : y.cls ≠ "java/lang/invoke/MethodHandle" ∧ y.cls ≠ "java/lang/invoke/VarHandle") {sg : MethodDescriptor} (hpd : parseMethodDescriptor y.desc = some sg)
    {b : Addr} {cellB : Cell} (hcell : H[b]? = some cellB) (hobj : cellB.vm.isStatics = false) (hcls : s.vm.findClass C = some cellB.cls) (hsg : ∀ mk methM, s.methodNamed? y = some mk → s.vm.method? mk = some methM → methM.sig = sg)
    {g : JFrame} (hg : g.method = m) {argsL rest : List Value} (hlen : argsL.length = sg.parameters.length)
    (hstack : g.stack = argsL.reverse ++ .ref b :: rest) (hdg : decode c.code g.pc = .ok (.invokevirtual index, 3)) :
    am_Ent p l e R s m args below meth c H locs cells slots g y (Value.ref b :: argsL).toArray rest := by
  intro T hT X
  subst hT
  obtain ⟨mk, methM, hnamed, hmethM, hstM, habM⟩ := Cond.instanceMethod_spec hinst
  obtain ⟨c2, r2, m2, q1, q2, q3, q4, kP, hkP, hkPi⟩ := Cond.selects_spec hsel
  cases hcls.symm.trans q1
  cases (State.methodFound?_of_named hnamed hy).symm.trans q2
  cases hnamed.symm.trans q3
  have hselP : selectMethod e.platform s.vm cellB.cls mk = .method mk := by rw [Launch.admits_selectMethod X.admits]; exact q4
  obtain ⟨vm₁, X₁, hstep₁⟩ := X.invokevirtual hexec hown hlink hnamed hmethM hstM hkP hkPi hy (a := b) (cell := cellB) hcell
    (fun z h => by rw [h] at hobj; cases hobj) hselP hmethM habM hkP hkPi (g := g) hg (argsL := argsL) (rest := rest) (by rw [hsg mk methM hnamed hmethM]; exact hlen) hstack hdg
  exact ⟨vm₁, mk, _, X₁.warmed, X₁, X₁.named hnamed, hdg, fun target h => hstep₁ _ fun acts => by rw [doInvoke_state]; exact h⟩
theorem am_entVN {own C host : String} {index : Nat} {y : MethodName} (hexec : p.tables.exec = Jvm.exec) (hown : s.vm.findClass own = some m.cls) (hlink : (Cond.methodLinkNest own index y host).before args s = true) (hinst : (Cond.instanceMethod y).before args s = true) (hsel : (Cond.selects C y y).before args s = true)
    (hy : y.cls ≠ "java/lang/invoke/MethodHandle" ∧ y.cls ≠ "java/lang/invoke/VarHandle") {sg : MethodDescriptor}
    {b : Addr} {cellB : Cell} (hcell : H[b]? = some cellB) (hobj : cellB.vm.isStatics = false) (hcls : s.vm.findClass C = some cellB.cls) (hsg : ∀ mk methM, s.methodNamed? y = some mk → s.vm.method? mk = some methM → methM.sig = sg)
    {g : JFrame} (hg : g.method = m) {argsL rest : List Value} (hlen : argsL.length = sg.parameters.length)
    (hstack : g.stack = argsL.reverse ++ .ref b :: rest) (hdg : decode c.code g.pc = .ok (.invokevirtual index, 3)) :
    am_Ent p l e R s m args below meth c H locs cells slots g y (Value.ref b :: argsL).toArray rest := by
  intro T hT X
  subst hT
  obtain ⟨mk, methM, hnamed, hmethM, hstM, habM⟩ := Cond.instanceMethod_spec hinst
  obtain ⟨c2, r2, m2, q1, q2, q3, q4, kP, hkP, hkPi⟩ := Cond.selects_spec hsel
  cases hcls.symm.trans q1
  cases (State.methodFound?_of_named hnamed hy).symm.trans q2
  cases hnamed.symm.trans q3
  have hselP : selectMethod e.platform s.vm cellB.cls mk = .method mk := by rw [Launch.admits_selectMethod X.admits]; exact q4
  obtain ⟨vm₁, X₁, hstep₁⟩ := X.invokevirtualNest hexec hown hlink hnamed hmethM hstM hkP hkPi hy (a := b) (cell := cellB) hcell
    (fun z h => by rw [h] at hobj; cases hobj) hselP hmethM habM hkP hkPi (g := g) hg (argsL := argsL) (rest := rest) (by rw [hsg mk methM hnamed hmethM]; exact hlen) hstack hdg
  exact ⟨vm₁, mk, _, X₁.warmed, X₁, X₁.named hnamed, hdg, fun target h => hstep₁ _ fun acts => by rw [doInvoke_state]; exact h⟩
theorem am_entS {own : String} {index : Nat} {y : MethodName} {bytes : ByteArray} {maxL : Nat} {ret : Option FieldType} (hexec : p.tables.exec = Jvm.exec) (hown : s.vm.findClass own = some m.cls) (hlink : (Cond.methodLink own index y).before args s = true) (hstat : (Cond.static y).before args s = true) (hinit : (Cond.initialized y.cls).before args s = true)
    (hcode : (Cond.code y bytes maxL ret).before args s = true) (hy : y.cls ≠ "java/lang/invoke/MethodHandle" ∧ y.cls ≠ "java/lang/invoke/VarHandle")
    {g : JFrame} (hg : g.method = m) {argsL rest : List Value} (hlen : ∀ sig, parseMethodDescriptor y.desc = some sig → argsL.length = sig.parameters.length)
    (hstack : g.stack = argsL.reverse ++ rest) (hdg : decode c.code g.pc = .ok (.invokestatic index, 3)) :
    am_Ent p l e R s m args below meth c H locs cells slots g y argsL.toArray rest := by
  intro T hT X
  subst hT
  obtain ⟨mk, hnamed⟩ := Cond.code_named hcode
  obtain ⟨methM, cM, hmethM, -, -, -, -, -, -, hsigM⟩ := Cond.code_spec hnamed hcode
  have hstatic : methM.isStatic = true := Cond.static_spec hnamed hmethM hstat
  obtain ⟨kP, hkP, -⟩ := className_of_methodNamed hnamed
  have hinitP : kP.init = .initialized := Cond.initialized_spec (findClass_of_methodNamed hnamed) hkP hinit
  obtain ⟨vm₁, X₁, hstep₁⟩ := X.invokestatic hexec hown hlink hnamed hmethM hstatic hkP hinitP hy (g := g) hg (argsL := argsL) (rest := rest) (hlen _ hsigM) hstack hdg
  exact ⟨vm₁, mk, _, X₁.warmed, X₁, X₁.named hnamed, hdg, fun target h => hstep₁ _ fun acts => by rw [doInvoke_state]; exact h⟩
theorem am_entSN {own host : String} {index : Nat} {y : MethodName} {bytes : ByteArray} {maxL : Nat} {ret : Option FieldType} (hexec : p.tables.exec = Jvm.exec) (hown : s.vm.findClass own = some m.cls) (hlink : (Cond.methodLinkNest own index y host).before args s = true) (hstat : (Cond.static y).before args s = true) (hinit : (Cond.initialized y.cls).before args s = true)
    (hcode : (Cond.code y bytes maxL ret).before args s = true) (hy : y.cls ≠ "java/lang/invoke/MethodHandle" ∧ y.cls ≠ "java/lang/invoke/VarHandle")
    {g : JFrame} (hg : g.method = m) {argsL rest : List Value} (hlen : ∀ sig, parseMethodDescriptor y.desc = some sig → argsL.length = sig.parameters.length)
    (hstack : g.stack = argsL.reverse ++ rest) (hdg : decode c.code g.pc = .ok (.invokestatic index, 3)) :
    am_Ent p l e R s m args below meth c H locs cells slots g y argsL.toArray rest := by
  intro T hT X
  subst hT
  obtain ⟨mk, hnamed⟩ := Cond.code_named hcode
  obtain ⟨methM, cM, hmethM, -, -, -, -, -, -, hsigM⟩ := Cond.code_spec hnamed hcode
  have hstatic : methM.isStatic = true := Cond.static_spec hnamed hmethM hstat
  obtain ⟨kP, hkP, -⟩ := className_of_methodNamed hnamed
  have hinitP : kP.init = .initialized := Cond.initialized_spec (findClass_of_methodNamed hnamed) hkP hinit
  obtain ⟨vm₁, X₁, hstep₁⟩ := X.invokestaticNest hexec hown hlink hnamed hmethM hstatic hkP hinitP hy (g := g) hg (argsL := argsL) (rest := rest) (hlen _ hsigM) hstack hdg
  exact ⟨vm₁, mk, _, X₁.warmed, X₁, X₁.named hnamed, hdg, fun target h => hstep₁ _ fun acts => by rw [doInvoke_state]; exact h⟩
theorem am_entI {own : String} {index : Nat} {y : MethodName} {bytes : ByteArray} {maxL : Nat} (hexec : p.tables.exec = Jvm.exec) (hown : s.vm.findClass own = some m.cls) (hy1 : y.name = "<init>") (hlink : (Cond.methodLink own index y).before args s = true) (hinst : (Cond.instanceMethod y).before args s = true)
    (hcode : (Cond.code y bytes maxL none).before args s = true) (hy : y.cls ≠ "java/lang/invoke/MethodHandle" ∧ y.cls ≠ "java/lang/invoke/VarHandle")
    {g : JFrame} (hg : g.method = m) {a : Addr} {argsL rest : List Value} (hlen : ∀ sig, parseMethodDescriptor y.desc = some sig → argsL.length = sig.parameters.length)
    (hstack : g.stack = argsL.reverse ++ .ref a :: rest) (hdg : decode c.code g.pc = .ok (.invokespecial index, 3)) :
    am_Ent p l e R s m args below meth c H locs cells slots g y (Value.ref a :: argsL).toArray rest := by
  intro T hT X
  subst hT
  subst hg
  have hpl : e.platform.magicAccessors = ({} : Platform).magicAccessors := by rw [X.admits.platform]
  obtain ⟨mk, methM, cM, kP, vm₁, hnamed, hmethM, hcodeM, -, hlocalsM, -, hkP, -, hW₁, hstep₁⟩ := Steps.initColdArgs (e := e) X.here hexec X.warmed hpl hown hy1 hy hlink hinst hcode (f := g) rfl hlen hstack hdg
  have X₁ := X.noted hW₁
  exact ⟨vm₁, mk, _, X₁.warmed, X₁, X₁.named hnamed, hdg, fun target h => hstep₁ _ fun acts => by rw [doInvoke_state]; exact h⟩
theorem am_entIN {own host : String} {index : Nat} {y : MethodName} {bytes : ByteArray} {maxL : Nat} (hexec : p.tables.exec = Jvm.exec) (hown : s.vm.findClass own = some m.cls) (hy1 : y.name = "<init>") (hlink : (Cond.methodLinkNest own index y host).before args s = true) (hinst : (Cond.instanceMethod y).before args s = true)
    (hcode : (Cond.code y bytes maxL none).before args s = true) (hy : y.cls ≠ "java/lang/invoke/MethodHandle" ∧ y.cls ≠ "java/lang/invoke/VarHandle")
    {g : JFrame} (hg : g.method = m) {a : Addr} {argsL rest : List Value} (hlen : ∀ sig, parseMethodDescriptor y.desc = some sig → argsL.length = sig.parameters.length)
    (hstack : g.stack = argsL.reverse ++ .ref a :: rest) (hdg : decode c.code g.pc = .ok (.invokespecial index, 3)) :
    am_Ent p l e R s m args below meth c H locs cells slots g y (Value.ref a :: argsL).toArray rest := by
  intro T hT X
  subst hT
  subst hg
  have hpl : e.platform.magicAccessors = ({} : Platform).magicAccessors := by rw [X.admits.platform]
  obtain ⟨mk, methM, cM, kP, vm₁, hnamed, hmethM, hcodeM, -, hlocalsM, -, hkP, -, hW₁, hstep₁⟩ := Steps.initColdArgsNest (e := e) X.here hexec X.warmed hpl hown hy1 hy hlink hinst hcode (f := g) rfl hlen hstack hdg
  have X₁ := X.noted hW₁
  exact ⟨vm₁, mk, _, X₁.warmed, X₁, X₁.named hnamed, hdg, fun target h => hstep₁ _ fun acts => by rw [doInvoke_state]; exact h⟩
/-- a call over a contract: what comes behind it, by its outcome -/
theorem am_callW {y : MethodName} {ws : List Cond} {rm : Room} {Pc : Array Value → State → Prop} {Qc : Array Value → State → Outcome → State → Prop} {mc ms maxL nL : Nat} {free : Addr → Prop} {A0 : Nat → Prop} {H0 : Heap} {pc : Nat} {ls : Array Slot} {st0 rest : List Value} {a : Array Value}
    (hE : am_Ent p l e R s m args below meth c H locs cells slots (F0 m pc ls st0) y a rest)
    (hM : am_Met l y ws rm Pc Qc mc ms free) (hblind : FrameBlind Pc) (hrc : rm.cells = mc) (hrs : rm.slots = ms)
    (hframes : rm.frames + 1 ≤ R.frames) (hlocals : 8 + (maxL + 11) + rm.locals ≤ R.locals)
    (hws : ∀ w ∈ ws, ∀ (a' : Array Value) (U : State), s.WarmedH U.vm → w.before a' U = true)
    (hcode : ∀ (U : State) mk, s.WarmedH U.vm → U.methodNamed? y = some mk → ∃ meth c, U.vm.method? mk = some meth ∧ meth.code = some c ∧ c.maxLocals = maxL)
    (hinit : ∀ (a' : Array Value) (U : State), s.WarmedH U.vm → (Cond.initialized y.cls).before a' U = true)
    (hml : c.maxLocals = nL) (hsize : ls.size = nL) (hW : (rest.map fun v => v.category).sum ≤ 8) (hf : cells + mc ≤ R.cells ∧ slots + ms ≤ R.slots)
    (hPc : ∀ U : State, U.heap = H → s.WarmedH U.vm → Pc a U)
    (kk : ∀ (o : Outcome) (st₀ t : State) (H1 : Heap) (L : List Loc), st₀.heap = H → t.heap = H1 → s.vm.Alike t.vm → Qc a st₀ o t → (∀ q ∈ L, free q.base) →
      match o with
      | .returned v => W p l e R s m args below meth c H1 (locs ++ L) (cells + mc) (slots + ms) Q (F0 m (pc + 3) ls (v.toList ++ rest))
      | .threw x => am_WT p l e R s m args below meth c H1 (locs ++ L) (cells + mc) (slots + ms) Q (F0 m pc ls rest) x) :
    W p l e R s m args below meth c H locs cells slots Q (F0 m pc ls st0) := by
  intro T hT X
  obtain ⟨vm₁, mk, ig, hW₁, X₁, hn, hdg, hst⟩ := hE T hT X
  have hK : am_Back l R p e below s args y 3 8 (PreOf R mc ms Pc) (am_PostOf Qc mc ms free) := am_back_of hM hblind hrc hrs hframes hlocals hws hcode hinit
  obtain ⟨o, ⟨U', l2, c2, s2⟩, X', ⟨g', mk', t, L, e1, e2, hq, h1, hL, h2, h3⟩, hsteps⟩ := hK m meth c ⟨T.setVm vm₁, locs, cells, slots⟩ (F0 m pc ls rest) ig mk a X₁ rfl (by show ls.size = _; rw [hsize, hml]) hdg (by show 2 * 0 + (rest.map fun v => v.category).sum ≤ 8; omega) hn ⟨hf.1, hf.2, hPc (T.setVm vm₁) hT hW₁⟩
  dsimp only [Pt.U, Pt.locs, Pt.cells, Pt.slots] at X' e1 e2 h1 h2 h3 hsteps
  subst h1; subst h2; subst h3
  have hal : s.vm.Alike t.vm := by rw [← e2]; exact X'.warmed.alike
  have := kk o ((T.setVm vm₁).calling g' mk' a) t U'.heap L hT e1.symm hal hq hL
  cases o with
  | returned v =>
    obtain ⟨t', a1, b1⟩ := this U' rfl X'
    exact ⟨t', hst _ (hsteps.trans a1), b1⟩
  | threw x =>
    obtain ⟨t', a1, b1⟩ := this U' rfl X'
    exact ⟨t', hst _ (hsteps.trans a1), b1⟩
end AmEnt
end
section
def am_MQ (below : List Frame) (Qc : Array Value → State → Outcome → State → Prop) (a : Array Value) (s : State) (mc ms : Nat) (free : Addr → Prop) : State → Prop := fun t =>
  ∃ o, t.status = .running ∧ Ended t below o ∧ Qc a s o t ∧ ∃ L, am_FE s t L mc ms ∧ ∀ q ∈ L, free q.base
section AmThrow
variable {p : Program} {l : Launch} {e : Env} {R : Room} {s : State} {m : MethodId} {args : Array Value} {below : List Frame} {meth : Method} {c : Code} {H : Heap} {locs : List Loc} {cells slots : Nat} {Q : State → Prop}
theorem am_Wmono {Q2 : State → Prop} {g : JFrame} (h : ∀ t, Q t → Q2 t) (k : W p l e R s m args below meth c H locs cells slots Q g) : W p l e R s m args below meth c H locs cells slots Q2 g := by
  intro T hT X
  obtain ⟨t, a, b⟩ := k T hT X
  exact ⟨t, a, h t b⟩
theorem am_MQ_of {Qc : Array Value → State → Outcome → State → Prop} {mc ms : Nat} {free : Addr → Prop} {a : Array Value} : ∀ t, MQ below Qc a s mc ms free t → am_MQ below Qc a s mc ms free t := by
  intro t hh
  obtain ⟨o, h1, h2, h3, L, ⟨-, h5, h6⟩, h7⟩ := hh
  exact ⟨o, h1, h2, h3, L, ⟨h5, h6⟩, h7⟩
theorem am_ofW {y : MethodName} {ws : List Cond} {rm : Room} {Pc : Array Value → State → Prop} {Qc : Array Value → State → Outcome → State → Prop} {mc ms : Nat} {free : Addr → Prop} {cc : ByteArray} {maxL : Nat} {ret : Option FieldType}
    (hy : plainName y.cls = true)
    (his : ∀ (args : Array Value) (s : State) m, (∀ w ∈ ws, w.before args s = true) → s.methodNamed? y = some m → ∃ meth c, s.vm.method? m = some meth ∧ meth.code = some c ∧ c.code = cc ∧ c.maxLocals = maxL ∧ meth.sig.returnType = ret ∧ meth.locks = false)
    (body : ∀ p e s m args below meth c s₁, BodyLoose p l y (headSpec ws rm) cc maxL ret e s m args below meth c s₁ → c.maxLocals = maxL → Pc args s →
      W p l e rm s m args below meth c s.heap [] 0 0 (am_MQ below Qc args s mc ms free) (entryFrame m args maxL)) : am_Met l y ws rm Pc Qc mc ms free := by
  refine MetFree.of_bodyS (code := cc) (maxLocals := maxL) (ret := ret) hy ?_ ?_
  · intro args s m h hn
    exact his args s m (atoms_spec (ws := ws) h) hn
  · intro p e s m args below meth c s₁ B hml hP _
    have hh0 : s₁.heap = s.heap := by rw [B.state]; rfl
    obtain ⟨t, a1, o, b1, b2, b3⟩ := body p e s m args below meth c s₁ B hml hP s₁ hh0 (Stand.of_body B)
    exact ⟨t, o, a1, b1, b2, ⟨b3.1, b3.2⟩⟩
/-- a throw leaves the method -/
theorem am_WT_leave {Qc : Array Value → State → Outcome → State → Prop} {free : Addr → Prop} {x : Addr} {pc : Nat} {ls : Array Slot} {st : List Value} (hlocks : meth.locks = false)
    (hout : ∀ x ∈ c.exceptionTable.toList, covers x pc = false)
    (hq : ∀ t : State, t.heap = H → s.WarmedH t.vm → Qc args s (.threw x) t) (hf : ∀ q ∈ locs, free q.base) :
    am_WT p l e R s m args below meth c H locs cells slots (am_MQ below Qc args s cells slots free) (F0 m pc ls st) x := by
  intro T hT X
  obtain ⟨h1, h2, h3, h4, h5⟩ := X.leaveThrown x (g := F0 m pc ls st) rfl rfl rfl hout
  exact ⟨_, h1, .threw x, h2, h3, hq _ hT h4, locs, ⟨h4, h5⟩, hf⟩
theorem am_athrow {Qc : Array Value → State → Outcome → State → Prop} {free : Addr → Prop} {x : Addr} {pc : Nat} {ls : Array Slot} {st : List Value} {cc : ByteArray} (hexec : p.tables.exec = Jvm.exec) (hb : c.code = cc) (hlocks : meth.locks = false)
    (hout : ∀ x ∈ c.exceptionTable.toList, covers x pc = false)
    (hq : ∀ t : State, t.heap = H → s.WarmedH t.vm → Qc args s (.threw x) t) (hf : ∀ q ∈ locs, free q.base) (hdg : decode cc pc = .ok (.athrow, 1)) :
    W p l e R s m args below meth c H locs cells slots (am_MQ below Qc args s cells slots free) (F0 m pc ls (.ref x :: st)) := by
  intro T hT X
  obtain ⟨h1, h2, h3, h4, h5⟩ := X.athrowLeaves hexec (g := F0 m pc ls (.ref x :: st)) rfl rfl rfl hout (a := x) (rest := st) rfl (by rw [hb]; exact hdg)
  exact ⟨_, h1, .threw x, h2, h3, hq _ hT h4, locs, ⟨h4, h5⟩, hf⟩
theorem am_stepCatch {e : Env} {s : State} {a : Addr} {f : JFrame} {r : List Frame} {pc : Nat} {vm' : Vm} (hfind : ∀ (Q : Handler → Pre) (E : CtlPost) (d : Bool) (acts : List Action), (∀ d', Q (.found pc) d' acts (s.setVm vm')) → wp (findHandler f a) Q E e d acts s) :
    (stepThrowing e s a (.java f :: r)).Is ((s.setVm vm').setFrames (.java { f with pc := pc, stack := [.ref a] } :: r)) [] := by
  simp only [stepThrowing, searchFrame, vmDo]
  generalize hr : Sem.go _ e false [] s = res
  obtain ⟨as, rfl, ha⟩ := Sem.eq_ok_of hr (a := Handler.found pc) (s' := s.setVm vm') (acts' := []) (by
    rw [wp_bind']
    refine hfind _ _ _ _ ?_
    intro d'
    simp)
  exact ⟨rfl, ha⟩
theorem am_caught {tb : Tables} {e : Env} {s target : State} {g : JFrame} {c : Code} {below : List Frame} {a : Addr} {vm' : Vm} (h : At s g.method c below) {pc : Nat} (hfind : ∀ (Q : Handler → Pre) (E : CtlPost) (d : Bool) (acts : List Action), (∀ d', Q (.found pc) d' acts (((s.setTop g).pushFrame (.throwing a)).setVm vm')) → wp (findHandler g a) Q E e d acts ((s.setTop g).pushFrame (.throwing a)))
    (hrest : Steps tb e below ((s.setVm vm').setTop { g with pc := pc, stack := [.ref a] }) target) :
    Steps tb e below ((s.setTop g).pushFrame (.throwing a)) target := by
  obtain ⟨hgo, hw⟩ := h.throwing a
  refine Steps.head hgo hw ?_
  rw [stepThread_throwing (frames_entered h.top _), (am_stepCatch (s := (s.setTop g).pushFrame (.throwing a)) hfind).1]
  obtain ⟨g₀, hg⟩ := Option.isSome_iff_exists.mp h.top
  obtain ⟨r, hr⟩ := State.topJava?_eq_some.mp hg
  have hr2 : (s.setVm vm').frames = .java g₀ :: r := hr
  rw [State.setTop_of_frames _ hr2] at hrest
  have e1 : (((s.setTop g).pushFrame (.throwing a)).setVm vm').setFrames (.java { g with pc := pc, stack := [.ref a] } :: s.frames.tail) = (s.setVm vm').setFrames (.java { g with pc := pc, stack := [.ref a] } :: r) := by
    rw [State.pushFrame, State.setTop_of_frames _ hr, State.setFrames_setFrames, hr]
    show ((s.setFrames _).setFrames _).setVm vm' = (s.setFrames _).setVm vm'
    rw [State.setFrames_setFrames]
    rfl
  rw [e1]
  exact hrest
theorem am_WT_catch {own C : String} {x : ExceptionTableEntry} {a : Addr} {pc : Nat} {ls : Array Slot} {st : List Value} {cell : Cell}
    (htab : c.exceptionTable.toList = [x]) (hcov : covers x pc = true) (h0 : x.catchType ≠ 0) (hown : s.vm.findClass own = some m.cls) (hcl : (Cond.classLink own x.catchType C).before args s = true)
    (hcell : H[a]? = some cell) (hvm : cell.vm = .none) {cC : ClassId} (hC : ClassAt s C cC) (hcc : cell.cls = cC)
    (kk : W p l e R s m args below meth c H locs cells slots Q (F0 m x.handlerPc ls [.ref a])) :
    am_WT p l e R s m args below meth c H locs cells slots Q (F0 m pc ls st) a := by
  intro T hT X
  subst hT
  have hpl : e.platform.magicAccessors = ({} : Platform).magicAccessors := by rw [X.admits.platform]
  obtain ⟨cc, hfcc, hlk⟩ := Cond.classLink_spec hown hcl e.platform hpl
  cases hC.1.symm.trans hfcc
  obtain ⟨hg₁, hwarm₁, hready₁⟩ := State.classEntry (e := e) X.warmed hlk
  have hsz : (T.vm.noted m.cls x.catchType (.cls cC)).classes.size ≤ T.vm.classes.size := by simp
  obtain ⟨ha, ht⟩ := hg₁.op (op := VmOp.resolveClass m.cls x.catchType) rfl
  obtain ⟨t, a1, b1⟩ := kk (T.setVm (T.vm.noted m.cls x.catchType (.cls cC))) rfl (X.noted hwarm₁)
  refine ⟨t, am_caught (vm' := T.vm.noted m.cls x.catchType (.cls cC)) (g := F0 m pc ls st) X.here ?_ a1, b1⟩
  intro Q E d acts hQ
  have hmt : T.vm.method? m = some meth := X.method'
  rw [W.findHandler_eq (s := (T.setTop (F0 m pc ls st)).pushFrame (.throwing a)) (f := F0 m pc ls st) hmt X.code, htab]
  have hCa : ClassAt (T.setVm (T.vm.noted m.cls x.catchType (.cls cC))) C cC := classAt_moved hwarm₁.alike hC
  have hassign : (T.vm.noted m.cls x.catchType (.cls cC)).assignable cC cC = true := va_assign hCa
  have hk1 : ∃ k, (T.vm.noted m.cls x.catchType (.cls cC)).classes[cC]? = some k := ⟨hCa.2.choose, hCa.2.choose_spec.1⟩
  simp only [covers] at hcov
  have hQ2 := hQ (VmOp.dirties (VmOp.resolveClass m.cls x.catchType) d)
  generalize T.vm.noted m.cls x.catchType (.cls cC) = vm₁ at *
  subst hcc
  have hheap : ((T.setTop (F0 m pc ls st)).pushFrame (.throwing a)).heap = T.heap := rfl
  have hvm2 : ((T.setTop (F0 m pc ls st)).pushFrame (.throwing a)).vm = T.vm := rfl
  simp [findHandler.go, hcov, h0, hheap, hvm2, ha, ht, hsz, hcell, hvm, hk1, hassign]
  exact hQ2
end AmThrow
end
section
/-! The small machine: values, rows, one step, runs. A reference is (kind, number). Kinds below 16: objects by the place of their type in vwCl; 20 .. 199: rows by what holds them; from 200 on: rows that were there before; from 220 on: values of which nothing is known. -/
abbrev am_V : Type := Int32 ⊕ Int64 ⊕ Option (Nat × Nat)
abbrev am_B : Type := Nat × (Nat → Nat × Nat) × (Nat → Nat → Nat) × (Nat → Nat → Nat) × Nat × (Nat → Nat)
abbrev am_H : Type := am_B × (Nat → Nat → Nat → Int32) × (Nat → Nat → Nat → Option (Nat × Nat))
abbrev am_O : Type := Option am_V ⊕ (Nat × Nat)
abbrev am_R : Type := Option (am_O × am_H)
abbrev am_Row : Type := Instr × Nat × Int32 × Nat × Nat × Nat × List (Int32 × Nat)
abbrev av_i (x : Int32) : am_V := .inl x
abbrev av_l (x : Int64) : am_V := .inr (.inl x)
abbrev av_q (r : Option (Nat × Nat)) : am_V := .inr (.inr r)
abbrev av_r (t i : Nat) : am_V := .inr (.inr (some (t, i)))
abbrev av_n : am_V := .inr (.inr none)
/-- cells: number, which is where, where is which, lengths, places in all, how many of a kind -/
abbrev ah_n (σ : am_H) : Nat := σ.1.1
abbrev ah_al (σ : am_H) : Nat → Nat × Nat := σ.1.2.1
abbrev ah_ad (σ : am_H) : Nat → Nat → Nat := σ.1.2.2.1
abbrev ah_ln (σ : am_H) : Nat → Nat → Nat := σ.1.2.2.2.1
abbrev ah_sl (σ : am_H) : Nat := σ.1.2.2.2.2.1
abbrev ah_I (σ : am_H) : Nat → Nat → Nat → Int32 := σ.2.1
abbrev ah_R (σ : am_H) : Nat → Nat → Nat → Option (Nat × Nat) := σ.2.2
def am_c {α : Type} (I : Nat → Nat → α) (t i : Nat) (f : α) : Nat → Nat → α := fun t' i' => if t' = t ∧ i' = i then f else I t' i'
def am_u {α : Type} (f : Nat → α) (k : Nat) (x : α) : Nat → α := fun j => if j = k then x else f j
/-- one place of a cell gets a number -/
def am_sI (σ : am_H) (t i j : Nat) (x : Int32) : am_H := (σ.1, am_c σ.2.1 t i (upd (σ.2.1 t i) j x), σ.2.2)
def am_sR (σ : am_H) (t i j : Nat) (x : Option (Nat × Nat)) : am_H := (σ.1, σ.2.1, am_c σ.2.2 t i (am_u (σ.2.2 t i) j x))
def am_in (j : Int32) (n : Nat) : Bool := !decide (j < 0) && Nat.blt j.toNatClampNeg n
/-- what an array kind holds: 0 int, 1 byte, 2 boolean, 3 Code, 4 Blocks; 9: no array of ours -/
def am_fit (t : Nat) (k : Nat) (x : Int32) : Int32 := bif Nat.beq k 1 then vp_nar .byte x else bif Nat.beq k 2 then vp_nar .boolean x else x
def am_sw (x : Int32) (K : Nat → am_R) (d : Nat) : List (Int32 × Nat) → am_R
  | [] => K d
  | q :: r => if x = q.1 then K q.2 else am_sw x K d r
def am_cnt (σ : am_H) (t : Nat) : Nat := σ.1.2.2.2.2.2 t
def am_mk (σ : am_H) (t n : Nat) : am_H :=
  let i := am_cnt σ t
  ((ah_n σ + 1, am_u (ah_al σ) (ah_n σ) (t, i), am_c (ah_ad σ) t i (ah_n σ), am_c (ah_ln σ) t i n, ah_sl σ + n, am_u σ.1.2.2.2.2.2 t (i + 1)), am_c (ah_I σ) t i (fun _ => 0), am_c (ah_R σ) t i (fun _ => none))
section AmStep
variable (ak : Nat → Nat) (X : Nat → Nat → Int32) (XL : Nat → Nat)
/-- the length of a row (of one that was there before: XL is one more; 0: it is not to be looked at) -/
def am_len (σ : am_H) (t i : Nat) : Nat := bif Nat.blt t 200 then ah_ln σ t i else XL t - 1
def am_bin (f : Int32 → Int32 → Int32) (K : List am_V → am_R) : List am_V → am_R
  | .inl y :: .inl x :: r => K (av_i (f x y) :: r)
  | _ => none
def am_iald (σ : am_H) (K : List am_V → am_R) : List am_V → am_R
  | .inl j :: .inr (.inr (some (t, i))) :: r =>
    bif Nat.blt t 200 then (bif Nat.beq (ak t) 0 && am_in j (ah_ln σ t i) then K (av_i (ah_I σ t i j.toNatClampNeg) :: r) else none)
    else (bif Nat.blt t 220 && am_in j (XL t - 1) then K (av_i (X t j.toNatClampNeg) :: r) else none)
  | _ => none
def am_bald (σ : am_H) (K : List am_V → am_R) : List am_V → am_R
  | .inl j :: .inr (.inr (some (t, i))) :: r =>
    bif Nat.blt t 200 && (Nat.beq (ak t) 1 || Nat.beq (ak t) 2) && am_in j (ah_ln σ t i) then K (av_i (ah_I σ t i j.toNatClampNeg) :: r) else none
  | _ => none
def am_aald (σ : am_H) (K : List am_V → am_R) : List am_V → am_R
  | .inl j :: .inr (.inr (some (t, i))) :: r =>
    bif Nat.blt t 200 && (Nat.beq (ak t) 3 || Nat.beq (ak t) 4) && am_in j (ah_ln σ t i) then K (av_q (ah_R σ t i j.toNatClampNeg) :: r) else none
  | _ => none
def am_iast (σ : am_H) (K : List am_V → am_H → am_R) : List am_V → am_R
  | .inl x :: .inl j :: .inr (.inr (some (t, i))) :: r =>
    bif Nat.blt t 200 && Nat.beq (ak t) 0 && am_in j (ah_ln σ t i) then K r (am_sI σ t i j.toNatClampNeg x) else none
  | _ => none
def am_bast (σ : am_H) (K : List am_V → am_H → am_R) : List am_V → am_R
  | .inl x :: .inl j :: .inr (.inr (some (t, i))) :: r =>
    bif Nat.blt t 200 && (Nat.beq (ak t) 1 || Nat.beq (ak t) 2) && am_in j (ah_ln σ t i) then K r (am_sI σ t i j.toNatClampNeg (bif Nat.beq (ak t) 1 then vp_nar .byte x else vp_nar .boolean x)) else none
  | _ => none
def am_aast (σ : am_H) (K : List am_V → am_H → am_R) : List am_V → am_R
  | .inr (.inr (some (t2, i2))) :: .inl j :: .inr (.inr (some (t, i))) :: r =>
    bif Nat.blt t 200 && ((Nat.beq (ak t) 3 && Nat.beq t2 3) || (Nat.beq (ak t) 4 && Nat.beq t2 1)) && am_in j (ah_ln σ t i) then K r (am_sR σ t i j.toNatClampNeg (some (t2, i2))) else none
  | _ => none
def am_alen (σ : am_H) (K : List am_V → am_R) : List am_V → am_R
  | .inr (.inr (some (t, i))) :: r => bif (Nat.blt t 200 && !Nat.beq (ak t) 9) || (Nat.blt 199 t && Nat.blt t 220 && Nat.blt 0 (XL t)) then K (av_i (Int32.ofNat (am_len XL σ t i)) :: r) else none
  | _ => none
/-- a: kind, b: place, c: 0 int, 1 reference, 2 boolean -/
def am_getf (a b c : Nat) (σ : am_H) (K : List am_V → am_R) : List am_V → am_R
  | .inr (.inr (some (t, i))) :: r => bif Nat.beq t a then K ((bif Nat.beq c 1 then av_q (ah_R σ t i b) else av_i (ah_I σ t i b)) :: r) else none
  | _ => none
def am_putf (a b c : Nat) (σ : am_H) (K : List am_V → am_H → am_R) : List am_V → am_R
  | .inl x :: .inr (.inr (some (t, i))) :: r => bif Nat.beq t a && (Nat.beq c 0 || (Nat.beq c 2 && (x == 0 || x == 1))) then K r (am_sI σ t i b x) else none
  | .inr (.inr q) :: .inr (.inr (some (t, i))) :: r => bif Nat.beq t a && Nat.beq c 1 then K r (am_sR σ t i b q) else none
  | _ => none
def am_ldi (ls : List am_V) (k : Nat) (K : am_V → am_R) : am_R := match ls[k]? with
  | some (.inl x) => K (av_i x)
  | _ => none
def am_lda (ls : List am_V) (k : Nat) (K : am_V → am_R) : am_R := match ls[k]? with
  | some (.inr (.inr q)) => K (av_q q)
  | _ => none
def am_sti (ls : List am_V) (k : Nat) (K : List am_V → List am_V → am_R) : List am_V → am_R
  | .inl x :: r => bif Nat.blt k ls.length then K (ls.set k (av_i x)) r else none
  | _ => none
def am_sta (ls : List am_V) (k : Nat) (K : List am_V → List am_V → am_R) : List am_V → am_R
  | .inr (.inr q) :: r => bif Nat.blt k ls.length then K (ls.set k (av_q q)) r else none
  | _ => none
def am_inc (ls : List am_V) (k : Nat) (w : Int32) (K : List am_V → am_R) : am_R := match ls[k]? with
  | some (.inl x) => K (ls.set k (av_i (x + w)))
  | _ => none
def am_cmp2 (p : Int32 → Int32 → am_R → am_R → am_R) (kt kf : List am_V → am_R) : List am_V → am_R
  | .inl y :: .inl x :: r => p x y (kt r) (kf r)
  | _ => none
def am_cmp1 (p : Int32 → am_R → am_R → am_R) (kt kf : List am_V → am_R) : List am_V → am_R
  | .inl x :: r => p x (kt r) (kf r)
  | _ => none
/-- behind a call: the answer, or what was thrown (a handler: its place) -/
def am_aft (h : List (Int32 × Nat)) (K : List am_V → am_H → am_R) (KH : Nat → Nat × Nat → am_H → am_R) : am_R → am_R
  | some (.inl v, σ) => K v.toList σ
  | some (.inr q, σ) => match h with
    | [] => some (.inr q, σ)
    | z :: _ => KH z.2 q σ
  | none => none
def am_inP (K : List am_V → am_R) : List am_V → am_R
  | .inr (.inl hi) :: .inr (.inl lo) :: .inr (.inl x) :: r => bif Nat.ble r.length 4 then K (av_i (if lo ≤ x ∧ x ≤ hi then 1 else 0) :: r) else none
  | _ => none
def am_b4 (f : Int32 → Int32 → Int32) (K : List am_V → am_R) : List am_V → am_R
  | .inl y :: .inl x :: r => bif Nat.ble r.length 4 then K (av_i (f x y) :: r) else none
  | _ => none
def am_recv (c : Nat) : List am_V → Bool
  | .inr (.inr (some (t, _))) :: _ => Nat.beq t c
  | _ => false
def am_nl : am_V → Bool
  | .inr (.inl _) => false
  | _ => true
/-- a call of a with b values from the stack (c: kind of the receiver, 999: none) -/
def am_call (a b c : Nat) (C : Nat → List am_V → am_H → am_R) (st : List am_V) (σ : am_H) (KA : am_R → List am_V → am_R) : am_R :=
  bif Nat.ble b st.length && Nat.ble (st.length - b) 4 && (Nat.beq c 999 || am_recv c (st.take b).reverse) && (st.take b).all am_nl then KA (C a (st.take b).reverse σ) (st.drop b) else none
def am_step (K : Nat → List am_V → List am_V → am_H → am_R) (C : Nat → List am_V → am_H → am_R) (pc : Nat) (ls st : List am_V) (σ : am_H) : Option am_Row → am_R
  | none => none
  | some (i, len, w, a, b, c, tb) => match i with
    | .iconst _ => K (pc + len) ls (av_i w :: st) σ
    | .bipush _ => K (pc + len) ls (av_i w :: st) σ
    | .sipush _ => K (pc + len) ls (av_i w :: st) σ
    | .ldc _ => K (pc + len) ls (av_i w :: st) σ
    | .ldc_w _ => K (pc + len) ls (av_i w :: st) σ
    | .lconst _ => K (pc + len) ls (av_l w.toInt64 :: st) σ
    | .ldc2_w _ => K (pc + len) ls (av_l w.toInt64 :: st) σ
    | .aconst_null => K (pc + len) ls (av_n :: st) σ
    | .iload_n _ => am_ldi ls a (fun v => K (pc + len) ls (v :: st) σ)
    | .iload _ => am_ldi ls a (fun v => K (pc + len) ls (v :: st) σ)
    | .aload_n _ => am_lda ls a (fun v => K (pc + len) ls (v :: st) σ)
    | .aload _ => am_lda ls a (fun v => K (pc + len) ls (v :: st) σ)
    | .istore_n _ => am_sti ls a (fun ls r => K (pc + len) ls r σ) st
    | .istore _ => am_sti ls a (fun ls r => K (pc + len) ls r σ) st
    | .astore_n _ => am_sta ls a (fun ls r => K (pc + len) ls r σ) st
    | .astore _ => am_sta ls a (fun ls r => K (pc + len) ls r σ) st
    | .iinc _ _ => am_inc ls a w (fun ls => K (pc + len) ls st σ)
    | .iadd => am_bin (fun x y => x + y) (fun r => K (pc + len) ls r σ) st
    | .isub => am_bin (fun x y => x - y) (fun r => K (pc + len) ls r σ) st
    | .imul => am_bin (fun x y => x * y) (fun r => K (pc + len) ls r σ) st
    | .iand => am_bin (fun x y => x &&& y) (fun r => K (pc + len) ls r σ) st
    | .ior => am_bin (fun x y => x ||| y) (fun r => K (pc + len) ls r σ) st
    | .ixor => am_bin (fun x y => x ^^^ y) (fun r => K (pc + len) ls r σ) st
    | .ishl => am_bin (fun x y => x <<< (y &&& 31)) (fun r => K (pc + len) ls r σ) st
    | .ishr => am_bin (fun x y => x >>> (y &&& 31)) (fun r => K (pc + len) ls r σ) st
    | .iushr => am_bin (fun x y => (x.toUInt32 >>> (y.toUInt32 &&& Int32.toUInt32 31)).toInt32) (fun r => K (pc + len) ls r σ) st
    | .idiv => (match st with
      | .inl y :: .inl x :: r => if y = 0 then none else K (pc + len) ls (av_i (x / y) :: r) σ
      | _ => none)
    | .irem => (match st with
      | .inl y :: .inl x :: r => if y = 0 then none else K (pc + len) ls (av_i (x - x / y * y) :: r) σ
      | _ => none)
    | .ineg => (match st with
      | .inl x :: r => K (pc + len) ls (av_i (-x) :: r) σ
      | _ => none)
    | .i2l => (match st with
      | .inl x :: r => K (pc + len) ls (av_l x.toInt64 :: r) σ
      | _ => none)
    | .i2b => (match st with
      | .inl x :: r => K (pc + len) ls (av_i x.toInt8.toInt32 :: r) σ
      | _ => none)
    | .dup => (match st with
      | .inl x :: r => K (pc + len) ls (av_i x :: av_i x :: r) σ
      | .inr (.inr q) :: r => K (pc + len) ls (av_q q :: av_q q :: r) σ
      | _ => none)
    | .dup2 => (match st with
      | .inl x :: .inr (.inr q) :: r => K (pc + len) ls (av_i x :: av_q q :: av_i x :: av_q q :: r) σ
      | _ => none)
    | .dup_x1 => (match st with
      | .inl x :: .inr (.inr q) :: r => K (pc + len) ls (av_i x :: av_q q :: av_i x :: r) σ
      | _ => none)
    | .goto _ => K a ls st σ
    | .if_icmp cnd _ => (match cnd with
      | .eq => am_cmp2 (fun x y A B => if x = y then A else B) (fun r => K a ls r σ) (fun r => K (pc + len) ls r σ) st
      | .ne => am_cmp2 (fun x y A B => if x = y then B else A) (fun r => K a ls r σ) (fun r => K (pc + len) ls r σ) st
      | .lt => am_cmp2 (fun x y A B => if x < y then A else B) (fun r => K a ls r σ) (fun r => K (pc + len) ls r σ) st
      | .ge => am_cmp2 (fun x y A B => if y ≤ x then A else B) (fun r => K a ls r σ) (fun r => K (pc + len) ls r σ) st
      | .gt => am_cmp2 (fun x y A B => if y < x then A else B) (fun r => K a ls r σ) (fun r => K (pc + len) ls r σ) st
      | .le => am_cmp2 (fun x y A B => if x ≤ y then A else B) (fun r => K a ls r σ) (fun r => K (pc + len) ls r σ) st)
    | .ifCond cnd _ => (match cnd with
      | .eq => am_cmp1 (fun x A B => if x = 0 then A else B) (fun r => K a ls r σ) (fun r => K (pc + len) ls r σ) st
      | .ne => am_cmp1 (fun x A B => if x = 0 then B else A) (fun r => K a ls r σ) (fun r => K (pc + len) ls r σ) st
      | .lt => am_cmp1 (fun x A B => if x < 0 then A else B) (fun r => K a ls r σ) (fun r => K (pc + len) ls r σ) st
      | .ge => am_cmp1 (fun x A B => if 0 ≤ x then A else B) (fun r => K a ls r σ) (fun r => K (pc + len) ls r σ) st
      | .gt => am_cmp1 (fun x A B => if 0 < x then A else B) (fun r => K a ls r σ) (fun r => K (pc + len) ls r σ) st
      | .le => am_cmp1 (fun x A B => if x ≤ 0 then A else B) (fun r => K a ls r σ) (fun r => K (pc + len) ls r σ) st)
    | .tableswitch _ _ _ _ => (match st with
      | .inl x :: r => am_sw x (fun q => K q ls r σ) a tb
      | _ => none)
    | .lookupswitch _ _ => (match st with
      | .inl x :: r => am_sw x (fun q => K q ls r σ) a tb
      | _ => none)
    | .iaload => am_iald ak X XL σ (fun r => K (pc + len) ls r σ) st
    | .baload => am_bald ak σ (fun r => K (pc + len) ls r σ) st
    | .aaload => am_aald ak σ (fun r => K (pc + len) ls r σ) st
    | .iastore => am_iast ak σ (fun r σ => K (pc + len) ls r σ) st
    | .bastore => am_bast ak σ (fun r σ => K (pc + len) ls r σ) st
    | .aastore => am_aast ak σ (fun r σ => K (pc + len) ls r σ) st
    | .arraylength => am_alen ak XL σ (fun r => K (pc + len) ls r σ) st
    | .getfield _ => am_getf a b c σ (fun r => K (pc + len) ls r σ) st
    | .putfield _ => am_putf a b c σ (fun r σ => K (pc + len) ls r σ) st
    | .getstatic _ => K (pc + len) ls (av_r a 0 :: st) σ
    | .new _ => K (pc + len) ls (av_r a (am_cnt σ a) :: st) (am_mk σ a b)
    | .newarray _ => (match st with
      | .inl n :: r => bif am_in n 20000 then K (pc + len) ls (av_r a (am_cnt σ a) :: r) (am_mk σ a n.toNatClampNeg) else none
      | _ => none)
    | .anewarray _ => (match st with
      | .inl n :: r => bif am_in n 20000 then K (pc + len) ls (av_r a (am_cnt σ a) :: r) (am_mk σ a n.toNatClampNeg) else none
      | _ => none)
    | .invokestatic _ => bif Nat.beq a 901 then am_inP (fun r => K (pc + len) ls r σ) st
      else bif Nat.beq a 902 then am_b4 (fun x y => if x < y then y else x) (fun r => K (pc + len) ls r σ) st
      else bif Nat.beq a 903 then am_b4 (fun x y => if y < x then y else x) (fun r => K (pc + len) ls r σ) st
      else am_call a b c C st σ (fun q r => am_aft tb (fun v σ => K (pc + len) ls (v ++ r) σ) (fun h x σ => K h ls [av_r x.1 x.2] σ) q)
    | .invokevirtual _ => am_call a b c C st σ (fun q r => am_aft tb (fun v σ => K (pc + len) ls (v ++ r) σ) (fun h x σ => K h ls [av_r x.1 x.2] σ) q)
    | .invokespecial _ => bif Nat.beq a 900 then (match st with
        | .inr (.inr (some (t, _))) :: r => bif Nat.blt t 200 && Nat.ble r.length 4 then K (pc + len) ls r σ else none
        | _ => none)
      else am_call a b c C st σ (fun q r => am_aft tb (fun v σ => K (pc + len) ls (v ++ r) σ) (fun h x σ => K h ls [av_r x.1 x.2] σ) q)
    | .athrow => (match st with
      | .inr (.inr (some (t, i))) :: _ => bif Nat.beq t 12 then some (.inr (t, i), σ) else none
      | _ => none)
    | .ireturn => (match st with
      | [.inl x] => some (.inl (some (av_i (bif Nat.beq a 1 then vp_nar .boolean x else x))), σ)
      | _ => none)
    | .areturn => (match st with
      | [.inr (.inr q)] => some (.inl (some (av_q q)), σ)
      | _ => none)
    | .return_ => (match st with
      | [] => some (.inl none, σ)
      | _ => none)
    | _ => none
end AmStep
def am_look (l : List (Nat × am_Row)) (pc : Nat) : Option am_Row := (l.find? (fun q => Nat.beq q.1 pc)).map (fun q => q.2)
def am_ent (n : Nat) (as : List am_V) : List am_V := as ++ List.replicate (n - as.length) (av_l 0)
section AmRun
variable (ak : Nat → Nat) (X : Nat → Nat → Int32) (XL : Nat → Nat) (code : Nat → List (Nat × am_Row)) (ml : Nat → Nat)
def am_run : Nat → Nat → Nat → List am_V → List am_V → am_H → am_R
  | 0, _, _, _, _, _ => none
  | n + 1, y, pc, ls, st, σ => am_step ak X XL (am_run n y) (fun y2 as σ => am_run n y2 0 (am_ent (ml y2) as) [] σ) pc ls st σ (am_look (code y) pc)
end AmRun
end
section
/-! what a step asks of what comes behind it -/
def am_D1 {α : Type} (F : (α → am_R) → am_R) : Prop := ∀ K r, F K = some r → ∃ x, K x = some r ∧ ∀ K', K' x = some r → F K' = some r
def am_D2 {α β : Type} (F : (α → β → am_R) → am_R) : Prop := ∀ K r, F K = some r → ∃ x y, K x y = some r ∧ ∀ K', K' x y = some r → F K' = some r
def am_DH {α : Type} (σ : am_H) (F : (α → am_H → am_R) → am_R) : Prop := ∀ K r, F K = some r → ∃ x y, y.1 = σ.1 ∧ K x y = some r ∧ ∀ K', K' x y = some r → F K' = some r
section AmEv
variable {ak : Nat → Nat} {X : Nat → Nat → Int32} {XL : Nat → Nat}
theorem am_d_bin (f : Int32 → Int32 → Int32) (st : List am_V) : am_D1 (fun K => am_bin f K st) := by
  intro K r h
  unfold am_bin at h ⊢
  split at h
  · exact ⟨_, h, fun K' h' => h'⟩
  · exact absurd h (by simp)
theorem am_d_iald (σ : am_H) (st : List am_V) : am_D1 (fun K => am_iald ak X XL σ K st) := by
  intro K r h
  unfold am_iald at h ⊢
  split at h
  · rename_i j t i r9
    cases h1 : Nat.blt t 200 <;> simp only [h1, cond_true, cond_false] at h ⊢
    · cases h2 : (Nat.blt t 220 && am_in j (XL t - 1)) <;> simp only [h2, cond_true, cond_false] at h ⊢
      · exact absurd h (by simp)
      · exact ⟨_, h, fun K' h' => h'⟩
    · cases h2 : (Nat.beq (ak t) 0 && am_in j (ah_ln σ t i)) <;> simp only [h2, cond_true, cond_false] at h ⊢
      · exact absurd h (by simp)
      · exact ⟨_, h, fun K' h' => h'⟩
  · exact absurd h (by simp)
theorem am_d_bald (σ : am_H) (st : List am_V) : am_D1 (fun K => am_bald ak σ K st) := by
  intro K r h
  unfold am_bald at h ⊢
  split at h
  · rename_i j t i r9
    cases h2 : (Nat.blt t 200 && (Nat.beq (ak t) 1 || Nat.beq (ak t) 2) && am_in j (ah_ln σ t i)) <;> simp only [h2, cond_true, cond_false] at h ⊢
    · exact absurd h (by simp)
    · exact ⟨_, h, fun K' h' => h'⟩
  · exact absurd h (by simp)
theorem am_d_aald (σ : am_H) (st : List am_V) : am_D1 (fun K => am_aald ak σ K st) := by
  intro K r h
  unfold am_aald at h ⊢
  split at h
  · rename_i j t i r9
    cases h2 : (Nat.blt t 200 && (Nat.beq (ak t) 3 || Nat.beq (ak t) 4) && am_in j (ah_ln σ t i)) <;> simp only [h2, cond_true, cond_false] at h ⊢
    · exact absurd h (by simp)
    · exact ⟨_, h, fun K' h' => h'⟩
  · exact absurd h (by simp)
theorem am_d_iast (σ : am_H) (st : List am_V) : am_DH σ (fun K => am_iast ak σ K st) := by
  intro K r h
  unfold am_iast at h ⊢
  split at h
  · rename_i x j t i r9
    cases h2 : (Nat.blt t 200 && Nat.beq (ak t) 0 && am_in j (ah_ln σ t i)) <;> simp only [h2, cond_true, cond_false] at h ⊢
    · exact absurd h (by simp)
    · exact ⟨_, _, (by rfl), h, fun K' h' => h'⟩
  · exact absurd h (by simp)
theorem am_d_bast (σ : am_H) (st : List am_V) : am_DH σ (fun K => am_bast ak σ K st) := by
  intro K r h
  unfold am_bast at h ⊢
  split at h
  · rename_i x j t i r9
    cases h2 : (Nat.blt t 200 && (Nat.beq (ak t) 1 || Nat.beq (ak t) 2) && am_in j (ah_ln σ t i)) <;> simp only [h2, cond_true, cond_false] at h ⊢
    · exact absurd h (by simp)
    · exact ⟨_, _, (by rfl), h, fun K' h' => h'⟩
  · exact absurd h (by simp)
theorem am_d_aast (σ : am_H) (st : List am_V) : am_DH σ (fun K => am_aast ak σ K st) := by
  intro K r h
  unfold am_aast at h ⊢
  split at h
  · rename_i t2 i2 j t i r9
    cases h2 : (Nat.blt t 200 && ((Nat.beq (ak t) 3 && Nat.beq t2 3) || (Nat.beq (ak t) 4 && Nat.beq t2 1)) && am_in j (ah_ln σ t i)) <;> simp only [h2, cond_true, cond_false] at h ⊢
    · exact absurd h (by simp)
    · exact ⟨_, _, (by rfl), h, fun K' h' => h'⟩
  · exact absurd h (by simp)
theorem am_d_alen (σ : am_H) (st : List am_V) : am_D1 (fun K => am_alen ak XL σ K st) := by
  intro K r h
  unfold am_alen at h ⊢
  split at h
  · rename_i t i r9
    cases h2 : ((Nat.blt t 200 && !Nat.beq (ak t) 9) || (Nat.blt 199 t && Nat.blt t 220 && Nat.blt 0 (XL t))) <;> simp only [h2, cond_true, cond_false] at h ⊢
    · exact absurd h (by simp)
    · exact ⟨_, h, fun K' h' => h'⟩
  · exact absurd h (by simp)
theorem am_d_getf (a b c : Nat) (σ : am_H) (st : List am_V) : am_D1 (fun K => am_getf a b c σ K st) := by
  intro K r h
  unfold am_getf at h ⊢
  split at h
  · rename_i t i r9
    cases h2 : Nat.beq t a <;> simp only [h2, cond_true, cond_false] at h ⊢
    · exact absurd h (by simp)
    · exact ⟨_, h, fun K' h' => h'⟩
  · exact absurd h (by simp)
theorem am_d_putf (a b c : Nat) (σ : am_H) (st : List am_V) : am_DH σ (fun K => am_putf a b c σ K st) := by
  intro K r h
  unfold am_putf at h ⊢
  split at h
  · rename_i x t i r9
    cases h2 : (Nat.beq t a && (Nat.beq c 0 || (Nat.beq c 2 && (x == 0 || x == 1)))) <;> simp only [h2, cond_true, cond_false] at h ⊢
    · exact absurd h (by simp)
    · exact ⟨_, _, (by rfl), h, fun K' h' => h'⟩
  · rename_i q t i r9
    cases h2 : (Nat.beq t a && Nat.beq c 1) <;> simp only [h2, cond_true, cond_false] at h ⊢
    · exact absurd h (by simp)
    · exact ⟨_, _, (by rfl), h, fun K' h' => h'⟩
  · exact absurd h (by simp)
theorem am_d_ldi (ls : List am_V) (k : Nat) : am_D1 (fun K => am_ldi ls k K) := by
  intro K r h
  unfold am_ldi at h ⊢
  split at h
  · rename_i x hx
    exact ⟨_, h, fun K' h' => by simp only [hx]; exact h'⟩
  · exact absurd h (by simp)
theorem am_d_lda (ls : List am_V) (k : Nat) : am_D1 (fun K => am_lda ls k K) := by
  intro K r h
  unfold am_lda at h ⊢
  split at h
  · rename_i x hx
    exact ⟨_, h, fun K' h' => by simp only [hx]; exact h'⟩
  · exact absurd h (by simp)
theorem am_d_inc (ls : List am_V) (k : Nat) (w : Int32) : am_D1 (fun K => am_inc ls k w K) := by
  intro K r h
  unfold am_inc at h ⊢
  split at h
  · rename_i x hx
    exact ⟨_, h, fun K' h' => by simp only [hx]; exact h'⟩
  · exact absurd h (by simp)
theorem am_d_sti (ls : List am_V) (k : Nat) (st : List am_V) : am_D2 (fun K => am_sti ls k K st) := by
  intro K r h
  unfold am_sti at h ⊢
  split at h
  · cases h2 : Nat.blt k ls.length <;> simp only [h2, cond_true, cond_false] at h ⊢
    · exact absurd h (by simp)
    · exact ⟨_, _, h, fun K' h' => h'⟩
  · exact absurd h (by simp)
theorem am_d_sta (ls : List am_V) (k : Nat) (st : List am_V) : am_D2 (fun K => am_sta ls k K st) := by
  intro K r h
  unfold am_sta at h ⊢
  split at h
  · cases h2 : Nat.blt k ls.length <;> simp only [h2, cond_true, cond_false] at h ⊢
    · exact absurd h (by simp)
    · exact ⟨_, _, h, fun K' h' => h'⟩
  · exact absurd h (by simp)
theorem am_d_inP (st : List am_V) : am_D1 (fun K => am_inP K st) := by
  intro K r h
  unfold am_inP at h ⊢
  split at h
  · rename_i hi lo x r9
    cases h2 : Nat.ble r9.length 4 <;> simp only [h2, cond_true, cond_false] at h ⊢
    · exact absurd h (by simp)
    · exact ⟨_, h, fun K' h' => h'⟩
  · exact absurd h (by simp)
theorem am_d_b4 (f : Int32 → Int32 → Int32) (st : List am_V) : am_D1 (fun K => am_b4 f K st) := by
  intro K r h
  unfold am_b4 at h ⊢
  split at h
  · rename_i y x r9
    cases h2 : Nat.ble r9.length 4 <;> simp only [h2, cond_true, cond_false] at h ⊢
    · exact absurd h (by simp)
    · exact ⟨_, h, fun K' h' => h'⟩
  · exact absurd h (by simp)
theorem am_d_sw (x : Int32) (d : Nat) : ∀ tb : List (Int32 × Nat), am_D1 (fun K => am_sw x K d tb)
  | [] => fun K r h => ⟨_, h, fun K' h' => h'⟩
  | q :: tb => by
    intro K r h
    unfold am_sw at h ⊢
    by_cases hq : x = q.1
    · simp only [hq, if_true] at h ⊢
      exact ⟨_, h, fun K' h' => h'⟩
    · simp only [hq, if_false] at h ⊢
      exact am_d_sw x d tb K r h
/-- which of two roads, then what is asked there -/
def am_DB (p : Int32 → Int32 → am_R → am_R → am_R) : Prop := ∀ x y A B r, p x y A B = some r → (A = some r ∧ ∀ A' B', A' = some r → p x y A' B' = some r) ∨ (B = some r ∧ ∀ A' B', B' = some r → p x y A' B' = some r)
theorem am_d_ite {c : Prop} [Decidable c] {A B : am_R} {r : am_O × am_H} (h : (if c then A else B) = some r) : (A = some r ∧ ∀ A' B' : am_R, A' = some r → (if c then A' else B') = some r) ∨ (B = some r ∧ ∀ A' B' : am_R, B' = some r → (if c then A' else B') = some r) := by
  by_cases hc : c
  · simp only [hc, if_true] at h ⊢
    exact Or.inl ⟨h, fun _ _ h => h⟩
  · simp only [hc, if_false] at h ⊢
    exact Or.inr ⟨h, fun _ _ h => h⟩
theorem am_d_ite' {c : Prop} [Decidable c] {A B : am_R} {r : am_O × am_H} (h : (if c then B else A) = some r) : (A = some r ∧ ∀ A' B' : am_R, A' = some r → (if c then B' else A') = some r) ∨ (B = some r ∧ ∀ A' B' : am_R, B' = some r → (if c then B' else A') = some r) := by
  by_cases hc : c
  · simp only [hc, if_true] at h ⊢
    exact Or.inr ⟨h, fun _ _ h => h⟩
  · simp only [hc, if_false] at h ⊢
    exact Or.inl ⟨h, fun _ _ h => h⟩
end AmEv
end
section
abbrev am_KT : Type := Nat → List am_V → List am_V → am_H → am_R
abbrev am_CT : Type := Nat → List am_V → am_H → am_R
/-- a heap that comes next: the same cells, or one more -/
def am_le1 (σ h : am_H) : Prop := h.1 = σ.1 ∨ ∃ t n, h.1 = (am_mk σ t n).1
def am_Dst (σ : am_H) (F : am_KT → am_CT → am_R) : Prop := ∀ K C r, F K C = some r →
  (r.2 = σ ∧ ∀ K' C', F K' C' = some r)
  ∨ (∃ p l s h, am_le1 σ h ∧ K p l s h = some r ∧ ∀ (K' : am_KT) C', K' p l s h = some r → F K' C' = some r)
  ∨ (∃ y as q, r.2 = q.2 ∧ C y as σ = some q ∧ ∀ K' (C' : am_CT), C' y as σ = some q → F K' C' = some r)
  ∨ (∃ y as q p l s, C y as σ = some q ∧ K p l s q.2 = some r ∧ ∀ (K' : am_KT) (C' : am_CT), C' y as σ = some q → K' p l s q.2 = some r → F K' C' = some r)
theorem am_dst1 {σ : am_H} {α : Type} {F : (α → am_R) → am_R} (hF : am_D1 F) (p : α → Nat) (l s : α → List am_V) : am_Dst σ (fun K _ => F (fun x => K (p x) (l x) (s x) σ)) := by
  intro K C r hr
  obtain ⟨x, h1, h2⟩ := hF _ r hr
  exact Or.inr (Or.inl ⟨_, _, _, _, Or.inl rfl, h1, fun K' _ h' => h2 _ h'⟩)
theorem am_dst2 {σ : am_H} {α β : Type} {F : (α → β → am_R) → am_R} (hF : am_D2 F) (p : α → β → Nat) (l s : α → β → List am_V) : am_Dst σ (fun K _ => F (fun x y => K (p x y) (l x y) (s x y) σ)) := by
  intro K C r hr
  obtain ⟨x, y, h1, h2⟩ := hF _ r hr
  exact Or.inr (Or.inl ⟨_, _, _, _, Or.inl rfl, h1, fun K' _ h' => h2 _ h'⟩)
theorem am_dstH {σ : am_H} {α : Type} {F : (α → am_H → am_R) → am_R} (hF : am_DH σ F) (p : Nat) (l : List am_V) (s : α → List am_V) : am_Dst σ (fun K _ => F (fun x y => K p l (s x) y)) := by
  intro K C r hr
  obtain ⟨x, y, h0, h1, h2⟩ := hF _ r hr
  exact Or.inr (Or.inl ⟨_, _, _, _, Or.inl h0, h1, fun K' _ h' => h2 _ h'⟩)
theorem am_dst0 {σ : am_H} (p : Nat) (l s : List am_V) : am_Dst σ (fun K _ => K p l s σ) := fun _ _ _ hr => Or.inr (Or.inl ⟨_, _, _, _, (by exact Or.inl rfl), hr, fun _ _ h' => h'⟩)
theorem am_dst_none {σ : am_H} : am_Dst σ (fun _ _ => none) := fun _ _ _ hr => by simp at hr
theorem am_dst_cmp2 {p : Int32 → Int32 → am_R → am_R → am_R} (hp : ∀ x y A B r, p x y A B = some r → (A = some r ∧ ∀ A' B', A' = some r → p x y A' B' = some r) ∨ (B = some r ∧ ∀ A' B', B' = some r → p x y A' B' = some r))
    (a b : Nat) (ls st : List am_V) (σ : am_H) : am_Dst σ (fun K _ => am_cmp2 p (fun r => K a ls r σ) (fun r => K b ls r σ) st) := by
  intro K C r h
  unfold am_cmp2 at h ⊢
  split at h
  · rcases hp _ _ _ _ _ h with ⟨h1, h2⟩ | ⟨h1, h2⟩
    · exact Or.inr (Or.inl ⟨_, _, _, _, Or.inl rfl, h1, fun K' _ h' => h2 _ _ h'⟩)
    · exact Or.inr (Or.inl ⟨_, _, _, _, Or.inl rfl, h1, fun K' _ h' => h2 _ _ h'⟩)
  · exact absurd h (by simp)
theorem am_dst_cmp1 {p : Int32 → am_R → am_R → am_R} (hp : ∀ x A B r, p x A B = some r → (A = some r ∧ ∀ A' B', A' = some r → p x A' B' = some r) ∨ (B = some r ∧ ∀ A' B', B' = some r → p x A' B' = some r))
    (a b : Nat) (ls st : List am_V) (σ : am_H) : am_Dst σ (fun K _ => am_cmp1 p (fun r => K a ls r σ) (fun r => K b ls r σ) st) := by
  intro K C r h
  unfold am_cmp1 at h ⊢
  split at h
  · rcases hp _ _ _ _ h with ⟨h1, h2⟩ | ⟨h1, h2⟩
    · exact Or.inr (Or.inl ⟨_, _, _, _, Or.inl rfl, h1, fun K' _ h' => h2 _ _ h'⟩)
    · exact Or.inr (Or.inl ⟨_, _, _, _, Or.inl rfl, h1, fun K' _ h' => h2 _ _ h'⟩)
  · exact absurd h (by simp)
theorem am_dst_call (a b c pc' : Nat) (ls st : List am_V) (σ : am_H) (tb : List (Int32 × Nat)) : am_Dst σ (fun K C => am_call a b c C st σ (fun q r => am_aft tb (fun v σ => K pc' ls (v ++ r) σ) (fun h x σ => K h ls [av_r x.1 x.2] σ) q)) := by
  intro K C r h
  unfold am_call at h ⊢
  cases h2 : (Nat.ble b st.length && Nat.ble (st.length - b) 4 && (Nat.beq c 999 || am_recv c (st.take b).reverse) && (st.take b).all am_nl) <;> simp only [h2, cond_true, cond_false] at h ⊢
  · exact absurd h (by simp)
  · cases hq : C a (List.take b st).reverse σ with
    | none => rw [hq] at h; simp [am_aft] at h
    | some q =>
      obtain ⟨o, σ2⟩ := q
      rw [hq] at h
      cases o with
      | inl v => exact Or.inr (Or.inr (Or.inr ⟨_, _, _, _, _, _, hq, h, fun K' C' h1 h2 => by rw [h1]; exact h2⟩))
      | inr x =>
        cases tb with
        | nil => exact Or.inr (Or.inr (Or.inl ⟨_, _, _, by have h9 : some (Sum.inr x, σ2) = some r := h; cases h9; rfl, hq, fun K' C' h1 => by rw [h1]; exact h⟩))
        | cons z t => exact Or.inr (Or.inr (Or.inr ⟨_, _, _, _, _, _, hq, h, fun K' C' h1 h2 => by rw [h1]; exact h2⟩))
set_option maxHeartbeats 2000000 in
theorem am_dst (ak : Nat → Nat) (X : Nat → Nat → Int32) (XL : Nat → Nat) (pc : Nat) (ls st : List am_V) (σ : am_H) (row : Option am_Row) : am_Dst σ (fun K C => am_step ak X XL K C pc ls st σ row) := by
  rcases row with _ | ⟨i, len, w, a, b, c, tb⟩
  · exact am_dst_none
  · cases i with
    | iconst n => exact am_dst0 _ _ _
    | bipush n => exact am_dst0 _ _ _
    | sipush n => exact am_dst0 _ _ _
    | ldc n => exact am_dst0 _ _ _
    | ldc_w n => exact am_dst0 _ _ _
    | lconst n => exact am_dst0 _ _ _
    | ldc2_w n => exact am_dst0 _ _ _
    | aconst_null => exact am_dst0 _ _ _
    | iload_n n => exact am_dst1 (am_d_ldi ls a) (fun _ => pc + len) (fun _ => ls) (fun v => v :: st)
    | iload n => exact am_dst1 (am_d_ldi ls a) (fun _ => pc + len) (fun _ => ls) (fun v => v :: st)
    | aload_n n => exact am_dst1 (am_d_lda ls a) (fun _ => pc + len) (fun _ => ls) (fun v => v :: st)
    | aload n => exact am_dst1 (am_d_lda ls a) (fun _ => pc + len) (fun _ => ls) (fun v => v :: st)
    | istore_n n => exact am_dst2 (am_d_sti ls a st) (fun _ _ => pc + len) (fun l _ => l) (fun _ r => r)
    | istore n => exact am_dst2 (am_d_sti ls a st) (fun _ _ => pc + len) (fun l _ => l) (fun _ r => r)
    | astore_n n => exact am_dst2 (am_d_sta ls a st) (fun _ _ => pc + len) (fun l _ => l) (fun _ r => r)
    | astore n => exact am_dst2 (am_d_sta ls a st) (fun _ _ => pc + len) (fun l _ => l) (fun _ r => r)
    | iinc k n => exact am_dst1 (am_d_inc ls a w) (fun _ => pc + len) (fun l => l) (fun _ => st)
    | iadd => exact am_dst1 (am_d_bin _ st) (fun _ => pc + len) (fun _ => ls) (fun r => r)
    | isub => exact am_dst1 (am_d_bin _ st) (fun _ => pc + len) (fun _ => ls) (fun r => r)
    | imul => exact am_dst1 (am_d_bin _ st) (fun _ => pc + len) (fun _ => ls) (fun r => r)
    | iand => exact am_dst1 (am_d_bin _ st) (fun _ => pc + len) (fun _ => ls) (fun r => r)
    | ior => exact am_dst1 (am_d_bin _ st) (fun _ => pc + len) (fun _ => ls) (fun r => r)
    | ixor => exact am_dst1 (am_d_bin _ st) (fun _ => pc + len) (fun _ => ls) (fun r => r)
    | ishl => exact am_dst1 (am_d_bin _ st) (fun _ => pc + len) (fun _ => ls) (fun r => r)
    | ishr => exact am_dst1 (am_d_bin _ st) (fun _ => pc + len) (fun _ => ls) (fun r => r)
    | iushr => exact am_dst1 (am_d_bin _ st) (fun _ => pc + len) (fun _ => ls) (fun r => r)
    | idiv =>
      intro K C r h
      simp only [am_step] at h ⊢
      split at h
      · split at h
        · exact absurd h (by simp)
        · rename_i hne
          exact Or.inr (Or.inl ⟨_, _, _, _, (by exact Or.inl rfl), h, fun _ _ h' => by rw [if_neg hne]; exact h'⟩)
      · exact absurd h (by simp)
    | irem =>
      intro K C r h
      simp only [am_step] at h ⊢
      split at h
      · split at h
        · exact absurd h (by simp)
        · rename_i hne
          exact Or.inr (Or.inl ⟨_, _, _, _, (by exact Or.inl rfl), h, fun _ _ h' => by rw [if_neg hne]; exact h'⟩)
      · exact absurd h (by simp)
    | ineg =>
      intro K C r h
      simp only [am_step] at h ⊢
      split at h
      · exact Or.inr (Or.inl ⟨_, _, _, _, (by exact Or.inl rfl), h, fun _ _ h' => h'⟩)
      · exact absurd h (by simp)
    | i2l =>
      intro K C r h
      simp only [am_step] at h ⊢
      split at h
      · exact Or.inr (Or.inl ⟨_, _, _, _, (by exact Or.inl rfl), h, fun _ _ h' => h'⟩)
      · exact absurd h (by simp)
    | i2b =>
      intro K C r h
      simp only [am_step] at h ⊢
      split at h
      · exact Or.inr (Or.inl ⟨_, _, _, _, (by exact Or.inl rfl), h, fun _ _ h' => h'⟩)
      · exact absurd h (by simp)
    | dup =>
      intro K C r h
      simp only [am_step] at h ⊢
      split at h
      · exact Or.inr (Or.inl ⟨_, _, _, _, (by exact Or.inl rfl), h, fun _ _ h' => h'⟩)
      · exact Or.inr (Or.inl ⟨_, _, _, _, (by exact Or.inl rfl), h, fun _ _ h' => h'⟩)
      · exact absurd h (by simp)
    | dup2 =>
      intro K C r h
      simp only [am_step] at h ⊢
      split at h
      · exact Or.inr (Or.inl ⟨_, _, _, _, (by exact Or.inl rfl), h, fun _ _ h' => h'⟩)
      · exact absurd h (by simp)
    | dup_x1 =>
      intro K C r h
      simp only [am_step] at h ⊢
      split at h
      · exact Or.inr (Or.inl ⟨_, _, _, _, (by exact Or.inl rfl), h, fun _ _ h' => h'⟩)
      · exact absurd h (by simp)
    | goto n => exact am_dst0 _ _ _
    | if_icmp cnd off => cases cnd with
      | eq => exact am_dst_cmp2 (p := fun x y A B => if x = y then A else B) (fun _ _ _ _ _ h => am_d_ite h) _ _ _ _ _
      | ne => exact am_dst_cmp2 (p := fun x y A B => if x = y then B else A) (fun _ _ _ _ _ h => am_d_ite' h) _ _ _ _ _
      | lt => exact am_dst_cmp2 (p := fun x y A B => if x < y then A else B) (fun _ _ _ _ _ h => am_d_ite h) _ _ _ _ _
      | ge => exact am_dst_cmp2 (p := fun x y A B => if y ≤ x then A else B) (fun _ _ _ _ _ h => am_d_ite h) _ _ _ _ _
      | gt => exact am_dst_cmp2 (p := fun x y A B => if y < x then A else B) (fun _ _ _ _ _ h => am_d_ite h) _ _ _ _ _
      | le => exact am_dst_cmp2 (p := fun x y A B => if x ≤ y then A else B) (fun _ _ _ _ _ h => am_d_ite h) _ _ _ _ _
    | ifCond cnd off => cases cnd with
      | eq => exact am_dst_cmp1 (p := fun x A B => if x = 0 then A else B) (fun _ _ _ _ h => am_d_ite h) _ _ _ _ _
      | ne => exact am_dst_cmp1 (p := fun x A B => if x = 0 then B else A) (fun _ _ _ _ h => am_d_ite' h) _ _ _ _ _
      | lt => exact am_dst_cmp1 (p := fun x A B => if x < 0 then A else B) (fun _ _ _ _ h => am_d_ite h) _ _ _ _ _
      | ge => exact am_dst_cmp1 (p := fun x A B => if 0 ≤ x then A else B) (fun _ _ _ _ h => am_d_ite h) _ _ _ _ _
      | gt => exact am_dst_cmp1 (p := fun x A B => if 0 < x then A else B) (fun _ _ _ _ h => am_d_ite h) _ _ _ _ _
      | le => exact am_dst_cmp1 (p := fun x A B => if x ≤ 0 then A else B) (fun _ _ _ _ h => am_d_ite h) _ _ _ _ _
    | tableswitch d lo hi offs =>
      intro K C r h
      simp only [am_step] at h ⊢
      split at h
      · exact am_dst1 (am_d_sw _ a tb) (fun q => q) (fun _ => ls) (fun _ => _) K C r h
      · exact absurd h (by simp)
    | lookupswitch d ps =>
      intro K C r h
      simp only [am_step] at h ⊢
      split at h
      · exact am_dst1 (am_d_sw _ a tb) (fun q => q) (fun _ => ls) (fun _ => _) K C r h
      · exact absurd h (by simp)
    | iaload => exact am_dst1 (am_d_iald σ st) (fun _ => pc + len) (fun _ => ls) (fun r => r)
    | baload => exact am_dst1 (am_d_bald σ st) (fun _ => pc + len) (fun _ => ls) (fun r => r)
    | aaload => exact am_dst1 (am_d_aald σ st) (fun _ => pc + len) (fun _ => ls) (fun r => r)
    | iastore => exact am_dstH (am_d_iast σ st) (pc + len) ls (fun r => r)
    | bastore => exact am_dstH (am_d_bast σ st) (pc + len) ls (fun r => r)
    | aastore => exact am_dstH (am_d_aast σ st) (pc + len) ls (fun r => r)
    | arraylength => exact am_dst1 (am_d_alen σ st) (fun _ => pc + len) (fun _ => ls) (fun r => r)
    | getfield n => exact am_dst1 (am_d_getf a b c σ st) (fun _ => pc + len) (fun _ => ls) (fun r => r)
    | putfield n => exact am_dstH (am_d_putf a b c σ st) (pc + len) ls (fun r => r)
    | getstatic n => exact am_dst0 _ _ _
    | new n => exact fun _ _ _ hr => Or.inr (Or.inl ⟨_, _, _, _, (by exact Or.inr ⟨_, _, rfl⟩), hr, fun _ _ h' => h'⟩)
    | newarray ty =>
      intro K C r h
      simp only [am_step] at h ⊢
      split at h
      · rename_i n r9
        cases h2 : am_in n 20000 <;> simp only [h2, cond_true, cond_false] at h ⊢
        · exact absurd h (by simp)
        · exact Or.inr (Or.inl ⟨_, _, _, _, (by exact Or.inr ⟨_, _, rfl⟩), h, fun _ _ h' => h'⟩)
      · exact absurd h (by simp)
    | anewarray ty =>
      intro K C r h
      simp only [am_step] at h ⊢
      split at h
      · rename_i n r9
        cases h2 : am_in n 20000 <;> simp only [h2, cond_true, cond_false] at h ⊢
        · exact absurd h (by simp)
        · exact Or.inr (Or.inl ⟨_, _, _, _, (by exact Or.inr ⟨_, _, rfl⟩), h, fun _ _ h' => h'⟩)
      · exact absurd h (by simp)
    | invokestatic n =>
      intro K C r h
      simp only [am_step] at h ⊢
      cases h2 : Nat.beq a 901 <;> simp only [h2, cond_true, cond_false] at h ⊢
      · cases h3 : Nat.beq a 902 <;> simp only [h3, cond_true, cond_false] at h ⊢
        · cases h4 : Nat.beq a 903 <;> simp only [h4, cond_true, cond_false] at h ⊢
          · exact am_dst_call a b c (pc + len) ls st σ tb K C r h
          · exact am_dst1 (am_d_b4 _ st) (fun _ => pc + len) (fun _ => ls) (fun r => r) K C r h
        · exact am_dst1 (am_d_b4 _ st) (fun _ => pc + len) (fun _ => ls) (fun r => r) K C r h
      · exact am_dst1 (am_d_inP st) (fun _ => pc + len) (fun _ => ls) (fun r => r) K C r h
    | invokevirtual n => exact am_dst_call a b c (pc + len) ls st σ tb
    | invokespecial n =>
      intro K C r h
      simp only [am_step] at h ⊢
      cases h2 : Nat.beq a 900 <;> simp only [h2, cond_true, cond_false] at h ⊢
      · exact am_dst_call a b c (pc + len) ls st σ tb K C r h
      · split at h
        · rename_i t9 q r9
          cases h3 : (Nat.blt t9 200 && Nat.ble r9.length 4) <;> simp only [h3, cond_true, cond_false] at h ⊢
          · exact absurd h (by simp)
          · exact Or.inr (Or.inl ⟨_, _, _, _, (by exact Or.inl rfl), h, fun _ _ h' => h'⟩)
        · exact absurd h (by simp)
    | athrow =>
      intro K C r h
      simp only [am_step] at h ⊢
      split at h
      · rename_i t i r9
        cases h2 : Nat.beq t 12 <;> simp only [h2, cond_true, cond_false] at h ⊢
        · exact absurd h (by simp)
        · exact Or.inl ⟨by cases h; rfl, fun _ _ => h⟩
      · exact absurd h (by simp)
    | ireturn =>
      intro K C r h
      simp only [am_step] at h ⊢
      split at h
      · exact Or.inl ⟨by cases h; rfl, fun _ _ => h⟩
      · exact absurd h (by simp)
    | areturn =>
      intro K C r h
      simp only [am_step] at h ⊢
      split at h
      · exact Or.inl ⟨by cases h; rfl, fun _ _ => h⟩
      · exact absurd h (by simp)
    | return_ =>
      intro K C r h
      simp only [am_step] at h ⊢
      split at h
      · exact Or.inl ⟨by cases h; rfl, fun _ _ => h⟩
      · exact absurd h (by simp)
    | _ => exact am_dst_none
end
section
section AmFix
variable (ak : Nat → Nat) (X : Nat → Nat → Int32) (XL : Nat → Nat) (code : Nat → List (Nat × am_Row)) (ml : Nat → Nat)
theorem am_mono1 : ∀ (n y pc : Nat) (ls st : List am_V) (σ : am_H) (r : am_O × am_H), am_run ak X XL code ml n y pc ls st σ = some r → am_run ak X XL code ml (n + 1) y pc ls st σ = some r
  | 0, _, _, _, _, _, _, h => by simp [am_run] at h
  | n + 1, y, pc, ls, st, σ, r, h => by
    rcases am_dst ak X XL pc ls st σ (am_look (code y) pc) _ _ r h with ⟨-, h1⟩ | ⟨p, l, s, h9, -, h1, h2⟩ | ⟨y2, as, q, -, h1, h2⟩ | ⟨y2, as, q, p, l, s, h1, h2, h3⟩
    · exact h1 _ _
    · exact h2 _ _ (am_mono1 n _ _ _ _ _ _ h1)
    · exact h2 _ _ (am_mono1 n _ _ _ _ _ _ h1)
    · exact h3 _ _ (am_mono1 n _ _ _ _ _ _ h1) (am_mono1 n _ _ _ _ _ _ h2)
theorem am_mono {n m : Nat} (hnm : n ≤ m) {y pc : Nat} {ls st : List am_V} {σ : am_H} {r : am_O × am_H} (h : am_run ak X XL code ml n y pc ls st σ = some r) : am_run ak X XL code ml m y pc ls st σ = some r := by
  induction hnm with
  | refl => exact h
  | step _ ih => exact am_mono1 ak X XL code ml _ _ _ _ _ _ _ ih
noncomputable def am_res (y pc : Nat) (ls st : List am_V) (σ : am_H) : am_R :=
  @dite _ (∃ r, ∃ n, am_run ak X XL code ml n y pc ls st σ = some r) (Classical.propDecidable _) (fun h => some h.choose) (fun _ => none)
theorem am_res_of {n y pc : Nat} {ls st : List am_V} {σ : am_H} {r : am_O × am_H} (h : am_run ak X XL code ml n y pc ls st σ = some r) : am_res ak X XL code ml y pc ls st σ = some r := by
  unfold am_res
  rw [dif_pos ⟨r, n, h⟩]
  have h1 := (⟨r, n, h⟩ : ∃ r, ∃ n, am_run ak X XL code ml n y pc ls st σ = some r).choose_spec
  obtain ⟨m, h2⟩ := h1
  have h3 := am_mono ak X XL code ml (Nat.le_max_left n m) h
  have h4 := am_mono ak X XL code ml (Nat.le_max_right n m) h2
  rw [h3] at h4
  exact h4.symm
theorem am_res_run {y pc : Nat} {ls st : List am_V} {σ : am_H} {r : am_O × am_H} (h : am_res ak X XL code ml y pc ls st σ = some r) : ∃ n, am_run ak X XL code ml n y pc ls st σ = some r := by
  unfold am_res at h
  by_cases hx : ∃ r, ∃ n, am_run ak X XL code ml n y pc ls st σ = some r
  · rw [dif_pos hx] at h
    cases h
    exact hx.choose_spec
  · rw [dif_neg hx] at h
    cases h
/-- a method's answer -/
noncomputable def am_fun (y : Nat) (as : List am_V) (σ : am_H) : am_R := am_res ak X XL code ml y 0 (am_ent (ml y) as) [] σ
theorem am_res_eq (y pc : Nat) (ls st : List am_V) (σ : am_H) : am_res ak X XL code ml y pc ls st σ = am_step ak X XL (am_res ak X XL code ml y) (am_fun ak X XL code ml) pc ls st σ (am_look (code y) pc) := by
  have fwd : ∀ r, am_res ak X XL code ml y pc ls st σ = some r → am_step ak X XL (am_res ak X XL code ml y) (am_fun ak X XL code ml) pc ls st σ (am_look (code y) pc) = some r := by
    intro r h
    obtain ⟨n, hn⟩ := am_res_run ak X XL code ml h
    cases n with
    | zero => simp [am_run] at hn
    | succ n =>
      rcases am_dst ak X XL pc ls st σ (am_look (code y) pc) _ _ r hn with ⟨-, h1⟩ | ⟨p, l, s, h9, -, h1, h2⟩ | ⟨y2, as, q, -, h1, h2⟩ | ⟨y2, as, q, p, l, s, h1, h2, h3⟩
      · exact h1 _ _
      · exact h2 _ _ (am_res_of ak X XL code ml h1)
      · exact h2 _ _ (am_res_of ak X XL code ml h1)
      · exact h3 _ _ (am_res_of ak X XL code ml h1) (am_res_of ak X XL code ml h2)
  have bwd : ∀ r, am_step ak X XL (am_res ak X XL code ml y) (am_fun ak X XL code ml) pc ls st σ (am_look (code y) pc) = some r → am_res ak X XL code ml y pc ls st σ = some r := by
    intro r h
    rcases am_dst ak X XL pc ls st σ (am_look (code y) pc) _ _ r h with ⟨-, h1⟩ | ⟨p, l, s, h9, -, h1, h2⟩ | ⟨y2, as, q, -, h1, h2⟩ | ⟨y2, as, q, p, l, s, h1, h2, h3⟩
    · exact am_res_of ak X XL code ml (n := 1) (h1 _ _)
    · obtain ⟨n, hn⟩ := am_res_run ak X XL code ml h1
      exact am_res_of ak X XL code ml (n := n + 1) (h2 _ _ hn)
    · obtain ⟨n, hn⟩ := am_res_run ak X XL code ml h1
      exact am_res_of ak X XL code ml (n := n + 1) (h2 _ _ hn)
    · obtain ⟨n, hn⟩ := am_res_run ak X XL code ml h1
      obtain ⟨m, hm⟩ := am_res_run ak X XL code ml h2
      exact am_res_of ak X XL code ml (n := max n m + 1) (h3 _ _ (am_mono ak X XL code ml (Nat.le_max_left n m) hn) (am_mono ak X XL code ml (Nat.le_max_right n m) hm))
  cases ha : am_res ak X XL code ml y pc ls st σ with
  | some r => exact (fwd r ha).symm
  | none =>
    cases hb : am_step ak X XL (am_res ak X XL code ml y) (am_fun ak X XL code ml) pc ls st σ (am_look (code y) pc) with
    | none => rfl
    | some r => rw [bwd r hb] at ha; cases ha
end AmFix
end
section
def am_owns : List String := ["BrotliWords$BitReader", "BrotliWords$Blocks", "BrotliWords$Bytes", "BrotliWords$Code", "BrotliWords$CodeReader", "BrotliWords$CodeWriter", "BrotliWords$Finder", "BrotliWords$Layout", "BrotliWords$Opener", "BrotliWords$Packer", "BrotliWords$Words", "BrotliWords", "BrotliWordsModel$Stop", "BrotliWordsModel", "BrotliWordsLaw", "java/lang/Math", "java/util/Arrays", "java/lang/Throwable", "java/lang/Exception", "java/lang/RuntimeException"]
def am_ow (k : Nat) : String := am_owns.getD k ""
def am_aks : List Nat := [9, 9, 9, 9, 9, 9, 9, 9, 9, 9, 9, 9, 9, 9, 9, 9, 9, 9, 9, 9, 1, 0, 0, 0, 0, 0, 0, 0, 0, 0, 0, 0, 0, 0, 0, 0, 0, 0, 0, 0, 0, 0, 0, 0, 0, 0, 0, 0, 3, 3, 3, 0, 0, 0, 4, 0, 0, 0, 0, 0, 0, 0, 0, 0, 1, 0, 1, 1, 1, 0, 1, 0, 0, 0, 1, 0, 0, 0, 0, 0, 0, 0, 0, 0, 0, 0, 0, 0, 0, 0, 0, 0, 2, 0, 0, 0, 0, 0, 0, 0, 0, 0, 0, 0, 0, 0, 0, 0]
def am_ak (t : Nat) : Nat := am_aks.getD t 9
def am_fks : List (List Nat) := [[1, 0, 0, 0], [1, 1, 0, 0, 0, 0], [1, 0, 0], [1, 1, 0], [1, 1, 1, 1, 1, 0, 0, 0], [1, 1, 1, 1, 1, 1, 1, 1, 1, 0, 0], [1, 1, 1, 1, 1, 1, 1, 1, 1, 1, 0, 0], [1, 1, 1, 1, 1, 1, 1, 1, 0, 0], [1, 1, 1, 0, 1, 2, 1, 1, 1, 1, 1, 1, 1, 0, 0, 2], [1, 1, 1, 1, 0, 1, 1, 1, 1, 1, 1, 1, 1, 1, 1, 1, 1, 1], [1, 1], [1, 1, 1, 1, 1], [1, 1, 1, 1, 1, 0, 0], [0, 1, 1, 0, 0, 1, 0, 1, 1, 1, 0, 1, 1, 1, 1, 0, 0, 1, 1, 0, 0, 1, 0, 0, 1, 1, 1, 1, 1, 0, 0, 1, 1, 2, 1, 0, 0, 0, 1, 1, 1, 1, 0, 0, 1, 1, 1, 1, 1, 1, 0, 1, 1, 1, 1, 1, 1, 1, 1, 0, 1, 1, 1, 0, 1]]
def am_fk (t j : Nat) : Nat := (am_fks.getD t []).getD j 9
def am_nf (t : Nat) : Nat := (am_fks.getD t []).length
def am_ft_0 : List (Nat × Nat × Nat × Nat × Nat × Nat × Nat) := [(0, 9, 0, 0, 1, 0, 282), (0, 15, 0, 1, 0, 0, 283), (0, 19, 2, 1, 0, 0, 174), (0, 24, 0, 2, 0, 0, 286), (0, 27, 0, 3, 0, 0, 288), (0, 30, 2, 0, 1, 0, 168), (0, 34, 3, 2, 0, 0, 226), (0, 39, 3, 0, 1, 0, 222), (0, 43, 3, 1, 1, 0, 224), (1, 14, 1, 0, 1, 0, 339), (1, 20, 1, 1, 1, 0, 341), (1, 23, 1, 2, 0, 0, 343), (1, 27, 1, 3, 0, 0, 344), (1, 30, 1, 4, 0, 0, 346), (1, 33, 1, 5, 0, 0, 347), (2, 13, 2, 0, 1, 0, 166), (2, 19, 2, 1, 0, 0, 173), (2, 26, 2, 2, 0, 0, 177), (3, 9, 3, 1, 1, 0, 223), (3, 21, 3, 0, 1, 0, 221), (3, 30, 3, 2, 0, 0, 225), (4, 9, 4, 1, 1, 0, 308), (4, 15, 4, 2, 1, 0, 309), (4, 18, 4, 3, 1, 0, 310), (4, 26, 4, 4, 1, 0, 311), (4, 30, 4, 0, 1, 0, 307), (4, 96, 4, 5, 0, 0, 312), (4, 100, 4, 6, 0, 0, 313), (4, 103, 4, 7, 0, 0, 314), (5, 15, 5, 0, 1, 0, 429), (5, 21, 5, 1, 1, 0, 430), (5, 24, 5, 2, 1, 0, 431), (5, 27, 5, 3, 1, 0, 432), (5, 30, 5, 4, 1, 0, 433), (5, 33, 5, 5, 1, 0, 434), (5, 36, 5, 6, 1, 0, 435), (5, 39, 5, 7, 1, 0, 436), (5, 42, 5, 8, 1, 0, 437), (5, 61, 5, 9, 0, 0, 438), (5, 75, 5, 10, 0, 0, 439), (6, 9, 6, 0, 1, 0, 469), (6, 15, 6, 1, 1, 0, 471), (6, 18, 6, 2, 1, 0, 473), (6, 21, 6, 3, 1, 0, 475), (6, 24, 6, 6, 1, 0, 479), (6, 27, 6, 7, 1, 0, 480), (6, 30, 6, 8, 1, 0, 481), (6, 33, 6, 9, 1, 0, 482), (6, 36, 6, 4, 1, 0, 477), (6, 40, 6, 5, 1, 0, 478), (6, 44, 2, 1, 0, 0, 172), (6, 56, 6, 11, 0, 0, 484), (6, 57, 6, 10, 0, 0, 483), (6, 93, 2, 0, 1, 0, 169), (7, 9, 7, 0, 1, 0, 234), (7, 15, 7, 1, 1, 0, 236), (7, 18, 7, 2, 1, 0, 238), (7, 21, 7, 3, 1, 0, 240), (7, 24, 7, 4, 1, 0, 242), (7, 29, 7, 5, 1, 0, 244)]
def am_ft_1 : List (Nat × Nat × Nat × Nat × Nat × Nat × Nat) := [(7, 33, 7, 6, 1, 0, 245), (7, 36, 7, 7, 1, 0, 246), (7, 42, 7, 9, 0, 0, 249), (7, 46, 7, 8, 0, 0, 247), (8, 9, 8, 1, 1, 0, 363), (8, 15, 8, 2, 1, 0, 365), (8, 21, 8, 4, 1, 0, 369), (8, 25, 8, 6, 1, 0, 373), (8, 33, 8, 10, 1, 0, 377), (8, 37, 8, 11, 1, 0, 378), (8, 42, 8, 12, 1, 0, 379), (8, 46, 8, 7, 1, 0, 374), (8, 50, 8, 8, 1, 0, 375), (8, 59, 8, 0, 1, 0, 361), (8, 68, 8, 9, 1, 0, 376), (8, 79, 8, 15, 2, 0, 382), (8, 103, 2, 1, 0, 0, 175), (8, 109, 8, 14, 0, 0, 381), (8, 128, 8, 3, 0, 0, 367), (8, 131, 8, 5, 2, 0, 371), (8, 137, 0, 1, 0, 0, 284), (8, 140, 0, 2, 0, 0, 287), (8, 146, 0, 3, 0, 0, 289), (8, 161, 8, 13, 0, 0, 380), (8, 187, 7, 0, 1, 0, 235), (8, 192, 1, 0, 1, 0, 340), (8, 199, 1, 1, 1, 0, 342), (8, 205, 7, 8, 0, 0, 248), (8, 208, 7, 9, 0, 0, 250), (8, 211, 7, 2, 1, 0, 239), (8, 214, 7, 1, 1, 0, 237), (8, 263, 1, 3, 0, 0, 345), (8, 309, 7, 3, 1, 0, 241), (8, 315, 7, 4, 1, 0, 243), (9, 11, 9, 0, 1, 0, 510), (9, 15, 9, 1, 1, 0, 512), (9, 18, 9, 2, 1, 0, 514), (9, 21, 9, 3, 1, 0, 516), (9, 24, 9, 5, 1, 0, 520), (9, 27, 9, 6, 1, 0, 521), (9, 30, 9, 7, 1, 0, 522), (9, 33, 9, 8, 1, 0, 523), (9, 36, 9, 9, 1, 0, 524), (9, 44, 9, 14, 1, 0, 529), (9, 48, 9, 15, 1, 0, 530), (9, 51, 9, 16, 1, 0, 531), (9, 54, 9, 17, 1, 0, 532), (9, 57, 9, 10, 1, 0, 525), (9, 61, 9, 11, 1, 0, 526), (9, 64, 9, 12, 1, 0, 527), (9, 73, 9, 13, 1, 0, 528), (9, 77, 2, 1, 0, 0, 171), (9, 89, 9, 4, 0, 0, 518), (9, 148, 6, 0, 1, 0, 470), (9, 151, 6, 2, 1, 0, 474), (9, 158, 6, 1, 1, 0, 472), (9, 179, 6, 3, 1, 0, 476), (10, 9, 10, 0, 1, 0, 193), (10, 15, 10, 1, 1, 0, 194), (10, 25, 2, 1, 0, 0, 176)]
def am_ft_2 : List (Nat × Nat × Nat × Nat × Nat × Nat × Nat) := [(11, 14, 11, 0, 1, 0, 570), (11, 18, 11, 1, 1, 0, 571), (11, 24, 11, 2, 1, 0, 572), (11, 33, 11, 3, 1, 0, 573), (11, 40, 11, 4, 1, 0, 574), (11, 44, 2, 1, 0, 0, 170), (11, 54, 2, 2, 0, 0, 178), (11, 61, 2, 0, 1, 0, 167), (11, 102, 8, 0, 1, 0, 362), (11, 106, 0, 1, 0, 0, 285), (11, 110, 8, 3, 0, 0, 368), (11, 118, 8, 2, 1, 0, 366), (11, 122, 8, 1, 1, 0, 364), (11, 125, 8, 5, 2, 0, 372), (11, 129, 8, 4, 1, 0, 370), (11, 157, 9, 4, 0, 0, 519), (11, 160, 9, 0, 1, 0, 511), (11, 163, 9, 1, 1, 0, 513), (11, 166, 9, 2, 1, 0, 515), (11, 169, 9, 3, 1, 0, 517), (13, 1, 13, 0, 0, 0, 1297), (13, 7, 13, 1, 1, 0, 1298), (13, 11, 12, 6, 0, 2, 1277), (13, 23, 13, 2, 1, 0, 1299), (13, 27, 13, 4, 0, 0, 1301), (13, 30, 13, 5, 1, 0, 1302), (13, 33, 13, 7, 1, 0, 1304), (13, 36, 13, 8, 1, 0, 1305), (13, 40, 13, 9, 1, 0, 1306), (13, 43, 13, 11, 1, 0, 1308), (13, 46, 13, 12, 1, 0, 1309), (13, 49, 13, 13, 1, 0, 1310), (13, 52, 13, 14, 1, 0, 1311), (13, 55, 13, 17, 1, 0, 1314), (13, 58, 13, 18, 1, 0, 1315), (13, 61, 13, 21, 1, 0, 1318), (13, 64, 13, 24, 1, 0, 1321), (13, 67, 13, 25, 1, 0, 1322), (13, 70, 13, 26, 1, 0, 1323), (13, 73, 13, 27, 1, 0, 1324), (13, 76, 13, 28, 1, 0, 1325), (13, 79, 13, 31, 1, 0, 1328), (13, 82, 13, 32, 1, 0, 1329), (13, 85, 13, 34, 1, 0, 1331), (13, 88, 13, 38, 1, 0, 1335), (13, 91, 13, 39, 1, 0, 1336), (13, 94, 13, 40, 1, 0, 1337), (13, 97, 13, 41, 1, 0, 1338), (13, 100, 13, 44, 1, 0, 1341), (13, 103, 13, 45, 1, 0, 1342), (13, 106, 13, 46, 1, 0, 1343), (13, 110, 13, 47, 1, 0, 1344), (13, 113, 13, 48, 1, 0, 1345), (13, 116, 13, 49, 1, 0, 1346), (13, 119, 13, 51, 1, 0, 1348), (13, 122, 13, 52, 1, 0, 1349), (13, 125, 13, 53, 1, 0, 1350), (13, 128, 13, 54, 1, 0, 1351), (13, 131, 13, 55, 1, 0, 1352), (13, 134, 13, 56, 1, 0, 1353)]
def am_ft_3 : List (Nat × Nat × Nat × Nat × Nat × Nat × Nat) := [(13, 137, 13, 57, 1, 0, 1354), (13, 140, 13, 58, 1, 0, 1355), (13, 143, 13, 60, 1, 0, 1357), (13, 146, 13, 61, 1, 0, 1358), (13, 149, 13, 62, 1, 0, 1359), (13, 152, 13, 64, 1, 0, 1361), (13, 158, 13, 3, 0, 0, 1300), (13, 189, 13, 10, 0, 0, 1307), (13, 202, 13, 23, 0, 0, 1320), (13, 205, 13, 22, 0, 0, 1319), (13, 208, 13, 16, 0, 0, 1313), (13, 211, 13, 15, 0, 0, 1312), (13, 257, 13, 19, 0, 0, 1316), (13, 286, 13, 29, 0, 0, 1326), (13, 293, 13, 30, 0, 0, 1327), (13, 302, 13, 33, 2, 0, 1330), (13, 306, 13, 35, 0, 0, 1332), (13, 309, 13, 36, 0, 0, 1333), (13, 312, 13, 37, 0, 0, 1334), (13, 345, 13, 6, 0, 0, 1303), (13, 397, 13, 42, 0, 0, 1339), (13, 435, 13, 20, 0, 0, 1317), (13, 444, 13, 63, 0, 0, 1360), (13, 447, 13, 43, 0, 0, 1340), (13, 459, 13, 50, 0, 0, 1347), (13, 480, 13, 59, 0, 0, 1356), (17, 7, 12, 0, 1, 0, 1280), (17, 17, 12, 1, 1, 0, 1281), (17, 24, 12, 2, 1, 0, 1282), (17, 31, 12, 3, 1, 0, 1279)]
def am_ft : List (Nat × Nat × Nat × Nat × Nat × Nat × Nat) := am_ft_0 ++ (am_ft_1 ++ (am_ft_2 ++ (am_ft_3)))
def am_mt_0 : List (Nat × Nat × Nat × Nat × Nat × Nat × Nat × Nat) := [(0, 3, 900, 1, 0, 2, 0, 281), (0, 46, 4, 2, 0, 0, 0, 958), (0, 50, 3, 2, 0, 0, 0, 959), (0, 54, 7, 2, 0, 0, 0, 972), (0, 57, 15, 2, 2, 0, 0, 973), (0, 59, 17, 2, 2, 0, 0, 974), (1, 3, 900, 1, 0, 2, 0, 336), (1, 11, 21, 2, 3, 2, 0, 338), (1, 36, 5, 2, 0, 0, 0, 1048), (1, 49, 4, 2, 0, 0, 0, 1053), (1, 53, 13, 2, 1, 0, 0, 1108), (1, 56, 11, 2, 1, 0, 0, 1113), (1, 60, 903, 2, 0, 1, 0, 1112), (2, 1, 900, 1, 0, 2, 0, 162), (2, 7, 902, 2, 0, 1, 0, 163), (2, 23, 903, 2, 0, 1, 0, 606), (2, 29, 17, 2, 2, 0, 0, 594), (3, 3, 900, 1, 0, 2, 0, 219), (3, 15, 902, 2, 0, 1, 0, 220), (3, 24, 260, 2, 999, 1, 0, 1008), (3, 34, 903, 2, 0, 1, 0, 1017), (4, 3, 900, 1, 0, 2, 0, 304), (4, 23, 21, 2, 3, 2, 0, 306), (4, 34, 4, 2, 0, 0, 0, 991), (4, 40, 260, 2, 999, 1, 0, 992), (4, 46, 27, 3, 4, 0, 0, 993), (4, 50, 30, 2, 4, 0, 0, 1018), (4, 53, 33, 2, 4, 0, 0, 1031), (4, 56, 2, 1, 0, 0, 0, 998), (4, 60, 23, 3, 3, 0, 0, 1013), (4, 63, 141, 1, 999, 1, 1, 997), (4, 66, 28, 3, 4, 0, 0, 999), (4, 70, 3, 2, 0, 0, 0, 1003), (4, 73, 22, 2, 3, 0, 0, 1004), (4, 76, 29, 3, 999, 1, 0, 1009), (4, 80, 903, 2, 0, 1, 0, 1012), (4, 86, 31, 1, 4, 0, 0, 1022), (4, 93, 32, 2, 4, 0, 0, 1027), (4, 107, 5, 2, 0, 0, 0, 1036), (4, 111, 34, 4, 4, 0, 0, 1040), (5, 3, 900, 1, 0, 2, 0, 427), (5, 9, 902, 2, 0, 1, 0, 428), (5, 45, 260, 2, 999, 1, 0, 814), (5, 51, 19, 3, 2, 0, 0, 856), (5, 57, 40, 2, 5, 0, 0, 824), (5, 65, 47, 2, 5, 0, 0, 851), (5, 69, 48, 1, 5, 0, 0, 857), (5, 72, 36, 1, 5, 0, 0, 865), (5, 78, 37, 2, 5, 0, 0, 866), (5, 81, 50, 2, 5, 0, 0, 867), (5, 84, 38, 3, 5, 0, 0, 877), (5, 88, 42, 1, 5, 0, 0, 828), (5, 91, 43, 1, 5, 0, 0, 836), (5, 94, 44, 1, 5, 0, 0, 840), (5, 98, 45, 1, 5, 0, 0, 844), (5, 101, 41, 3, 5, 0, 0, 832), (5, 105, 46, 2, 999, 1, 0, 848), (5, 108, 141, 1, 999, 1, 1, 855), (5, 112, 49, 2, 5, 0, 0, 861), (6, 3, 900, 1, 0, 2, 0, 468)]
def am_mt_1 : List (Nat × Nat × Nat × Nat × Nat × Nat × Nat × Nat) := [(6, 50, 903, 2, 0, 1, 0, 709), (6, 60, 260, 2, 999, 1, 0, 710), (6, 66, 109, 2, 10, 0, 0, 711), (6, 72, 116, 5, 10, 0, 0, 712), (6, 76, 54, 2, 999, 1, 0, 713), (6, 79, 55, 2, 6, 0, 0, 720), (6, 82, 56, 2, 6, 0, 0, 725), (6, 86, 58, 4, 6, 0, 0, 733), (6, 90, 15, 2, 2, 0, 0, 724), (6, 97, 57, 4, 6, 0, 0, 729), (6, 101, 115, 2, 999, 1, 0, 737), (6, 104, 59, 4, 6, 0, 0, 738), (6, 108, 61, 5, 6, 0, 0, 742), (6, 112, 60, 4, 6, 0, 0, 746), (7, 3, 900, 1, 0, 2, 0, 212), (7, 39, 21, 2, 3, 2, 0, 216), (7, 49, 902, 2, 0, 1, 0, 1094), (7, 55, 903, 2, 0, 1, 0, 1095), (8, 3, 900, 1, 0, 2, 0, 206), (8, 20, 62, 1, 7, 2, 0, 209), (8, 30, 21, 2, 3, 2, 0, 273), (8, 56, 0, 2, 0, 2, 0, 278), (8, 65, 25, 2, 4, 2, 0, 301), (8, 72, 9, 1, 1, 2, 1, 333), (8, 73, 70, 1, 8, 0, 0, 907), (8, 76, 72, 1, 8, 0, 0, 917), (8, 83, 2, 1, 0, 0, 0, 934), (8, 87, 74, 1, 8, 0, 0, 938), (8, 91, 81, 2, 8, 0, 0, 975), (8, 94, 82, 1, 8, 0, 0, 1054), (8, 97, 83, 2, 8, 0, 0, 1058), (8, 100, 86, 1, 8, 0, 0, 1082), (8, 112, 87, 1, 8, 0, 0, 1100), (8, 115, 71, 1, 8, 0, 0, 1169), (8, 118, 1, 1, 0, 0, 0, 911), (8, 121, 16, 2, 2, 0, 0, 915), (8, 124, 142, 1, 999, 1, 1, 916), (8, 134, 6, 1, 0, 0, 0, 954), (8, 143, 3, 2, 0, 0, 0, 926), (8, 149, 4, 2, 0, 0, 0, 921), (8, 153, 114, 1, 10, 0, 0, 925), (8, 158, 73, 2, 8, 0, 0, 930), (8, 164, 77, 3, 8, 0, 0, 942), (8, 168, 76, 2, 8, 0, 0, 950), (8, 172, 75, 2, 8, 0, 0, 964), (8, 175, 8, 3, 0, 0, 0, 968), (8, 179, 78, 3, 8, 0, 0, 946), (8, 182, 7, 2, 0, 0, 0, 960), (8, 184, 80, 1, 8, 0, 0, 979), (8, 190, 10, 2, 1, 0, 0, 983), (8, 195, 26, 3, 4, 0, 0, 987), (8, 202, 11, 2, 1, 0, 0, 1044), (8, 217, 63, 2, 7, 0, 0, 1062), (8, 221, 64, 2, 7, 0, 0, 1066), (8, 224, 903, 2, 0, 1, 0, 1070), (8, 230, 260, 2, 999, 1, 0, 1071), (8, 236, 84, 4, 8, 0, 0, 1072), (8, 240, 85, 3, 8, 0, 0, 1078), (8, 243, 5, 2, 0, 0, 0, 1076), (8, 247, 902, 2, 0, 1, 0, 1077)]
def am_mt_2 : List (Nat × Nat × Nat × Nat × Nat × Nat × Nat × Nat) := [(8, 250, 65, 2, 7, 0, 0, 1086), (8, 253, 67, 3, 7, 0, 0, 1090), (8, 257, 66, 2, 7, 0, 0, 1096), (8, 260, 12, 2, 1, 0, 0, 1104), (8, 284, 79, 2, 8, 0, 0, 1120), (8, 287, 88, 1, 8, 0, 0, 1124), (8, 290, 89, 2, 8, 0, 0, 1148), (8, 293, 90, 2, 8, 0, 0, 1152), (8, 296, 91, 4, 8, 0, 0, 1156), (8, 300, 92, 3, 8, 0, 0, 1161), (8, 303, 15, 2, 2, 0, 0, 1128), (8, 305, 144, 3, 999, 1, 1, 1129), (8, 312, 17, 2, 2, 0, 0, 1147), (8, 318, 143, 2, 999, 1, 1, 1160), (8, 321, 113, 2, 10, 0, 0, 1165), (8, 324, 109, 2, 10, 0, 0, 1166), (8, 327, 118, 2, 999, 1, 0, 1167), (8, 330, 119, 5, 10, 0, 0, 1168), (9, 3, 900, 1, 0, 2, 0, 421), (9, 41, 35, 2, 5, 2, 0, 424), (9, 70, 51, 3, 6, 2, 0, 465), (9, 83, 903, 2, 0, 1, 0, 697), (9, 92, 16, 2, 2, 0, 0, 698), (9, 95, 114, 1, 10, 0, 0, 699), (9, 101, 19, 3, 2, 0, 0, 700), (9, 105, 96, 3, 9, 0, 0, 701), (9, 108, 100, 2, 9, 0, 0, 763), (9, 111, 106, 2, 9, 0, 0, 806), (9, 114, 107, 1, 9, 0, 0, 881), (9, 117, 95, 2, 9, 0, 0, 890), (9, 120, 20, 1, 2, 0, 0, 895), (9, 123, 15, 2, 2, 0, 0, 819), (9, 127, 17, 2, 2, 0, 0, 894), (9, 130, 52, 1, 6, 0, 0, 705), (9, 133, 53, 2, 6, 0, 0, 716), (9, 136, 97, 2, 9, 0, 0, 750), (9, 139, 99, 2, 9, 0, 0, 754), (9, 142, 902, 2, 0, 1, 0, 758), (9, 145, 98, 2, 9, 0, 0, 759), (9, 154, 142, 1, 999, 1, 1, 767), (9, 161, 102, 5, 9, 0, 0, 770), (9, 165, 101, 3, 9, 0, 0, 798), (9, 171, 104, 2, 999, 1, 0, 783), (9, 175, 105, 3, 999, 1, 0, 788), (9, 182, 113, 2, 10, 0, 0, 802), (9, 185, 103, 2, 9, 0, 0, 774), (9, 191, 143, 2, 999, 1, 1, 795), (9, 195, 141, 1, 999, 1, 1, 778), (9, 204, 36, 1, 5, 0, 0, 810), (9, 205, 37, 2, 5, 0, 0, 815), (9, 208, 39, 3, 5, 0, 0, 820), (9, 212, 38, 3, 5, 0, 0, 885), (10, 3, 900, 1, 0, 2, 0, 192), (10, 19, 260, 2, 999, 1, 0, 655), (10, 31, 109, 2, 10, 0, 0, 641), (10, 35, 15, 2, 2, 0, 0, 642), (10, 39, 116, 5, 10, 0, 0, 667), (10, 43, 903, 2, 0, 1, 0, 684), (10, 49, 115, 2, 999, 1, 0, 678), (10, 52, 117, 1, 999, 1, 0, 681)]
def am_mt_3 : List (Nat × Nat × Nat × Nat × Nat × Nat × Nat × Nat) := [(11, 3, 900, 1, 0, 2, 0, 154), (11, 11, 14, 2, 2, 2, 0, 159), (11, 23, 108, 1, 10, 2, 1, 189), (11, 30, 68, 4, 8, 2, 0, 203), (11, 39, 93, 4, 9, 2, 0, 418), (11, 48, 18, 2, 2, 0, 0, 590), (11, 51, 16, 2, 2, 0, 0, 602), (11, 57, 19, 3, 2, 0, 0, 613), (11, 65, 15, 2, 2, 0, 0, 621), (11, 69, 109, 2, 10, 0, 0, 633), (11, 72, 112, 2, 10, 0, 0, 637), (11, 76, 110, 1, 10, 0, 0, 647), (11, 80, 111, 1, 10, 0, 0, 651), (11, 83, 114, 1, 10, 0, 0, 662), (11, 86, 118, 2, 999, 1, 0, 675), (11, 90, 119, 5, 10, 0, 0, 685), (11, 94, 94, 2, 9, 0, 0, 693), (11, 97, 69, 1, 8, 0, 0, 903), (11, 100, 17, 2, 2, 0, 0, 1177), (11, 113, 903, 2, 0, 1, 0, 1190), (11, 133, 64, 2, 7, 0, 0, 1199), (11, 138, 63, 2, 7, 0, 0, 1200), (11, 142, 65, 2, 7, 0, 0, 1205), (11, 145, 66, 2, 7, 0, 0, 1206), (11, 148, 67, 3, 7, 0, 0, 1207), (11, 152, 24, 2, 3, 0, 0, 1208), (11, 172, 145, 1, 999, 1, 0, 1132), (11, 175, 148, 1, 999, 1, 0, 1141), (11, 178, 149, 1, 999, 1, 0, 1144), (11, 181, 146, 1, 999, 1, 0, 1135), (11, 185, 147, 1, 999, 1, 0, 1138), (12, 1, 261, 5, 12, 2, 0, 1268), (13, 16, 900, 1, 0, 2, 0, 1225), (13, 22, 150, 1, 12, 2, 0, 1265), (13, 155, 188, 1, 13, 0, 0, 1293), (13, 163, 901, 3, 0, 1, 0, 1503), (13, 170, 158, 1, 13, 0, 0, 1520), (13, 177, 160, 3, 13, 0, 0, 1530), (13, 181, 162, 1, 13, 0, 0, 1538), (13, 186, 164, 1, 13, 0, 0, 1546), (13, 192, 167, 2, 13, 0, 0, 1560), (13, 198, 168, 4, 13, 0, 0, 1556), (13, 214, 152, 2, 13, 0, 0, 1580), (13, 217, 173, 1, 13, 0, 0, 1576), (13, 220, 172, 3, 13, 0, 0, 1641), (13, 224, 174, 2, 13, 0, 0, 1572), (13, 228, 179, 3, 13, 0, 0, 1645), (13, 231, 183, 2, 13, 0, 0, 1655), (13, 234, 184, 3, 13, 0, 0, 1670), (13, 237, 171, 3, 13, 0, 0, 1666), (13, 240, 177, 1, 999, 1, 0, 1649), (13, 243, 180, 3, 999, 1, 0, 1652), (13, 247, 182, 1, 13, 0, 0, 1659), (13, 250, 181, 1, 999, 1, 0, 1663), (13, 254, 176, 3, 13, 0, 0, 1675), (13, 262, 185, 3, 13, 0, 0, 1592), (13, 265, 191, 1, 999, 1, 0, 1683), (13, 268, 192, 1, 999, 1, 0, 1686), (13, 271, 190, 1, 13, 0, 0, 1633), (13, 274, 178, 3, 13, 0, 0, 1637)]
def am_mt_4 : List (Nat × Nat × Nat × Nat × Nat × Nat × Nat × Nat) := [(13, 277, 193, 2, 13, 0, 0, 1679), (13, 280, 197, 1, 13, 0, 0, 1625), (13, 283, 194, 2, 13, 0, 0, 1629), (13, 289, 196, 4, 13, 0, 0, 1689), (13, 296, 170, 1, 13, 0, 0, 1693), (13, 299, 199, 1, 13, 0, 0, 1697), (13, 315, 200, 1, 999, 1, 0, 1714), (13, 318, 201, 1, 999, 1, 0, 1720), (13, 329, 206, 1, 999, 1, 0, 1746), (13, 337, 207, 5, 999, 1, 0, 1751), (13, 348, 211, 2, 13, 0, 0, 1735), (13, 351, 208, 1, 999, 1, 0, 1739), (13, 354, 209, 1, 999, 1, 0, 1754), (13, 357, 210, 1, 999, 1, 0, 1759), (13, 360, 195, 2, 13, 0, 0, 1701), (13, 363, 212, 1, 13, 0, 0, 1731), (13, 366, 213, 2, 13, 0, 0, 1613), (13, 369, 198, 1, 13, 0, 0, 1621), (13, 372, 204, 1, 999, 1, 0, 1705), (13, 375, 205, 1, 999, 1, 0, 1708), (13, 378, 202, 1, 999, 1, 0, 1711), (13, 381, 203, 1, 999, 1, 0, 1717), (13, 384, 186, 2, 13, 0, 0, 1723), (13, 387, 214, 1, 13, 0, 0, 1727), (13, 390, 217, 4, 13, 0, 0, 1762), (13, 394, 215, 2, 13, 0, 0, 1766), (13, 400, 218, 4, 13, 0, 0, 1770), (13, 403, 189, 2, 13, 0, 0, 1778), (13, 406, 166, 2, 13, 0, 0, 1774), (13, 409, 187, 3, 13, 0, 0, 1588), (13, 412, 175, 1, 13, 0, 0, 1601), (13, 415, 219, 1, 13, 0, 0, 1584), (13, 418, 220, 2, 13, 0, 0, 1597), (13, 422, 221, 2, 13, 0, 0, 1605), (13, 425, 223, 3, 13, 0, 0, 1609), (13, 429, 216, 2, 13, 0, 0, 1617), (13, 432, 222, 1, 13, 0, 0, 1568), (13, 450, 234, 3, 13, 0, 0, 1825), (13, 453, 239, 4, 13, 0, 0, 1892), (13, 456, 237, 2, 13, 0, 0, 1896), (13, 462, 241, 3, 13, 0, 0, 1908), (13, 465, 238, 4, 13, 0, 0, 1888), (13, 468, 240, 4, 13, 0, 0, 1900), (13, 471, 242, 3, 13, 0, 0, 1904), (13, 474, 243, 2, 13, 0, 0, 1912), (13, 477, 236, 3, 13, 0, 0, 1916), (13, 483, 245, 2, 13, 0, 0, 1845), (13, 486, 246, 2, 13, 0, 0, 1849), (13, 490, 251, 2, 13, 0, 0, 1866), (13, 493, 249, 2, 999, 1, 0, 1870), (13, 497, 250, 2, 999, 1, 0, 1873), (13, 500, 247, 2, 13, 0, 0, 1858), (13, 503, 252, 6, 13, 0, 0, 1862), (13, 507, 254, 1, 13, 0, 0, 1880), (13, 510, 244, 3, 13, 0, 0, 1884), (13, 513, 235, 1, 13, 0, 0, 1833), (13, 516, 248, 2, 13, 0, 0, 1841), (13, 519, 253, 1, 13, 0, 0, 1854), (13, 522, 255, 1, 13, 0, 0, 1876), (13, 525, 256, 1, 13, 0, 0, 1920)]
def am_mt_5 : List (Nat × Nat × Nat × Nat × Nat × Nat × Nat × Nat) := [(13, 528, 257, 1, 13, 0, 0, 1829), (13, 531, 258, 2, 13, 0, 0, 1837), (14, 9, 120, 1, 11, 2, 0, 151), (14, 12, 153, 1, 13, 2, 0, 1222), (14, 13, 121, 6, 11, 0, 0, 586), (14, 17, 154, 6, 13, 0, 0, 1494), (14, 18, 122, 2, 11, 0, 0, 598), (14, 22, 155, 2, 13, 0, 0, 1498), (14, 23, 123, 3, 11, 0, 0, 609), (14, 27, 156, 3, 13, 0, 0, 1506), (14, 28, 124, 3, 11, 0, 0, 617), (14, 31, 157, 3, 13, 0, 0, 1511), (14, 32, 125, 1, 11, 0, 0, 625), (14, 36, 159, 1, 13, 0, 0, 1516), (14, 37, 126, 1, 11, 0, 0, 629), (14, 40, 161, 1, 13, 0, 0, 1524), (14, 41, 127, 1, 11, 0, 0, 643), (14, 44, 163, 1, 13, 0, 0, 1534), (14, 45, 128, 1, 11, 0, 0, 658), (14, 48, 165, 1, 13, 0, 0, 1542), (14, 49, 129, 5, 11, 0, 0, 671), (14, 53, 169, 5, 13, 0, 0, 1551), (14, 54, 130, 2, 11, 0, 0, 689), (14, 57, 259, 2, 13, 0, 0, 1821), (14, 58, 131, 1, 11, 0, 0, 899), (14, 61, 224, 1, 13, 0, 0, 1564), (14, 62, 132, 1, 11, 0, 0, 1173), (14, 65, 225, 1, 13, 0, 0, 1782), (14, 66, 133, 2, 11, 0, 0, 1178), (14, 69, 226, 2, 13, 0, 0, 1786), (14, 70, 134, 1, 11, 0, 0, 1182), (14, 73, 227, 1, 13, 0, 0, 1790), (14, 74, 135, 3, 11, 0, 0, 1186), (14, 77, 228, 3, 13, 0, 0, 1794), (14, 78, 136, 2, 11, 0, 0, 1191), (14, 81, 229, 2, 13, 0, 0, 1799), (14, 82, 137, 3, 11, 0, 0, 1195), (14, 85, 230, 3, 13, 0, 0, 1804), (14, 86, 138, 4, 11, 0, 0, 1201), (14, 90, 231, 4, 13, 0, 0, 1808), (14, 91, 139, 3, 11, 0, 0, 1212), (14, 94, 232, 3, 13, 0, 0, 1813), (14, 95, 140, 2, 11, 0, 0, 1216), (14, 98, 233, 2, 13, 0, 0, 1817), (17, 1, 900, 1, 0, 2, 0, 1251), (18, 16, 263, 5, 12, 2, 0, 1274), (19, 16, 262, 5, 12, 2, 0, 1271)]
def am_mt : List (Nat × Nat × Nat × Nat × Nat × Nat × Nat × Nat) := am_mt_0 ++ (am_mt_1 ++ (am_mt_2 ++ (am_mt_3 ++ (am_mt_4 ++ (am_mt_5)))))
def am_kt_0 : List (Nat × Nat × Int32 × Nat) := [(4, 106, 32768, 1035), (10, 38, 65535, 666), (13, 185, 65535, 1550), (13, 253, 32768, 1674), (13, 489, 1000000, 1853)]
def am_kt : List (Nat × Nat × Int32 × Nat) := am_kt_0
def am_lt_0 : List (Nat × Nat × Int32 × Nat) := [(13, 161, 20, 1502), (13, 166, 32, 1510), (13, 168, 255, 1515), (13, 173, 4, 1528), (13, 175, 10, 1529), (13, 196, 23, 1555), (13, 260, 60, 1596), (13, 321, 48, 1742), (13, 323, 57, 1743), (13, 325, 65, 1744), (13, 327, 90, 1745), (13, 333, 97, 1749), (13, 335, 122, 1750), (13, 341, 127, 1757), (13, 343, 191, 1758), (13, 438, 11, 1798), (13, 440, 3, 1803), (13, 442, 2, 1812)]
def am_lt : List (Nat × Nat × Int32 × Nat) := am_lt_0
def am_nt_0 : List (Nat × Nat × Nat × Nat) := [(1, 9, 3, 337), (4, 21, 3, 305), (7, 27, 3, 213), (8, 18, 7, 207), (8, 28, 3, 272), (8, 40, 1, 274), (8, 54, 0, 276), (8, 63, 4, 299), (9, 39, 5, 422), (9, 68, 6, 463), (11, 9, 2, 157), (11, 21, 10, 187), (11, 28, 8, 201), (11, 37, 9, 416), (13, 12, 12, 1226), (14, 7, 11, 149), (14, 10, 13, 1220)]
def am_nt : List (Nat × Nat × Nat × Nat) := am_nt_0
def am_at_0 : List (Nat × Nat × Nat × Nat) := [(7, 27, 3, 213), (8, 40, 4, 274)]
def am_at : List (Nat × Nat × Nat × Nat) := am_at_0
def am_st_0 : List (Nat × Nat × Nat × Nat × Nat) := [(1, 42, 209, 1, 1049), (1, 46, 210, 1, 1051), (4, 90, 204, 1, 1026), (5, 115, 204, 1, 871), (5, 118, 205, 1, 873), (5, 121, 206, 1, 875), (8, 266, 202, 1, 1114), (8, 269, 203, 1, 1115), (8, 272, 200, 1, 1116), (8, 275, 207, 1, 1117), (8, 278, 201, 1, 1118), (8, 281, 208, 1, 1119), (9, 168, 200, 1, 781), (9, 188, 201, 1, 786), (9, 198, 202, 1, 791), (9, 201, 203, 1, 793), (9, 216, 207, 1, 886), (9, 219, 208, 1, 888), (17, 13, 220, 0, 1252), (17, 20, 221, 0, 1254)]
def am_st : List (Nat × Nat × Nat × Nat × Nat) := am_st_0
def am_wp : List (List Nat) := [[290, 292, 294, 296], [348, 350, 352, 354, 356, 358], [179, 181, 183], [227, 229, 231], [315, 317, 319, 321, 323, 325, 327, 329], [440, 442, 444, 446, 448, 450, 452, 454, 456, 458, 460], [485, 487, 489, 491, 493, 495, 497, 499, 501, 503, 505, 507], [251, 253, 255, 257, 259, 261, 263, 265, 267, 269], [383, 385, 387, 389, 391, 393, 395, 397, 399, 401, 403, 405, 407, 409, 411, 413], [533, 535, 537, 539, 541, 543, 545, 547, 549, 551, 553, 555, 557, 559, 561, 563, 565, 567], [195, 197], [575, 577, 579, 581, 583], [1237, 1239, 1241, 1243, 1245, 1289, 1283], [1362, 1364, 1366, 1368, 1370, 1372, 1374, 1376, 1378, 1380, 1382, 1384, 1386, 1388, 1390, 1392, 1394, 1396, 1398, 1400, 1402, 1404, 1406, 1408, 1410, 1412, 1414, 1416, 1418, 1420, 1422, 1424, 1426, 1428, 1430, 1432, 1434, 1436, 1438, 1440, 1442, 1444, 1446, 1448, 1450, 1452, 1454, 1456, 1458, 1460, 1462, 1464, 1466, 1468, 1470, 1472, 1474, 1476, 1478, 1480, 1482, 1484, 1486, 1488, 1490]]
def am_ip : List (Nat × Nat) := [(277, 137), (332, 139), (158, 131), (215, 136), (300, 138), (423, 141), (464, 142), (208, 135), (202, 134), (417, 140), (188, 133), (150, 130), (1227, 147), (1221, 143)]
def am_xn : List String := ["INSERT_BASE", "COPY_BASE", "CELL_INSERT", "CELL_COPY", "MARK_ORDER", "MARK_TOLD", "MARK_TOLD_BITS", "INSERT_BITS", "COPY_BITS", "COUNT_BASE", "COUNT_BITS"]
end
section
section AmRel
variable (aC : Nat → ClassId) (xa : Nat → Nat) (uv : Nat → Value)
def am_rv (f : Nat → Nat) (σ : am_H) (q : Nat × Nat) : Value := bif Nat.blt q.1 200 then .ref (f (ah_ad σ q.1 q.2)) else bif Nat.blt q.1 220 then .ref (xa q.1) else uv q.1
def am_cv (f : Nat → Nat) (σ : am_H) : am_V → Value
  | .inl x => .int x
  | .inr (.inl x) => .long x
  | .inr (.inr none) => .null
  | .inr (.inr (some q)) => am_rv xa uv f σ q
def am_fv (f : Nat → Nat) (σ : am_H) (t i j : Nat) : Value := bif Nat.beq (am_fk t j) 1 then am_cv xa uv f σ (.inr (.inr (ah_R σ t i j))) else .int (ah_I σ t i j)
def am_ce (f : Nat → Nat) (σ : am_H) (q : Nat × Nat) : va_E := bif Nat.blt q.1 16 then .inr (q.1, (List.range (am_nf q.1)).map (am_fv xa uv f σ q.1 q.2))
  else bif Nat.blt (am_ak q.1) 3 then .inl (aC (am_ak q.1), ah_ln σ q.1 q.2, .inl (ah_I σ q.1 q.2))
  else .inl (aC (am_ak q.1), ah_ln σ q.1 q.2, .inr (.inr (.inr (.inr (fun j => (ah_R σ q.1 q.2 j).map (fun r => f (ah_ad σ r.1 r.2)))))))
def am_ws (f : Nat → Nat) (σ : am_H) : va_W := (List.range (ah_n σ)).map (fun k => (f k, am_ce aC xa uv f σ (ah_al σ k)))
def am_gq (σ : am_H) (q : Nat × Nat) : Prop := (200 ≤ q.1 ∧ ¬ (212 ≤ q.1 ∧ q.1 < 220)) ∨ (q.1 < 200 ∧ ah_ad σ q.1 q.2 < ah_n σ ∧ ah_al σ (ah_ad σ q.1 q.2) = q)
def am_gv (σ : am_H) : am_V → Prop
  | .inr (.inr (some q)) => am_gq σ q
  | _ => True
def am_wf (σ : am_H) : Prop := ∀ k, k < ah_n σ → (ah_al σ k).1 < 200 ∧ ah_ad σ (ah_al σ k).1 (ah_al σ k).2 = k ∧ ((ah_al σ k).1 < 14 ∨ (16 ≤ (ah_al σ k).1 ∧ am_ak (ah_al σ k).1 < 5)) ∧ (ah_al σ k).2 < am_cnt σ (ah_al σ k).1 ∧
  ∀ j r, ah_R σ (ah_al σ k).1 (ah_al σ k).2 j = some r → am_gq σ r ∧ (16 ≤ (ah_al σ k).1 → r.1 < 200)
theorem am_ws_len (f : Nat → Nat) (σ : am_H) : (am_ws aC xa uv f σ).length = ah_n σ := by simp [am_ws]
theorem am_ws_get {f : Nat → Nat} {σ : am_H} {k : Nat} (h : k < ah_n σ) : (am_ws aC xa uv f σ)[k]? = some (f k, am_ce aC xa uv f σ (ah_al σ k)) := by
  simp [am_ws, h]
theorem am_ws_at {f : Nat → Nat} {σ : am_H} {t i : Nat} (h : am_gq σ (t, i)) (ht : t < 200) : (am_ws aC xa uv f σ)[ah_ad σ t i]? = some (f (ah_ad σ t i), am_ce aC xa uv f σ (t, i)) := by
  rcases h with h | ⟨-, h1, h2⟩
  · exact absurd ht (Nat.not_lt.mpr h.1)
  · rw [am_ws_get aC xa uv h1, h2]
/-- a value reads the same over heaps with the same cells -/
theorem am_cv_base {f : Nat → Nat} {σ σ' : am_H} (hb : σ'.1 = σ.1) (v : am_V) : am_cv xa uv f σ' v = am_cv xa uv f σ v := by
  rcases v with x | x | _ | q
  · rfl
  · rfl
  · rfl
  · show am_rv xa uv f σ' q = am_rv xa uv f σ q
    unfold am_rv
    rw [show ah_ad σ' = ah_ad σ from congrArg (fun b : am_B => b.2.2.1) hb]
theorem am_gq_base {σ σ' : am_H} (hb : σ'.1 = σ.1) {q : Nat × Nat} (h : am_gq σ q) : am_gq σ' q := by
  unfold am_gq at h ⊢
  rw [show ah_ad σ' = ah_ad σ from congrArg (fun b : am_B => b.2.2.1) hb, show ah_n σ' = ah_n σ from congrArg (fun b : am_B => b.1) hb, show ah_al σ' = ah_al σ from congrArg (fun b : am_B => b.2.1) hb]
  exact h
theorem am_gv_base {σ σ' : am_H} (hb : σ'.1 = σ.1) {v : am_V} (h : am_gv σ v) : am_gv σ' v := by
  rcases v with x | x | _ | q
  · trivial
  · trivial
  · trivial
  · exact am_gq_base hb h
theorem am_cnt_base {σ σ' : am_H} (hb : σ'.1 = σ.1) (t : Nat) : am_cnt σ' t = am_cnt σ t := by
  unfold am_cnt
  rw [hb]
/-- the cells, where one of them has changed -/
theorem am_ws_set {f : Nat → Nat} {σ σ' : am_H} {t i : Nat} (hwf : am_wf σ) (hg : am_gq σ (t, i)) (ht : t < 200) (hb : σ'.1 = σ.1)
    (hI : ∀ t' i', ¬ (t' = t ∧ i' = i) → ah_I σ' t' i' = ah_I σ t' i') (hR : ∀ t' i', ¬ (t' = t ∧ i' = i) → ah_R σ' t' i' = ah_R σ t' i') :
    am_ws aC xa uv f σ' = (am_ws aC xa uv f σ).set (ah_ad σ t i) (f (ah_ad σ t i), am_ce aC xa uv f σ' (t, i)) := by
  have hn : ah_n σ' = ah_n σ := congrArg (fun b : am_B => b.1) hb
  have hal : ah_al σ' = ah_al σ := congrArg (fun b : am_B => b.2.1) hb
  have had : ah_ad σ' = ah_ad σ := congrArg (fun b : am_B => b.2.2.1) hb
  have hln : ah_ln σ' = ah_ln σ := congrArg (fun b : am_B => b.2.2.2.1) hb
  rcases hg with hg | ⟨-, h1, h2⟩
  · exact absurd ht (Nat.not_lt.mpr hg.1)
  refine List.ext_getElem? fun k => ?_
  by_cases hk : k < ah_n σ
  · rw [am_ws_get aC xa uv (by rw [hn]; exact hk), hal]
    by_cases he : k = ah_ad σ t i
    · subst he
      rw [List.getElem?_set_self (by rw [am_ws_len]; exact h1), h2]
    · rw [List.getElem?_set_ne (fun e => he e.symm), am_ws_get aC xa uv hk]
      have hne : ¬ ((ah_al σ k).1 = t ∧ (ah_al σ k).2 = i) := by
        intro ⟨e1, e2⟩
        have h3 := (hwf k hk).2.1
        rw [e1, e2] at h3
        exact he h3.symm
      have e1 := hI _ _ hne
      have e2 := hR _ _ hne
      have e3 : am_ce aC xa uv f σ' (ah_al σ k) = am_ce aC xa uv f σ (ah_al σ k) := by
        unfold am_ce
        rw [e1, e2, had, hln]
        congr 3
        refine List.map_congr_left fun j _ => ?_
        unfold am_fv
        rw [e1, e2, am_cv_base xa uv hb]
      rw [e3]
  · rw [List.getElem?_eq_none (by rw [am_ws_len, hn]; exact Nat.not_lt.mp hk), List.getElem?_eq_none (by rw [List.length_set, am_ws_len]; exact Nat.not_lt.mp hk)]
theorem am_wf_I {σ : am_H} (hwf : am_wf σ) (t i j : Nat) (x : Int32) : am_wf (am_sI σ t i j x) := hwf
theorem am_wf_R {σ : am_H} (hwf : am_wf σ) {t i j : Nat} {x : Option (Nat × Nat)} (hx : ∀ r, x = some r → am_gq σ r ∧ (16 ≤ t → r.1 < 200)) : am_wf (am_sR σ t i j x) := by
  intro k hk
  obtain ⟨h1, h2, h3, h4, h5⟩ := hwf k hk
  refine ⟨h1, h2, h3, h4, fun j' r hr => ?_⟩
  have hr2 : am_c σ.2.2 t i (am_u (σ.2.2 t i) j x) (ah_al σ k).1 (ah_al σ k).2 j' = some r := hr
  by_cases hq : (ah_al σ k).1 = t ∧ (ah_al σ k).2 = i
  · rw [am_c, if_pos hq, am_u] at hr2
    by_cases hj : j' = j
    · rw [if_pos hj] at hr2
      obtain ⟨a, b⟩ := hx r hr2
      exact ⟨am_gq_base rfl a, fun h => b (by rw [← hq.1]; exact h)⟩
    · rw [if_neg hj] at hr2
      obtain ⟨a, b⟩ := h5 j' r (by rw [hq.1, hq.2]; exact hr2)
      exact ⟨am_gq_base rfl a, b⟩
  · rw [am_c, if_neg hq] at hr2
    obtain ⟨a, b⟩ := h5 j' r hr2
    exact ⟨am_gq_base rfl a, b⟩
theorem am_cnt_mk (σ : am_H) (t n t' : Nat) : am_cnt (am_mk σ t n) t' = am_cnt σ t' + (if t' = t then 1 else 0) := by
  show am_u σ.1.2.2.2.2.2 t (am_cnt σ t + 1) t' = _
  unfold am_u
  by_cases h : t' = t
  · rw [if_pos h, if_pos h, h]
  · rw [if_neg h, if_neg h]; rfl
/-- a new cell is no old one -/
theorem am_fresh {σ : am_H} (hwf : am_wf σ) {t : Nat} {k : Nat} (hk : k < ah_n σ) : ¬ ((ah_al σ k).1 = t ∧ (ah_al σ k).2 = am_cnt σ t) := by
  intro ⟨h1, h2⟩
  have h3 := (hwf k hk).2.2.2.1
  rw [h1, h2] at h3
  exact Nat.lt_irrefl _ h3
theorem am_gq_mk {σ : am_H} (hwf : am_wf σ) {t n : Nat} {q : Nat × Nat} (h : am_gq σ q) : am_gq (am_mk σ t n) q ∧ (q.1 < 200 → ah_ad (am_mk σ t n) q.1 q.2 = ah_ad σ q.1 q.2) := by
  rcases h with h | ⟨h0, h1, h2⟩
  · exact ⟨Or.inl h, fun h9 => absurd h9 (Nat.not_lt.mpr h.1)⟩
  · have hne : ¬ (q.1 = t ∧ q.2 = am_cnt σ t) := by
      have := am_fresh hwf (t := t) h1
      rw [h2] at this
      exact this
    have had : ah_ad (am_mk σ t n) q.1 q.2 = ah_ad σ q.1 q.2 := by
      show am_c (ah_ad σ) t (am_cnt σ t) (ah_n σ) q.1 q.2 = _
      rw [am_c, if_neg hne]
    refine ⟨Or.inr ⟨h0, ?_, ?_⟩, fun _ => had⟩
    · rw [had]; exact Nat.lt_succ_of_lt h1
    · rw [had]
      show am_u (ah_al σ) (ah_n σ) (t, am_cnt σ t) (ah_ad σ q.1 q.2) = q
      rw [am_u, if_neg (Nat.ne_of_lt h1), h2]
theorem am_gq_new {σ : am_H} {t n : Nat} (ht : t < 200) : am_gq (am_mk σ t n) (t, am_cnt σ t) ∧ ah_ad (am_mk σ t n) t (am_cnt σ t) = ah_n σ := by
  have had : ah_ad (am_mk σ t n) t (am_cnt σ t) = ah_n σ := by
    show am_c (ah_ad σ) t (am_cnt σ t) (ah_n σ) t (am_cnt σ t) = _
    rw [am_c, if_pos ⟨rfl, rfl⟩]
  refine ⟨Or.inr ⟨ht, ?_, ?_⟩, had⟩
  · show ah_ad (am_mk σ t n) t (am_cnt σ t) < _
    rw [had]; exact Nat.lt_succ_self _
  · show ah_al (am_mk σ t n) (ah_ad (am_mk σ t n) t (am_cnt σ t)) = _
    rw [had]
    show am_u (ah_al σ) (ah_n σ) (t, am_cnt σ t) (ah_n σ) = _
    rw [am_u, if_pos rfl]
theorem am_cv_mk {f : Nat → Nat} {σ : am_H} (hwf : am_wf σ) {t n a : Nat} {v : am_V} (h : am_gv σ v) : am_cv xa uv (am_u f (ah_n σ) a) (am_mk σ t n) v = am_cv xa uv f σ v := by
  rcases v with x | x | _ | q
  · rfl
  · rfl
  · rfl
  · show am_rv xa uv _ _ q = am_rv xa uv f σ q
    unfold am_rv
    cases hq : Nat.blt q.1 200
    · rfl
    · have hlt : q.1 < 200 := Nat.le_of_ble_eq_true hq
      obtain ⟨-, h2⟩ := am_gq_mk hwf (t := t) (n := n) (h : am_gq σ q)
      rw [h2 hlt]
      rcases (h : am_gq σ q) with h3 | ⟨-, h3, -⟩
      · exact absurd hlt (Nat.not_lt.mpr h3.1)
      · simp only [cond_true]
        rw [am_u, if_neg (Nat.ne_of_lt h3)]
theorem am_ws_mk {f : Nat → Nat} {σ : am_H} (hwf : am_wf σ) {t n a : Nat} : am_ws aC xa uv (am_u f (ah_n σ) a) (am_mk σ t n) = am_ws aC xa uv f σ ++ [(a, am_ce aC xa uv (am_u f (ah_n σ) a) (am_mk σ t n) (t, am_cnt σ t))] := by
  have hn : ah_n (am_mk σ t n) = ah_n σ + 1 := rfl
  unfold am_ws
  rw [hn, List.range_succ, List.map_append]
  congr 1
  · refine List.map_congr_left fun k hk => ?_
    have hk2 : k < ah_n σ := List.mem_range.mp hk
    have hal : ah_al (am_mk σ t n) k = ah_al σ k := by
      show am_u (ah_al σ) (ah_n σ) (t, am_cnt σ t) k = _
      rw [am_u, if_neg (Nat.ne_of_lt hk2)]
    rw [hal, am_u, if_neg (Nat.ne_of_lt hk2)]
    have hne := am_fresh hwf (t := t) hk2
    have eI : ah_I (am_mk σ t n) (ah_al σ k).1 (ah_al σ k).2 = ah_I σ (ah_al σ k).1 (ah_al σ k).2 := by
      show am_c (ah_I σ) t (am_cnt σ t) (fun _ => 0) _ _ = _
      rw [am_c, if_neg hne]
    have eR : ah_R (am_mk σ t n) (ah_al σ k).1 (ah_al σ k).2 = ah_R σ (ah_al σ k).1 (ah_al σ k).2 := by
      show am_c (ah_R σ) t (am_cnt σ t) (fun _ => none) _ _ = _
      rw [am_c, if_neg hne]
    have eL : ah_ln (am_mk σ t n) (ah_al σ k).1 (ah_al σ k).2 = ah_ln σ (ah_al σ k).1 (ah_al σ k).2 := by
      show am_c (ah_ln σ) t (am_cnt σ t) n _ _ = _
      rw [am_c, if_neg hne]
    have hw5 := (hwf k hk2).2.2.2.2
    have e3 : am_ce aC xa uv (am_u f (ah_n σ) a) (am_mk σ t n) (ah_al σ k) = am_ce aC xa uv f σ (ah_al σ k) := by
      unfold am_ce
      rw [eI, eR, eL]
      cases h16 : Nat.blt (ah_al σ k).1 16
      · simp only [cond_false]
        have hge : 16 ≤ (ah_al σ k).1 := by
          rcases Nat.lt_or_ge (ah_al σ k).1 16 with h | h
          · rw [show Nat.blt (ah_al σ k).1 16 = true from Nat.ble_eq_true_of_le h] at h16; cases h16
          · exact h
        cases h3 : Nat.blt (am_ak (ah_al σ k).1) 3
        · simp only [cond_false]
          congr 7
          funext j
          cases hr : ah_R σ (ah_al σ k).1 (ah_al σ k).2 j with
          | none => rfl
          | some r =>
            obtain ⟨g1, g2⟩ := hw5 j r hr
            obtain ⟨-, g3⟩ := am_gq_mk hwf (t := t) (n := n) g1
            simp only [Option.map_some]
            rw [g3 (g2 hge)]
            rcases g1 with h | ⟨-, h, -⟩
            · exact absurd (g2 hge) (Nat.not_lt.mpr h.1)
            · rw [am_u, if_neg (Nat.ne_of_lt h)]
        · rfl
      · simp only [cond_true]
        congr 2
        refine List.map_congr_left fun j _ => ?_
        unfold am_fv
        rw [eI, eR]
        cases hr : ah_R σ (ah_al σ k).1 (ah_al σ k).2 j with
        | none => rfl
        | some r => rw [am_cv_mk xa uv hwf (show am_gv σ (.inr (.inr (some r))) from (hw5 j r hr).1)]
    rw [e3]
  · have h3 : ah_al (am_mk σ t n) (ah_n σ) = (t, am_cnt σ t) := by
      show (am_u (ah_al σ) (ah_n σ) (t, am_cnt σ t)) (ah_n σ) = _
      rw [am_u, if_pos rfl]
    simp only [List.map_cons, List.map_nil]
    rw [h3, am_u, if_pos rfl]
theorem am_wf_mk {σ : am_H} (hwf : am_wf σ) {t n : Nat} (ht : t < 14 ∨ (16 ≤ t ∧ t < 200 ∧ am_ak t < 5)) : am_wf (am_mk σ t n) := by
  intro k hk
  have hk2 : k < ah_n σ + 1 := hk
  by_cases he : k = ah_n σ
  · subst he
    have hal : ah_al (am_mk σ t n) (ah_n σ) = (t, am_cnt σ t) := by
      show (am_u (ah_al σ) (ah_n σ) (t, am_cnt σ t)) (ah_n σ) = _
      rw [am_u, if_pos rfl]
    rw [hal]
    have ht2 : t < 200 := by omega
    refine ⟨ht2, (am_gq_new ht2).2, ?_, ?_, fun j r hr => ?_⟩
    · rcases ht with h | h
      · exact Or.inl h
      · exact Or.inr ⟨h.1, h.2.2⟩
    · rw [am_cnt_mk, if_pos rfl]; exact Nat.lt_succ_self _
    · have hr2 : am_c (ah_R σ) t (am_cnt σ t) (fun _ => none) t (am_cnt σ t) j = some r := hr
      rw [am_c, if_pos ⟨rfl, rfl⟩] at hr2
      cases hr2
  · have hk3 : k < ah_n σ := by omega
    have hal : ah_al (am_mk σ t n) k = ah_al σ k := by
      show am_u (ah_al σ) (ah_n σ) (t, am_cnt σ t) k = _
      rw [am_u, if_neg he]
    obtain ⟨h1, h2, h3, h4, h5⟩ := hwf k hk3
    have hne := am_fresh hwf (t := t) hk3
    rw [hal]
    refine ⟨h1, ?_, h3, ?_, fun j r hr => ?_⟩
    · show am_c (ah_ad σ) t (am_cnt σ t) (ah_n σ) _ _ = _
      rw [am_c, if_neg hne]; exact h2
    · rw [am_cnt_mk]; omega
    · have hr2 : am_c (ah_R σ) t (am_cnt σ t) (fun _ => none) (ah_al σ k).1 (ah_al σ k).2 j = some r := hr
      rw [am_c, if_neg hne] at hr2
      obtain ⟨a, b⟩ := h5 j r hr2
      exact ⟨(am_gq_mk hwf a).1, b⟩
/-- what was there is there, at its place -/
def am_ex (σ0 σ : am_H) : Prop := ∀ x, am_gq σ0 x → am_gq σ x ∧ (x.1 < 200 → ah_ad σ x.1 x.2 = ah_ad σ0 x.1 x.2)
theorem am_ex_rf (σ : am_H) : am_ex σ σ := fun _ h => ⟨h, fun _ => rfl⟩
theorem am_ex_tr {σ0 σ σ' : am_H} (h : am_ex σ0 σ) (h2 : am_ex σ σ') : am_ex σ0 σ' := fun x hx => ⟨(h2 x (h x hx).1).1, fun ht => ((h2 x (h x hx).1).2 ht).trans ((h x hx).2 ht)⟩
theorem am_ex_base {σ σ' : am_H} (hb : σ'.1 = σ.1) : am_ex σ σ' := fun x hx => ⟨am_gq_base hb hx, fun _ => by rw [show ah_ad σ' = ah_ad σ from congrArg (fun b : am_B => b.2.2.1) hb]⟩
theorem am_ex_mk {σ : am_H} (hwf : am_wf σ) (t n : Nat) : am_ex σ (am_mk σ t n) := fun _ hx => am_gq_mk hwf hx
theorem am_cv_ex {f f' : Nat → Nat} {σ σ' : am_H} (h : am_ex σ σ') (hf : ∀ k, k < ah_n σ → f' k = f k) {v : am_V} (hv : am_gv σ v) : am_cv xa uv f' σ' v = am_cv xa uv f σ v := by
  rcases v with x | x | _ | q
  · rfl
  · rfl
  · rfl
  · show am_rv xa uv f' σ' q = am_rv xa uv f σ q
    unfold am_rv
    cases hq : Nat.blt q.1 200
    · rfl
    · have hlt : q.1 < 200 := Nat.le_of_ble_eq_true hq
      have hv2 : am_gq σ q := hv
      rcases id hv2 with h3 | ⟨-, h3, -⟩
      · exact absurd hlt (Nat.not_lt.mpr h3.1)
      · simp only [cond_true]
        rw [(h q hv2).2 hlt, hf _ h3]
theorem am_gv_ex {σ σ' : am_H} (h : am_ex σ σ') {v : am_V} (hv : am_gv σ v) : am_gv σ' v := by
  rcases v with x | x | _ | q
  · trivial
  · trivial
  · trivial
  · exact (h q hv).1
end AmRel
end
section
/-! what holds while a method runs -/
def am_gl (σ : am_H) (l : List am_V) : Prop := ∀ v ∈ l, am_gv σ v
theorem am_gl.t {σ : am_H} {v : am_V} {l : List am_V} (h : am_gl σ (v :: l)) : am_gl σ l := fun w hw => h w (List.mem_cons_of_mem _ hw)
theorem am_gl.h {σ : am_H} {v : am_V} {l : List am_V} (h : am_gl σ (v :: l)) : am_gv σ v := h v List.mem_cons_self
theorem am_gl.c {σ : am_H} {v : am_V} {l : List am_V} (hv : am_gv σ v) (h : am_gl σ l) : am_gl σ (v :: l) := fun w hw => (List.mem_cons.mp hw).elim (fun e => e ▸ hv) (h w)
theorem am_gl.base {σ σ' : am_H} (hb : σ'.1 = σ.1) {l : List am_V} (h : am_gl σ l) : am_gl σ' l := fun v hv => am_gv_base hb (h v hv)
theorem am_gl.mk {σ : am_H} (hwf : am_wf σ) {t n : Nat} {l : List am_V} (h : am_gl σ l) : am_gl (am_mk σ t n) l := fun v hv => by
  have h1 := h v hv
  rcases v with x | x | _ | q
  · trivial
  · trivial
  · trivial
  · exact (am_gq_mk hwf h1).1
theorem am_gl.at {σ : am_H} {l : List am_V} (h : am_gl σ l) {k : Nat} {v : am_V} (hk : l[k]? = some v) : am_gv σ v := h v (List.mem_of_getElem? hk)
theorem am_gl.set {σ : am_H} {l : List am_V} (h : am_gl σ l) {k : Nat} {v : am_V} (hv : am_gv σ v) : am_gl σ (l.set k v) := fun w hw => by
  rcases List.mem_or_eq_of_mem_set hw with h1 | h1
  · exact h w h1
  · rw [h1]; exact hv
section AmLs
variable (xa : Nat → Nat) (uv : Nat → Value)
def am_ls (f : Nat → Nat) (σ : am_H) (ls : List am_V) (lsA : Array Slot) : Prop := lsA.size = ls.length ∧ lv_wf lsA ∧ ∀ (i : Nat) (v : am_V), ls[i]? = some v → am_nl v = true → lsA[i]? = some (Slot.val (am_cv xa uv f σ v))
def am_lv (f : Nat → Nat) (σ : am_H) (ls : List am_V) : List (Nat × Value) := (List.range ls.length).filterMap (fun i => match ls[i]? with
  | some v => if am_nl v = true then some (i, am_cv xa uv f σ v) else none
  | none => none)
theorem am_lv_mem {f : Nat → Nat} {σ : am_H} {ls : List am_V} {i : Nat} {w : Value} : (i, w) ∈ am_lv xa uv f σ ls ↔ ∃ v, ls[i]? = some v ∧ am_nl v = true ∧ w = am_cv xa uv f σ v := by
  unfold am_lv
  rw [List.mem_filterMap]
  constructor
  · intro ⟨k, hk, h⟩
    cases hv : ls[k]? with
    | none => simp [hv] at h
    | some v =>
      simp only [hv] at h
      by_cases hn : am_nl v = true
      · rw [if_pos hn] at h
        cases h
        exact ⟨v, hv, hn, rfl⟩
      · rw [if_neg hn] at h; cases h
  · intro ⟨v, hv, hn, hw⟩
    refine ⟨i, List.mem_range.mpr (List.getElem?_eq_some_iff.mp hv).1, ?_⟩
    simp only [hv]
    rw [if_pos hn, hw]
theorem am_ls_has {f : Nat → Nat} {σ : am_H} {ls : List am_V} {lsA : Array Slot} (h : am_ls xa uv f σ ls lsA) : lv_has lsA ls.length (am_lv xa uv f σ ls) := by
  refine ⟨h.1, h.2.1, fun q hq => ?_⟩
  obtain ⟨i, w⟩ := q
  obtain ⟨v, hv, hn, rfl⟩ := (am_lv_mem xa uv).mp hq
  exact h.2.2 i v hv hn
theorem am_cat1 {f : Nat → Nat} {σ : am_H} {v : am_V} (hu : ∀ a, uv a = .null ∨ ∃ b, uv a = .ref b) (h : am_nl v = true) : (am_cv xa uv f σ v).category = 1 := by
  rcases v with x | x | _ | q
  · rfl
  · cases h
  · rfl
  · show (am_rv xa uv f σ q).category = 1
    unfold am_rv
    cases Nat.blt q.1 200
    · cases Nat.blt q.1 220
      · rcases hu q.1 with e | ⟨b, e⟩ <;> simp [e, Value.category]
      · rfl
    · rfl
/-- behind a store -/
theorem am_ls_put {f : Nat → Nat} {σ : am_H} {ls : List am_V} {ls' : Array Slot} {i : Nat} {v : am_V} (hu : ∀ a, uv a = .null ∨ ∃ b, uv a = .ref b) (hi : i < ls.length)
    (h : lv_has ls' ls.length ((i, am_cv xa uv f σ v) :: (am_lv xa uv f σ ls).filter (fun q => !(q.1 == i) && !(q.1 + 1 == i && q.2.category == 2)))) : am_ls xa uv f σ (ls.set i v) ls' := by
  refine ⟨by rw [List.length_set]; exact h.1, h.2.1, fun j w hj hn => ?_⟩
  by_cases he : j = i
  · subst he
    rw [List.getElem?_set_self hi] at hj
    cases hj
    exact h.2.2 (j, _) List.mem_cons_self
  · rw [List.getElem?_set_ne (fun e => he e.symm)] at hj
    have hm : (j, am_cv xa uv f σ w) ∈ am_lv xa uv f σ ls := (am_lv_mem xa uv).mpr ⟨w, hj, hn, rfl⟩
    refine h.2.2 (j, am_cv xa uv f σ w) (List.mem_cons_of_mem _ (List.mem_filter.mpr ⟨hm, ?_⟩))
    have hc := am_cat1 xa uv (f := f) (σ := σ) hu hn
    simp [he, hc]
theorem am_ls_base {f : Nat → Nat} {σ σ' : am_H} (hb : σ'.1 = σ.1) {ls : List am_V} {lsA : Array Slot} (h : am_ls xa uv f σ ls lsA) : am_ls xa uv f σ' ls lsA := ⟨h.1, h.2.1, fun i v hi hn => by rw [am_cv_base xa uv hb]; exact h.2.2 i v hi hn⟩
theorem am_ls_cong {f f' : Nat → Nat} {σ σ' : am_H} {ls : List am_V} (hc : ∀ v ∈ ls, am_cv xa uv f' σ' v = am_cv xa uv f σ v) {lsA : Array Slot} (h : am_ls xa uv f σ ls lsA) : am_ls xa uv f' σ' ls lsA := ⟨h.1, h.2.1, fun i v hi hn => by rw [hc v (List.mem_of_getElem? hi)]; exact h.2.2 i v hi hn⟩
end AmLs
end
section
/-- BrotliWords$BitReader.<init>(LBrotliWords$Bytes;)V -/
def am_c0 : List (Nat × am_Row) := [(0, .aload_n 0, 1, 0, 0, 0, 0, []),
  (1, .invokespecial 3, 3, 0, 900, 1, 0, []),
  (4, .aload_n 0, 1, 0, 0, 0, 0, []),
  (5, .aload_n 1, 1, 0, 1, 0, 0, []),
  (6, .putfield 9, 3, 0, 0, 0, 1, []),
  (9, .return_, 1, 0, 0, 0, 0, [])]
/-- BrotliWords$BitReader.start()V -/
def am_c1 : List (Nat × am_Row) := [(0, .aload_n 0, 1, 0, 0, 0, 0, []),
  (1, .iconst 0, 1, 0, 0, 0, 0, []),
  (2, .putfield 15, 3, 0, 0, 1, 0, []),
  (5, .aload_n 0, 1, 0, 0, 0, 0, []),
  (6, .bipush 8, 2, 8, 0, 0, 0, []),
  (8, .aload_n 0, 1, 0, 0, 0, 0, []),
  (9, .getfield 9, 3, 0, 0, 0, 1, []),
  (12, .getfield 19, 3, 0, 2, 1, 0, []),
  (15, .imul, 1, 0, 0, 0, 0, []),
  (16, .putfield 24, 3, 0, 0, 2, 0, []),
  (19, .aload_n 0, 1, 0, 0, 0, 0, []),
  (20, .iconst 0, 1, 0, 0, 0, 0, []),
  (21, .putfield 27, 3, 0, 0, 3, 0, []),
  (24, .return_, 1, 0, 0, 0, 0, [])]
/-- BrotliWords$BitReader.fine()Z -/
def am_c2 : List (Nat × am_Row) := [(0, .aload_n 0, 1, 0, 0, 0, 0, []),
  (1, .getfield 27, 3, 0, 0, 3, 0, []),
  (4, .ifCond .ne 7, 3, 0, 11, 0, 0, []),
  (7, .iconst 1, 1, 1, 0, 0, 0, []),
  (8, .goto 4, 3, 0, 12, 0, 0, []),
  (11, .iconst 0, 1, 0, 0, 0, 0, []),
  (12, .ireturn, 1, 0, 1, 0, 0, [])]
/-- BrotliWords$BitReader.broken(I)V -/
def am_c3 : List (Nat × am_Row) := [(0, .aload_n 0, 1, 0, 0, 0, 0, []),
  (1, .getfield 27, 3, 0, 0, 3, 0, []),
  (4, .ifCond .ne 8, 3, 0, 12, 0, 0, []),
  (7, .aload_n 0, 1, 0, 0, 0, 0, []),
  (8, .iload_n 1, 1, 0, 1, 0, 0, []),
  (9, .putfield 27, 3, 0, 0, 3, 0, []),
  (12, .return_, 1, 0, 0, 0, 0, [])]
/-- BrotliWords$BitReader.number(I)I -/
def am_c4_0 : List (Nat × am_Row) := [(0, .aload_n 0, 1, 0, 0, 0, 0, []),
  (1, .getfield 27, 3, 0, 0, 3, 0, []),
  (4, .ifCond .eq 5, 3, 0, 9, 0, 0, []),
  (7, .iconst 0, 1, 0, 0, 0, 0, []),
  (8, .ireturn, 1, 0, 0, 0, 0, []),
  (9, .iload_n 1, 1, 0, 1, 0, 0, []),
  (10, .aload_n 0, 1, 0, 0, 0, 0, []),
  (11, .getfield 24, 3, 0, 0, 2, 0, []),
  (14, .aload_n 0, 1, 0, 0, 0, 0, []),
  (15, .getfield 15, 3, 0, 0, 1, 0, []),
  (18, .isub, 1, 0, 0, 0, 0, []),
  (19, .if_icmp .le 18, 3, 0, 37, 0, 0, []),
  (22, .aload_n 0, 1, 0, 0, 0, 0, []),
  (23, .aload_n 0, 1, 0, 0, 0, 0, []),
  (24, .getfield 24, 3, 0, 0, 2, 0, []),
  (27, .putfield 15, 3, 0, 0, 1, 0, []),
  (30, .aload_n 0, 1, 0, 0, 0, 0, []),
  (31, .iconst 1, 1, 1, 0, 0, 0, []),
  (32, .putfield 27, 3, 0, 0, 3, 0, []),
  (35, .iconst 0, 1, 0, 0, 0, 0, []),
  (36, .ireturn, 1, 0, 0, 0, 0, []),
  (37, .iconst 0, 1, 0, 0, 0, 0, []),
  (38, .istore_n 2, 1, 0, 2, 0, 0, []),
  (39, .iconst 0, 1, 0, 0, 0, 0, []),
  (40, .istore_n 3, 1, 0, 3, 0, 0, []),
  (41, .iload_n 3, 1, 0, 3, 0, 0, []),
  (42, .iload_n 1, 1, 0, 1, 0, 0, []),
  (43, .if_icmp .ge 48, 3, 0, 91, 0, 0, []),
  (46, .iload_n 2, 1, 0, 2, 0, 0, []),
  (47, .aload_n 0, 1, 0, 0, 0, 0, []),
  (48, .getfield 9, 3, 0, 0, 0, 1, []),
  (51, .getfield 30, 3, 0, 2, 0, 1, []),
  (54, .aload_n 0, 1, 0, 0, 0, 0, []),
  (55, .getfield 15, 3, 0, 0, 1, 0, []),
  (58, .iconst 3, 1, 3, 0, 0, 0, []),
  (59, .ishr, 1, 0, 0, 0, 0, []),
  (60, .baload, 1, 0, 0, 0, 0, []),
  (61, .aload_n 0, 1, 0, 0, 0, 0, []),
  (62, .getfield 15, 3, 0, 0, 1, 0, []),
  (65, .bipush 7, 2, 7, 0, 0, 0, [])]
def am_c4_1 : List (Nat × am_Row) := [(67, .iand, 1, 0, 0, 0, 0, []),
  (68, .ishr, 1, 0, 0, 0, 0, []),
  (69, .iconst 1, 1, 1, 0, 0, 0, []),
  (70, .iand, 1, 0, 0, 0, 0, []),
  (71, .iload_n 3, 1, 0, 3, 0, 0, []),
  (72, .ishl, 1, 0, 0, 0, 0, []),
  (73, .ior, 1, 0, 0, 0, 0, []),
  (74, .istore_n 2, 1, 0, 2, 0, 0, []),
  (75, .iinc 3 1, 3, 1, 3, 0, 0, []),
  (78, .aload_n 0, 1, 0, 0, 0, 0, []),
  (79, .dup, 1, 0, 0, 0, 0, []),
  (80, .getfield 15, 3, 0, 0, 1, 0, []),
  (83, .iconst 1, 1, 1, 0, 0, 0, []),
  (84, .iadd, 1, 0, 0, 0, 0, []),
  (85, .putfield 15, 3, 0, 0, 1, 0, []),
  (88, .goto (-47), 3, 0, 41, 0, 0, []),
  (91, .iload_n 2, 1, 0, 2, 0, 0, []),
  (92, .ireturn, 1, 0, 0, 0, 0, [])]
def am_c4 : List (Nat × am_Row) := am_c4_0 ++ (am_c4_1)
/-- BrotliWords$BitReader.signOf(LBrotliWords$Code;)I -/
def am_c5_0 : List (Nat × am_Row) := [(0, .aload_n 0, 1, 0, 0, 0, 0, []),
  (1, .getfield 27, 3, 0, 0, 3, 0, []),
  (4, .ifCond .ne 11, 3, 0, 15, 0, 0, []),
  (7, .aload_n 1, 1, 0, 1, 0, 0, []),
  (8, .getfield 34, 3, 0, 3, 2, 0, []),
  (11, .iconst 2, 1, 2, 0, 0, 0, []),
  (12, .if_icmp .ge 21, 3, 0, 33, 0, 0, []),
  (15, .aload_n 0, 1, 0, 0, 0, 0, []),
  (16, .getfield 27, 3, 0, 0, 3, 0, []),
  (19, .ifCond .eq 7, 3, 0, 26, 0, 0, []),
  (22, .iconst 0, 1, 0, 0, 0, 0, []),
  (23, .goto 9, 3, 0, 32, 0, 0, []),
  (26, .aload_n 1, 1, 0, 1, 0, 0, []),
  (27, .getfield 39, 3, 0, 3, 0, 1, []),
  (30, .iconst 0, 1, 0, 0, 0, 0, []),
  (31, .iaload, 1, 0, 0, 0, 0, []),
  (32, .ireturn, 1, 0, 0, 0, 0, []),
  (33, .iconst 0, 1, 0, 0, 0, 0, []),
  (34, .istore_n 2, 1, 0, 2, 0, 0, []),
  (35, .iconst 0, 1, 0, 0, 0, 0, []),
  (36, .istore_n 3, 1, 0, 3, 0, 0, []),
  (37, .iconst 1, 1, 1, 0, 0, 0, []),
  (38, .istore 4, 2, 0, 4, 0, 0, []),
  (40, .iload 4, 2, 0, 4, 0, 0, []),
  (42, .bipush 15, 2, 15, 0, 0, 0, []),
  (44, .if_icmp .gt 119, 3, 0, 163, 0, 0, []),
  (47, .aload_n 0, 1, 0, 0, 0, 0, []),
  (48, .getfield 15, 3, 0, 0, 1, 0, []),
  (51, .aload_n 0, 1, 0, 0, 0, 0, []),
  (52, .getfield 24, 3, 0, 0, 2, 0, []),
  (55, .if_icmp .ge 108, 3, 0, 163, 0, 0, []),
  (58, .iconst 2, 1, 2, 0, 0, 0, []),
  (59, .iload_n 2, 1, 0, 2, 0, 0, []),
  (60, .imul, 1, 0, 0, 0, 0, []),
  (61, .aload_n 0, 1, 0, 0, 0, 0, []),
  (62, .getfield 9, 3, 0, 0, 0, 1, []),
  (65, .getfield 30, 3, 0, 2, 0, 1, []),
  (68, .aload_n 0, 1, 0, 0, 0, 0, []),
  (69, .getfield 15, 3, 0, 0, 1, 0, []),
  (72, .iconst 3, 1, 3, 0, 0, 0, [])]
def am_c5_1 : List (Nat × am_Row) := [(73, .ishr, 1, 0, 0, 0, 0, []),
  (74, .baload, 1, 0, 0, 0, 0, []),
  (75, .aload_n 0, 1, 0, 0, 0, 0, []),
  (76, .getfield 15, 3, 0, 0, 1, 0, []),
  (79, .bipush 7, 2, 7, 0, 0, 0, []),
  (81, .iand, 1, 0, 0, 0, 0, []),
  (82, .ishr, 1, 0, 0, 0, 0, []),
  (83, .iconst 1, 1, 1, 0, 0, 0, []),
  (84, .iand, 1, 0, 0, 0, 0, []),
  (85, .iadd, 1, 0, 0, 0, 0, []),
  (86, .istore_n 2, 1, 0, 2, 0, 0, []),
  (87, .iload_n 2, 1, 0, 2, 0, 0, []),
  (88, .aload_n 1, 1, 0, 1, 0, 0, []),
  (89, .getfield 43, 3, 0, 3, 1, 1, []),
  (92, .iload 4, 2, 0, 4, 0, 0, []),
  (94, .iaload, 1, 0, 0, 0, 0, []),
  (95, .if_icmp .ge 32, 3, 0, 127, 0, 0, []),
  (98, .iload_n 3, 1, 0, 3, 0, 0, []),
  (99, .iload_n 2, 1, 0, 2, 0, 0, []),
  (100, .iadd, 1, 0, 0, 0, 0, []),
  (101, .aload_n 1, 1, 0, 1, 0, 0, []),
  (102, .getfield 34, 3, 0, 3, 2, 0, []),
  (105, .if_icmp .ge 22, 3, 0, 127, 0, 0, []),
  (108, .aload_n 0, 1, 0, 0, 0, 0, []),
  (109, .dup, 1, 0, 0, 0, 0, []),
  (110, .getfield 15, 3, 0, 0, 1, 0, []),
  (113, .iconst 1, 1, 1, 0, 0, 0, []),
  (114, .iadd, 1, 0, 0, 0, 0, []),
  (115, .putfield 15, 3, 0, 0, 1, 0, []),
  (118, .aload_n 1, 1, 0, 1, 0, 0, []),
  (119, .getfield 39, 3, 0, 3, 0, 1, []),
  (122, .iload_n 3, 1, 0, 3, 0, 0, []),
  (123, .iload_n 2, 1, 0, 2, 0, 0, []),
  (124, .iadd, 1, 0, 0, 0, 0, []),
  (125, .iaload, 1, 0, 0, 0, 0, []),
  (126, .ireturn, 1, 0, 0, 0, 0, []),
  (127, .iload_n 3, 1, 0, 3, 0, 0, []),
  (128, .aload_n 1, 1, 0, 1, 0, 0, []),
  (129, .getfield 43, 3, 0, 3, 1, 1, []),
  (132, .iload 4, 2, 0, 4, 0, 0, [])]
def am_c5_2 : List (Nat × am_Row) := [(134, .iaload, 1, 0, 0, 0, 0, []),
  (135, .iadd, 1, 0, 0, 0, 0, []),
  (136, .istore_n 3, 1, 0, 3, 0, 0, []),
  (137, .iload_n 2, 1, 0, 2, 0, 0, []),
  (138, .aload_n 1, 1, 0, 1, 0, 0, []),
  (139, .getfield 43, 3, 0, 3, 1, 1, []),
  (142, .iload 4, 2, 0, 4, 0, 0, []),
  (144, .iaload, 1, 0, 0, 0, 0, []),
  (145, .isub, 1, 0, 0, 0, 0, []),
  (146, .istore_n 2, 1, 0, 2, 0, 0, []),
  (147, .iinc 4 1, 3, 1, 4, 0, 0, []),
  (150, .aload_n 0, 1, 0, 0, 0, 0, []),
  (151, .dup, 1, 0, 0, 0, 0, []),
  (152, .getfield 15, 3, 0, 0, 1, 0, []),
  (155, .iconst 1, 1, 1, 0, 0, 0, []),
  (156, .iadd, 1, 0, 0, 0, 0, []),
  (157, .putfield 15, 3, 0, 0, 1, 0, []),
  (160, .goto (-120), 3, 0, 40, 0, 0, []),
  (163, .aload_n 0, 1, 0, 0, 0, 0, []),
  (164, .iconst 1, 1, 1, 0, 0, 0, []),
  (165, .putfield 27, 3, 0, 0, 3, 0, []),
  (168, .iconst 0, 1, 0, 0, 0, 0, []),
  (169, .ireturn, 1, 0, 0, 0, 0, [])]
def am_c5 : List (Nat × am_Row) := am_c5_0 ++ (am_c5_1 ++ (am_c5_2))
/-- BrotliWords$BitReader.toWholeByte()V -/
def am_c6 : List (Nat × am_Row) := [(0, .aload_n 0, 1, 0, 0, 0, 0, []),
  (1, .aload_n 0, 1, 0, 0, 0, 0, []),
  (2, .getfield 15, 3, 0, 0, 1, 0, []),
  (5, .ineg, 1, 0, 0, 0, 0, []),
  (6, .bipush 7, 2, 7, 0, 0, 0, []),
  (8, .iand, 1, 0, 0, 0, 0, []),
  (9, .invokevirtual 46, 3, 0, 4, 2, 0, []),
  (12, .ifCond .eq 9, 3, 0, 21, 0, 0, []),
  (15, .aload_n 0, 1, 0, 0, 0, 0, []),
  (16, .bipush 6, 2, 6, 0, 0, 0, []),
  (18, .invokevirtual 50, 3, 0, 3, 2, 0, []),
  (21, .return_, 1, 0, 0, 0, 0, [])]
/-- BrotliWords$BitReader.passOver(I)V -/
def am_c7 : List (Nat × am_Row) := [(0, .aload_n 0, 1, 0, 0, 0, 0, []),
  (1, .getfield 27, 3, 0, 0, 3, 0, []),
  (4, .ifCond .eq 4, 3, 0, 8, 0, 0, []),
  (7, .return_, 1, 0, 0, 0, 0, []),
  (8, .iload_n 1, 1, 0, 1, 0, 0, []),
  (9, .aload_n 0, 1, 0, 0, 0, 0, []),
  (10, .getfield 24, 3, 0, 0, 2, 0, []),
  (13, .aload_n 0, 1, 0, 0, 0, 0, []),
  (14, .getfield 15, 3, 0, 0, 1, 0, []),
  (17, .isub, 1, 0, 0, 0, 0, []),
  (18, .iconst 3, 1, 3, 0, 0, 0, []),
  (19, .ishr, 1, 0, 0, 0, 0, []),
  (20, .if_icmp .le 19, 3, 0, 39, 0, 0, []),
  (23, .aload_n 0, 1, 0, 0, 0, 0, []),
  (24, .aload_n 0, 1, 0, 0, 0, 0, []),
  (25, .getfield 24, 3, 0, 0, 2, 0, []),
  (28, .putfield 15, 3, 0, 0, 1, 0, []),
  (31, .aload_n 0, 1, 0, 0, 0, 0, []),
  (32, .iconst 1, 1, 1, 0, 0, 0, []),
  (33, .putfield 27, 3, 0, 0, 3, 0, []),
  (36, .goto 16, 3, 0, 52, 0, 0, []),
  (39, .aload_n 0, 1, 0, 0, 0, 0, []),
  (40, .dup, 1, 0, 0, 0, 0, []),
  (41, .getfield 15, 3, 0, 0, 1, 0, []),
  (44, .bipush 8, 2, 8, 0, 0, 0, []),
  (46, .iload_n 1, 1, 0, 1, 0, 0, []),
  (47, .imul, 1, 0, 0, 0, 0, []),
  (48, .iadd, 1, 0, 0, 0, 0, []),
  (49, .putfield 15, 3, 0, 0, 1, 0, []),
  (52, .return_, 1, 0, 0, 0, 0, [])]
/-- BrotliWords$BitReader.copyTo(LBrotliWords$Bytes;I)V -/
def am_c8 : List (Nat × am_Row) := [(0, .aload_n 0, 1, 0, 0, 0, 0, []),
  (1, .getfield 15, 3, 0, 0, 1, 0, []),
  (4, .iconst 3, 1, 3, 0, 0, 0, []),
  (5, .ishr, 1, 0, 0, 0, 0, []),
  (6, .istore_n 3, 1, 0, 3, 0, 0, []),
  (7, .aload_n 0, 1, 0, 0, 0, 0, []),
  (8, .iload_n 2, 1, 0, 2, 0, 0, []),
  (9, .invokevirtual 54, 3, 0, 7, 2, 0, []),
  (12, .aload_n 0, 1, 0, 0, 0, 0, []),
  (13, .getfield 27, 3, 0, 0, 3, 0, []),
  (16, .ifCond .eq 4, 3, 0, 20, 0, 0, []),
  (19, .return_, 1, 0, 0, 0, 0, []),
  (20, .iconst 0, 1, 0, 0, 0, 0, []),
  (21, .istore 4, 2, 0, 4, 0, 0, []),
  (23, .iload 4, 2, 0, 4, 0, 0, []),
  (25, .iload_n 2, 1, 0, 2, 0, 0, []),
  (26, .if_icmp .ge 24, 3, 0, 50, 0, 0, []),
  (29, .aload_n 1, 1, 0, 1, 0, 0, []),
  (30, .aload_n 0, 1, 0, 0, 0, 0, []),
  (31, .getfield 9, 3, 0, 0, 0, 1, []),
  (34, .iload_n 3, 1, 0, 3, 0, 0, []),
  (35, .iload 4, 2, 0, 4, 0, 0, []),
  (37, .iadd, 1, 0, 0, 0, 0, []),
  (38, .invokevirtual 57, 3, 0, 15, 2, 2, []),
  (41, .invokevirtual 59, 3, 0, 17, 2, 2, []),
  (44, .iinc 4 1, 3, 1, 4, 0, 0, []),
  (47, .goto (-24), 3, 0, 23, 0, 0, []),
  (50, .return_, 1, 0, 0, 0, 0, [])]
/-- BrotliWords$Blocks.<init>()V -/
def am_c9 : List (Nat × am_Row) := [(0, .aload_n 0, 1, 0, 0, 0, 0, []),
  (1, .invokespecial 3, 3, 0, 900, 1, 0, []),
  (4, .aload_n 0, 1, 0, 0, 0, 0, []),
  (5, .new 9, 3, 0, 3, 3, 0, []),
  (8, .dup, 1, 0, 0, 0, 0, []),
  (9, .bipush 14, 2, 14, 0, 0, 0, []),
  (11, .invokespecial 11, 3, 0, 21, 2, 3, []),
  (14, .putfield 14, 3, 0, 1, 0, 1, []),
  (17, .aload_n 0, 1, 0, 0, 0, 0, []),
  (18, .new 9, 3, 0, 3, 3, 0, []),
  (21, .dup, 1, 0, 0, 0, 0, []),
  (22, .bipush 26, 2, 26, 0, 0, 0, []),
  (24, .invokespecial 11, 3, 0, 21, 2, 3, []),
  (27, .putfield 20, 3, 0, 1, 1, 1, []),
  (30, .return_, 1, 0, 0, 0, 0, [])]
/-- BrotliWords$Blocks.start(I)V -/
def am_c10 : List (Nat × am_Row) := [(0, .aload_n 0, 1, 0, 0, 0, 0, []),
  (1, .iload_n 1, 1, 0, 1, 0, 0, []),
  (2, .putfield 23, 3, 0, 1, 2, 0, []),
  (5, .aload_n 0, 1, 0, 0, 0, 0, []),
  (6, .iconst 0, 1, 0, 0, 0, 0, []),
  (7, .putfield 27, 3, 0, 1, 3, 0, []),
  (10, .aload_n 0, 1, 0, 0, 0, 0, []),
  (11, .iconst 1, 1, 1, 0, 0, 0, []),
  (12, .putfield 30, 3, 0, 1, 4, 0, []),
  (15, .aload_n 0, 1, 0, 0, 0, 0, []),
  (16, .iconst 0, 1, 0, 0, 0, 0, []),
  (17, .putfield 33, 3, 0, 1, 5, 0, []),
  (20, .return_, 1, 0, 0, 0, 0, [])]
/-- BrotliWords$Blocks.readCount(LBrotliWords$BitReader;)V -/
def am_c11 : List (Nat × am_Row) := [(0, .aload_n 1, 1, 0, 1, 0, 0, []),
  (1, .aload_n 0, 1, 0, 0, 0, 0, []),
  (2, .getfield 20, 3, 0, 1, 1, 1, []),
  (5, .invokevirtual 36, 3, 0, 5, 2, 0, []),
  (8, .istore_n 2, 1, 0, 2, 0, 0, []),
  (9, .iload_n 2, 1, 0, 2, 0, 0, []),
  (10, .bipush 26, 2, 26, 0, 0, 0, []),
  (12, .if_icmp .ge 22, 3, 0, 34, 0, 0, []),
  (15, .aload_n 0, 1, 0, 0, 0, 0, []),
  (16, .getstatic 42, 3, 0, 209, 0, 0, []),
  (19, .iload_n 2, 1, 0, 2, 0, 0, []),
  (20, .iaload, 1, 0, 0, 0, 0, []),
  (21, .aload_n 1, 1, 0, 1, 0, 0, []),
  (22, .getstatic 46, 3, 0, 210, 0, 0, []),
  (25, .iload_n 2, 1, 0, 2, 0, 0, []),
  (26, .iaload, 1, 0, 0, 0, 0, []),
  (27, .invokevirtual 49, 3, 0, 4, 2, 0, []),
  (30, .iadd, 1, 0, 0, 0, 0, []),
  (31, .putfield 33, 3, 0, 1, 5, 0, []),
  (34, .return_, 1, 0, 0, 0, 0, [])]
/-- BrotliWords$Blocks.takeOne(LBrotliWords$BitReader;)V -/
def am_c12 : List (Nat × am_Row) := [(0, .aload_n 0, 1, 0, 0, 0, 0, []),
  (1, .getfield 23, 3, 0, 1, 2, 0, []),
  (4, .iconst 2, 1, 2, 0, 0, 0, []),
  (5, .if_icmp .ge 4, 3, 0, 9, 0, 0, []),
  (8, .return_, 1, 0, 0, 0, 0, []),
  (9, .aload_n 0, 1, 0, 0, 0, 0, []),
  (10, .getfield 33, 3, 0, 1, 5, 0, []),
  (13, .ifCond .ne 20, 3, 0, 33, 0, 0, []),
  (16, .aload_n 0, 1, 0, 0, 0, 0, []),
  (17, .aload_n 1, 1, 0, 1, 0, 0, []),
  (18, .aload_n 0, 1, 0, 0, 0, 0, []),
  (19, .getfield 14, 3, 0, 1, 0, 1, []),
  (22, .invokevirtual 36, 3, 0, 5, 2, 0, []),
  (25, .invokevirtual 53, 3, 0, 13, 2, 1, []),
  (28, .aload_n 0, 1, 0, 0, 0, 0, []),
  (29, .aload_n 1, 1, 0, 1, 0, 0, []),
  (30, .invokevirtual 56, 3, 0, 11, 2, 1, []),
  (33, .aload_n 0, 1, 0, 0, 0, 0, []),
  (34, .dup, 1, 0, 0, 0, 0, []),
  (35, .getfield 33, 3, 0, 1, 5, 0, []),
  (38, .iconst 1, 1, 1, 0, 0, 0, []),
  (39, .isub, 1, 0, 0, 0, 0, []),
  (40, .putfield 33, 3, 0, 1, 5, 0, []),
  (43, .return_, 1, 0, 0, 0, 0, [])]
/-- BrotliWords$Blocks.changeTo(I)V -/
def am_c13 : List (Nat × am_Row) := [(0, .iload_n 1, 1, 0, 1, 0, 0, []),
  (1, .iconst 2, 1, 2, 0, 0, 0, []),
  (2, .isub, 1, 0, 0, 0, 0, []),
  (3, .istore_n 2, 1, 0, 2, 0, 0, []),
  (4, .iload_n 1, 1, 0, 1, 0, 0, []),
  (5, .ifCond .ne 11, 3, 0, 16, 0, 0, []),
  (8, .aload_n 0, 1, 0, 0, 0, 0, []),
  (9, .getfield 30, 3, 0, 1, 4, 0, []),
  (12, .istore_n 2, 1, 0, 2, 0, 0, []),
  (13, .goto 32, 3, 0, 45, 0, 0, []),
  (16, .iload_n 1, 1, 0, 1, 0, 0, []),
  (17, .iconst 1, 1, 1, 0, 0, 0, []),
  (18, .if_icmp .ne 27, 3, 0, 45, 0, 0, []),
  (21, .aload_n 0, 1, 0, 0, 0, 0, []),
  (22, .getfield 27, 3, 0, 1, 3, 0, []),
  (25, .iconst 1, 1, 1, 0, 0, 0, []),
  (26, .iadd, 1, 0, 0, 0, 0, []),
  (27, .aload_n 0, 1, 0, 0, 0, 0, []),
  (28, .getfield 23, 3, 0, 1, 2, 0, []),
  (31, .if_icmp .ge 12, 3, 0, 43, 0, 0, []),
  (34, .aload_n 0, 1, 0, 0, 0, 0, []),
  (35, .getfield 27, 3, 0, 1, 3, 0, []),
  (38, .iconst 1, 1, 1, 0, 0, 0, []),
  (39, .iadd, 1, 0, 0, 0, 0, []),
  (40, .goto 4, 3, 0, 44, 0, 0, []),
  (43, .iconst 0, 1, 0, 0, 0, 0, []),
  (44, .istore_n 2, 1, 0, 2, 0, 0, []),
  (45, .aload_n 0, 1, 0, 0, 0, 0, []),
  (46, .aload_n 0, 1, 0, 0, 0, 0, []),
  (47, .getfield 27, 3, 0, 1, 3, 0, []),
  (50, .putfield 30, 3, 0, 1, 4, 0, []),
  (53, .aload_n 0, 1, 0, 0, 0, 0, []),
  (54, .iload_n 2, 1, 0, 2, 0, 0, []),
  (55, .bipush 11, 2, 11, 0, 0, 0, []),
  (57, .invokestatic 60, 3, 0, 903, 2, 0, []),
  (60, .putfield 27, 3, 0, 1, 3, 0, []),
  (63, .return_, 1, 0, 0, 0, 0, [])]
/-- BrotliWords$Bytes.<init>(I)V -/
def am_c14 : List (Nat × am_Row) := [(0, .aload_n 0, 1, 0, 0, 0, 0, []),
  (1, .invokespecial 1, 3, 0, 900, 1, 0, []),
  (4, .aload_n 0, 1, 0, 0, 0, 0, []),
  (5, .iload_n 1, 1, 0, 1, 0, 0, []),
  (6, .iconst 0, 1, 0, 0, 0, 0, []),
  (7, .invokestatic 7, 3, 0, 902, 2, 0, []),
  (10, .newarray .byte, 2, 0, 20, 0, 0, []),
  (12, .putfield 13, 3, 0, 2, 0, 1, []),
  (15, .return_, 1, 0, 0, 0, 0, [])]
/-- BrotliWords$Bytes.at(I)I -/
def am_c15 : List (Nat × am_Row) := [(0, .iload_n 1, 1, 0, 1, 0, 0, []),
  (1, .ifCond .lt 11, 3, 0, 12, 0, 0, []),
  (4, .iload_n 1, 1, 0, 1, 0, 0, []),
  (5, .aload_n 0, 1, 0, 0, 0, 0, []),
  (6, .getfield 19, 3, 0, 2, 1, 0, []),
  (9, .if_icmp .lt 7, 3, 0, 16, 0, 0, []),
  (12, .iconst 0, 1, 0, 0, 0, 0, []),
  (13, .goto 13, 3, 0, 26, 0, 0, []),
  (16, .aload_n 0, 1, 0, 0, 0, 0, []),
  (17, .getfield 13, 3, 0, 2, 0, 1, []),
  (20, .iload_n 1, 1, 0, 1, 0, 0, []),
  (21, .baload, 1, 0, 0, 0, 0, []),
  (22, .sipush 255, 3, 255, 0, 0, 0, []),
  (25, .iand, 1, 0, 0, 0, 0, []),
  (26, .ireturn, 1, 0, 0, 0, 0, [])]
/-- BrotliWords$Bytes.cut(I)V -/
def am_c16 : List (Nat × am_Row) := [(0, .aload_n 0, 1, 0, 0, 0, 0, []),
  (1, .iload_n 1, 1, 0, 1, 0, 0, []),
  (2, .iconst 0, 1, 0, 0, 0, 0, []),
  (3, .invokestatic 7, 3, 0, 902, 2, 0, []),
  (6, .aload_n 0, 1, 0, 0, 0, 0, []),
  (7, .getfield 19, 3, 0, 2, 1, 0, []),
  (10, .invokestatic 23, 3, 0, 903, 2, 0, []),
  (13, .putfield 19, 3, 0, 2, 1, 0, []),
  (16, .aload_n 0, 1, 0, 0, 0, 0, []),
  (17, .bipush 8, 2, 8, 0, 0, 0, []),
  (19, .aload_n 0, 1, 0, 0, 0, 0, []),
  (20, .getfield 19, 3, 0, 2, 1, 0, []),
  (23, .imul, 1, 0, 0, 0, 0, []),
  (24, .putfield 26, 3, 0, 2, 2, 0, []),
  (27, .return_, 1, 0, 0, 0, 0, [])]
/-- BrotliWords$Bytes.add(I)V -/
def am_c17 : List (Nat × am_Row) := [(0, .aload_n 0, 1, 0, 0, 0, 0, []),
  (1, .getfield 19, 3, 0, 2, 1, 0, []),
  (4, .aload_n 0, 1, 0, 0, 0, 0, []),
  (5, .getfield 13, 3, 0, 2, 0, 1, []),
  (8, .arraylength, 1, 0, 0, 0, 0, []),
  (9, .if_icmp .ge 21, 3, 0, 30, 0, 0, []),
  (12, .aload_n 0, 1, 0, 0, 0, 0, []),
  (13, .getfield 13, 3, 0, 2, 0, 1, []),
  (16, .aload_n 0, 1, 0, 0, 0, 0, []),
  (17, .dup, 1, 0, 0, 0, 0, []),
  (18, .getfield 19, 3, 0, 2, 1, 0, []),
  (21, .dup_x1, 1, 0, 0, 0, 0, []),
  (22, .iconst 1, 1, 1, 0, 0, 0, []),
  (23, .iadd, 1, 0, 0, 0, 0, []),
  (24, .putfield 19, 3, 0, 2, 1, 0, []),
  (27, .iload_n 1, 1, 0, 1, 0, 0, []),
  (28, .i2b, 1, 0, 0, 0, 0, []),
  (29, .bastore, 1, 0, 0, 0, 0, []),
  (30, .aload_n 0, 1, 0, 0, 0, 0, []),
  (31, .bipush 8, 2, 8, 0, 0, 0, []),
  (33, .aload_n 0, 1, 0, 0, 0, 0, []),
  (34, .getfield 19, 3, 0, 2, 1, 0, []),
  (37, .imul, 1, 0, 0, 0, 0, []),
  (38, .putfield 26, 3, 0, 2, 2, 0, []),
  (41, .return_, 1, 0, 0, 0, 0, [])]
/-- BrotliWords$Bytes.addNumber(I)V -/
def am_c18 : List (Nat × am_Row) := [(0, .aload_n 0, 1, 0, 0, 0, 0, []),
  (1, .iload_n 1, 1, 0, 1, 0, 0, []),
  (2, .bipush 24, 2, 24, 0, 0, 0, []),
  (4, .iushr, 1, 0, 0, 0, 0, []),
  (5, .invokevirtual 29, 3, 0, 17, 2, 2, []),
  (8, .aload_n 0, 1, 0, 0, 0, 0, []),
  (9, .iload_n 1, 1, 0, 1, 0, 0, []),
  (10, .bipush 16, 2, 16, 0, 0, 0, []),
  (12, .iushr, 1, 0, 0, 0, 0, []),
  (13, .invokevirtual 29, 3, 0, 17, 2, 2, []),
  (16, .aload_n 0, 1, 0, 0, 0, 0, []),
  (17, .iload_n 1, 1, 0, 1, 0, 0, []),
  (18, .bipush 8, 2, 8, 0, 0, 0, []),
  (20, .iushr, 1, 0, 0, 0, 0, []),
  (21, .invokevirtual 29, 3, 0, 17, 2, 2, []),
  (24, .aload_n 0, 1, 0, 0, 0, 0, []),
  (25, .iload_n 1, 1, 0, 1, 0, 0, []),
  (26, .invokevirtual 29, 3, 0, 17, 2, 2, []),
  (29, .return_, 1, 0, 0, 0, 0, [])]
/-- BrotliWords$Bytes.addBits(II)V -/
def am_c19_0 : List (Nat × am_Row) := [(0, .iconst 0, 1, 0, 0, 0, 0, []),
  (1, .istore_n 3, 1, 0, 3, 0, 0, []),
  (2, .iload_n 3, 1, 0, 3, 0, 0, []),
  (3, .iload_n 2, 1, 0, 2, 0, 0, []),
  (4, .if_icmp .ge 93, 3, 0, 97, 0, 0, []),
  (7, .aload_n 0, 1, 0, 0, 0, 0, []),
  (8, .getfield 26, 3, 0, 2, 2, 0, []),
  (11, .bipush 8, 2, 8, 0, 0, 0, []),
  (13, .aload_n 0, 1, 0, 0, 0, 0, []),
  (14, .getfield 13, 3, 0, 2, 0, 1, []),
  (17, .arraylength, 1, 0, 0, 0, 0, []),
  (18, .imul, 1, 0, 0, 0, 0, []),
  (19, .if_icmp .ge 78, 3, 0, 97, 0, 0, []),
  (22, .aload_n 0, 1, 0, 0, 0, 0, []),
  (23, .getfield 26, 3, 0, 2, 2, 0, []),
  (26, .iconst 3, 1, 3, 0, 0, 0, []),
  (27, .ishr, 1, 0, 0, 0, 0, []),
  (28, .istore 4, 2, 0, 4, 0, 0, []),
  (30, .aload_n 0, 1, 0, 0, 0, 0, []),
  (31, .getfield 26, 3, 0, 2, 2, 0, []),
  (34, .bipush 7, 2, 7, 0, 0, 0, []),
  (36, .iand, 1, 0, 0, 0, 0, []),
  (37, .ifCond .ne 19, 3, 0, 56, 0, 0, []),
  (40, .aload_n 0, 1, 0, 0, 0, 0, []),
  (41, .getfield 13, 3, 0, 2, 0, 1, []),
  (44, .iload 4, 2, 0, 4, 0, 0, []),
  (46, .iconst 0, 1, 0, 0, 0, 0, []),
  (47, .bastore, 1, 0, 0, 0, 0, []),
  (48, .aload_n 0, 1, 0, 0, 0, 0, []),
  (49, .iload 4, 2, 0, 4, 0, 0, []),
  (51, .iconst 1, 1, 1, 0, 0, 0, []),
  (52, .iadd, 1, 0, 0, 0, 0, []),
  (53, .putfield 19, 3, 0, 2, 1, 0, []),
  (56, .aload_n 0, 1, 0, 0, 0, 0, []),
  (57, .getfield 13, 3, 0, 2, 0, 1, []),
  (60, .iload 4, 2, 0, 4, 0, 0, []),
  (62, .dup2, 1, 0, 0, 0, 0, []),
  (63, .baload, 1, 0, 0, 0, 0, []),
  (64, .iload_n 1, 1, 0, 1, 0, 0, []),
  (65, .iload_n 3, 1, 0, 3, 0, 0, [])]
def am_c19_1 : List (Nat × am_Row) := [(66, .iushr, 1, 0, 0, 0, 0, []),
  (67, .iconst 1, 1, 1, 0, 0, 0, []),
  (68, .iand, 1, 0, 0, 0, 0, []),
  (69, .aload_n 0, 1, 0, 0, 0, 0, []),
  (70, .getfield 26, 3, 0, 2, 2, 0, []),
  (73, .bipush 7, 2, 7, 0, 0, 0, []),
  (75, .iand, 1, 0, 0, 0, 0, []),
  (76, .ishl, 1, 0, 0, 0, 0, []),
  (77, .i2b, 1, 0, 0, 0, 0, []),
  (78, .ior, 1, 0, 0, 0, 0, []),
  (79, .i2b, 1, 0, 0, 0, 0, []),
  (80, .bastore, 1, 0, 0, 0, 0, []),
  (81, .aload_n 0, 1, 0, 0, 0, 0, []),
  (82, .dup, 1, 0, 0, 0, 0, []),
  (83, .getfield 26, 3, 0, 2, 2, 0, []),
  (86, .iconst 1, 1, 1, 0, 0, 0, []),
  (87, .iadd, 1, 0, 0, 0, 0, []),
  (88, .putfield 26, 3, 0, 2, 2, 0, []),
  (91, .iinc 3 1, 3, 1, 3, 0, 0, []),
  (94, .goto (-92), 3, 0, 2, 0, 0, []),
  (97, .return_, 1, 0, 0, 0, 0, [])]
def am_c19 : List (Nat × am_Row) := am_c19_0 ++ (am_c19_1)
/-- BrotliWords$Bytes.fillByte()V -/
def am_c20 : List (Nat × am_Row) := [(0, .aload_n 0, 1, 0, 0, 0, 0, []),
  (1, .bipush 8, 2, 8, 0, 0, 0, []),
  (3, .aload_n 0, 1, 0, 0, 0, 0, []),
  (4, .getfield 19, 3, 0, 2, 1, 0, []),
  (7, .imul, 1, 0, 0, 0, 0, []),
  (8, .putfield 26, 3, 0, 2, 2, 0, []),
  (11, .return_, 1, 0, 0, 0, 0, [])]
/-- BrotliWords$Code.<init>(I)V -/
def am_c21 : List (Nat × am_Row) := [(0, .aload_n 0, 1, 0, 0, 0, 0, []),
  (1, .invokespecial 3, 3, 0, 900, 1, 0, []),
  (4, .aload_n 0, 1, 0, 0, 0, 0, []),
  (5, .bipush 16, 2, 16, 0, 0, 0, []),
  (7, .newarray .int, 2, 0, 21, 0, 0, []),
  (9, .putfield 9, 3, 0, 3, 1, 1, []),
  (12, .aload_n 0, 1, 0, 0, 0, 0, []),
  (13, .iload_n 1, 1, 0, 1, 0, 0, []),
  (14, .iconst 1, 1, 1, 0, 0, 0, []),
  (15, .invokestatic 15, 3, 0, 902, 2, 0, []),
  (18, .newarray .int, 2, 0, 22, 0, 0, []),
  (20, .putfield 21, 3, 0, 3, 0, 1, []),
  (23, .return_, 1, 0, 0, 0, 0, [])]
/-- BrotliWords$Code.setLone(I)V -/
def am_c22 : List (Nat × am_Row) := [(0, .aload_n 0, 1, 0, 0, 0, 0, []),
  (1, .getfield 9, 3, 0, 3, 1, 1, []),
  (4, .iconst 0, 1, 0, 0, 0, 0, []),
  (5, .invokestatic 24, 3, 0, 260, 2, 999, []),
  (8, .aload_n 0, 1, 0, 0, 0, 0, []),
  (9, .getfield 21, 3, 0, 3, 0, 1, []),
  (12, .iconst 0, 1, 0, 0, 0, 0, []),
  (13, .iload_n 1, 1, 0, 1, 0, 0, []),
  (14, .iastore, 1, 0, 0, 0, 0, []),
  (15, .aload_n 0, 1, 0, 0, 0, 0, []),
  (16, .iconst 1, 1, 1, 0, 0, 0, []),
  (17, .putfield 30, 3, 0, 3, 2, 0, []),
  (20, .return_, 1, 0, 0, 0, 0, [])]
/-- BrotliWords$Code.build([II)V -/
def am_c23_0 : List (Nat × am_Row) := [(0, .iload_n 2, 1, 0, 2, 0, 0, []),
  (1, .aload_n 0, 1, 0, 0, 0, 0, []),
  (2, .getfield 21, 3, 0, 3, 0, 1, []),
  (5, .arraylength, 1, 0, 0, 0, 0, []),
  (6, .aload_n 1, 1, 0, 1, 0, 0, []),
  (7, .arraylength, 1, 0, 0, 0, 0, []),
  (8, .invokestatic 34, 3, 0, 903, 2, 0, []),
  (11, .invokestatic 34, 3, 0, 903, 2, 0, []),
  (14, .istore_n 3, 1, 0, 3, 0, 0, []),
  (15, .aload_n 0, 1, 0, 0, 0, 0, []),
  (16, .getfield 9, 3, 0, 3, 1, 1, []),
  (19, .iconst 0, 1, 0, 0, 0, 0, []),
  (20, .invokestatic 24, 3, 0, 260, 2, 999, []),
  (23, .iconst 0, 1, 0, 0, 0, 0, []),
  (24, .istore 4, 2, 0, 4, 0, 0, []),
  (26, .iload 4, 2, 0, 4, 0, 0, []),
  (28, .iload_n 3, 1, 0, 3, 0, 0, []),
  (29, .if_icmp .ge 25, 3, 0, 54, 0, 0, []),
  (32, .aload_n 0, 1, 0, 0, 0, 0, []),
  (33, .getfield 9, 3, 0, 3, 1, 1, []),
  (36, .aload_n 1, 1, 0, 1, 0, 0, []),
  (37, .iload 4, 2, 0, 4, 0, 0, []),
  (39, .iaload, 1, 0, 0, 0, 0, []),
  (40, .bipush 15, 2, 15, 0, 0, 0, []),
  (42, .iand, 1, 0, 0, 0, 0, []),
  (43, .dup2, 1, 0, 0, 0, 0, []),
  (44, .iaload, 1, 0, 0, 0, 0, []),
  (45, .iconst 1, 1, 1, 0, 0, 0, []),
  (46, .iadd, 1, 0, 0, 0, 0, []),
  (47, .iastore, 1, 0, 0, 0, 0, []),
  (48, .iinc 4 1, 3, 1, 4, 0, 0, []),
  (51, .goto (-25), 3, 0, 26, 0, 0, []),
  (54, .aload_n 0, 1, 0, 0, 0, 0, []),
  (55, .getfield 9, 3, 0, 3, 1, 1, []),
  (58, .iconst 0, 1, 0, 0, 0, 0, []),
  (59, .iconst 0, 1, 0, 0, 0, 0, []),
  (60, .iastore, 1, 0, 0, 0, 0, []),
  (61, .aload_n 0, 1, 0, 0, 0, 0, []),
  (62, .iconst 0, 1, 0, 0, 0, 0, []),
  (63, .putfield 30, 3, 0, 3, 2, 0, [])]
def am_c23_1 : List (Nat × am_Row) := [(66, .iconst 1, 1, 1, 0, 0, 0, []),
  (67, .istore 4, 2, 0, 4, 0, 0, []),
  (69, .iload 4, 2, 0, 4, 0, 0, []),
  (71, .bipush 15, 2, 15, 0, 0, 0, []),
  (73, .if_icmp .gt 74, 3, 0, 147, 0, 0, []),
  (76, .aload_n 0, 1, 0, 0, 0, 0, []),
  (77, .getfield 30, 3, 0, 3, 2, 0, []),
  (80, .aload_n 0, 1, 0, 0, 0, 0, []),
  (81, .getfield 9, 3, 0, 3, 1, 1, []),
  (84, .iload 4, 2, 0, 4, 0, 0, []),
  (86, .iaload, 1, 0, 0, 0, 0, []),
  (87, .iadd, 1, 0, 0, 0, 0, []),
  (88, .istore 5, 2, 0, 5, 0, 0, []),
  (90, .iconst 0, 1, 0, 0, 0, 0, []),
  (91, .istore 6, 2, 0, 6, 0, 0, []),
  (93, .iload 6, 2, 0, 6, 0, 0, []),
  (95, .iload_n 3, 1, 0, 3, 0, 0, []),
  (96, .if_icmp .ge 45, 3, 0, 141, 0, 0, []),
  (99, .aload_n 0, 1, 0, 0, 0, 0, []),
  (100, .getfield 30, 3, 0, 3, 2, 0, []),
  (103, .iload 5, 2, 0, 5, 0, 0, []),
  (105, .if_icmp .ge 36, 3, 0, 141, 0, 0, []),
  (108, .aload_n 1, 1, 0, 1, 0, 0, []),
  (109, .iload 6, 2, 0, 6, 0, 0, []),
  (111, .iaload, 1, 0, 0, 0, 0, []),
  (112, .iload 4, 2, 0, 4, 0, 0, []),
  (114, .if_icmp .ne 21, 3, 0, 135, 0, 0, []),
  (117, .aload_n 0, 1, 0, 0, 0, 0, []),
  (118, .getfield 21, 3, 0, 3, 0, 1, []),
  (121, .aload_n 0, 1, 0, 0, 0, 0, []),
  (122, .dup, 1, 0, 0, 0, 0, []),
  (123, .getfield 30, 3, 0, 3, 2, 0, []),
  (126, .dup_x1, 1, 0, 0, 0, 0, []),
  (127, .iconst 1, 1, 1, 0, 0, 0, []),
  (128, .iadd, 1, 0, 0, 0, 0, []),
  (129, .putfield 30, 3, 0, 3, 2, 0, []),
  (132, .iload 6, 2, 0, 6, 0, 0, []),
  (134, .iastore, 1, 0, 0, 0, 0, []),
  (135, .iinc 6 1, 3, 1, 6, 0, 0, []),
  (138, .goto (-45), 3, 0, 93, 0, 0, [])]
def am_c23_2 : List (Nat × am_Row) := [(141, .iinc 4 1, 3, 1, 4, 0, 0, []),
  (144, .goto (-75), 3, 0, 69, 0, 0, []),
  (147, .return_, 1, 0, 0, 0, 0, [])]
def am_c23 : List (Nat × am_Row) := am_c23_0 ++ (am_c23_1 ++ (am_c23_2))
/-- BrotliWords$Code.lengthOf(I)I -/
def am_c24 : List (Nat × am_Row) := [(0, .iconst 0, 1, 0, 0, 0, 0, []),
  (1, .istore_n 2, 1, 0, 2, 0, 0, []),
  (2, .iconst 1, 1, 1, 0, 0, 0, []),
  (3, .istore_n 3, 1, 0, 3, 0, 0, []),
  (4, .iload_n 3, 1, 0, 3, 0, 0, []),
  (5, .bipush 15, 2, 15, 0, 0, 0, []),
  (7, .if_icmp .gt 44, 3, 0, 51, 0, 0, []),
  (10, .iconst 0, 1, 0, 0, 0, 0, []),
  (11, .istore 4, 2, 0, 4, 0, 0, []),
  (13, .iload 4, 2, 0, 4, 0, 0, []),
  (15, .aload_n 0, 1, 0, 0, 0, 0, []),
  (16, .getfield 9, 3, 0, 3, 1, 1, []),
  (19, .iload_n 3, 1, 0, 3, 0, 0, []),
  (20, .iaload, 1, 0, 0, 0, 0, []),
  (21, .if_icmp .ge 24, 3, 0, 45, 0, 0, []),
  (24, .aload_n 0, 1, 0, 0, 0, 0, []),
  (25, .getfield 21, 3, 0, 3, 0, 1, []),
  (28, .iload_n 2, 1, 0, 2, 0, 0, []),
  (29, .iaload, 1, 0, 0, 0, 0, []),
  (30, .iload_n 1, 1, 0, 1, 0, 0, []),
  (31, .if_icmp .ne 5, 3, 0, 36, 0, 0, []),
  (34, .iload_n 3, 1, 0, 3, 0, 0, []),
  (35, .ireturn, 1, 0, 0, 0, 0, []),
  (36, .iinc 4 1, 3, 1, 4, 0, 0, []),
  (39, .iinc 2 1, 3, 1, 2, 0, 0, []),
  (42, .goto (-29), 3, 0, 13, 0, 0, []),
  (45, .iinc 3 1, 3, 1, 3, 0, 0, []),
  (48, .goto (-44), 3, 0, 4, 0, 0, []),
  (51, .iconst 0, 1, 0, 0, 0, 0, []),
  (52, .ireturn, 1, 0, 0, 0, 0, [])]
/-- BrotliWords$CodeReader.<init>(LBrotliWords$BitReader;)V -/
def am_c25 : List (Nat × am_Row) := [(0, .aload_n 0, 1, 0, 0, 0, 0, []),
  (1, .invokespecial 3, 3, 0, 900, 1, 0, []),
  (4, .aload_n 0, 1, 0, 0, 0, 0, []),
  (5, .sipush 704, 3, 704, 0, 0, 0, []),
  (8, .newarray .int, 2, 0, 23, 0, 0, []),
  (10, .putfield 9, 3, 0, 4, 1, 1, []),
  (13, .aload_n 0, 1, 0, 0, 0, 0, []),
  (14, .bipush 18, 2, 18, 0, 0, 0, []),
  (16, .newarray .int, 2, 0, 24, 0, 0, []),
  (18, .putfield 15, 3, 0, 4, 2, 1, []),
  (21, .aload_n 0, 1, 0, 0, 0, 0, []),
  (22, .iconst 4, 1, 4, 0, 0, 0, []),
  (23, .newarray .int, 2, 0, 25, 0, 0, []),
  (25, .putfield 18, 3, 0, 4, 3, 1, []),
  (28, .aload_n 0, 1, 0, 0, 0, 0, []),
  (29, .new 21, 3, 0, 3, 3, 0, []),
  (32, .dup, 1, 0, 0, 0, 0, []),
  (33, .bipush 18, 2, 18, 0, 0, 0, []),
  (35, .invokespecial 23, 3, 0, 21, 2, 3, []),
  (38, .putfield 26, 3, 0, 4, 4, 1, []),
  (41, .aload_n 0, 1, 0, 0, 0, 0, []),
  (42, .aload_n 1, 1, 0, 1, 0, 0, []),
  (43, .putfield 30, 3, 0, 4, 0, 1, []),
  (46, .return_, 1, 0, 0, 0, 0, [])]
/-- BrotliWords$CodeReader.tell(LBrotliWords$Code;I)V -/
def am_c26 : List (Nat × am_Row) := [(0, .aload_n 0, 1, 0, 0, 0, 0, []),
  (1, .getfield 30, 3, 0, 4, 0, 1, []),
  (4, .iconst 2, 1, 2, 0, 0, 0, []),
  (5, .invokevirtual 34, 3, 0, 4, 2, 0, []),
  (8, .istore_n 3, 1, 0, 3, 0, 0, []),
  (9, .aload_n 0, 1, 0, 0, 0, 0, []),
  (10, .getfield 9, 3, 0, 4, 1, 1, []),
  (13, .iconst 0, 1, 0, 0, 0, 0, []),
  (14, .invokestatic 40, 3, 0, 260, 2, 999, []),
  (17, .iload_n 3, 1, 0, 3, 0, 0, []),
  (18, .iconst 1, 1, 1, 0, 0, 0, []),
  (19, .if_icmp .ne 10, 3, 0, 29, 0, 0, []),
  (22, .aload_n 0, 1, 0, 0, 0, 0, []),
  (23, .aload_n 1, 1, 0, 1, 0, 0, []),
  (24, .iload_n 2, 1, 0, 2, 0, 0, []),
  (25, .invokevirtual 46, 3, 0, 27, 3, 4, []),
  (28, .return_, 1, 0, 0, 0, 0, []),
  (29, .aload_n 0, 1, 0, 0, 0, 0, []),
  (30, .iload_n 3, 1, 0, 3, 0, 0, []),
  (31, .invokevirtual 50, 3, 0, 30, 2, 4, []),
  (34, .aload_n 0, 1, 0, 0, 0, 0, []),
  (35, .iload_n 2, 1, 0, 2, 0, 0, []),
  (36, .invokevirtual 53, 3, 0, 33, 2, 4, []),
  (39, .aload_n 0, 1, 0, 0, 0, 0, []),
  (40, .getfield 30, 3, 0, 4, 0, 1, []),
  (43, .invokevirtual 56, 3, 0, 2, 1, 0, []),
  (46, .ifCond .eq 12, 3, 0, 58, 0, 0, []),
  (49, .aload_n 1, 1, 0, 1, 0, 0, []),
  (50, .aload_n 0, 1, 0, 0, 0, 0, []),
  (51, .getfield 9, 3, 0, 4, 1, 1, []),
  (54, .iload_n 2, 1, 0, 2, 0, 0, []),
  (55, .invokevirtual 60, 3, 0, 23, 3, 3, []),
  (58, .return_, 1, 0, 0, 0, 0, [])]
/-- BrotliWords$CodeReader.readShort(LBrotliWords$Code;I)V -/
def am_c27_0 : List (Nat × am_Row) := [(0, .aload_n 0, 1, 0, 0, 0, 0, []),
  (1, .getfield 30, 3, 0, 4, 0, 1, []),
  (4, .iconst 2, 1, 2, 0, 0, 0, []),
  (5, .invokevirtual 34, 3, 0, 4, 2, 0, []),
  (8, .iconst 1, 1, 1, 0, 0, 0, []),
  (9, .iadd, 1, 0, 0, 0, 0, []),
  (10, .istore_n 3, 1, 0, 3, 0, 0, []),
  (11, .iload_n 2, 1, 0, 2, 0, 0, []),
  (12, .iconst 1, 1, 1, 0, 0, 0, []),
  (13, .isub, 1, 0, 0, 0, 0, []),
  (14, .invokestatic 63, 3, 0, 141, 1, 999, []),
  (17, .istore 4, 2, 0, 4, 0, 0, []),
  (19, .iconst 0, 1, 0, 0, 0, 0, []),
  (20, .istore 5, 2, 0, 5, 0, 0, []),
  (22, .iload 5, 2, 0, 5, 0, 0, []),
  (24, .iload_n 3, 1, 0, 3, 0, 0, []),
  (25, .if_icmp .ge 55, 3, 0, 80, 0, 0, []),
  (28, .aload_n 0, 1, 0, 0, 0, 0, []),
  (29, .getfield 18, 3, 0, 4, 3, 1, []),
  (32, .iload 5, 2, 0, 5, 0, 0, []),
  (34, .aload_n 0, 1, 0, 0, 0, 0, []),
  (35, .getfield 30, 3, 0, 4, 0, 1, []),
  (38, .iload 4, 2, 0, 4, 0, 0, []),
  (40, .invokevirtual 34, 3, 0, 4, 2, 0, []),
  (43, .iastore, 1, 0, 0, 0, 0, []),
  (44, .aload_n 0, 1, 0, 0, 0, 0, []),
  (45, .getfield 30, 3, 0, 4, 0, 1, []),
  (48, .invokevirtual 56, 3, 0, 2, 1, 0, []),
  (51, .ifCond .eq 13, 3, 0, 64, 0, 0, []),
  (54, .aload_n 0, 1, 0, 0, 0, 0, []),
  (55, .iload 5, 2, 0, 5, 0, 0, []),
  (57, .iload_n 2, 1, 0, 2, 0, 0, []),
  (58, .invokevirtual 66, 3, 0, 28, 3, 4, []),
  (61, .ifCond .ne 13, 3, 0, 74, 0, 0, []),
  (64, .aload_n 0, 1, 0, 0, 0, 0, []),
  (65, .getfield 30, 3, 0, 4, 0, 1, []),
  (68, .bipush 12, 2, 12, 0, 0, 0, []),
  (70, .invokevirtual 70, 3, 0, 3, 2, 0, []),
  (73, .return_, 1, 0, 0, 0, 0, []),
  (74, .iinc 5 1, 3, 1, 5, 0, 0, [])]
def am_c27_1 : List (Nat × am_Row) := [(77, .goto (-55), 3, 0, 22, 0, 0, []),
  (80, .iload_n 3, 1, 0, 3, 0, 0, []),
  (81, .iconst 4, 1, 4, 0, 0, 0, []),
  (82, .if_icmp .ne 19, 3, 0, 101, 0, 0, []),
  (85, .aload_n 0, 1, 0, 0, 0, 0, []),
  (86, .getfield 30, 3, 0, 4, 0, 1, []),
  (89, .iconst 1, 1, 1, 0, 0, 0, []),
  (90, .invokevirtual 34, 3, 0, 4, 2, 0, []),
  (93, .iconst 1, 1, 1, 0, 0, 0, []),
  (94, .if_icmp .ne 7, 3, 0, 101, 0, 0, []),
  (97, .iconst 1, 1, 1, 0, 0, 0, []),
  (98, .goto 4, 3, 0, 102, 0, 0, []),
  (101, .iconst 0, 1, 0, 0, 0, 0, []),
  (102, .istore 5, 2, 0, 5, 0, 0, []),
  (104, .aload_n 0, 1, 0, 0, 0, 0, []),
  (105, .getfield 30, 3, 0, 4, 0, 1, []),
  (108, .invokevirtual 56, 3, 0, 2, 1, 0, []),
  (111, .ifCond .ne 4, 3, 0, 115, 0, 0, []),
  (114, .return_, 1, 0, 0, 0, 0, []),
  (115, .iload_n 3, 1, 0, 3, 0, 0, []),
  (116, .iconst 1, 1, 1, 0, 0, 0, []),
  (117, .if_icmp .ne 14, 3, 0, 131, 0, 0, []),
  (120, .aload_n 1, 1, 0, 1, 0, 0, []),
  (121, .aload_n 0, 1, 0, 0, 0, 0, []),
  (122, .getfield 18, 3, 0, 4, 3, 1, []),
  (125, .iconst 0, 1, 0, 0, 0, 0, []),
  (126, .iaload, 1, 0, 0, 0, 0, []),
  (127, .invokevirtual 73, 3, 0, 22, 2, 3, []),
  (130, .return_, 1, 0, 0, 0, 0, []),
  (131, .iconst 0, 1, 0, 0, 0, 0, []),
  (132, .istore 6, 2, 0, 6, 0, 0, []),
  (134, .iload 6, 2, 0, 6, 0, 0, []),
  (136, .iload_n 3, 1, 0, 3, 0, 0, []),
  (137, .if_icmp .ge 29, 3, 0, 166, 0, 0, []),
  (140, .aload_n 0, 1, 0, 0, 0, 0, []),
  (141, .getfield 9, 3, 0, 4, 1, 1, []),
  (144, .aload_n 0, 1, 0, 0, 0, 0, []),
  (145, .getfield 18, 3, 0, 4, 3, 1, []),
  (148, .iload 6, 2, 0, 6, 0, 0, []),
  (150, .iaload, 1, 0, 0, 0, 0, [])]
def am_c27_2 : List (Nat × am_Row) := [(151, .iload_n 3, 1, 0, 3, 0, 0, []),
  (152, .iload 6, 2, 0, 6, 0, 0, []),
  (154, .iload 5, 2, 0, 5, 0, 0, []),
  (156, .invokestatic 76, 3, 0, 29, 3, 999, []),
  (159, .iastore, 1, 0, 0, 0, 0, []),
  (160, .iinc 6 1, 3, 1, 6, 0, 0, []),
  (163, .goto (-29), 3, 0, 134, 0, 0, []),
  (166, .aload_n 1, 1, 0, 1, 0, 0, []),
  (167, .aload_n 0, 1, 0, 0, 0, 0, []),
  (168, .getfield 9, 3, 0, 4, 1, 1, []),
  (171, .iload_n 2, 1, 0, 2, 0, 0, []),
  (172, .invokevirtual 60, 3, 0, 23, 3, 3, []),
  (175, .return_, 1, 0, 0, 0, 0, [])]
def am_c27 : List (Nat × am_Row) := am_c27_0 ++ (am_c27_1 ++ (am_c27_2))
/-- BrotliWords$CodeReader.isNew(II)Z -/
def am_c28_0 : List (Nat × am_Row) := [(0, .aload_n 0, 1, 0, 0, 0, 0, []),
  (1, .getfield 18, 3, 0, 4, 3, 1, []),
  (4, .iload_n 1, 1, 0, 1, 0, 0, []),
  (5, .iaload, 1, 0, 0, 0, 0, []),
  (6, .iload_n 2, 1, 0, 2, 0, 0, []),
  (7, .if_icmp .ge 17, 3, 0, 24, 0, 0, []),
  (10, .aload_n 0, 1, 0, 0, 0, 0, []),
  (11, .getfield 18, 3, 0, 4, 3, 1, []),
  (14, .iload_n 1, 1, 0, 1, 0, 0, []),
  (15, .iaload, 1, 0, 0, 0, 0, []),
  (16, .aload_n 0, 1, 0, 0, 0, 0, []),
  (17, .getfield 9, 3, 0, 4, 1, 1, []),
  (20, .arraylength, 1, 0, 0, 0, 0, []),
  (21, .if_icmp .lt 7, 3, 0, 28, 0, 0, []),
  (24, .iconst 1, 1, 1, 0, 0, 0, []),
  (25, .goto 4, 3, 0, 29, 0, 0, []),
  (28, .iconst 0, 1, 0, 0, 0, 0, []),
  (29, .istore_n 3, 1, 0, 3, 0, 0, []),
  (30, .iconst 0, 1, 0, 0, 0, 0, []),
  (31, .istore 4, 2, 0, 4, 0, 0, []),
  (33, .iload 4, 2, 0, 4, 0, 0, []),
  (35, .iload_n 1, 1, 0, 1, 0, 0, []),
  (36, .if_icmp .ge 35, 3, 0, 71, 0, 0, []),
  (39, .iload_n 3, 1, 0, 3, 0, 0, []),
  (40, .ifCond .ne 19, 3, 0, 59, 0, 0, []),
  (43, .aload_n 0, 1, 0, 0, 0, 0, []),
  (44, .getfield 18, 3, 0, 4, 3, 1, []),
  (47, .iload 4, 2, 0, 4, 0, 0, []),
  (49, .iaload, 1, 0, 0, 0, 0, []),
  (50, .aload_n 0, 1, 0, 0, 0, 0, []),
  (51, .getfield 18, 3, 0, 4, 3, 1, []),
  (54, .iload_n 1, 1, 0, 1, 0, 0, []),
  (55, .iaload, 1, 0, 0, 0, 0, []),
  (56, .if_icmp .ne 7, 3, 0, 63, 0, 0, []),
  (59, .iconst 1, 1, 1, 0, 0, 0, []),
  (60, .goto 4, 3, 0, 64, 0, 0, []),
  (63, .iconst 0, 1, 0, 0, 0, 0, []),
  (64, .istore_n 3, 1, 0, 3, 0, 0, []),
  (65, .iinc 4 1, 3, 1, 4, 0, 0, []),
  (68, .goto (-35), 3, 0, 33, 0, 0, [])]
def am_c28_1 : List (Nat × am_Row) := [(71, .iload_n 3, 1, 0, 3, 0, 0, []),
  (72, .ifCond .ne 7, 3, 0, 79, 0, 0, []),
  (75, .iconst 1, 1, 1, 0, 0, 0, []),
  (76, .goto 4, 3, 0, 80, 0, 0, []),
  (79, .iconst 0, 1, 0, 0, 0, 0, []),
  (80, .ireturn, 1, 0, 1, 0, 0, [])]
def am_c28 : List (Nat × am_Row) := am_c28_0 ++ (am_c28_1)
/-- BrotliWords$CodeReader.shortLength(IIZ)I -/
def am_c29 : List (Nat × am_Row) := [(0, .iload_n 0, 1, 0, 0, 0, 0, []),
  (1, .iconst 2, 1, 2, 0, 0, 0, []),
  (2, .if_icmp .ne 5, 3, 0, 7, 0, 0, []),
  (5, .iconst 1, 1, 1, 0, 0, 0, []),
  (6, .ireturn, 1, 0, 0, 0, 0, []),
  (7, .iload_n 0, 1, 0, 0, 0, 0, []),
  (8, .iconst 3, 1, 3, 0, 0, 0, []),
  (9, .if_icmp .eq 7, 3, 0, 16, 0, 0, []),
  (12, .iload_n 2, 1, 0, 2, 0, 0, []),
  (13, .ifCond .eq 13, 3, 0, 26, 0, 0, []),
  (16, .iload_n 1, 1, 0, 1, 0, 0, []),
  (17, .iconst 1, 1, 1, 0, 0, 0, []),
  (18, .iadd, 1, 0, 0, 0, 0, []),
  (19, .iload_n 0, 1, 0, 0, 0, 0, []),
  (20, .iconst 1, 1, 1, 0, 0, 0, []),
  (21, .isub, 1, 0, 0, 0, 0, []),
  (22, .invokestatic 80, 3, 0, 903, 2, 0, []),
  (25, .ireturn, 1, 0, 0, 0, 0, []),
  (26, .iconst 2, 1, 2, 0, 0, 0, []),
  (27, .ireturn, 1, 0, 0, 0, 0, [])]
/-- BrotliWords$CodeReader.readMarks(I)V -/
def am_c30_0 : List (Nat × am_Row) := [(0, .iconst 0, 1, 0, 0, 0, 0, []),
  (1, .istore_n 2, 1, 0, 2, 0, 0, []),
  (2, .iconst 0, 1, 0, 0, 0, 0, []),
  (3, .istore_n 3, 1, 0, 3, 0, 0, []),
  (4, .aload_n 0, 1, 0, 0, 0, 0, []),
  (5, .getfield 15, 3, 0, 4, 2, 1, []),
  (8, .iconst 0, 1, 0, 0, 0, 0, []),
  (9, .invokestatic 40, 3, 0, 260, 2, 999, []),
  (12, .iload_n 1, 1, 0, 1, 0, 0, []),
  (13, .istore 4, 2, 0, 4, 0, 0, []),
  (15, .iload 4, 2, 0, 4, 0, 0, []),
  (17, .bipush 18, 2, 18, 0, 0, 0, []),
  (19, .if_icmp .ge 75, 3, 0, 94, 0, 0, []),
  (22, .iload_n 2, 1, 0, 2, 0, 0, []),
  (23, .bipush 32, 2, 32, 0, 0, 0, []),
  (25, .if_icmp .ge 69, 3, 0, 94, 0, 0, []),
  (28, .aload_n 0, 1, 0, 0, 0, 0, []),
  (29, .getfield 30, 3, 0, 4, 0, 1, []),
  (32, .invokevirtual 56, 3, 0, 2, 1, 0, []),
  (35, .ifCond .eq 59, 3, 0, 94, 0, 0, []),
  (38, .aload_n 0, 1, 0, 0, 0, 0, []),
  (39, .invokevirtual 86, 3, 0, 31, 1, 4, []),
  (42, .istore 5, 2, 0, 5, 0, 0, []),
  (44, .aload_n 0, 1, 0, 0, 0, 0, []),
  (45, .getfield 15, 3, 0, 4, 2, 1, []),
  (48, .getstatic 90, 3, 0, 204, 0, 0, []),
  (51, .iload 4, 2, 0, 4, 0, 0, []),
  (53, .iaload, 1, 0, 0, 0, 0, []),
  (54, .iload 5, 2, 0, 5, 0, 0, []),
  (56, .iastore, 1, 0, 0, 0, 0, []),
  (57, .iload 5, 2, 0, 5, 0, 0, []),
  (59, .ifCond .le 14, 3, 0, 73, 0, 0, []),
  (62, .iinc 3 1, 3, 1, 3, 0, 0, []),
  (65, .iload_n 2, 1, 0, 2, 0, 0, []),
  (66, .bipush 32, 2, 32, 0, 0, 0, []),
  (68, .iload 5, 2, 0, 5, 0, 0, []),
  (70, .ishr, 1, 0, 0, 0, 0, []),
  (71, .iadd, 1, 0, 0, 0, 0, []),
  (72, .istore_n 2, 1, 0, 2, 0, 0, []),
  (73, .iload_n 2, 1, 0, 2, 0, 0, [])]
def am_c30_1 : List (Nat × am_Row) := [(74, .bipush 32, 2, 32, 0, 0, 0, []),
  (76, .if_icmp .le 12, 3, 0, 88, 0, 0, []),
  (79, .aload_n 0, 1, 0, 0, 0, 0, []),
  (80, .getfield 30, 3, 0, 4, 0, 1, []),
  (83, .bipush 13, 2, 13, 0, 0, 0, []),
  (85, .invokevirtual 70, 3, 0, 3, 2, 0, []),
  (88, .iinc 4 1, 3, 1, 4, 0, 0, []),
  (91, .goto (-76), 3, 0, 15, 0, 0, []),
  (94, .iload_n 3, 1, 0, 3, 0, 0, []),
  (95, .ifCond .eq 14, 3, 0, 109, 0, 0, []),
  (98, .iload_n 3, 1, 0, 3, 0, 0, []),
  (99, .iconst 1, 1, 1, 0, 0, 0, []),
  (100, .if_icmp .le 18, 3, 0, 118, 0, 0, []),
  (103, .iload_n 2, 1, 0, 2, 0, 0, []),
  (104, .bipush 32, 2, 32, 0, 0, 0, []),
  (106, .if_icmp .eq 12, 3, 0, 118, 0, 0, []),
  (109, .aload_n 0, 1, 0, 0, 0, 0, []),
  (110, .getfield 30, 3, 0, 4, 0, 1, []),
  (113, .bipush 13, 2, 13, 0, 0, 0, []),
  (115, .invokevirtual 70, 3, 0, 3, 2, 0, []),
  (118, .aload_n 0, 1, 0, 0, 0, 0, []),
  (119, .iload_n 3, 1, 0, 3, 0, 0, []),
  (120, .invokevirtual 93, 3, 0, 32, 2, 4, []),
  (123, .return_, 1, 0, 0, 0, 0, [])]
def am_c30 : List (Nat × am_Row) := am_c30_0 ++ (am_c30_1)
/-- BrotliWords$CodeReader.markLength()I -/
def am_c31 : List (Nat × am_Row) := [(0, .aload_n 0, 1, 0, 0, 0, 0, []),
  (1, .getfield 30, 3, 0, 4, 0, 1, []),
  (4, .iconst 1, 1, 1, 0, 0, 0, []),
  (5, .invokevirtual 34, 3, 0, 4, 2, 0, []),
  (8, .ifCond .ne 20, 3, 0, 28, 0, 0, []),
  (11, .aload_n 0, 1, 0, 0, 0, 0, []),
  (12, .getfield 30, 3, 0, 4, 0, 1, []),
  (15, .iconst 1, 1, 1, 0, 0, 0, []),
  (16, .invokevirtual 34, 3, 0, 4, 2, 0, []),
  (19, .ifCond .ne 7, 3, 0, 26, 0, 0, []),
  (22, .iconst 0, 1, 0, 0, 0, 0, []),
  (23, .goto 4, 3, 0, 27, 0, 0, []),
  (26, .iconst 3, 1, 3, 0, 0, 0, []),
  (27, .ireturn, 1, 0, 0, 0, 0, []),
  (28, .aload_n 0, 1, 0, 0, 0, 0, []),
  (29, .getfield 30, 3, 0, 4, 0, 1, []),
  (32, .iconst 1, 1, 1, 0, 0, 0, []),
  (33, .invokevirtual 34, 3, 0, 4, 2, 0, []),
  (36, .ifCond .ne 5, 3, 0, 41, 0, 0, []),
  (39, .iconst 4, 1, 4, 0, 0, 0, []),
  (40, .ireturn, 1, 0, 0, 0, 0, []),
  (41, .aload_n 0, 1, 0, 0, 0, 0, []),
  (42, .getfield 30, 3, 0, 4, 0, 1, []),
  (45, .iconst 1, 1, 1, 0, 0, 0, []),
  (46, .invokevirtual 34, 3, 0, 4, 2, 0, []),
  (49, .ifCond .ne 5, 3, 0, 54, 0, 0, []),
  (52, .iconst 2, 1, 2, 0, 0, 0, []),
  (53, .ireturn, 1, 0, 0, 0, 0, []),
  (54, .aload_n 0, 1, 0, 0, 0, 0, []),
  (55, .getfield 30, 3, 0, 4, 0, 1, []),
  (58, .iconst 1, 1, 1, 0, 0, 0, []),
  (59, .invokevirtual 34, 3, 0, 4, 2, 0, []),
  (62, .ifCond .ne 7, 3, 0, 69, 0, 0, []),
  (65, .iconst 1, 1, 1, 0, 0, 0, []),
  (66, .goto 4, 3, 0, 70, 0, 0, []),
  (69, .iconst 5, 1, 5, 0, 0, 0, []),
  (70, .ireturn, 1, 0, 0, 0, 0, [])]
/-- BrotliWords$CodeReader.buildMarks(I)V -/
def am_c32 : List (Nat × am_Row) := [(0, .iload_n 1, 1, 0, 1, 0, 0, []),
  (1, .iconst 1, 1, 1, 0, 0, 0, []),
  (2, .if_icmp .eq 17, 3, 0, 19, 0, 0, []),
  (5, .aload_n 0, 1, 0, 0, 0, 0, []),
  (6, .getfield 26, 3, 0, 4, 4, 1, []),
  (9, .aload_n 0, 1, 0, 0, 0, 0, []),
  (10, .getfield 15, 3, 0, 4, 2, 1, []),
  (13, .bipush 18, 2, 18, 0, 0, 0, []),
  (15, .invokevirtual 60, 3, 0, 23, 3, 3, []),
  (18, .return_, 1, 0, 0, 0, 0, []),
  (19, .iconst 0, 1, 0, 0, 0, 0, []),
  (20, .istore_n 2, 1, 0, 2, 0, 0, []),
  (21, .iload_n 2, 1, 0, 2, 0, 0, []),
  (22, .bipush 18, 2, 18, 0, 0, 0, []),
  (24, .if_icmp .ge 26, 3, 0, 50, 0, 0, []),
  (27, .aload_n 0, 1, 0, 0, 0, 0, []),
  (28, .getfield 15, 3, 0, 4, 2, 1, []),
  (31, .iload_n 2, 1, 0, 2, 0, 0, []),
  (32, .iaload, 1, 0, 0, 0, 0, []),
  (33, .ifCond .le 11, 3, 0, 44, 0, 0, []),
  (36, .aload_n 0, 1, 0, 0, 0, 0, []),
  (37, .getfield 26, 3, 0, 4, 4, 1, []),
  (40, .iload_n 2, 1, 0, 2, 0, 0, []),
  (41, .invokevirtual 73, 3, 0, 22, 2, 3, []),
  (44, .iinc 2 1, 3, 1, 2, 0, 0, []),
  (47, .goto (-26), 3, 0, 21, 0, 0, []),
  (50, .return_, 1, 0, 0, 0, 0, [])]
/-- BrotliWords$CodeReader.readLengths(I)V -/
def am_c33_0 : List (Nat × am_Row) := [(0, .aload_n 0, 1, 0, 0, 0, 0, []),
  (1, .iconst 0, 1, 0, 0, 0, 0, []),
  (2, .putfield 96, 3, 0, 4, 5, 0, []),
  (5, .aload_n 0, 1, 0, 0, 0, 0, []),
  (6, .iconst 0, 1, 0, 0, 0, 0, []),
  (7, .putfield 100, 3, 0, 4, 6, 0, []),
  (10, .aload_n 0, 1, 0, 0, 0, 0, []),
  (11, .bipush 8, 2, 8, 0, 0, 0, []),
  (13, .putfield 103, 3, 0, 4, 7, 0, []),
  (16, .iconst 0, 1, 0, 0, 0, 0, []),
  (17, .istore_n 2, 1, 0, 2, 0, 0, []),
  (18, .iconst 0, 1, 0, 0, 0, 0, []),
  (19, .istore_n 3, 1, 0, 3, 0, 0, []),
  (20, .iconst 0, 1, 0, 0, 0, 0, []),
  (21, .istore 4, 2, 0, 4, 0, 0, []),
  (23, .iload 4, 2, 0, 4, 0, 0, []),
  (25, .iload_n 1, 1, 0, 1, 0, 0, []),
  (26, .if_icmp .ge 180, 3, 0, 206, 0, 0, []),
  (29, .aload_n 0, 1, 0, 0, 0, 0, []),
  (30, .getfield 96, 3, 0, 4, 5, 0, []),
  (33, .iload_n 1, 1, 0, 1, 0, 0, []),
  (34, .if_icmp .ge 172, 3, 0, 206, 0, 0, []),
  (37, .aload_n 0, 1, 0, 0, 0, 0, []),
  (38, .getfield 100, 3, 0, 4, 6, 0, []),
  (41, .ldc 106, 2, 32768, 0, 0, 0, []),
  (43, .if_icmp .ge 163, 3, 0, 206, 0, 0, []),
  (46, .aload_n 0, 1, 0, 0, 0, 0, []),
  (47, .getfield 30, 3, 0, 4, 0, 1, []),
  (50, .invokevirtual 56, 3, 0, 2, 1, 0, []),
  (53, .ifCond .eq 153, 3, 0, 206, 0, 0, []),
  (56, .aload_n 0, 1, 0, 0, 0, 0, []),
  (57, .getfield 30, 3, 0, 4, 0, 1, []),
  (60, .aload_n 0, 1, 0, 0, 0, 0, []),
  (61, .getfield 26, 3, 0, 4, 4, 1, []),
  (64, .invokevirtual 107, 3, 0, 5, 2, 0, []),
  (67, .istore 5, 2, 0, 5, 0, 0, []),
  (69, .iload 5, 2, 0, 5, 0, 0, []),
  (71, .bipush 16, 2, 16, 0, 0, 0, []),
  (73, .if_icmp .ge 32, 3, 0, 105, 0, 0, []),
  (76, .aload_n 0, 1, 0, 0, 0, 0, [])]
def am_c33_1 : List (Nat × am_Row) := [(77, .iload 5, 2, 0, 5, 0, 0, []),
  (79, .ifCond .le 8, 3, 0, 87, 0, 0, []),
  (82, .iload 5, 2, 0, 5, 0, 0, []),
  (84, .goto 7, 3, 0, 91, 0, 0, []),
  (87, .aload_n 0, 1, 0, 0, 0, 0, []),
  (88, .getfield 103, 3, 0, 4, 7, 0, []),
  (91, .putfield 103, 3, 0, 4, 7, 0, []),
  (94, .aload_n 0, 1, 0, 0, 0, 0, []),
  (95, .iload 5, 2, 0, 5, 0, 0, []),
  (97, .iconst 1, 1, 1, 0, 0, 0, []),
  (98, .iload_n 1, 1, 0, 1, 0, 0, []),
  (99, .invokevirtual 111, 3, 0, 34, 4, 4, []),
  (102, .goto 95, 3, 0, 197, 0, 0, []),
  (105, .aload_n 0, 1, 0, 0, 0, 0, []),
  (106, .getfield 30, 3, 0, 4, 0, 1, []),
  (109, .iload 5, 2, 0, 5, 0, 0, []),
  (111, .bipush 16, 2, 16, 0, 0, 0, []),
  (113, .if_icmp .ne 7, 3, 0, 120, 0, 0, []),
  (116, .iconst 2, 1, 2, 0, 0, 0, []),
  (117, .goto 4, 3, 0, 121, 0, 0, []),
  (120, .iconst 3, 1, 3, 0, 0, 0, []),
  (121, .invokevirtual 34, 3, 0, 4, 2, 0, []),
  (124, .iconst 3, 1, 3, 0, 0, 0, []),
  (125, .iadd, 1, 0, 0, 0, 0, []),
  (126, .istore 6, 2, 0, 6, 0, 0, []),
  (128, .iload 5, 2, 0, 5, 0, 0, []),
  (130, .iload_n 2, 1, 0, 2, 0, 0, []),
  (131, .if_icmp .ne 7, 3, 0, 138, 0, 0, []),
  (134, .iload_n 3, 1, 0, 3, 0, 0, []),
  (135, .goto 4, 3, 0, 139, 0, 0, []),
  (138, .iconst 0, 1, 0, 0, 0, 0, []),
  (139, .istore 7, 2, 0, 7, 0, 0, []),
  (141, .iload 7, 2, 0, 7, 0, 0, []),
  (143, .ifCond .ne 8, 3, 0, 151, 0, 0, []),
  (146, .iload 6, 2, 0, 6, 0, 0, []),
  (148, .goto 24, 3, 0, 172, 0, 0, []),
  (151, .iload 5, 2, 0, 5, 0, 0, []),
  (153, .bipush 16, 2, 16, 0, 0, 0, []),
  (155, .if_icmp .ne 7, 3, 0, 162, 0, 0, []),
  (158, .iconst 4, 1, 4, 0, 0, 0, [])]
def am_c33_2 : List (Nat × am_Row) := [(159, .goto 5, 3, 0, 164, 0, 0, []),
  (162, .bipush 8, 2, 8, 0, 0, 0, []),
  (164, .iload 7, 2, 0, 7, 0, 0, []),
  (166, .iconst 2, 1, 2, 0, 0, 0, []),
  (167, .isub, 1, 0, 0, 0, 0, []),
  (168, .imul, 1, 0, 0, 0, 0, []),
  (169, .iload 6, 2, 0, 6, 0, 0, []),
  (171, .iadd, 1, 0, 0, 0, 0, []),
  (172, .istore_n 3, 1, 0, 3, 0, 0, []),
  (173, .aload_n 0, 1, 0, 0, 0, 0, []),
  (174, .iload 5, 2, 0, 5, 0, 0, []),
  (176, .bipush 16, 2, 16, 0, 0, 0, []),
  (178, .if_icmp .ne 10, 3, 0, 188, 0, 0, []),
  (181, .aload_n 0, 1, 0, 0, 0, 0, []),
  (182, .getfield 103, 3, 0, 4, 7, 0, []),
  (185, .goto 4, 3, 0, 189, 0, 0, []),
  (188, .iconst 0, 1, 0, 0, 0, 0, []),
  (189, .iload_n 3, 1, 0, 3, 0, 0, []),
  (190, .iload 7, 2, 0, 7, 0, 0, []),
  (192, .isub, 1, 0, 0, 0, 0, []),
  (193, .iload_n 1, 1, 0, 1, 0, 0, []),
  (194, .invokevirtual 111, 3, 0, 34, 4, 4, []),
  (197, .iload 5, 2, 0, 5, 0, 0, []),
  (199, .istore_n 2, 1, 0, 2, 0, 0, []),
  (200, .iinc 4 1, 3, 1, 4, 0, 0, []),
  (203, .goto (-180), 3, 0, 23, 0, 0, []),
  (206, .aload_n 0, 1, 0, 0, 0, 0, []),
  (207, .getfield 100, 3, 0, 4, 6, 0, []),
  (210, .ldc 106, 2, 32768, 0, 0, 0, []),
  (212, .if_icmp .eq 12, 3, 0, 224, 0, 0, []),
  (215, .aload_n 0, 1, 0, 0, 0, 0, []),
  (216, .getfield 30, 3, 0, 4, 0, 1, []),
  (219, .bipush 14, 2, 14, 0, 0, 0, []),
  (221, .invokevirtual 70, 3, 0, 3, 2, 0, []),
  (224, .return_, 1, 0, 0, 0, 0, [])]
def am_c33 : List (Nat × am_Row) := am_c33_0 ++ (am_c33_1 ++ (am_c33_2))
/-- BrotliWords$CodeReader.come(III)V -/
def am_c34_0 : List (Nat × am_Row) := [(0, .iload_n 2, 1, 0, 2, 0, 0, []),
  (1, .iload_n 3, 1, 0, 3, 0, 0, []),
  (2, .aload_n 0, 1, 0, 0, 0, 0, []),
  (3, .getfield 96, 3, 0, 4, 5, 0, []),
  (6, .isub, 1, 0, 0, 0, 0, []),
  (7, .if_icmp .gt 12, 3, 0, 19, 0, 0, []),
  (10, .iload_n 3, 1, 0, 3, 0, 0, []),
  (11, .aload_n 0, 1, 0, 0, 0, 0, []),
  (12, .getfield 9, 3, 0, 4, 1, 1, []),
  (15, .arraylength, 1, 0, 0, 0, 0, []),
  (16, .if_icmp .le 12, 3, 0, 28, 0, 0, []),
  (19, .aload_n 0, 1, 0, 0, 0, 0, []),
  (20, .getfield 30, 3, 0, 4, 0, 1, []),
  (23, .bipush 14, 2, 14, 0, 0, 0, []),
  (25, .invokevirtual 70, 3, 0, 3, 2, 0, []),
  (28, .aload_n 0, 1, 0, 0, 0, 0, []),
  (29, .getfield 30, 3, 0, 4, 0, 1, []),
  (32, .invokevirtual 56, 3, 0, 2, 1, 0, []),
  (35, .ifCond .ne 4, 3, 0, 39, 0, 0, []),
  (38, .return_, 1, 0, 0, 0, 0, []),
  (39, .iconst 0, 1, 0, 0, 0, 0, []),
  (40, .istore 4, 2, 0, 4, 0, 0, []),
  (42, .iload 4, 2, 0, 4, 0, 0, []),
  (44, .iload_n 2, 1, 0, 2, 0, 0, []),
  (45, .if_icmp .ge 26, 3, 0, 71, 0, 0, []),
  (48, .aload_n 0, 1, 0, 0, 0, 0, []),
  (49, .getfield 9, 3, 0, 4, 1, 1, []),
  (52, .aload_n 0, 1, 0, 0, 0, 0, []),
  (53, .dup, 1, 0, 0, 0, 0, []),
  (54, .getfield 96, 3, 0, 4, 5, 0, []),
  (57, .dup_x1, 1, 0, 0, 0, 0, []),
  (58, .iconst 1, 1, 1, 0, 0, 0, []),
  (59, .iadd, 1, 0, 0, 0, 0, []),
  (60, .putfield 96, 3, 0, 4, 5, 0, []),
  (63, .iload_n 1, 1, 0, 1, 0, 0, []),
  (64, .iastore, 1, 0, 0, 0, 0, []),
  (65, .iinc 4 1, 3, 1, 4, 0, 0, []),
  (68, .goto (-26), 3, 0, 42, 0, 0, []),
  (71, .iload_n 1, 1, 0, 1, 0, 0, []),
  (72, .ifCond .le 18, 3, 0, 90, 0, 0, [])]
def am_c34_1 : List (Nat × am_Row) := [(75, .aload_n 0, 1, 0, 0, 0, 0, []),
  (76, .dup, 1, 0, 0, 0, 0, []),
  (77, .getfield 100, 3, 0, 4, 6, 0, []),
  (80, .iload_n 2, 1, 0, 2, 0, 0, []),
  (81, .ldc 106, 2, 32768, 0, 0, 0, []),
  (83, .iload_n 1, 1, 0, 1, 0, 0, []),
  (84, .ishr, 1, 0, 0, 0, 0, []),
  (85, .imul, 1, 0, 0, 0, 0, []),
  (86, .iadd, 1, 0, 0, 0, 0, []),
  (87, .putfield 100, 3, 0, 4, 6, 0, []),
  (90, .aload_n 0, 1, 0, 0, 0, 0, []),
  (91, .getfield 100, 3, 0, 4, 6, 0, []),
  (94, .ldc 106, 2, 32768, 0, 0, 0, []),
  (96, .if_icmp .le 12, 3, 0, 108, 0, 0, []),
  (99, .aload_n 0, 1, 0, 0, 0, 0, []),
  (100, .getfield 30, 3, 0, 4, 0, 1, []),
  (103, .bipush 14, 2, 14, 0, 0, 0, []),
  (105, .invokevirtual 70, 3, 0, 3, 2, 0, []),
  (108, .return_, 1, 0, 0, 0, 0, [])]
def am_c34 : List (Nat × am_Row) := am_c34_0 ++ (am_c34_1)
/-- BrotliWords$CodeWriter.<init>(I)V -/
def am_c35_0 : List (Nat × am_Row) := [(0, .aload_n 0, 1, 0, 0, 0, 0, []),
  (1, .invokespecial 3, 3, 0, 900, 1, 0, []),
  (4, .iload_n 1, 1, 0, 1, 0, 0, []),
  (5, .iconst 1, 1, 1, 0, 0, 0, []),
  (6, .invokestatic 9, 3, 0, 902, 2, 0, []),
  (9, .istore_n 2, 1, 0, 2, 0, 0, []),
  (10, .aload_n 0, 1, 0, 0, 0, 0, []),
  (11, .iload_n 2, 1, 0, 2, 0, 0, []),
  (12, .newarray .int, 2, 0, 26, 0, 0, []),
  (14, .putfield 15, 3, 0, 5, 0, 1, []),
  (17, .aload_n 0, 1, 0, 0, 0, 0, []),
  (18, .iload_n 2, 1, 0, 2, 0, 0, []),
  (19, .newarray .int, 2, 0, 27, 0, 0, []),
  (21, .putfield 21, 3, 0, 5, 1, 1, []),
  (24, .aload_n 0, 1, 0, 0, 0, 0, []),
  (25, .iload_n 2, 1, 0, 2, 0, 0, []),
  (26, .newarray .int, 2, 0, 28, 0, 0, []),
  (28, .putfield 24, 3, 0, 5, 2, 1, []),
  (31, .aload_n 0, 1, 0, 0, 0, 0, []),
  (32, .iload_n 2, 1, 0, 2, 0, 0, []),
  (33, .newarray .int, 2, 0, 29, 0, 0, []),
  (35, .putfield 27, 3, 0, 5, 3, 1, []),
  (38, .aload_n 0, 1, 0, 0, 0, 0, []),
  (39, .iload_n 2, 1, 0, 2, 0, 0, []),
  (40, .newarray .int, 2, 0, 30, 0, 0, []),
  (42, .putfield 30, 3, 0, 5, 4, 1, []),
  (45, .aload_n 0, 1, 0, 0, 0, 0, []),
  (46, .iload_n 2, 1, 0, 2, 0, 0, []),
  (47, .newarray .int, 2, 0, 31, 0, 0, []),
  (49, .putfield 33, 3, 0, 5, 5, 1, []),
  (52, .aload_n 0, 1, 0, 0, 0, 0, []),
  (53, .iconst 2, 1, 2, 0, 0, 0, []),
  (54, .iload_n 2, 1, 0, 2, 0, 0, []),
  (55, .imul, 1, 0, 0, 0, 0, []),
  (56, .newarray .int, 2, 0, 32, 0, 0, []),
  (58, .putfield 36, 3, 0, 5, 6, 1, []),
  (61, .aload_n 0, 1, 0, 0, 0, 0, []),
  (62, .iconst 2, 1, 2, 0, 0, 0, []),
  (63, .iload_n 2, 1, 0, 2, 0, 0, []),
  (64, .imul, 1, 0, 0, 0, 0, [])]
def am_c35_1 : List (Nat × am_Row) := [(65, .newarray .int, 2, 0, 33, 0, 0, []),
  (67, .putfield 39, 3, 0, 5, 7, 1, []),
  (70, .aload_n 0, 1, 0, 0, 0, 0, []),
  (71, .iconst 2, 1, 2, 0, 0, 0, []),
  (72, .iload_n 2, 1, 0, 2, 0, 0, []),
  (73, .imul, 1, 0, 0, 0, 0, []),
  (74, .newarray .int, 2, 0, 34, 0, 0, []),
  (76, .putfield 42, 3, 0, 5, 8, 1, []),
  (79, .return_, 1, 0, 0, 0, 0, [])]
def am_c35 : List (Nat × am_Row) := am_c35_0 ++ (am_c35_1)
/-- BrotliWords$CodeWriter.start()V -/
def am_c36 : List (Nat × am_Row) := [(0, .aload_n 0, 1, 0, 0, 0, 0, []),
  (1, .getfield 15, 3, 0, 5, 0, 1, []),
  (4, .iconst 0, 1, 0, 0, 0, 0, []),
  (5, .invokestatic 45, 3, 0, 260, 2, 999, []),
  (8, .return_, 1, 0, 0, 0, 0, [])]
/-- BrotliWords$CodeWriter.note(I)V -/
def am_c37 : List (Nat × am_Row) := [(0, .iload_n 1, 1, 0, 1, 0, 0, []),
  (1, .ifCond .lt 22, 3, 0, 23, 0, 0, []),
  (4, .iload_n 1, 1, 0, 1, 0, 0, []),
  (5, .aload_n 0, 1, 0, 0, 0, 0, []),
  (6, .getfield 15, 3, 0, 5, 0, 1, []),
  (9, .arraylength, 1, 0, 0, 0, 0, []),
  (10, .if_icmp .ge 13, 3, 0, 23, 0, 0, []),
  (13, .aload_n 0, 1, 0, 0, 0, 0, []),
  (14, .getfield 15, 3, 0, 5, 0, 1, []),
  (17, .iload_n 1, 1, 0, 1, 0, 0, []),
  (18, .dup2, 1, 0, 0, 0, 0, []),
  (19, .iaload, 1, 0, 0, 0, 0, []),
  (20, .iconst 1, 1, 1, 0, 0, 0, []),
  (21, .iadd, 1, 0, 0, 0, 0, []),
  (22, .iastore, 1, 0, 0, 0, 0, []),
  (23, .return_, 1, 0, 0, 0, 0, [])]
/-- BrotliWords$CodeWriter.write(LBrotliWords$Bytes;I)V -/
def am_c38 : List (Nat × am_Row) := [(0, .iload_n 2, 1, 0, 2, 0, 0, []),
  (1, .ifCond .lt 28, 3, 0, 29, 0, 0, []),
  (4, .iload_n 2, 1, 0, 2, 0, 0, []),
  (5, .aload_n 0, 1, 0, 0, 0, 0, []),
  (6, .getfield 24, 3, 0, 5, 2, 1, []),
  (9, .arraylength, 1, 0, 0, 0, 0, []),
  (10, .if_icmp .ge 19, 3, 0, 29, 0, 0, []),
  (13, .aload_n 1, 1, 0, 1, 0, 0, []),
  (14, .aload_n 0, 1, 0, 0, 0, 0, []),
  (15, .getfield 24, 3, 0, 5, 2, 1, []),
  (18, .iload_n 2, 1, 0, 2, 0, 0, []),
  (19, .iaload, 1, 0, 0, 0, 0, []),
  (20, .aload_n 0, 1, 0, 0, 0, 0, []),
  (21, .getfield 21, 3, 0, 5, 1, 1, []),
  (24, .iload_n 2, 1, 0, 2, 0, 0, []),
  (25, .iaload, 1, 0, 0, 0, 0, []),
  (26, .invokevirtual 51, 3, 0, 19, 3, 2, []),
  (29, .return_, 1, 0, 0, 0, 0, [])]
/-- BrotliWords$CodeWriter.tell(LBrotliWords$Bytes;LBrotliWords$CodeWriter;)V -/
def am_c39_0 : List (Nat × am_Row) := [(0, .aload_n 0, 1, 0, 0, 0, 0, []),
  (1, .bipush 15, 2, 15, 0, 0, 0, []),
  (3, .invokevirtual 57, 3, 0, 40, 2, 5, []),
  (6, .aload_n 0, 1, 0, 0, 0, 0, []),
  (7, .getfield 61, 3, 0, 5, 9, 0, []),
  (10, .iconst 4, 1, 4, 0, 0, 0, []),
  (11, .if_icmp .gt 9, 3, 0, 20, 0, 0, []),
  (14, .aload_n 0, 1, 0, 0, 0, 0, []),
  (15, .aload_n 1, 1, 0, 1, 0, 0, []),
  (16, .invokevirtual 65, 3, 0, 47, 2, 5, []),
  (19, .return_, 1, 0, 0, 0, 0, []),
  (20, .aload_n 0, 1, 0, 0, 0, 0, []),
  (21, .invokevirtual 69, 3, 0, 48, 1, 5, []),
  (24, .aload_n 2, 1, 0, 2, 0, 0, []),
  (25, .invokevirtual 72, 3, 0, 36, 1, 5, []),
  (28, .iconst 0, 1, 0, 0, 0, 0, []),
  (29, .istore_n 3, 1, 0, 3, 0, 0, []),
  (30, .iload_n 3, 1, 0, 3, 0, 0, []),
  (31, .aload_n 0, 1, 0, 0, 0, 0, []),
  (32, .getfield 75, 3, 0, 5, 10, 0, []),
  (35, .if_icmp .ge 19, 3, 0, 54, 0, 0, []),
  (38, .aload_n 2, 1, 0, 2, 0, 0, []),
  (39, .aload_n 0, 1, 0, 0, 0, 0, []),
  (40, .getfield 30, 3, 0, 5, 4, 1, []),
  (43, .iload_n 3, 1, 0, 3, 0, 0, []),
  (44, .iaload, 1, 0, 0, 0, 0, []),
  (45, .invokevirtual 78, 3, 0, 37, 2, 5, []),
  (48, .iinc 3 1, 3, 1, 3, 0, 0, []),
  (51, .goto (-21), 3, 0, 30, 0, 0, []),
  (54, .aload_n 2, 1, 0, 2, 0, 0, []),
  (55, .iconst 5, 1, 5, 0, 0, 0, []),
  (56, .invokevirtual 57, 3, 0, 40, 2, 5, []),
  (59, .aload_n 1, 1, 0, 1, 0, 0, []),
  (60, .iconst 0, 1, 0, 0, 0, 0, []),
  (61, .iconst 2, 1, 2, 0, 0, 0, []),
  (62, .invokevirtual 51, 3, 0, 19, 3, 2, []),
  (65, .aload_n 2, 1, 0, 2, 0, 0, []),
  (66, .aload_n 1, 1, 0, 1, 0, 0, []),
  (67, .invokevirtual 81, 3, 0, 50, 2, 5, []),
  (70, .iconst 0, 1, 0, 0, 0, 0, [])]
def am_c39_1 : List (Nat × am_Row) := [(71, .istore_n 3, 1, 0, 3, 0, 0, []),
  (72, .iload_n 3, 1, 0, 3, 0, 0, []),
  (73, .aload_n 0, 1, 0, 0, 0, 0, []),
  (74, .getfield 75, 3, 0, 5, 10, 0, []),
  (77, .if_icmp .ge 44, 3, 0, 121, 0, 0, []),
  (80, .aload_n 2, 1, 0, 2, 0, 0, []),
  (81, .aload_n 1, 1, 0, 1, 0, 0, []),
  (82, .aload_n 0, 1, 0, 0, 0, 0, []),
  (83, .getfield 30, 3, 0, 5, 4, 1, []),
  (86, .iload_n 3, 1, 0, 3, 0, 0, []),
  (87, .iaload, 1, 0, 0, 0, 0, []),
  (88, .invokevirtual 84, 3, 0, 38, 3, 5, []),
  (91, .aload_n 0, 1, 0, 0, 0, 0, []),
  (92, .getfield 30, 3, 0, 5, 4, 1, []),
  (95, .iload_n 3, 1, 0, 3, 0, 0, []),
  (96, .iaload, 1, 0, 0, 0, 0, []),
  (97, .bipush 17, 2, 17, 0, 0, 0, []),
  (99, .if_icmp .ne 16, 3, 0, 115, 0, 0, []),
  (102, .aload_n 1, 1, 0, 1, 0, 0, []),
  (103, .aload_n 0, 1, 0, 0, 0, 0, []),
  (104, .getfield 33, 3, 0, 5, 5, 1, []),
  (107, .iload_n 3, 1, 0, 3, 0, 0, []),
  (108, .iaload, 1, 0, 0, 0, 0, []),
  (109, .iconst 3, 1, 3, 0, 0, 0, []),
  (110, .isub, 1, 0, 0, 0, 0, []),
  (111, .iconst 3, 1, 3, 0, 0, 0, []),
  (112, .invokevirtual 51, 3, 0, 19, 3, 2, []),
  (115, .iinc 3 1, 3, 1, 3, 0, 0, []),
  (118, .goto (-46), 3, 0, 72, 0, 0, []),
  (121, .return_, 1, 0, 0, 0, 0, [])]
def am_c39 : List (Nat × am_Row) := am_c39_0 ++ (am_c39_1)
/-- BrotliWords$CodeWriter.settle(I)V -/
def am_c40_0 : List (Nat × am_Row) := [(0, .aload_n 0, 1, 0, 0, 0, 0, []),
  (1, .getfield 21, 3, 0, 5, 1, 1, []),
  (4, .iconst 0, 1, 0, 0, 0, 0, []),
  (5, .invokestatic 45, 3, 0, 260, 2, 999, []),
  (8, .aload_n 0, 1, 0, 0, 0, 0, []),
  (9, .iconst 0, 1, 0, 0, 0, 0, []),
  (10, .putfield 61, 3, 0, 5, 9, 0, []),
  (13, .iconst 0, 1, 0, 0, 0, 0, []),
  (14, .istore_n 2, 1, 0, 2, 0, 0, []),
  (15, .iload_n 2, 1, 0, 2, 0, 0, []),
  (16, .aload_n 0, 1, 0, 0, 0, 0, []),
  (17, .getfield 15, 3, 0, 5, 0, 1, []),
  (20, .arraylength, 1, 0, 0, 0, 0, []),
  (21, .if_icmp .ge 35, 3, 0, 56, 0, 0, []),
  (24, .aload_n 0, 1, 0, 0, 0, 0, []),
  (25, .getfield 15, 3, 0, 5, 0, 1, []),
  (28, .iload_n 2, 1, 0, 2, 0, 0, []),
  (29, .iaload, 1, 0, 0, 0, 0, []),
  (30, .ifCond .le 20, 3, 0, 50, 0, 0, []),
  (33, .aload_n 0, 1, 0, 0, 0, 0, []),
  (34, .getfield 27, 3, 0, 5, 3, 1, []),
  (37, .aload_n 0, 1, 0, 0, 0, 0, []),
  (38, .dup, 1, 0, 0, 0, 0, []),
  (39, .getfield 61, 3, 0, 5, 9, 0, []),
  (42, .dup_x1, 1, 0, 0, 0, 0, []),
  (43, .iconst 1, 1, 1, 0, 0, 0, []),
  (44, .iadd, 1, 0, 0, 0, 0, []),
  (45, .putfield 61, 3, 0, 5, 9, 0, []),
  (48, .iload_n 2, 1, 0, 2, 0, 0, []),
  (49, .iastore, 1, 0, 0, 0, 0, []),
  (50, .iinc 2 1, 3, 1, 2, 0, 0, []),
  (53, .goto (-38), 3, 0, 15, 0, 0, []),
  (56, .aload_n 0, 1, 0, 0, 0, 0, []),
  (57, .getfield 61, 3, 0, 5, 9, 0, []),
  (60, .iconst 2, 1, 2, 0, 0, 0, []),
  (61, .if_icmp .ge 32, 3, 0, 93, 0, 0, []),
  (64, .aload_n 0, 1, 0, 0, 0, 0, []),
  (65, .getfield 27, 3, 0, 5, 3, 1, []),
  (68, .iconst 0, 1, 0, 0, 0, 0, []),
  (69, .aload_n 0, 1, 0, 0, 0, 0, [])]
def am_c40_1 : List (Nat × am_Row) := [(70, .getfield 61, 3, 0, 5, 9, 0, []),
  (73, .ifCond .ne 7, 3, 0, 80, 0, 0, []),
  (76, .iconst 0, 1, 0, 0, 0, 0, []),
  (77, .goto 9, 3, 0, 86, 0, 0, []),
  (80, .aload_n 0, 1, 0, 0, 0, 0, []),
  (81, .getfield 27, 3, 0, 5, 3, 1, []),
  (84, .iconst 0, 1, 0, 0, 0, 0, []),
  (85, .iaload, 1, 0, 0, 0, 0, []),
  (86, .iastore, 1, 0, 0, 0, 0, []),
  (87, .aload_n 0, 1, 0, 0, 0, 0, []),
  (88, .iconst 1, 1, 1, 0, 0, 0, []),
  (89, .putfield 61, 3, 0, 5, 9, 0, []),
  (92, .return_, 1, 0, 0, 0, 0, []),
  (93, .iconst 0, 1, 0, 0, 0, 0, []),
  (94, .istore_n 2, 1, 0, 2, 0, 0, []),
  (95, .iload_n 2, 1, 0, 2, 0, 0, []),
  (96, .bipush 40, 2, 40, 0, 0, 0, []),
  (98, .if_icmp .ge 70, 3, 0, 168, 0, 0, []),
  (101, .aload_n 0, 1, 0, 0, 0, 0, []),
  (102, .invokevirtual 88, 3, 0, 42, 1, 5, []),
  (105, .aload_n 0, 1, 0, 0, 0, 0, []),
  (106, .invokevirtual 91, 3, 0, 43, 1, 5, []),
  (109, .aload_n 0, 1, 0, 0, 0, 0, []),
  (110, .invokevirtual 94, 3, 0, 44, 1, 5, []),
  (113, .iload_n 1, 1, 0, 1, 0, 0, []),
  (114, .if_icmp .gt 6, 3, 0, 120, 0, 0, []),
  (117, .goto 51, 3, 0, 168, 0, 0, []),
  (120, .iconst 0, 1, 0, 0, 0, 0, []),
  (121, .istore_n 3, 1, 0, 3, 0, 0, []),
  (122, .iload_n 3, 1, 0, 3, 0, 0, []),
  (123, .aload_n 0, 1, 0, 0, 0, 0, []),
  (124, .getfield 61, 3, 0, 5, 9, 0, []),
  (127, .if_icmp .ge 35, 3, 0, 162, 0, 0, []),
  (130, .aload_n 0, 1, 0, 0, 0, 0, []),
  (131, .getfield 15, 3, 0, 5, 0, 1, []),
  (134, .aload_n 0, 1, 0, 0, 0, 0, []),
  (135, .getfield 27, 3, 0, 5, 3, 1, []),
  (138, .iload_n 3, 1, 0, 3, 0, 0, []),
  (139, .iaload, 1, 0, 0, 0, 0, []),
  (140, .aload_n 0, 1, 0, 0, 0, 0, [])]
def am_c40_2 : List (Nat × am_Row) := [(141, .getfield 15, 3, 0, 5, 0, 1, []),
  (144, .aload_n 0, 1, 0, 0, 0, 0, []),
  (145, .getfield 27, 3, 0, 5, 3, 1, []),
  (148, .iload_n 3, 1, 0, 3, 0, 0, []),
  (149, .iaload, 1, 0, 0, 0, 0, []),
  (150, .iaload, 1, 0, 0, 0, 0, []),
  (151, .iconst 2, 1, 2, 0, 0, 0, []),
  (152, .idiv, 1, 0, 0, 0, 0, []),
  (153, .iconst 1, 1, 1, 0, 0, 0, []),
  (154, .iadd, 1, 0, 0, 0, 0, []),
  (155, .iastore, 1, 0, 0, 0, 0, []),
  (156, .iinc 3 1, 3, 1, 3, 0, 0, []),
  (159, .goto (-37), 3, 0, 122, 0, 0, []),
  (162, .iinc 2 1, 3, 1, 2, 0, 0, []),
  (165, .goto (-70), 3, 0, 95, 0, 0, []),
  (168, .aload_n 0, 1, 0, 0, 0, 0, []),
  (169, .invokevirtual 98, 3, 0, 45, 1, 5, []),
  (172, .return_, 1, 0, 0, 0, 0, [])]
def am_c40 : List (Nat × am_Row) := am_c40_0 ++ (am_c40_1 ++ (am_c40_2))
/-- BrotliWords$CodeWriter.comesLater(II)Z -/
def am_c41 : List (Nat × am_Row) := [(0, .aload_n 0, 1, 0, 0, 0, 0, []),
  (1, .getfield 15, 3, 0, 5, 0, 1, []),
  (4, .iload_n 1, 1, 0, 1, 0, 0, []),
  (5, .iaload, 1, 0, 0, 0, 0, []),
  (6, .aload_n 0, 1, 0, 0, 0, 0, []),
  (7, .getfield 15, 3, 0, 5, 0, 1, []),
  (10, .iload_n 2, 1, 0, 2, 0, 0, []),
  (11, .iaload, 1, 0, 0, 0, 0, []),
  (12, .if_icmp .gt 23, 3, 0, 35, 0, 0, []),
  (15, .aload_n 0, 1, 0, 0, 0, 0, []),
  (16, .getfield 15, 3, 0, 5, 0, 1, []),
  (19, .iload_n 1, 1, 0, 1, 0, 0, []),
  (20, .iaload, 1, 0, 0, 0, 0, []),
  (21, .aload_n 0, 1, 0, 0, 0, 0, []),
  (22, .getfield 15, 3, 0, 5, 0, 1, []),
  (25, .iload_n 2, 1, 0, 2, 0, 0, []),
  (26, .iaload, 1, 0, 0, 0, 0, []),
  (27, .if_icmp .ne 12, 3, 0, 39, 0, 0, []),
  (30, .iload_n 1, 1, 0, 1, 0, 0, []),
  (31, .iload_n 2, 1, 0, 2, 0, 0, []),
  (32, .if_icmp .le 7, 3, 0, 39, 0, 0, []),
  (35, .iconst 1, 1, 1, 0, 0, 0, []),
  (36, .goto 4, 3, 0, 40, 0, 0, []),
  (39, .iconst 0, 1, 0, 0, 0, 0, []),
  (40, .ireturn, 1, 0, 1, 0, 0, [])]
/-- BrotliWords$CodeWriter.sortOrder()V -/
def am_c42_0 : List (Nat × am_Row) := [(0, .iconst 1, 1, 1, 0, 0, 0, []),
  (1, .istore_n 1, 1, 0, 1, 0, 0, []),
  (2, .iload_n 1, 1, 0, 1, 0, 0, []),
  (3, .aload_n 0, 1, 0, 0, 0, 0, []),
  (4, .getfield 61, 3, 0, 5, 9, 0, []),
  (7, .if_icmp .ge 65, 3, 0, 72, 0, 0, []),
  (10, .aload_n 0, 1, 0, 0, 0, 0, []),
  (11, .getfield 27, 3, 0, 5, 3, 1, []),
  (14, .iload_n 1, 1, 0, 1, 0, 0, []),
  (15, .iaload, 1, 0, 0, 0, 0, []),
  (16, .istore_n 2, 1, 0, 2, 0, 0, []),
  (17, .iload_n 1, 1, 0, 1, 0, 0, []),
  (18, .istore_n 3, 1, 0, 3, 0, 0, []),
  (19, .iload_n 3, 1, 0, 3, 0, 0, []),
  (20, .ifCond .le 39, 3, 0, 59, 0, 0, []),
  (23, .aload_n 0, 1, 0, 0, 0, 0, []),
  (24, .aload_n 0, 1, 0, 0, 0, 0, []),
  (25, .getfield 27, 3, 0, 5, 3, 1, []),
  (28, .iload_n 3, 1, 0, 3, 0, 0, []),
  (29, .iconst 1, 1, 1, 0, 0, 0, []),
  (30, .isub, 1, 0, 0, 0, 0, []),
  (31, .iaload, 1, 0, 0, 0, 0, []),
  (32, .iload_n 2, 1, 0, 2, 0, 0, []),
  (33, .invokevirtual 101, 3, 0, 41, 3, 5, []),
  (36, .ifCond .eq 23, 3, 0, 59, 0, 0, []),
  (39, .aload_n 0, 1, 0, 0, 0, 0, []),
  (40, .getfield 27, 3, 0, 5, 3, 1, []),
  (43, .iload_n 3, 1, 0, 3, 0, 0, []),
  (44, .aload_n 0, 1, 0, 0, 0, 0, []),
  (45, .getfield 27, 3, 0, 5, 3, 1, []),
  (48, .iload_n 3, 1, 0, 3, 0, 0, []),
  (49, .iconst 1, 1, 1, 0, 0, 0, []),
  (50, .isub, 1, 0, 0, 0, 0, []),
  (51, .iaload, 1, 0, 0, 0, 0, []),
  (52, .iastore, 1, 0, 0, 0, 0, []),
  (53, .iinc 3 (-1), 3, (-1), 3, 0, 0, []),
  (56, .goto (-37), 3, 0, 19, 0, 0, []),
  (59, .aload_n 0, 1, 0, 0, 0, 0, []),
  (60, .getfield 27, 3, 0, 5, 3, 1, []),
  (63, .iload_n 3, 1, 0, 3, 0, 0, [])]
def am_c42_1 : List (Nat × am_Row) := [(64, .iload_n 2, 1, 0, 2, 0, 0, []),
  (65, .iastore, 1, 0, 0, 0, 0, []),
  (66, .iinc 1 1, 3, 1, 1, 0, 0, []),
  (69, .goto (-67), 3, 0, 2, 0, 0, []),
  (72, .return_, 1, 0, 0, 0, 0, [])]
def am_c42 : List (Nat × am_Row) := am_c42_0 ++ (am_c42_1)
/-- BrotliWords$CodeWriter.joinAll()V -/
def am_c43_0 : List (Nat × am_Row) := [(0, .iconst 0, 1, 0, 0, 0, 0, []),
  (1, .istore_n 1, 1, 0, 1, 0, 0, []),
  (2, .iload_n 1, 1, 0, 1, 0, 0, []),
  (3, .aload_n 0, 1, 0, 0, 0, 0, []),
  (4, .getfield 61, 3, 0, 5, 9, 0, []),
  (7, .if_icmp .ge 26, 3, 0, 33, 0, 0, []),
  (10, .aload_n 0, 1, 0, 0, 0, 0, []),
  (11, .getfield 36, 3, 0, 5, 6, 1, []),
  (14, .iload_n 1, 1, 0, 1, 0, 0, []),
  (15, .aload_n 0, 1, 0, 0, 0, 0, []),
  (16, .getfield 15, 3, 0, 5, 0, 1, []),
  (19, .aload_n 0, 1, 0, 0, 0, 0, []),
  (20, .getfield 27, 3, 0, 5, 3, 1, []),
  (23, .iload_n 1, 1, 0, 1, 0, 0, []),
  (24, .iaload, 1, 0, 0, 0, 0, []),
  (25, .iaload, 1, 0, 0, 0, 0, []),
  (26, .iastore, 1, 0, 0, 0, 0, []),
  (27, .iinc 1 1, 3, 1, 1, 0, 0, []),
  (30, .goto (-28), 3, 0, 2, 0, 0, []),
  (33, .iconst 0, 1, 0, 0, 0, 0, []),
  (34, .istore_n 1, 1, 0, 1, 0, 0, []),
  (35, .aload_n 0, 1, 0, 0, 0, 0, []),
  (36, .getfield 61, 3, 0, 5, 9, 0, []),
  (39, .istore_n 2, 1, 0, 2, 0, 0, []),
  (40, .aload_n 0, 1, 0, 0, 0, 0, []),
  (41, .getfield 61, 3, 0, 5, 9, 0, []),
  (44, .istore_n 3, 1, 0, 3, 0, 0, []),
  (45, .iload_n 3, 1, 0, 3, 0, 0, []),
  (46, .iconst 2, 1, 2, 0, 0, 0, []),
  (47, .aload_n 0, 1, 0, 0, 0, 0, []),
  (48, .getfield 61, 3, 0, 5, 9, 0, []),
  (51, .imul, 1, 0, 0, 0, 0, []),
  (52, .iconst 1, 1, 1, 0, 0, 0, []),
  (53, .isub, 1, 0, 0, 0, 0, []),
  (54, .if_icmp .ge 108, 3, 0, 162, 0, 0, []),
  (57, .aload_n 0, 1, 0, 0, 0, 0, []),
  (58, .getfield 36, 3, 0, 5, 6, 1, []),
  (61, .iload_n 3, 1, 0, 3, 0, 0, []),
  (62, .iconst 0, 1, 0, 0, 0, 0, []),
  (63, .iastore, 1, 0, 0, 0, 0, [])]
def am_c43_1 : List (Nat × am_Row) := [(64, .iconst 0, 1, 0, 0, 0, 0, []),
  (65, .istore 4, 2, 0, 4, 0, 0, []),
  (67, .iload 4, 2, 0, 4, 0, 0, []),
  (69, .iconst 2, 1, 2, 0, 0, 0, []),
  (70, .if_icmp .ge 86, 3, 0, 156, 0, 0, []),
  (73, .iload_n 2, 1, 0, 2, 0, 0, []),
  (74, .iload_n 3, 1, 0, 3, 0, 0, []),
  (75, .if_icmp .ge 26, 3, 0, 101, 0, 0, []),
  (78, .iload_n 1, 1, 0, 1, 0, 0, []),
  (79, .aload_n 0, 1, 0, 0, 0, 0, []),
  (80, .getfield 61, 3, 0, 5, 9, 0, []),
  (83, .if_icmp .ge 22, 3, 0, 105, 0, 0, []),
  (86, .aload_n 0, 1, 0, 0, 0, 0, []),
  (87, .getfield 36, 3, 0, 5, 6, 1, []),
  (90, .iload_n 1, 1, 0, 1, 0, 0, []),
  (91, .iaload, 1, 0, 0, 0, 0, []),
  (92, .aload_n 0, 1, 0, 0, 0, 0, []),
  (93, .getfield 36, 3, 0, 5, 6, 1, []),
  (96, .iload_n 2, 1, 0, 2, 0, 0, []),
  (97, .iaload, 1, 0, 0, 0, 0, []),
  (98, .if_icmp .gt 7, 3, 0, 105, 0, 0, []),
  (101, .iconst 1, 1, 1, 0, 0, 0, []),
  (102, .goto 4, 3, 0, 106, 0, 0, []),
  (105, .iconst 0, 1, 0, 0, 0, 0, []),
  (106, .istore 5, 2, 0, 5, 0, 0, []),
  (108, .iload 5, 2, 0, 5, 0, 0, []),
  (110, .ifCond .eq 10, 3, 0, 120, 0, 0, []),
  (113, .iload_n 1, 1, 0, 1, 0, 0, []),
  (114, .iinc 1 1, 3, 1, 1, 0, 0, []),
  (117, .goto 7, 3, 0, 124, 0, 0, []),
  (120, .iload_n 2, 1, 0, 2, 0, 0, []),
  (121, .iinc 2 1, 3, 1, 2, 0, 0, []),
  (124, .istore 6, 2, 0, 6, 0, 0, []),
  (126, .aload_n 0, 1, 0, 0, 0, 0, []),
  (127, .getfield 36, 3, 0, 5, 6, 1, []),
  (130, .iload_n 3, 1, 0, 3, 0, 0, []),
  (131, .dup2, 1, 0, 0, 0, 0, []),
  (132, .iaload, 1, 0, 0, 0, 0, []),
  (133, .aload_n 0, 1, 0, 0, 0, 0, []),
  (134, .getfield 36, 3, 0, 5, 6, 1, [])]
def am_c43_2 : List (Nat × am_Row) := [(137, .iload 6, 2, 0, 6, 0, 0, []),
  (139, .iaload, 1, 0, 0, 0, 0, []),
  (140, .iadd, 1, 0, 0, 0, 0, []),
  (141, .iastore, 1, 0, 0, 0, 0, []),
  (142, .aload_n 0, 1, 0, 0, 0, 0, []),
  (143, .getfield 39, 3, 0, 5, 7, 1, []),
  (146, .iload 6, 2, 0, 6, 0, 0, []),
  (148, .iload_n 3, 1, 0, 3, 0, 0, []),
  (149, .iastore, 1, 0, 0, 0, 0, []),
  (150, .iinc 4 1, 3, 1, 4, 0, 0, []),
  (153, .goto (-86), 3, 0, 67, 0, 0, []),
  (156, .iinc 3 1, 3, 1, 3, 0, 0, []),
  (159, .goto (-114), 3, 0, 45, 0, 0, []),
  (162, .return_, 1, 0, 0, 0, 0, [])]
def am_c43 : List (Nat × am_Row) := am_c43_0 ++ (am_c43_1 ++ (am_c43_2))
/-- BrotliWords$CodeWriter.depthOfAll()I -/
def am_c44_0 : List (Nat × am_Row) := [(0, .iconst 0, 1, 0, 0, 0, 0, []),
  (1, .istore_n 1, 1, 0, 1, 0, 0, []),
  (2, .aload_n 0, 1, 0, 0, 0, 0, []),
  (3, .getfield 42, 3, 0, 5, 8, 1, []),
  (6, .iconst 2, 1, 2, 0, 0, 0, []),
  (7, .aload_n 0, 1, 0, 0, 0, 0, []),
  (8, .getfield 61, 3, 0, 5, 9, 0, []),
  (11, .imul, 1, 0, 0, 0, 0, []),
  (12, .iconst 2, 1, 2, 0, 0, 0, []),
  (13, .isub, 1, 0, 0, 0, 0, []),
  (14, .iconst 0, 1, 0, 0, 0, 0, []),
  (15, .iastore, 1, 0, 0, 0, 0, []),
  (16, .iconst 2, 1, 2, 0, 0, 0, []),
  (17, .aload_n 0, 1, 0, 0, 0, 0, []),
  (18, .getfield 61, 3, 0, 5, 9, 0, []),
  (21, .imul, 1, 0, 0, 0, 0, []),
  (22, .iconst 3, 1, 3, 0, 0, 0, []),
  (23, .isub, 1, 0, 0, 0, 0, []),
  (24, .istore_n 2, 1, 0, 2, 0, 0, []),
  (25, .iload_n 2, 1, 0, 2, 0, 0, []),
  (26, .ifCond .lt 39, 3, 0, 65, 0, 0, []),
  (29, .aload_n 0, 1, 0, 0, 0, 0, []),
  (30, .getfield 42, 3, 0, 5, 8, 1, []),
  (33, .iload_n 2, 1, 0, 2, 0, 0, []),
  (34, .aload_n 0, 1, 0, 0, 0, 0, []),
  (35, .getfield 42, 3, 0, 5, 8, 1, []),
  (38, .aload_n 0, 1, 0, 0, 0, 0, []),
  (39, .getfield 39, 3, 0, 5, 7, 1, []),
  (42, .iload_n 2, 1, 0, 2, 0, 0, []),
  (43, .iaload, 1, 0, 0, 0, 0, []),
  (44, .iaload, 1, 0, 0, 0, 0, []),
  (45, .iconst 1, 1, 1, 0, 0, 0, []),
  (46, .iadd, 1, 0, 0, 0, 0, []),
  (47, .iastore, 1, 0, 0, 0, 0, []),
  (48, .iload_n 1, 1, 0, 1, 0, 0, []),
  (49, .aload_n 0, 1, 0, 0, 0, 0, []),
  (50, .getfield 42, 3, 0, 5, 8, 1, []),
  (53, .iload_n 2, 1, 0, 2, 0, 0, []),
  (54, .iaload, 1, 0, 0, 0, 0, []),
  (55, .invokestatic 9, 3, 0, 902, 2, 0, [])]
def am_c44_1 : List (Nat × am_Row) := [(58, .istore_n 1, 1, 0, 1, 0, 0, []),
  (59, .iinc 2 (-1), 3, (-1), 2, 0, 0, []),
  (62, .goto (-37), 3, 0, 25, 0, 0, []),
  (65, .iconst 0, 1, 0, 0, 0, 0, []),
  (66, .istore_n 2, 1, 0, 2, 0, 0, []),
  (67, .iload_n 2, 1, 0, 2, 0, 0, []),
  (68, .aload_n 0, 1, 0, 0, 0, 0, []),
  (69, .getfield 61, 3, 0, 5, 9, 0, []),
  (72, .if_icmp .ge 26, 3, 0, 98, 0, 0, []),
  (75, .aload_n 0, 1, 0, 0, 0, 0, []),
  (76, .getfield 21, 3, 0, 5, 1, 1, []),
  (79, .aload_n 0, 1, 0, 0, 0, 0, []),
  (80, .getfield 27, 3, 0, 5, 3, 1, []),
  (83, .iload_n 2, 1, 0, 2, 0, 0, []),
  (84, .iaload, 1, 0, 0, 0, 0, []),
  (85, .aload_n 0, 1, 0, 0, 0, 0, []),
  (86, .getfield 42, 3, 0, 5, 8, 1, []),
  (89, .iload_n 2, 1, 0, 2, 0, 0, []),
  (90, .iaload, 1, 0, 0, 0, 0, []),
  (91, .iastore, 1, 0, 0, 0, 0, []),
  (92, .iinc 2 1, 3, 1, 2, 0, 0, []),
  (95, .goto (-28), 3, 0, 67, 0, 0, []),
  (98, .iload_n 1, 1, 0, 1, 0, 0, []),
  (99, .ireturn, 1, 0, 0, 0, 0, [])]
def am_c44 : List (Nat × am_Row) := am_c44_0 ++ (am_c44_1)
/-- BrotliWords$CodeWriter.makeCodes()V -/
def am_c45 : List (Nat × am_Row) := [(0, .iconst 0, 1, 0, 0, 0, 0, []),
  (1, .istore_n 1, 1, 0, 1, 0, 0, []),
  (2, .iconst 1, 1, 1, 0, 0, 0, []),
  (3, .istore_n 2, 1, 0, 2, 0, 0, []),
  (4, .iload_n 2, 1, 0, 2, 0, 0, []),
  (5, .bipush 15, 2, 15, 0, 0, 0, []),
  (7, .if_icmp .gt 54, 3, 0, 61, 0, 0, []),
  (10, .iconst 2, 1, 2, 0, 0, 0, []),
  (11, .iload_n 1, 1, 0, 1, 0, 0, []),
  (12, .imul, 1, 0, 0, 0, 0, []),
  (13, .istore_n 1, 1, 0, 1, 0, 0, []),
  (14, .iconst 0, 1, 0, 0, 0, 0, []),
  (15, .istore_n 3, 1, 0, 3, 0, 0, []),
  (16, .iload_n 3, 1, 0, 3, 0, 0, []),
  (17, .aload_n 0, 1, 0, 0, 0, 0, []),
  (18, .getfield 21, 3, 0, 5, 1, 1, []),
  (21, .arraylength, 1, 0, 0, 0, 0, []),
  (22, .if_icmp .ge 33, 3, 0, 55, 0, 0, []),
  (25, .aload_n 0, 1, 0, 0, 0, 0, []),
  (26, .getfield 21, 3, 0, 5, 1, 1, []),
  (29, .iload_n 3, 1, 0, 3, 0, 0, []),
  (30, .iaload, 1, 0, 0, 0, 0, []),
  (31, .iload_n 2, 1, 0, 2, 0, 0, []),
  (32, .if_icmp .ne 17, 3, 0, 49, 0, 0, []),
  (35, .aload_n 0, 1, 0, 0, 0, 0, []),
  (36, .getfield 24, 3, 0, 5, 2, 1, []),
  (39, .iload_n 3, 1, 0, 3, 0, 0, []),
  (40, .iload_n 1, 1, 0, 1, 0, 0, []),
  (41, .iload_n 2, 1, 0, 2, 0, 0, []),
  (42, .invokestatic 105, 3, 0, 46, 2, 999, []),
  (45, .iastore, 1, 0, 0, 0, 0, []),
  (46, .iinc 1 1, 3, 1, 1, 0, 0, []),
  (49, .iinc 3 1, 3, 1, 3, 0, 0, []),
  (52, .goto (-36), 3, 0, 16, 0, 0, []),
  (55, .iinc 2 1, 3, 1, 2, 0, 0, []),
  (58, .goto (-54), 3, 0, 4, 0, 0, []),
  (61, .return_, 1, 0, 0, 0, 0, [])]
/-- BrotliWords$CodeWriter.turned(II)I -/
def am_c46 : List (Nat × am_Row) := [(0, .iconst 0, 1, 0, 0, 0, 0, []),
  (1, .istore_n 2, 1, 0, 2, 0, 0, []),
  (2, .iconst 0, 1, 0, 0, 0, 0, []),
  (3, .istore_n 3, 1, 0, 3, 0, 0, []),
  (4, .iload_n 3, 1, 0, 3, 0, 0, []),
  (5, .iload_n 1, 1, 0, 1, 0, 0, []),
  (6, .if_icmp .ge 19, 3, 0, 25, 0, 0, []),
  (9, .iconst 2, 1, 2, 0, 0, 0, []),
  (10, .iload_n 2, 1, 0, 2, 0, 0, []),
  (11, .imul, 1, 0, 0, 0, 0, []),
  (12, .iload_n 0, 1, 0, 0, 0, 0, []),
  (13, .iload_n 3, 1, 0, 3, 0, 0, []),
  (14, .ishr, 1, 0, 0, 0, 0, []),
  (15, .iconst 1, 1, 1, 0, 0, 0, []),
  (16, .iand, 1, 0, 0, 0, 0, []),
  (17, .iadd, 1, 0, 0, 0, 0, []),
  (18, .istore_n 2, 1, 0, 2, 0, 0, []),
  (19, .iinc 3 1, 3, 1, 3, 0, 0, []),
  (22, .goto (-18), 3, 0, 4, 0, 0, []),
  (25, .iload_n 2, 1, 0, 2, 0, 0, []),
  (26, .ireturn, 1, 0, 0, 0, 0, [])]
/-- BrotliWords$CodeWriter.tellShort(LBrotliWords$Bytes;)V -/
def am_c47_0 : List (Nat × am_Row) := [(0, .aload_n 0, 1, 0, 0, 0, 0, []),
  (1, .getfield 15, 3, 0, 5, 0, 1, []),
  (4, .arraylength, 1, 0, 0, 0, 0, []),
  (5, .iconst 1, 1, 1, 0, 0, 0, []),
  (6, .isub, 1, 0, 0, 0, 0, []),
  (7, .invokestatic 108, 3, 0, 141, 1, 999, []),
  (10, .istore_n 2, 1, 0, 2, 0, 0, []),
  (11, .iconst 0, 1, 0, 0, 0, 0, []),
  (12, .istore_n 3, 1, 0, 3, 0, 0, []),
  (13, .aload_n 1, 1, 0, 1, 0, 0, []),
  (14, .iconst 1, 1, 1, 0, 0, 0, []),
  (15, .iconst 2, 1, 2, 0, 0, 0, []),
  (16, .invokevirtual 51, 3, 0, 19, 3, 2, []),
  (19, .aload_n 1, 1, 0, 1, 0, 0, []),
  (20, .aload_n 0, 1, 0, 0, 0, 0, []),
  (21, .getfield 61, 3, 0, 5, 9, 0, []),
  (24, .iconst 1, 1, 1, 0, 0, 0, []),
  (25, .isub, 1, 0, 0, 0, 0, []),
  (26, .iconst 2, 1, 2, 0, 0, 0, []),
  (27, .invokevirtual 51, 3, 0, 19, 3, 2, []),
  (30, .aload_n 0, 1, 0, 0, 0, 0, []),
  (31, .getfield 61, 3, 0, 5, 9, 0, []),
  (34, .iconst 1, 1, 1, 0, 0, 0, []),
  (35, .if_icmp .ne 15, 3, 0, 50, 0, 0, []),
  (38, .aload_n 1, 1, 0, 1, 0, 0, []),
  (39, .aload_n 0, 1, 0, 0, 0, 0, []),
  (40, .getfield 27, 3, 0, 5, 3, 1, []),
  (43, .iconst 0, 1, 0, 0, 0, 0, []),
  (44, .iaload, 1, 0, 0, 0, 0, []),
  (45, .iload_n 2, 1, 0, 2, 0, 0, []),
  (46, .invokevirtual 51, 3, 0, 19, 3, 2, []),
  (49, .return_, 1, 0, 0, 0, 0, []),
  (50, .iconst 1, 1, 1, 0, 0, 0, []),
  (51, .istore 4, 2, 0, 4, 0, 0, []),
  (53, .iload 4, 2, 0, 4, 0, 0, []),
  (55, .iconst 3, 1, 3, 0, 0, 0, []),
  (56, .if_icmp .gt 50, 3, 0, 106, 0, 0, []),
  (59, .iconst 0, 1, 0, 0, 0, 0, []),
  (60, .istore 5, 2, 0, 5, 0, 0, []),
  (62, .iload 5, 2, 0, 5, 0, 0, [])]
def am_c47_1 : List (Nat × am_Row) := [(64, .aload_n 0, 1, 0, 0, 0, 0, []),
  (65, .getfield 21, 3, 0, 5, 1, 1, []),
  (68, .arraylength, 1, 0, 0, 0, 0, []),
  (69, .if_icmp .ge 31, 3, 0, 100, 0, 0, []),
  (72, .aload_n 0, 1, 0, 0, 0, 0, []),
  (73, .getfield 21, 3, 0, 5, 1, 1, []),
  (76, .iload 5, 2, 0, 5, 0, 0, []),
  (78, .iaload, 1, 0, 0, 0, 0, []),
  (79, .iload 4, 2, 0, 4, 0, 0, []),
  (81, .if_icmp .ne 13, 3, 0, 94, 0, 0, []),
  (84, .aload_n 1, 1, 0, 1, 0, 0, []),
  (85, .iload 5, 2, 0, 5, 0, 0, []),
  (87, .iload_n 2, 1, 0, 2, 0, 0, []),
  (88, .invokevirtual 51, 3, 0, 19, 3, 2, []),
  (91, .iload 4, 2, 0, 4, 0, 0, []),
  (93, .istore_n 3, 1, 0, 3, 0, 0, []),
  (94, .iinc 5 1, 3, 1, 5, 0, 0, []),
  (97, .goto (-35), 3, 0, 62, 0, 0, []),
  (100, .iinc 4 1, 3, 1, 4, 0, 0, []),
  (103, .goto (-50), 3, 0, 53, 0, 0, []),
  (106, .aload_n 0, 1, 0, 0, 0, 0, []),
  (107, .getfield 61, 3, 0, 5, 9, 0, []),
  (110, .iconst 4, 1, 4, 0, 0, 0, []),
  (111, .if_icmp .ne 18, 3, 0, 129, 0, 0, []),
  (114, .aload_n 1, 1, 0, 1, 0, 0, []),
  (115, .iload_n 3, 1, 0, 3, 0, 0, []),
  (116, .iconst 3, 1, 3, 0, 0, 0, []),
  (117, .if_icmp .ne 7, 3, 0, 124, 0, 0, []),
  (120, .iconst 1, 1, 1, 0, 0, 0, []),
  (121, .goto 4, 3, 0, 125, 0, 0, []),
  (124, .iconst 0, 1, 0, 0, 0, 0, []),
  (125, .iconst 1, 1, 1, 0, 0, 0, []),
  (126, .invokevirtual 51, 3, 0, 19, 3, 2, []),
  (129, .return_, 1, 0, 0, 0, 0, [])]
def am_c47 : List (Nat × am_Row) := am_c47_0 ++ (am_c47_1)
/-- BrotliWords$CodeWriter.listMarks()V -/
def am_c48_0 : List (Nat × am_Row) := [(0, .iconst 0, 1, 0, 0, 0, 0, []),
  (1, .istore_n 1, 1, 0, 1, 0, 0, []),
  (2, .iconst 0, 1, 0, 0, 0, 0, []),
  (3, .istore_n 2, 1, 0, 2, 0, 0, []),
  (4, .iload_n 2, 1, 0, 2, 0, 0, []),
  (5, .aload_n 0, 1, 0, 0, 0, 0, []),
  (6, .getfield 21, 3, 0, 5, 1, 1, []),
  (9, .arraylength, 1, 0, 0, 0, 0, []),
  (10, .if_icmp .ge 26, 3, 0, 36, 0, 0, []),
  (13, .aload_n 0, 1, 0, 0, 0, 0, []),
  (14, .getfield 21, 3, 0, 5, 1, 1, []),
  (17, .iload_n 2, 1, 0, 2, 0, 0, []),
  (18, .iaload, 1, 0, 0, 0, 0, []),
  (19, .ifCond .le 9, 3, 0, 28, 0, 0, []),
  (22, .iload_n 2, 1, 0, 2, 0, 0, []),
  (23, .iconst 1, 1, 1, 0, 0, 0, []),
  (24, .iadd, 1, 0, 0, 0, 0, []),
  (25, .goto 4, 3, 0, 29, 0, 0, []),
  (28, .iload_n 1, 1, 0, 1, 0, 0, []),
  (29, .istore_n 1, 1, 0, 1, 0, 0, []),
  (30, .iinc 2 1, 3, 1, 2, 0, 0, []),
  (33, .goto (-29), 3, 0, 4, 0, 0, []),
  (36, .aload_n 0, 1, 0, 0, 0, 0, []),
  (37, .iconst 0, 1, 0, 0, 0, 0, []),
  (38, .putfield 75, 3, 0, 5, 10, 0, []),
  (41, .iconst 0, 1, 0, 0, 0, 0, []),
  (42, .istore_n 2, 1, 0, 2, 0, 0, []),
  (43, .iconst 0, 1, 0, 0, 0, 0, []),
  (44, .istore_n 3, 1, 0, 3, 0, 0, []),
  (45, .iconst 0, 1, 0, 0, 0, 0, []),
  (46, .istore 4, 2, 0, 4, 0, 0, []),
  (48, .iload 4, 2, 0, 4, 0, 0, []),
  (50, .iload_n 1, 1, 0, 1, 0, 0, []),
  (51, .if_icmp .ge 103, 3, 0, 154, 0, 0, []),
  (54, .iload_n 3, 1, 0, 3, 0, 0, []),
  (55, .iload_n 1, 1, 0, 1, 0, 0, []),
  (56, .if_icmp .ge 98, 3, 0, 154, 0, 0, []),
  (59, .aload_n 0, 1, 0, 0, 0, 0, []),
  (60, .iload_n 3, 1, 0, 3, 0, 0, []),
  (61, .invokevirtual 112, 3, 0, 49, 2, 5, [])]
def am_c48_1 : List (Nat × am_Row) := [(64, .istore 5, 2, 0, 5, 0, 0, []),
  (66, .iload 5, 2, 0, 5, 0, 0, []),
  (68, .iconst 3, 1, 3, 0, 0, 0, []),
  (69, .if_icmp .lt 13, 3, 0, 82, 0, 0, []),
  (72, .iload_n 2, 1, 0, 2, 0, 0, []),
  (73, .bipush 17, 2, 17, 0, 0, 0, []),
  (75, .if_icmp .eq 7, 3, 0, 82, 0, 0, []),
  (78, .iconst 1, 1, 1, 0, 0, 0, []),
  (79, .goto 4, 3, 0, 83, 0, 0, []),
  (82, .iconst 0, 1, 0, 0, 0, 0, []),
  (83, .istore 6, 2, 0, 6, 0, 0, []),
  (85, .iload 6, 2, 0, 6, 0, 0, []),
  (87, .ifCond .eq 8, 3, 0, 95, 0, 0, []),
  (90, .bipush 17, 2, 17, 0, 0, 0, []),
  (92, .goto 9, 3, 0, 101, 0, 0, []),
  (95, .aload_n 0, 1, 0, 0, 0, 0, []),
  (96, .getfield 21, 3, 0, 5, 1, 1, []),
  (99, .iload_n 3, 1, 0, 3, 0, 0, []),
  (100, .iaload, 1, 0, 0, 0, 0, []),
  (101, .istore_n 2, 1, 0, 2, 0, 0, []),
  (102, .aload_n 0, 1, 0, 0, 0, 0, []),
  (103, .getfield 30, 3, 0, 5, 4, 1, []),
  (106, .iload 4, 2, 0, 4, 0, 0, []),
  (108, .iload_n 2, 1, 0, 2, 0, 0, []),
  (109, .iastore, 1, 0, 0, 0, 0, []),
  (110, .aload_n 0, 1, 0, 0, 0, 0, []),
  (111, .getfield 33, 3, 0, 5, 5, 1, []),
  (114, .iload 4, 2, 0, 4, 0, 0, []),
  (116, .iload 6, 2, 0, 6, 0, 0, []),
  (118, .ifCond .eq 8, 3, 0, 126, 0, 0, []),
  (121, .iload 5, 2, 0, 5, 0, 0, []),
  (123, .goto 4, 3, 0, 127, 0, 0, []),
  (126, .iconst 1, 1, 1, 0, 0, 0, []),
  (127, .iastore, 1, 0, 0, 0, 0, []),
  (128, .iload_n 3, 1, 0, 3, 0, 0, []),
  (129, .aload_n 0, 1, 0, 0, 0, 0, []),
  (130, .getfield 33, 3, 0, 5, 5, 1, []),
  (133, .iload 4, 2, 0, 4, 0, 0, []),
  (135, .iaload, 1, 0, 0, 0, 0, []),
  (136, .iadd, 1, 0, 0, 0, 0, [])]
def am_c48_2 : List (Nat × am_Row) := [(137, .istore_n 3, 1, 0, 3, 0, 0, []),
  (138, .aload_n 0, 1, 0, 0, 0, 0, []),
  (139, .dup, 1, 0, 0, 0, 0, []),
  (140, .getfield 75, 3, 0, 5, 10, 0, []),
  (143, .iconst 1, 1, 1, 0, 0, 0, []),
  (144, .iadd, 1, 0, 0, 0, 0, []),
  (145, .putfield 75, 3, 0, 5, 10, 0, []),
  (148, .iinc 4 1, 3, 1, 4, 0, 0, []),
  (151, .goto (-103), 3, 0, 48, 0, 0, []),
  (154, .return_, 1, 0, 0, 0, 0, [])]
def am_c48 : List (Nat × am_Row) := am_c48_0 ++ (am_c48_1 ++ (am_c48_2))
/-- BrotliWords$CodeWriter.zerosFrom(I)I -/
def am_c49 : List (Nat × am_Row) := [(0, .iconst 0, 1, 0, 0, 0, 0, []),
  (1, .istore_n 2, 1, 0, 2, 0, 0, []),
  (2, .iload_n 1, 1, 0, 1, 0, 0, []),
  (3, .istore_n 3, 1, 0, 3, 0, 0, []),
  (4, .iload_n 3, 1, 0, 3, 0, 0, []),
  (5, .aload_n 0, 1, 0, 0, 0, 0, []),
  (6, .getfield 21, 3, 0, 5, 1, 1, []),
  (9, .arraylength, 1, 0, 0, 0, 0, []),
  (10, .if_icmp .ge 29, 3, 0, 39, 0, 0, []),
  (13, .iload_n 3, 1, 0, 3, 0, 0, []),
  (14, .iload_n 1, 1, 0, 1, 0, 0, []),
  (15, .bipush 10, 2, 10, 0, 0, 0, []),
  (17, .iadd, 1, 0, 0, 0, 0, []),
  (18, .if_icmp .ge 21, 3, 0, 39, 0, 0, []),
  (21, .aload_n 0, 1, 0, 0, 0, 0, []),
  (22, .getfield 21, 3, 0, 5, 1, 1, []),
  (25, .iload_n 3, 1, 0, 3, 0, 0, []),
  (26, .iaload, 1, 0, 0, 0, 0, []),
  (27, .ifCond .ne 12, 3, 0, 39, 0, 0, []),
  (30, .iinc 2 1, 3, 1, 2, 0, 0, []),
  (33, .iinc 3 1, 3, 1, 3, 0, 0, []),
  (36, .goto (-32), 3, 0, 4, 0, 0, []),
  (39, .iload_n 2, 1, 0, 2, 0, 0, []),
  (40, .ireturn, 1, 0, 0, 0, 0, [])]
/-- BrotliWords$CodeWriter.tellAsMarks(LBrotliWords$Bytes;)V -/
def am_c50_0 : List (Nat × am_Row) := [(0, .iconst 0, 1, 0, 0, 0, 0, []),
  (1, .istore_n 2, 1, 0, 2, 0, 0, []),
  (2, .iconst 0, 1, 0, 0, 0, 0, []),
  (3, .istore_n 3, 1, 0, 3, 0, 0, []),
  (4, .iload_n 3, 1, 0, 3, 0, 0, []),
  (5, .bipush 18, 2, 18, 0, 0, 0, []),
  (7, .if_icmp .ge 86, 3, 0, 93, 0, 0, []),
  (10, .iload_n 2, 1, 0, 2, 0, 0, []),
  (11, .bipush 32, 2, 32, 0, 0, 0, []),
  (13, .if_icmp .ge 80, 3, 0, 93, 0, 0, []),
  (16, .getstatic 115, 3, 0, 204, 0, 0, []),
  (19, .iload_n 3, 1, 0, 3, 0, 0, []),
  (20, .iaload, 1, 0, 0, 0, 0, []),
  (21, .istore 4, 2, 0, 4, 0, 0, []),
  (23, .aload_n 0, 1, 0, 0, 0, 0, []),
  (24, .getfield 21, 3, 0, 5, 1, 1, []),
  (27, .iload 4, 2, 0, 4, 0, 0, []),
  (29, .iaload, 1, 0, 0, 0, 0, []),
  (30, .istore 5, 2, 0, 5, 0, 0, []),
  (32, .aload_n 0, 1, 0, 0, 0, 0, []),
  (33, .getfield 61, 3, 0, 5, 9, 0, []),
  (36, .iconst 1, 1, 1, 0, 0, 0, []),
  (37, .if_icmp .ne 17, 3, 0, 54, 0, 0, []),
  (40, .iload 4, 2, 0, 4, 0, 0, []),
  (42, .aload_n 0, 1, 0, 0, 0, 0, []),
  (43, .getfield 27, 3, 0, 5, 3, 1, []),
  (46, .iconst 0, 1, 0, 0, 0, 0, []),
  (47, .iaload, 1, 0, 0, 0, 0, []),
  (48, .if_icmp .ne 6, 3, 0, 54, 0, 0, []),
  (51, .iconst 1, 1, 1, 0, 0, 0, []),
  (52, .istore 5, 2, 0, 5, 0, 0, []),
  (54, .aload_n 1, 1, 0, 1, 0, 0, []),
  (55, .getstatic 118, 3, 0, 205, 0, 0, []),
  (58, .iload 5, 2, 0, 5, 0, 0, []),
  (60, .iaload, 1, 0, 0, 0, 0, []),
  (61, .getstatic 121, 3, 0, 206, 0, 0, []),
  (64, .iload 5, 2, 0, 5, 0, 0, []),
  (66, .iaload, 1, 0, 0, 0, 0, []),
  (67, .invokevirtual 51, 3, 0, 19, 3, 2, []),
  (70, .iload_n 2, 1, 0, 2, 0, 0, [])]
def am_c50_1 : List (Nat × am_Row) := [(71, .iload 5, 2, 0, 5, 0, 0, []),
  (73, .ifCond .le 11, 3, 0, 84, 0, 0, []),
  (76, .bipush 32, 2, 32, 0, 0, 0, []),
  (78, .iload 5, 2, 0, 5, 0, 0, []),
  (80, .ishr, 1, 0, 0, 0, 0, []),
  (81, .goto 4, 3, 0, 85, 0, 0, []),
  (84, .iconst 0, 1, 0, 0, 0, 0, []),
  (85, .iadd, 1, 0, 0, 0, 0, []),
  (86, .istore_n 2, 1, 0, 2, 0, 0, []),
  (87, .iinc 3 1, 3, 1, 3, 0, 0, []),
  (90, .goto (-86), 3, 0, 4, 0, 0, []),
  (93, .return_, 1, 0, 0, 0, 0, [])]
def am_c50 : List (Nat × am_Row) := am_c50_0 ++ (am_c50_1)
/-- BrotliWords$Finder.<init>(LBrotliWords$Bytes;LBrotliWords$Words;)V -/
def am_c51_0 : List (Nat × am_Row) := [(0, .aload_n 0, 1, 0, 0, 0, 0, []),
  (1, .invokespecial 3, 3, 0, 900, 1, 0, []),
  (4, .aload_n 0, 1, 0, 0, 0, 0, []),
  (5, .sipush 2000, 3, 2000, 0, 0, 0, []),
  (8, .newarray .int, 2, 0, 35, 0, 0, []),
  (10, .putfield 9, 3, 0, 6, 0, 1, []),
  (13, .aload_n 0, 1, 0, 0, 0, 0, []),
  (14, .sipush 2000, 3, 2000, 0, 0, 0, []),
  (17, .newarray .int, 2, 0, 36, 0, 0, []),
  (19, .putfield 15, 3, 0, 6, 1, 1, []),
  (22, .aload_n 0, 1, 0, 0, 0, 0, []),
  (23, .sipush 2000, 3, 2000, 0, 0, 0, []),
  (26, .newarray .int, 2, 0, 37, 0, 0, []),
  (28, .putfield 18, 3, 0, 6, 2, 1, []),
  (31, .aload_n 0, 1, 0, 0, 0, 0, []),
  (32, .sipush 2000, 3, 2000, 0, 0, 0, []),
  (35, .newarray .int, 2, 0, 38, 0, 0, []),
  (37, .putfield 21, 3, 0, 6, 3, 1, []),
  (40, .aload_n 0, 1, 0, 0, 0, 0, []),
  (41, .sipush 1024, 3, 1024, 0, 0, 0, []),
  (44, .newarray .int, 2, 0, 39, 0, 0, []),
  (46, .putfield 24, 3, 0, 6, 6, 1, []),
  (49, .aload_n 0, 1, 0, 0, 0, 0, []),
  (50, .sipush 2000, 3, 2000, 0, 0, 0, []),
  (53, .newarray .int, 2, 0, 40, 0, 0, []),
  (55, .putfield 27, 3, 0, 6, 7, 1, []),
  (58, .aload_n 0, 1, 0, 0, 0, 0, []),
  (59, .sipush 256, 3, 256, 0, 0, 0, []),
  (62, .newarray .int, 2, 0, 41, 0, 0, []),
  (64, .putfield 30, 3, 0, 6, 8, 1, []),
  (67, .aload_n 0, 1, 0, 0, 0, 0, []),
  (68, .sipush 1344, 3, 1344, 0, 0, 0, []),
  (71, .newarray .int, 2, 0, 42, 0, 0, []),
  (73, .putfield 33, 3, 0, 6, 9, 1, []),
  (76, .aload_n 0, 1, 0, 0, 0, 0, []),
  (77, .aload_n 1, 1, 0, 1, 0, 0, []),
  (78, .putfield 36, 3, 0, 6, 4, 1, []),
  (81, .aload_n 0, 1, 0, 0, 0, 0, []),
  (82, .aload_n 2, 1, 0, 2, 0, 0, []),
  (83, .putfield 40, 3, 0, 6, 5, 1, [])]
def am_c51_1 : List (Nat × am_Row) := [(86, .return_, 1, 0, 0, 0, 0, [])]
def am_c51 : List (Nat × am_Row) := am_c51_0 ++ (am_c51_1)
/-- BrotliWords$Finder.start()V -/
def am_c52_0 : List (Nat × am_Row) := [(0, .aload_n 0, 1, 0, 0, 0, 0, []),
  (1, .aload_n 0, 1, 0, 0, 0, 0, []),
  (2, .getfield 36, 3, 0, 6, 4, 1, []),
  (5, .getfield 44, 3, 0, 2, 1, 0, []),
  (8, .sipush 2000, 3, 2000, 0, 0, 0, []),
  (11, .invokestatic 50, 3, 0, 903, 2, 0, []),
  (14, .putfield 56, 3, 0, 6, 11, 0, []),
  (17, .aload_n 0, 1, 0, 0, 0, 0, []),
  (18, .iconst 0, 1, 0, 0, 0, 0, []),
  (19, .putfield 57, 3, 0, 6, 10, 0, []),
  (22, .aload_n 0, 1, 0, 0, 0, 0, []),
  (23, .getfield 24, 3, 0, 6, 6, 1, []),
  (26, .iconst (-1), 1, (-1), 0, 0, 0, []),
  (27, .invokestatic 60, 3, 0, 260, 2, 999, []),
  (30, .aload_n 0, 1, 0, 0, 0, 0, []),
  (31, .getfield 30, 3, 0, 6, 8, 1, []),
  (34, .iconst (-1), 1, (-1), 0, 0, 0, []),
  (35, .invokestatic 60, 3, 0, 260, 2, 999, []),
  (38, .iconst 4, 1, 4, 0, 0, 0, []),
  (39, .istore_n 1, 1, 0, 1, 0, 0, []),
  (40, .iload_n 1, 1, 0, 1, 0, 0, []),
  (41, .bipush 10, 2, 10, 0, 0, 0, []),
  (43, .if_icmp .gt 108, 3, 0, 151, 0, 0, []),
  (46, .iconst 0, 1, 0, 0, 0, 0, []),
  (47, .istore_n 2, 1, 0, 2, 0, 0, []),
  (48, .iload_n 2, 1, 0, 2, 0, 0, []),
  (49, .aload_n 0, 1, 0, 0, 0, 0, []),
  (50, .getfield 40, 3, 0, 6, 5, 1, []),
  (53, .iload_n 1, 1, 0, 1, 0, 0, []),
  (54, .invokevirtual 66, 3, 0, 109, 2, 10, []),
  (57, .if_icmp .ge 88, 3, 0, 145, 0, 0, []),
  (60, .iconst 0, 1, 0, 0, 0, 0, []),
  (61, .istore_n 3, 1, 0, 3, 0, 0, []),
  (62, .iload_n 3, 1, 0, 3, 0, 0, []),
  (63, .bipush 6, 2, 6, 0, 0, 0, []),
  (65, .if_icmp .ge 74, 3, 0, 139, 0, 0, []),
  (68, .iload_n 1, 1, 0, 1, 0, 0, []),
  (69, .iconst 4, 1, 4, 0, 0, 0, []),
  (70, .isub, 1, 0, 0, 0, 0, []),
  (71, .bipush 32, 2, 32, 0, 0, 0, [])]
def am_c52_1 : List (Nat × am_Row) := [(73, .imul, 1, 0, 0, 0, 0, []),
  (74, .iload_n 2, 1, 0, 2, 0, 0, []),
  (75, .iadd, 1, 0, 0, 0, 0, []),
  (76, .bipush 6, 2, 6, 0, 0, 0, []),
  (78, .imul, 1, 0, 0, 0, 0, []),
  (79, .iload_n 3, 1, 0, 3, 0, 0, []),
  (80, .iadd, 1, 0, 0, 0, 0, []),
  (81, .istore 4, 2, 0, 4, 0, 0, []),
  (83, .aload_n 0, 1, 0, 0, 0, 0, []),
  (84, .getfield 40, 3, 0, 6, 5, 1, []),
  (87, .iload_n 1, 1, 0, 1, 0, 0, []),
  (88, .iload_n 2, 1, 0, 2, 0, 0, []),
  (89, .iload_n 3, 1, 0, 3, 0, 0, []),
  (90, .iconst 0, 1, 0, 0, 0, 0, []),
  (91, .invokevirtual 72, 3, 0, 116, 5, 10, []),
  (94, .aload_n 0, 1, 0, 0, 0, 0, []),
  (95, .getfield 40, 3, 0, 6, 5, 1, []),
  (98, .iload_n 1, 1, 0, 1, 0, 0, []),
  (99, .iload_n 2, 1, 0, 2, 0, 0, []),
  (100, .iload_n 3, 1, 0, 3, 0, 0, []),
  (101, .iconst 1, 1, 1, 0, 0, 0, []),
  (102, .invokevirtual 72, 3, 0, 116, 5, 10, []),
  (105, .invokestatic 76, 3, 0, 54, 2, 999, []),
  (108, .istore 5, 2, 0, 5, 0, 0, []),
  (110, .aload_n 0, 1, 0, 0, 0, 0, []),
  (111, .getfield 33, 3, 0, 6, 9, 1, []),
  (114, .iload 4, 2, 0, 4, 0, 0, []),
  (116, .aload_n 0, 1, 0, 0, 0, 0, []),
  (117, .getfield 30, 3, 0, 6, 8, 1, []),
  (120, .iload 5, 2, 0, 5, 0, 0, []),
  (122, .iaload, 1, 0, 0, 0, 0, []),
  (123, .iastore, 1, 0, 0, 0, 0, []),
  (124, .aload_n 0, 1, 0, 0, 0, 0, []),
  (125, .getfield 30, 3, 0, 6, 8, 1, []),
  (128, .iload 5, 2, 0, 5, 0, 0, []),
  (130, .iload 4, 2, 0, 4, 0, 0, []),
  (132, .iastore, 1, 0, 0, 0, 0, []),
  (133, .iinc 3 1, 3, 1, 3, 0, 0, []),
  (136, .goto (-74), 3, 0, 62, 0, 0, []),
  (139, .iinc 2 1, 3, 1, 2, 0, 0, [])]
def am_c52_2 : List (Nat × am_Row) := [(142, .goto (-94), 3, 0, 48, 0, 0, []),
  (145, .iinc 1 1, 3, 1, 1, 0, 0, []),
  (148, .goto (-108), 3, 0, 40, 0, 0, []),
  (151, .return_, 1, 0, 0, 0, 0, [])]
def am_c52 : List (Nat × am_Row) := am_c52_0 ++ (am_c52_1 ++ (am_c52_2))
/-- BrotliWords$Finder.look(I)V -/
def am_c53_0 : List (Nat × am_Row) := [(0, .iload_n 1, 1, 0, 1, 0, 0, []),
  (1, .ifCond .lt 11, 3, 0, 12, 0, 0, []),
  (4, .iload_n 1, 1, 0, 1, 0, 0, []),
  (5, .aload_n 0, 1, 0, 0, 0, 0, []),
  (6, .getfield 56, 3, 0, 6, 11, 0, []),
  (9, .if_icmp .lt 4, 3, 0, 13, 0, 0, []),
  (12, .return_, 1, 0, 0, 0, 0, []),
  (13, .aload_n 0, 1, 0, 0, 0, 0, []),
  (14, .getfield 57, 3, 0, 6, 10, 0, []),
  (17, .iload_n 1, 1, 0, 1, 0, 0, []),
  (18, .if_icmp .ge 50, 3, 0, 68, 0, 0, []),
  (21, .aload_n 0, 1, 0, 0, 0, 0, []),
  (22, .aload_n 0, 1, 0, 0, 0, 0, []),
  (23, .getfield 57, 3, 0, 6, 10, 0, []),
  (26, .invokevirtual 79, 3, 0, 55, 2, 6, []),
  (29, .istore_n 2, 1, 0, 2, 0, 0, []),
  (30, .aload_n 0, 1, 0, 0, 0, 0, []),
  (31, .getfield 27, 3, 0, 6, 7, 1, []),
  (34, .aload_n 0, 1, 0, 0, 0, 0, []),
  (35, .getfield 57, 3, 0, 6, 10, 0, []),
  (38, .aload_n 0, 1, 0, 0, 0, 0, []),
  (39, .getfield 24, 3, 0, 6, 6, 1, []),
  (42, .iload_n 2, 1, 0, 2, 0, 0, []),
  (43, .iaload, 1, 0, 0, 0, 0, []),
  (44, .iastore, 1, 0, 0, 0, 0, []),
  (45, .aload_n 0, 1, 0, 0, 0, 0, []),
  (46, .getfield 24, 3, 0, 6, 6, 1, []),
  (49, .iload_n 2, 1, 0, 2, 0, 0, []),
  (50, .aload_n 0, 1, 0, 0, 0, 0, []),
  (51, .getfield 57, 3, 0, 6, 10, 0, []),
  (54, .iastore, 1, 0, 0, 0, 0, []),
  (55, .aload_n 0, 1, 0, 0, 0, 0, []),
  (56, .dup, 1, 0, 0, 0, 0, []),
  (57, .getfield 57, 3, 0, 6, 10, 0, []),
  (60, .iconst 1, 1, 1, 0, 0, 0, []),
  (61, .iadd, 1, 0, 0, 0, 0, []),
  (62, .putfield 57, 3, 0, 6, 10, 0, []),
  (65, .goto (-52), 3, 0, 13, 0, 0, []),
  (68, .aload_n 0, 1, 0, 0, 0, 0, []),
  (69, .iload_n 1, 1, 0, 1, 0, 0, [])]
def am_c53_1 : List (Nat × am_Row) := [(70, .invokevirtual 82, 3, 0, 56, 2, 6, []),
  (73, .aload_n 0, 1, 0, 0, 0, 0, []),
  (74, .getfield 18, 3, 0, 6, 2, 1, []),
  (77, .iload_n 1, 1, 0, 1, 0, 0, []),
  (78, .iconst 0, 1, 0, 0, 0, 0, []),
  (79, .iastore, 1, 0, 0, 0, 0, []),
  (80, .aload_n 0, 1, 0, 0, 0, 0, []),
  (81, .getfield 21, 3, 0, 6, 3, 1, []),
  (84, .iload_n 1, 1, 0, 1, 0, 0, []),
  (85, .iconst 0, 1, 0, 0, 0, 0, []),
  (86, .iastore, 1, 0, 0, 0, 0, []),
  (87, .aload_n 0, 1, 0, 0, 0, 0, []),
  (88, .iload_n 1, 1, 0, 1, 0, 0, []),
  (89, .iload_n 1, 1, 0, 1, 0, 0, []),
  (90, .iconst 0, 1, 0, 0, 0, 0, []),
  (91, .invokevirtual 86, 3, 0, 58, 4, 6, []),
  (94, .aload_n 0, 1, 0, 0, 0, 0, []),
  (95, .getfield 36, 3, 0, 6, 4, 1, []),
  (98, .iload_n 1, 1, 0, 1, 0, 0, []),
  (99, .invokevirtual 90, 3, 0, 15, 2, 2, []),
  (102, .bipush 32, 2, 32, 0, 0, 0, []),
  (104, .if_icmp .ne 12, 3, 0, 116, 0, 0, []),
  (107, .aload_n 0, 1, 0, 0, 0, 0, []),
  (108, .iload_n 1, 1, 0, 1, 0, 0, []),
  (109, .iload_n 1, 1, 0, 1, 0, 0, []),
  (110, .iconst 1, 1, 1, 0, 0, 0, []),
  (111, .iadd, 1, 0, 0, 0, 0, []),
  (112, .iconst 1, 1, 1, 0, 0, 0, []),
  (113, .invokevirtual 86, 3, 0, 58, 4, 6, []),
  (116, .return_, 1, 0, 0, 0, 0, [])]
def am_c53 : List (Nat × am_Row) := am_c53_0 ++ (am_c53_1)
/-- BrotliWords$Finder.pairHash(II)I -/
def am_c54 : List (Nat × am_Row) := [(0, .bipush 33, 2, 33, 0, 0, 0, []),
  (2, .iload_n 0, 1, 0, 0, 0, 0, []),
  (3, .imul, 1, 0, 0, 0, 0, []),
  (4, .iload_n 1, 1, 0, 1, 0, 0, []),
  (5, .iadd, 1, 0, 0, 0, 0, []),
  (6, .sipush 255, 3, 255, 0, 0, 0, []),
  (9, .iand, 1, 0, 0, 0, 0, []),
  (10, .ireturn, 1, 0, 0, 0, 0, [])]
/-- BrotliWords$Finder.hash(I)I -/
def am_c55 : List (Nat × am_Row) := [(0, .aload_n 0, 1, 0, 0, 0, 0, []),
  (1, .getfield 36, 3, 0, 6, 4, 1, []),
  (4, .iload_n 1, 1, 0, 1, 0, 0, []),
  (5, .invokevirtual 90, 3, 0, 15, 2, 2, []),
  (8, .bipush 33, 2, 33, 0, 0, 0, []),
  (10, .aload_n 0, 1, 0, 0, 0, 0, []),
  (11, .getfield 36, 3, 0, 6, 4, 1, []),
  (14, .iload_n 1, 1, 0, 1, 0, 0, []),
  (15, .iconst 1, 1, 1, 0, 0, 0, []),
  (16, .iadd, 1, 0, 0, 0, 0, []),
  (17, .invokevirtual 90, 3, 0, 15, 2, 2, []),
  (20, .imul, 1, 0, 0, 0, 0, []),
  (21, .iadd, 1, 0, 0, 0, 0, []),
  (22, .sipush 1025, 3, 1025, 0, 0, 0, []),
  (25, .aload_n 0, 1, 0, 0, 0, 0, []),
  (26, .getfield 36, 3, 0, 6, 4, 1, []),
  (29, .iload_n 1, 1, 0, 1, 0, 0, []),
  (30, .iconst 2, 1, 2, 0, 0, 0, []),
  (31, .iadd, 1, 0, 0, 0, 0, []),
  (32, .invokevirtual 90, 3, 0, 15, 2, 2, []),
  (35, .imul, 1, 0, 0, 0, 0, []),
  (36, .iadd, 1, 0, 0, 0, 0, []),
  (37, .sipush 4099, 3, 4099, 0, 0, 0, []),
  (40, .aload_n 0, 1, 0, 0, 0, 0, []),
  (41, .getfield 36, 3, 0, 6, 4, 1, []),
  (44, .iload_n 1, 1, 0, 1, 0, 0, []),
  (45, .iconst 3, 1, 3, 0, 0, 0, []),
  (46, .iadd, 1, 0, 0, 0, 0, []),
  (47, .invokevirtual 90, 3, 0, 15, 2, 2, []),
  (50, .imul, 1, 0, 0, 0, 0, []),
  (51, .iadd, 1, 0, 0, 0, 0, []),
  (52, .istore_n 2, 1, 0, 2, 0, 0, []),
  (53, .iload_n 2, 1, 0, 2, 0, 0, []),
  (54, .iload_n 2, 1, 0, 2, 0, 0, []),
  (55, .bipush 10, 2, 10, 0, 0, 0, []),
  (57, .ishr, 1, 0, 0, 0, 0, []),
  (58, .ixor, 1, 0, 0, 0, 0, []),
  (59, .sipush 1023, 3, 1023, 0, 0, 0, []),
  (62, .iand, 1, 0, 0, 0, 0, []),
  (63, .ireturn, 1, 0, 0, 0, 0, [])]
/-- BrotliWords$Finder.findCopy(I)V -/
def am_c56_0 : List (Nat × am_Row) := [(0, .sipush 200, 3, 200, 0, 0, 0, []),
  (3, .aload_n 0, 1, 0, 0, 0, 0, []),
  (4, .getfield 56, 3, 0, 6, 11, 0, []),
  (7, .iload_n 1, 1, 0, 1, 0, 0, []),
  (8, .isub, 1, 0, 0, 0, 0, []),
  (9, .invokestatic 50, 3, 0, 903, 2, 0, []),
  (12, .istore_n 2, 1, 0, 2, 0, 0, []),
  (13, .iconst 3, 1, 3, 0, 0, 0, []),
  (14, .istore_n 3, 1, 0, 3, 0, 0, []),
  (15, .iconst 0, 1, 0, 0, 0, 0, []),
  (16, .istore 4, 2, 0, 4, 0, 0, []),
  (18, .iload_n 2, 1, 0, 2, 0, 0, []),
  (19, .iconst 4, 1, 4, 0, 0, 0, []),
  (20, .if_icmp .ge 7, 3, 0, 27, 0, 0, []),
  (23, .iconst (-1), 1, (-1), 0, 0, 0, []),
  (24, .goto 13, 3, 0, 37, 0, 0, []),
  (27, .aload_n 0, 1, 0, 0, 0, 0, []),
  (28, .getfield 24, 3, 0, 6, 6, 1, []),
  (31, .aload_n 0, 1, 0, 0, 0, 0, []),
  (32, .iload_n 1, 1, 0, 1, 0, 0, []),
  (33, .invokevirtual 79, 3, 0, 55, 2, 6, []),
  (36, .iaload, 1, 0, 0, 0, 0, []),
  (37, .istore 5, 2, 0, 5, 0, 0, []),
  (39, .iconst 0, 1, 0, 0, 0, 0, []),
  (40, .istore 6, 2, 0, 6, 0, 0, []),
  (42, .iload 6, 2, 0, 6, 0, 0, []),
  (44, .sipush 2000, 3, 2000, 0, 0, 0, []),
  (47, .if_icmp .ge 79, 3, 0, 126, 0, 0, []),
  (50, .iload 5, 2, 0, 5, 0, 0, []),
  (52, .ifCond .lt 74, 3, 0, 126, 0, 0, []),
  (55, .iload_n 3, 1, 0, 3, 0, 0, []),
  (56, .iload_n 2, 1, 0, 2, 0, 0, []),
  (57, .if_icmp .ge 69, 3, 0, 126, 0, 0, []),
  (60, .aload_n 0, 1, 0, 0, 0, 0, []),
  (61, .getfield 36, 3, 0, 6, 4, 1, []),
  (64, .getfield 93, 3, 0, 2, 0, 1, []),
  (67, .iload 5, 2, 0, 5, 0, 0, []),
  (69, .iload_n 3, 1, 0, 3, 0, 0, []),
  (70, .iadd, 1, 0, 0, 0, 0, []),
  (71, .baload, 1, 0, 0, 0, 0, [])]
def am_c56_1 : List (Nat × am_Row) := [(72, .aload_n 0, 1, 0, 0, 0, 0, []),
  (73, .getfield 36, 3, 0, 6, 4, 1, []),
  (76, .getfield 93, 3, 0, 2, 0, 1, []),
  (79, .iload_n 1, 1, 0, 1, 0, 0, []),
  (80, .iload_n 3, 1, 0, 3, 0, 0, []),
  (81, .iadd, 1, 0, 0, 0, 0, []),
  (82, .baload, 1, 0, 0, 0, 0, []),
  (83, .if_icmp .ne 28, 3, 0, 111, 0, 0, []),
  (86, .aload_n 0, 1, 0, 0, 0, 0, []),
  (87, .iload 5, 2, 0, 5, 0, 0, []),
  (89, .iload_n 1, 1, 0, 1, 0, 0, []),
  (90, .iload_n 2, 1, 0, 2, 0, 0, []),
  (91, .invokevirtual 97, 3, 0, 57, 4, 6, []),
  (94, .istore 7, 2, 0, 7, 0, 0, []),
  (96, .iload 7, 2, 0, 7, 0, 0, []),
  (98, .iload_n 3, 1, 0, 3, 0, 0, []),
  (99, .if_icmp .le 12, 3, 0, 111, 0, 0, []),
  (102, .iload 7, 2, 0, 7, 0, 0, []),
  (104, .istore_n 3, 1, 0, 3, 0, 0, []),
  (105, .iload_n 1, 1, 0, 1, 0, 0, []),
  (106, .iload 5, 2, 0, 5, 0, 0, []),
  (108, .isub, 1, 0, 0, 0, 0, []),
  (109, .istore 4, 2, 0, 4, 0, 0, []),
  (111, .aload_n 0, 1, 0, 0, 0, 0, []),
  (112, .getfield 27, 3, 0, 6, 7, 1, []),
  (115, .iload 5, 2, 0, 5, 0, 0, []),
  (117, .iaload, 1, 0, 0, 0, 0, []),
  (118, .istore 5, 2, 0, 5, 0, 0, []),
  (120, .iinc 6 1, 3, 1, 6, 0, 0, []),
  (123, .goto (-81), 3, 0, 42, 0, 0, []),
  (126, .aload_n 0, 1, 0, 0, 0, 0, []),
  (127, .getfield 9, 3, 0, 6, 0, 1, []),
  (130, .iload_n 1, 1, 0, 1, 0, 0, []),
  (131, .iload 4, 2, 0, 4, 0, 0, []),
  (133, .ifCond .le 7, 3, 0, 140, 0, 0, []),
  (136, .iload_n 3, 1, 0, 3, 0, 0, []),
  (137, .goto 4, 3, 0, 141, 0, 0, []),
  (140, .iconst 0, 1, 0, 0, 0, 0, []),
  (141, .iastore, 1, 0, 0, 0, 0, []),
  (142, .aload_n 0, 1, 0, 0, 0, 0, [])]
def am_c56_2 : List (Nat × am_Row) := [(143, .getfield 15, 3, 0, 6, 1, 1, []),
  (146, .iload_n 1, 1, 0, 1, 0, 0, []),
  (147, .iload 4, 2, 0, 4, 0, 0, []),
  (149, .iastore, 1, 0, 0, 0, 0, []),
  (150, .return_, 1, 0, 0, 0, 0, [])]
def am_c56 : List (Nat × am_Row) := am_c56_0 ++ (am_c56_1 ++ (am_c56_2))
/-- BrotliWords$Finder.sameBytes(III)I -/
def am_c57 : List (Nat × am_Row) := [(0, .iconst 0, 1, 0, 0, 0, 0, []),
  (1, .istore 4, 2, 0, 4, 0, 0, []),
  (3, .iconst 0, 1, 0, 0, 0, 0, []),
  (4, .istore 5, 2, 0, 5, 0, 0, []),
  (6, .iload 5, 2, 0, 5, 0, 0, []),
  (8, .iload_n 3, 1, 0, 3, 0, 0, []),
  (9, .if_icmp .ge 39, 3, 0, 48, 0, 0, []),
  (12, .aload_n 0, 1, 0, 0, 0, 0, []),
  (13, .getfield 36, 3, 0, 6, 4, 1, []),
  (16, .getfield 93, 3, 0, 2, 0, 1, []),
  (19, .iload_n 1, 1, 0, 1, 0, 0, []),
  (20, .iload 5, 2, 0, 5, 0, 0, []),
  (22, .iadd, 1, 0, 0, 0, 0, []),
  (23, .baload, 1, 0, 0, 0, 0, []),
  (24, .aload_n 0, 1, 0, 0, 0, 0, []),
  (25, .getfield 36, 3, 0, 6, 4, 1, []),
  (28, .getfield 93, 3, 0, 2, 0, 1, []),
  (31, .iload_n 2, 1, 0, 2, 0, 0, []),
  (32, .iload 5, 2, 0, 5, 0, 0, []),
  (34, .iadd, 1, 0, 0, 0, 0, []),
  (35, .baload, 1, 0, 0, 0, 0, []),
  (36, .if_icmp .ne 12, 3, 0, 48, 0, 0, []),
  (39, .iinc 4 1, 3, 1, 4, 0, 0, []),
  (42, .iinc 5 1, 3, 1, 5, 0, 0, []),
  (45, .goto (-39), 3, 0, 6, 0, 0, []),
  (48, .iload 4, 2, 0, 4, 0, 0, []),
  (50, .ireturn, 1, 0, 0, 0, 0, [])]
/-- BrotliWords$Finder.findWord(IIZ)V -/
def am_c58_0 : List (Nat × am_Row) := [(0, .iload_n 2, 1, 0, 2, 0, 0, []),
  (1, .iconst 1, 1, 1, 0, 0, 0, []),
  (2, .iadd, 1, 0, 0, 0, 0, []),
  (3, .aload_n 0, 1, 0, 0, 0, 0, []),
  (4, .getfield 56, 3, 0, 6, 11, 0, []),
  (7, .if_icmp .lt 4, 3, 0, 11, 0, 0, []),
  (10, .return_, 1, 0, 0, 0, 0, []),
  (11, .aload_n 0, 1, 0, 0, 0, 0, []),
  (12, .getfield 30, 3, 0, 6, 8, 1, []),
  (15, .aload_n 0, 1, 0, 0, 0, 0, []),
  (16, .getfield 36, 3, 0, 6, 4, 1, []),
  (19, .iload_n 2, 1, 0, 2, 0, 0, []),
  (20, .invokevirtual 90, 3, 0, 15, 2, 2, []),
  (23, .aload_n 0, 1, 0, 0, 0, 0, []),
  (24, .getfield 36, 3, 0, 6, 4, 1, []),
  (27, .iload_n 2, 1, 0, 2, 0, 0, []),
  (28, .iconst 1, 1, 1, 0, 0, 0, []),
  (29, .iadd, 1, 0, 0, 0, 0, []),
  (30, .invokevirtual 90, 3, 0, 15, 2, 2, []),
  (33, .invokestatic 76, 3, 0, 54, 2, 999, []),
  (36, .iaload, 1, 0, 0, 0, 0, []),
  (37, .istore 4, 2, 0, 4, 0, 0, []),
  (39, .iconst 0, 1, 0, 0, 0, 0, []),
  (40, .istore 5, 2, 0, 5, 0, 0, []),
  (42, .iload 5, 2, 0, 5, 0, 0, []),
  (44, .aload_n 0, 1, 0, 0, 0, 0, []),
  (45, .getfield 33, 3, 0, 6, 9, 1, []),
  (48, .arraylength, 1, 0, 0, 0, 0, []),
  (49, .if_icmp .ge 100, 3, 0, 149, 0, 0, []),
  (52, .iload 4, 2, 0, 4, 0, 0, []),
  (54, .ifCond .lt 95, 3, 0, 149, 0, 0, []),
  (57, .iload 4, 2, 0, 4, 0, 0, []),
  (59, .bipush 6, 2, 6, 0, 0, 0, []),
  (61, .irem, 1, 0, 0, 0, 0, []),
  (62, .istore 6, 2, 0, 6, 0, 0, []),
  (64, .iconst 4, 1, 4, 0, 0, 0, []),
  (65, .iload 4, 2, 0, 4, 0, 0, []),
  (67, .bipush 6, 2, 6, 0, 0, 0, []),
  (69, .idiv, 1, 0, 0, 0, 0, []),
  (70, .bipush 32, 2, 32, 0, 0, 0, [])]
def am_c58_1 : List (Nat × am_Row) := [(72, .idiv, 1, 0, 0, 0, 0, []),
  (73, .iadd, 1, 0, 0, 0, 0, []),
  (74, .istore 7, 2, 0, 7, 0, 0, []),
  (76, .iload_n 2, 1, 0, 2, 0, 0, []),
  (77, .iload 7, 2, 0, 7, 0, 0, []),
  (79, .iload 6, 2, 0, 6, 0, 0, []),
  (81, .invokestatic 101, 3, 0, 115, 2, 999, []),
  (84, .iadd, 1, 0, 0, 0, 0, []),
  (85, .istore 8, 2, 0, 8, 0, 0, []),
  (87, .iload 8, 2, 0, 8, 0, 0, []),
  (89, .aload_n 0, 1, 0, 0, 0, 0, []),
  (90, .getfield 56, 3, 0, 6, 11, 0, []),
  (93, .if_icmp .gt 41, 3, 0, 134, 0, 0, []),
  (96, .aload_n 0, 1, 0, 0, 0, 0, []),
  (97, .iload 4, 2, 0, 4, 0, 0, []),
  (99, .iload_n 2, 1, 0, 2, 0, 0, []),
  (100, .iload 8, 2, 0, 8, 0, 0, []),
  (102, .invokevirtual 104, 3, 0, 59, 4, 6, []),
  (105, .ifCond .eq 29, 3, 0, 134, 0, 0, []),
  (108, .iload_n 3, 1, 0, 3, 0, 0, []),
  (109, .ifCond .eq 16, 3, 0, 125, 0, 0, []),
  (112, .aload_n 0, 1, 0, 0, 0, 0, []),
  (113, .iload_n 1, 1, 0, 1, 0, 0, []),
  (114, .iload 8, 2, 0, 8, 0, 0, []),
  (116, .iload 4, 2, 0, 4, 0, 0, []),
  (118, .iconst 2, 1, 2, 0, 0, 0, []),
  (119, .invokevirtual 108, 3, 0, 61, 5, 6, []),
  (122, .goto 12, 3, 0, 134, 0, 0, []),
  (125, .aload_n 0, 1, 0, 0, 0, 0, []),
  (126, .iload_n 1, 1, 0, 1, 0, 0, []),
  (127, .iload 8, 2, 0, 8, 0, 0, []),
  (129, .iload 4, 2, 0, 4, 0, 0, []),
  (131, .invokevirtual 112, 3, 0, 60, 4, 6, []),
  (134, .aload_n 0, 1, 0, 0, 0, 0, []),
  (135, .getfield 33, 3, 0, 6, 9, 1, []),
  (138, .iload 4, 2, 0, 4, 0, 0, []),
  (140, .iaload, 1, 0, 0, 0, 0, []),
  (141, .istore 4, 2, 0, 4, 0, 0, []),
  (143, .iinc 5 1, 3, 1, 5, 0, 0, []),
  (146, .goto (-104), 3, 0, 42, 0, 0, [])]
def am_c58_2 : List (Nat × am_Row) := [(149, .return_, 1, 0, 0, 0, 0, [])]
def am_c58 : List (Nat × am_Row) := am_c58_0 ++ (am_c58_1 ++ (am_c58_2))
/-- BrotliWords$Finder.isCore(III)Z -/
def am_c59_0 : List (Nat × am_Row) := [(0, .iconst 4, 1, 4, 0, 0, 0, []),
  (1, .iload_n 1, 1, 0, 1, 0, 0, []),
  (2, .bipush 6, 2, 6, 0, 0, 0, []),
  (4, .idiv, 1, 0, 0, 0, 0, []),
  (5, .bipush 32, 2, 32, 0, 0, 0, []),
  (7, .idiv, 1, 0, 0, 0, 0, []),
  (8, .iadd, 1, 0, 0, 0, 0, []),
  (9, .istore 4, 2, 0, 4, 0, 0, []),
  (11, .iload_n 1, 1, 0, 1, 0, 0, []),
  (12, .bipush 6, 2, 6, 0, 0, 0, []),
  (14, .idiv, 1, 0, 0, 0, 0, []),
  (15, .bipush 32, 2, 32, 0, 0, 0, []),
  (17, .irem, 1, 0, 0, 0, 0, []),
  (18, .istore 5, 2, 0, 5, 0, 0, []),
  (20, .iload_n 2, 1, 0, 2, 0, 0, []),
  (21, .istore 6, 2, 0, 6, 0, 0, []),
  (23, .iload 6, 2, 0, 6, 0, 0, []),
  (25, .iload_n 3, 1, 0, 3, 0, 0, []),
  (26, .if_icmp .ge 42, 3, 0, 68, 0, 0, []),
  (29, .aload_n 0, 1, 0, 0, 0, 0, []),
  (30, .getfield 40, 3, 0, 6, 5, 1, []),
  (33, .iload 4, 2, 0, 4, 0, 0, []),
  (35, .iload 5, 2, 0, 5, 0, 0, []),
  (37, .iload_n 1, 1, 0, 1, 0, 0, []),
  (38, .bipush 6, 2, 6, 0, 0, 0, []),
  (40, .irem, 1, 0, 0, 0, 0, []),
  (41, .iload 6, 2, 0, 6, 0, 0, []),
  (43, .iload_n 2, 1, 0, 2, 0, 0, []),
  (44, .isub, 1, 0, 0, 0, 0, []),
  (45, .invokevirtual 72, 3, 0, 116, 5, 10, []),
  (48, .aload_n 0, 1, 0, 0, 0, 0, []),
  (49, .getfield 36, 3, 0, 6, 4, 1, []),
  (52, .iload 6, 2, 0, 6, 0, 0, []),
  (54, .invokevirtual 90, 3, 0, 15, 2, 2, []),
  (57, .if_icmp .eq 5, 3, 0, 62, 0, 0, []),
  (60, .iconst 0, 1, 0, 0, 0, 0, []),
  (61, .ireturn, 1, 0, 1, 0, 0, []),
  (62, .iinc 6 1, 3, 1, 6, 0, 0, []),
  (65, .goto (-42), 3, 0, 23, 0, 0, []),
  (68, .iconst 1, 1, 1, 0, 0, 0, [])]
def am_c59_1 : List (Nat × am_Row) := [(69, .ireturn, 1, 0, 1, 0, 0, [])]
def am_c59 : List (Nat × am_Row) := am_c59_0 ++ (am_c59_1)
/-- BrotliWords$Finder.offerBehind(III)V -/
def am_c60_0 : List (Nat × am_Row) := [(0, .aload_n 0, 1, 0, 0, 0, 0, []),
  (1, .iload_n 1, 1, 0, 1, 0, 0, []),
  (2, .iload_n 2, 1, 0, 2, 0, 0, []),
  (3, .iload_n 3, 1, 0, 3, 0, 0, []),
  (4, .iconst 0, 1, 0, 0, 0, 0, []),
  (5, .invokevirtual 108, 3, 0, 61, 5, 6, []),
  (8, .iload_n 2, 1, 0, 2, 0, 0, []),
  (9, .aload_n 0, 1, 0, 0, 0, 0, []),
  (10, .getfield 56, 3, 0, 6, 11, 0, []),
  (13, .if_icmp .ge 26, 3, 0, 39, 0, 0, []),
  (16, .aload_n 0, 1, 0, 0, 0, 0, []),
  (17, .getfield 36, 3, 0, 6, 4, 1, []),
  (20, .iload_n 2, 1, 0, 2, 0, 0, []),
  (21, .invokevirtual 90, 3, 0, 15, 2, 2, []),
  (24, .bipush 32, 2, 32, 0, 0, 0, []),
  (26, .if_icmp .ne 13, 3, 0, 39, 0, 0, []),
  (29, .aload_n 0, 1, 0, 0, 0, 0, []),
  (30, .iload_n 1, 1, 0, 1, 0, 0, []),
  (31, .iload_n 2, 1, 0, 2, 0, 0, []),
  (32, .iconst 1, 1, 1, 0, 0, 0, []),
  (33, .iadd, 1, 0, 0, 0, 0, []),
  (34, .iload_n 3, 1, 0, 3, 0, 0, []),
  (35, .iconst 1, 1, 1, 0, 0, 0, []),
  (36, .invokevirtual 108, 3, 0, 61, 5, 6, []),
  (39, .iload_n 2, 1, 0, 2, 0, 0, []),
  (40, .iconst 1, 1, 1, 0, 0, 0, []),
  (41, .iadd, 1, 0, 0, 0, 0, []),
  (42, .aload_n 0, 1, 0, 0, 0, 0, []),
  (43, .getfield 56, 3, 0, 6, 11, 0, []),
  (46, .if_icmp .ge 41, 3, 0, 87, 0, 0, []),
  (49, .aload_n 0, 1, 0, 0, 0, 0, []),
  (50, .getfield 36, 3, 0, 6, 4, 1, []),
  (53, .iload_n 2, 1, 0, 2, 0, 0, []),
  (54, .invokevirtual 90, 3, 0, 15, 2, 2, []),
  (57, .bipush 44, 2, 44, 0, 0, 0, []),
  (59, .if_icmp .ne 28, 3, 0, 87, 0, 0, []),
  (62, .aload_n 0, 1, 0, 0, 0, 0, []),
  (63, .getfield 36, 3, 0, 6, 4, 1, []),
  (66, .iload_n 2, 1, 0, 2, 0, 0, []),
  (67, .iconst 1, 1, 1, 0, 0, 0, [])]
def am_c60_1 : List (Nat × am_Row) := [(68, .iadd, 1, 0, 0, 0, 0, []),
  (69, .invokevirtual 90, 3, 0, 15, 2, 2, []),
  (72, .bipush 32, 2, 32, 0, 0, 0, []),
  (74, .if_icmp .ne 13, 3, 0, 87, 0, 0, []),
  (77, .aload_n 0, 1, 0, 0, 0, 0, []),
  (78, .iload_n 1, 1, 0, 1, 0, 0, []),
  (79, .iload_n 2, 1, 0, 2, 0, 0, []),
  (80, .iconst 2, 1, 2, 0, 0, 0, []),
  (81, .iadd, 1, 0, 0, 0, 0, []),
  (82, .iload_n 3, 1, 0, 3, 0, 0, []),
  (83, .iconst 3, 1, 3, 0, 0, 0, []),
  (84, .invokevirtual 108, 3, 0, 61, 5, 6, []),
  (87, .return_, 1, 0, 0, 0, 0, [])]
def am_c60 : List (Nat × am_Row) := am_c60_0 ++ (am_c60_1)
/-- BrotliWords$Finder.offer(IIII)V -/
def am_c61_0 : List (Nat × am_Row) := [(0, .iload_n 2, 1, 0, 2, 0, 0, []),
  (1, .iload_n 1, 1, 0, 1, 0, 0, []),
  (2, .isub, 1, 0, 0, 0, 0, []),
  (3, .istore 5, 2, 0, 5, 0, 0, []),
  (5, .iload_n 3, 1, 0, 3, 0, 0, []),
  (6, .bipush 6, 2, 6, 0, 0, 0, []),
  (8, .idiv, 1, 0, 0, 0, 0, []),
  (9, .bipush 24, 2, 24, 0, 0, 0, []),
  (11, .imul, 1, 0, 0, 0, 0, []),
  (12, .bipush 6, 2, 6, 0, 0, 0, []),
  (14, .iload 4, 2, 0, 4, 0, 0, []),
  (16, .imul, 1, 0, 0, 0, 0, []),
  (17, .iadd, 1, 0, 0, 0, 0, []),
  (18, .iload_n 3, 1, 0, 3, 0, 0, []),
  (19, .bipush 6, 2, 6, 0, 0, 0, []),
  (21, .irem, 1, 0, 0, 0, 0, []),
  (22, .iadd, 1, 0, 0, 0, 0, []),
  (23, .istore 6, 2, 0, 6, 0, 0, []),
  (25, .iload 5, 2, 0, 5, 0, 0, []),
  (27, .iconst 4, 1, 4, 0, 0, 0, []),
  (28, .if_icmp .lt 14, 3, 0, 42, 0, 0, []),
  (31, .iload 5, 2, 0, 5, 0, 0, []),
  (33, .aload_n 0, 1, 0, 0, 0, 0, []),
  (34, .getfield 18, 3, 0, 6, 2, 1, []),
  (37, .iload_n 1, 1, 0, 1, 0, 0, []),
  (38, .iaload, 1, 0, 0, 0, 0, []),
  (39, .if_icmp .ge 4, 3, 0, 43, 0, 0, []),
  (42, .return_, 1, 0, 0, 0, 0, []),
  (43, .iload 5, 2, 0, 5, 0, 0, []),
  (45, .aload_n 0, 1, 0, 0, 0, 0, []),
  (46, .getfield 18, 3, 0, 6, 2, 1, []),
  (49, .iload_n 1, 1, 0, 1, 0, 0, []),
  (50, .iaload, 1, 0, 0, 0, 0, []),
  (51, .if_icmp .gt 14, 3, 0, 65, 0, 0, []),
  (54, .iload 6, 2, 0, 6, 0, 0, []),
  (56, .aload_n 0, 1, 0, 0, 0, 0, []),
  (57, .getfield 21, 3, 0, 6, 3, 1, []),
  (60, .iload_n 1, 1, 0, 1, 0, 0, []),
  (61, .iaload, 1, 0, 0, 0, 0, []),
  (62, .if_icmp .ge 19, 3, 0, 81, 0, 0, [])]
def am_c61_1 : List (Nat × am_Row) := [(65, .aload_n 0, 1, 0, 0, 0, 0, []),
  (66, .getfield 18, 3, 0, 6, 2, 1, []),
  (69, .iload_n 1, 1, 0, 1, 0, 0, []),
  (70, .iload 5, 2, 0, 5, 0, 0, []),
  (72, .iastore, 1, 0, 0, 0, 0, []),
  (73, .aload_n 0, 1, 0, 0, 0, 0, []),
  (74, .getfield 21, 3, 0, 6, 3, 1, []),
  (77, .iload_n 1, 1, 0, 1, 0, 0, []),
  (78, .iload 6, 2, 0, 6, 0, 0, []),
  (80, .iastore, 1, 0, 0, 0, 0, []),
  (81, .return_, 1, 0, 0, 0, 0, [])]
def am_c61 : List (Nat × am_Row) := am_c61_0 ++ (am_c61_1)
/-- BrotliWords$Layout.<init>()V -/
def am_c62_0 : List (Nat × am_Row) := [(0, .aload_n 0, 1, 0, 0, 0, 0, []),
  (1, .invokespecial 3, 3, 0, 900, 1, 0, []),
  (4, .aload_n 0, 1, 0, 0, 0, 0, []),
  (5, .iconst 3, 1, 3, 0, 0, 0, []),
  (6, .newarray .int, 2, 0, 43, 0, 0, []),
  (8, .putfield 9, 3, 0, 7, 0, 1, []),
  (11, .aload_n 0, 1, 0, 0, 0, 0, []),
  (12, .iconst 2, 1, 2, 0, 0, 0, []),
  (13, .newarray .int, 2, 0, 44, 0, 0, []),
  (15, .putfield 15, 3, 0, 7, 1, 1, []),
  (18, .aload_n 0, 1, 0, 0, 0, 0, []),
  (19, .bipush 12, 2, 12, 0, 0, 0, []),
  (21, .newarray .int, 2, 0, 45, 0, 0, []),
  (23, .putfield 18, 3, 0, 7, 2, 1, []),
  (26, .aload_n 0, 1, 0, 0, 0, 0, []),
  (27, .sipush 768, 3, 768, 0, 0, 0, []),
  (30, .newarray .int, 2, 0, 46, 0, 0, []),
  (32, .putfield 21, 3, 0, 7, 3, 1, []),
  (35, .aload_n 0, 1, 0, 0, 0, 0, []),
  (36, .bipush 48, 2, 48, 0, 0, 0, []),
  (38, .newarray .int, 2, 0, 47, 0, 0, []),
  (40, .putfield 24, 3, 0, 7, 4, 1, []),
  (43, .aload_n 0, 1, 0, 0, 0, 0, []),
  (44, .bipush 12, 2, 12, 0, 0, 0, []),
  (46, .anewarray 27, 3, 0, 48, 0, 0, []),
  (49, .putfield 29, 3, 0, 7, 5, 1, []),
  (52, .aload_n 0, 1, 0, 0, 0, 0, []),
  (53, .bipush 12, 2, 12, 0, 0, 0, []),
  (55, .anewarray 27, 3, 0, 49, 0, 0, []),
  (58, .putfield 33, 3, 0, 7, 6, 1, []),
  (61, .aload_n 0, 1, 0, 0, 0, 0, []),
  (62, .bipush 12, 2, 12, 0, 0, 0, []),
  (64, .anewarray 27, 3, 0, 50, 0, 0, []),
  (67, .putfield 36, 3, 0, 7, 7, 1, []),
  (70, .iconst 0, 1, 0, 0, 0, 0, []),
  (71, .istore_n 1, 1, 0, 1, 0, 0, []),
  (72, .iload_n 1, 1, 0, 1, 0, 0, []),
  (73, .bipush 12, 2, 12, 0, 0, 0, []),
  (75, .if_icmp .ge 57, 3, 0, 132, 0, 0, []),
  (78, .aload_n 0, 1, 0, 0, 0, 0, [])]
def am_c62_1 : List (Nat × am_Row) := [(79, .getfield 29, 3, 0, 7, 5, 1, []),
  (82, .iload_n 1, 1, 0, 1, 0, 0, []),
  (83, .new 27, 3, 0, 3, 3, 0, []),
  (86, .dup, 1, 0, 0, 0, 0, []),
  (87, .sipush 256, 3, 256, 0, 0, 0, []),
  (90, .invokespecial 39, 3, 0, 21, 2, 3, []),
  (93, .aastore, 1, 0, 0, 0, 0, []),
  (94, .aload_n 0, 1, 0, 0, 0, 0, []),
  (95, .getfield 33, 3, 0, 7, 6, 1, []),
  (98, .iload_n 1, 1, 0, 1, 0, 0, []),
  (99, .new 27, 3, 0, 3, 3, 0, []),
  (102, .dup, 1, 0, 0, 0, 0, []),
  (103, .sipush 704, 3, 704, 0, 0, 0, []),
  (106, .invokespecial 39, 3, 0, 21, 2, 3, []),
  (109, .aastore, 1, 0, 0, 0, 0, []),
  (110, .aload_n 0, 1, 0, 0, 0, 0, []),
  (111, .getfield 36, 3, 0, 7, 7, 1, []),
  (114, .iload_n 1, 1, 0, 1, 0, 0, []),
  (115, .new 27, 3, 0, 3, 3, 0, []),
  (118, .dup, 1, 0, 0, 0, 0, []),
  (119, .sipush 520, 3, 520, 0, 0, 0, []),
  (122, .invokespecial 39, 3, 0, 21, 2, 3, []),
  (125, .aastore, 1, 0, 0, 0, 0, []),
  (126, .iinc 1 1, 3, 1, 1, 0, 0, []),
  (129, .goto (-57), 3, 0, 72, 0, 0, []),
  (132, .return_, 1, 0, 0, 0, 0, [])]
def am_c62 : List (Nat × am_Row) := am_c62_0 ++ (am_c62_1)
/-- BrotliWords$Layout.mapOf(I)[I -/
def am_c63 : List (Nat × am_Row) := [(0, .iload_n 1, 1, 0, 1, 0, 0, []),
  (1, .ifCond .ne 10, 3, 0, 11, 0, 0, []),
  (4, .aload_n 0, 1, 0, 0, 0, 0, []),
  (5, .getfield 21, 3, 0, 7, 3, 1, []),
  (8, .goto 7, 3, 0, 15, 0, 0, []),
  (11, .aload_n 0, 1, 0, 0, 0, 0, []),
  (12, .getfield 24, 3, 0, 7, 4, 1, []),
  (15, .areturn, 1, 0, 0, 0, 0, [])]
/-- BrotliWords$Layout.mapSize(I)I -/
def am_c64 : List (Nat × am_Row) := [(0, .iload_n 1, 1, 0, 1, 0, 0, []),
  (1, .ifCond .ne 15, 3, 0, 16, 0, 0, []),
  (4, .bipush 64, 2, 64, 0, 0, 0, []),
  (6, .aload_n 0, 1, 0, 0, 0, 0, []),
  (7, .getfield 9, 3, 0, 7, 0, 1, []),
  (10, .iconst 0, 1, 0, 0, 0, 0, []),
  (11, .iaload, 1, 0, 0, 0, 0, []),
  (12, .imul, 1, 0, 0, 0, 0, []),
  (13, .goto 11, 3, 0, 24, 0, 0, []),
  (16, .iconst 4, 1, 4, 0, 0, 0, []),
  (17, .aload_n 0, 1, 0, 0, 0, 0, []),
  (18, .getfield 9, 3, 0, 7, 0, 1, []),
  (21, .iconst 2, 1, 2, 0, 0, 0, []),
  (22, .iaload, 1, 0, 0, 0, 0, []),
  (23, .imul, 1, 0, 0, 0, 0, []),
  (24, .ireturn, 1, 0, 0, 0, 0, [])]
/-- BrotliWords$Layout.codesOf(I)I -/
def am_c65 : List (Nat × am_Row) := [(0, .iload_n 1, 1, 0, 1, 0, 0, []),
  (1, .iconst 1, 1, 1, 0, 0, 0, []),
  (2, .if_icmp .ne 12, 3, 0, 14, 0, 0, []),
  (5, .aload_n 0, 1, 0, 0, 0, 0, []),
  (6, .getfield 9, 3, 0, 7, 0, 1, []),
  (9, .iconst 1, 1, 1, 0, 0, 0, []),
  (10, .iaload, 1, 0, 0, 0, 0, []),
  (11, .goto 11, 3, 0, 22, 0, 0, []),
  (14, .aload_n 0, 1, 0, 0, 0, 0, []),
  (15, .getfield 15, 3, 0, 7, 1, 1, []),
  (18, .iload_n 1, 1, 0, 1, 0, 0, []),
  (19, .iconst 2, 1, 2, 0, 0, 0, []),
  (20, .idiv, 1, 0, 0, 0, 0, []),
  (21, .iaload, 1, 0, 0, 0, 0, []),
  (22, .ireturn, 1, 0, 0, 0, 0, [])]
/-- BrotliWords$Layout.signsOf(I)I -/
def am_c66 : List (Nat × am_Row) := [(0, .iload_n 1, 1, 0, 1, 0, 0, []),
  (1, .ifCond .ne 7, 3, 0, 8, 0, 0, []),
  (4, .sipush 256, 3, 256, 0, 0, 0, []),
  (7, .ireturn, 1, 0, 0, 0, 0, []),
  (8, .iload_n 1, 1, 0, 1, 0, 0, []),
  (9, .iconst 1, 1, 1, 0, 0, 0, []),
  (10, .if_icmp .ne 9, 3, 0, 19, 0, 0, []),
  (13, .sipush 704, 3, 704, 0, 0, 0, []),
  (16, .goto 18, 3, 0, 34, 0, 0, []),
  (19, .bipush 16, 2, 16, 0, 0, 0, []),
  (21, .aload_n 0, 1, 0, 0, 0, 0, []),
  (22, .getfield 42, 3, 0, 7, 9, 0, []),
  (25, .iadd, 1, 0, 0, 0, 0, []),
  (26, .bipush 48, 2, 48, 0, 0, 0, []),
  (28, .aload_n 0, 1, 0, 0, 0, 0, []),
  (29, .getfield 46, 3, 0, 7, 8, 0, []),
  (32, .ishl, 1, 0, 0, 0, 0, []),
  (33, .iadd, 1, 0, 0, 0, 0, []),
  (34, .ireturn, 1, 0, 0, 0, 0, [])]
/-- BrotliWords$Layout.code(II)LBrotliWords$Code; -/
def am_c67 : List (Nat × am_Row) := [(0, .iload_n 2, 1, 0, 2, 0, 0, []),
  (1, .iconst 0, 1, 0, 0, 0, 0, []),
  (2, .invokestatic 49, 3, 0, 902, 2, 0, []),
  (5, .bipush 11, 2, 11, 0, 0, 0, []),
  (7, .invokestatic 55, 3, 0, 903, 2, 0, []),
  (10, .istore_n 3, 1, 0, 3, 0, 0, []),
  (11, .iload_n 1, 1, 0, 1, 0, 0, []),
  (12, .ifCond .ne 10, 3, 0, 22, 0, 0, []),
  (15, .aload_n 0, 1, 0, 0, 0, 0, []),
  (16, .getfield 29, 3, 0, 7, 5, 1, []),
  (19, .iload_n 3, 1, 0, 3, 0, 0, []),
  (20, .aaload, 1, 0, 0, 0, 0, []),
  (21, .areturn, 1, 0, 0, 0, 0, []),
  (22, .iload_n 1, 1, 0, 1, 0, 0, []),
  (23, .iconst 1, 1, 1, 0, 0, 0, []),
  (24, .if_icmp .ne 12, 3, 0, 36, 0, 0, []),
  (27, .aload_n 0, 1, 0, 0, 0, 0, []),
  (28, .getfield 33, 3, 0, 7, 6, 1, []),
  (31, .iload_n 3, 1, 0, 3, 0, 0, []),
  (32, .aaload, 1, 0, 0, 0, 0, []),
  (33, .goto 9, 3, 0, 42, 0, 0, []),
  (36, .aload_n 0, 1, 0, 0, 0, 0, []),
  (37, .getfield 36, 3, 0, 7, 7, 1, []),
  (40, .iload_n 3, 1, 0, 3, 0, 0, []),
  (41, .aaload, 1, 0, 0, 0, 0, []),
  (42, .areturn, 1, 0, 0, 0, 0, [])]
/-- BrotliWords$Opener.<init>(LBrotliWords$Bytes;LBrotliWords$Bytes;LBrotliWords$Words;)V -/
def am_c68_0 : List (Nat × am_Row) := [(0, .aload_n 0, 1, 0, 0, 0, 0, []),
  (1, .invokespecial 3, 3, 0, 900, 1, 0, []),
  (4, .aload_n 0, 1, 0, 0, 0, 0, []),
  (5, .iconst 4, 1, 4, 0, 0, 0, []),
  (6, .newarray .int, 2, 0, 51, 0, 0, []),
  (8, .dup, 1, 0, 0, 0, 0, []),
  (9, .iconst 0, 1, 0, 0, 0, 0, []),
  (10, .iconst 4, 1, 4, 0, 0, 0, []),
  (11, .iastore, 1, 0, 0, 0, 0, []),
  (12, .dup, 1, 0, 0, 0, 0, []),
  (13, .iconst 1, 1, 1, 0, 0, 0, []),
  (14, .bipush 11, 2, 11, 0, 0, 0, []),
  (16, .iastore, 1, 0, 0, 0, 0, []),
  (17, .dup, 1, 0, 0, 0, 0, []),
  (18, .iconst 2, 1, 2, 0, 0, 0, []),
  (19, .bipush 15, 2, 15, 0, 0, 0, []),
  (21, .iastore, 1, 0, 0, 0, 0, []),
  (22, .dup, 1, 0, 0, 0, 0, []),
  (23, .iconst 3, 1, 3, 0, 0, 0, []),
  (24, .bipush 16, 2, 16, 0, 0, 0, []),
  (26, .iastore, 1, 0, 0, 0, 0, []),
  (27, .putfield 9, 3, 0, 8, 1, 1, []),
  (30, .aload_n 0, 1, 0, 0, 0, 0, []),
  (31, .sipush 720, 3, 720, 0, 0, 0, []),
  (34, .newarray .int, 2, 0, 52, 0, 0, []),
  (36, .putfield 15, 3, 0, 8, 2, 1, []),
  (39, .aload_n 0, 1, 0, 0, 0, 0, []),
  (40, .new 18, 3, 0, 7, 10, 0, []),
  (43, .dup, 1, 0, 0, 0, 0, []),
  (44, .invokespecial 20, 3, 0, 62, 1, 7, []),
  (47, .putfield 21, 3, 0, 8, 4, 1, []),
  (50, .aload_n 0, 1, 0, 0, 0, 0, []),
  (51, .new 18, 3, 0, 7, 10, 0, []),
  (54, .dup, 1, 0, 0, 0, 0, []),
  (55, .invokespecial 20, 3, 0, 62, 1, 7, []),
  (58, .putfield 25, 3, 0, 8, 6, 1, []),
  (61, .aload_n 0, 1, 0, 0, 0, 0, []),
  (62, .new 28, 3, 0, 3, 3, 0, []),
  (65, .dup, 1, 0, 0, 0, 0, []),
  (66, .bipush 28, 2, 28, 0, 0, 0, [])]
def am_c68_1 : List (Nat × am_Row) := [(68, .invokespecial 30, 3, 0, 21, 2, 3, []),
  (71, .putfield 33, 3, 0, 8, 10, 1, []),
  (74, .aload_n 0, 1, 0, 0, 0, 0, []),
  (75, .bipush 12, 2, 12, 0, 0, 0, []),
  (77, .newarray .int, 2, 0, 53, 0, 0, []),
  (79, .putfield 37, 3, 0, 8, 11, 1, []),
  (82, .aload_n 0, 1, 0, 0, 0, 0, []),
  (83, .iconst 3, 1, 3, 0, 0, 0, []),
  (84, .anewarray 40, 3, 0, 54, 0, 0, []),
  (87, .putfield 42, 3, 0, 8, 12, 1, []),
  (90, .aload_n 0, 1, 0, 0, 0, 0, []),
  (91, .aload_n 2, 1, 0, 2, 0, 0, []),
  (92, .putfield 46, 3, 0, 8, 7, 1, []),
  (95, .aload_n 0, 1, 0, 0, 0, 0, []),
  (96, .aload_n 3, 1, 0, 3, 0, 0, []),
  (97, .putfield 50, 3, 0, 8, 8, 1, []),
  (100, .aload_n 0, 1, 0, 0, 0, 0, []),
  (101, .new 54, 3, 0, 0, 4, 0, []),
  (104, .dup, 1, 0, 0, 0, 0, []),
  (105, .aload_n 1, 1, 0, 1, 0, 0, []),
  (106, .invokespecial 56, 3, 0, 0, 2, 0, []),
  (109, .putfield 59, 3, 0, 8, 0, 1, []),
  (112, .aload_n 0, 1, 0, 0, 0, 0, []),
  (113, .new 63, 3, 0, 4, 8, 0, []),
  (116, .dup, 1, 0, 0, 0, 0, []),
  (117, .aload_n 0, 1, 0, 0, 0, 0, []),
  (118, .getfield 59, 3, 0, 8, 0, 1, []),
  (121, .invokespecial 65, 3, 0, 25, 2, 4, []),
  (124, .putfield 68, 3, 0, 8, 9, 1, []),
  (127, .iconst 0, 1, 0, 0, 0, 0, []),
  (128, .istore 4, 2, 0, 4, 0, 0, []),
  (130, .iload 4, 2, 0, 4, 0, 0, []),
  (132, .iconst 3, 1, 3, 0, 0, 0, []),
  (133, .if_icmp .ge 23, 3, 0, 156, 0, 0, []),
  (136, .aload_n 0, 1, 0, 0, 0, 0, []),
  (137, .getfield 42, 3, 0, 8, 12, 1, []),
  (140, .iload 4, 2, 0, 4, 0, 0, []),
  (142, .new 40, 3, 0, 1, 6, 0, []),
  (145, .dup, 1, 0, 0, 0, 0, []),
  (146, .invokespecial 72, 3, 0, 9, 1, 1, [])]
def am_c68_2 : List (Nat × am_Row) := [(149, .aastore, 1, 0, 0, 0, 0, []),
  (150, .iinc 4 1, 3, 1, 4, 0, 0, []),
  (153, .goto (-23), 3, 0, 130, 0, 0, []),
  (156, .return_, 1, 0, 0, 0, 0, [])]
def am_c68 : List (Nat × am_Row) := am_c68_0 ++ (am_c68_1 ++ (am_c68_2))
/-- BrotliWords$Opener.openAll()I -/
def am_c69_0 : List (Nat × am_Row) := [(0, .aload_n 0, 1, 0, 0, 0, 0, []),
  (1, .invokevirtual 73, 3, 0, 70, 1, 8, []),
  (4, .aload_n 0, 1, 0, 0, 0, 0, []),
  (5, .invokevirtual 76, 3, 0, 72, 1, 8, []),
  (8, .iconst 0, 1, 0, 0, 0, 0, []),
  (9, .istore_n 1, 1, 0, 1, 0, 0, []),
  (10, .iload_n 1, 1, 0, 1, 0, 0, []),
  (11, .sipush 19200, 3, 19200, 0, 0, 0, []),
  (14, .if_icmp .ge 110, 3, 0, 124, 0, 0, []),
  (17, .aload_n 0, 1, 0, 0, 0, 0, []),
  (18, .getfield 79, 3, 0, 8, 15, 2, []),
  (21, .ifCond .ne 103, 3, 0, 124, 0, 0, []),
  (24, .aload_n 0, 1, 0, 0, 0, 0, []),
  (25, .getfield 59, 3, 0, 8, 0, 1, []),
  (28, .invokevirtual 83, 3, 0, 2, 1, 0, []),
  (31, .ifCond .eq 93, 3, 0, 124, 0, 0, []),
  (34, .aload_n 0, 1, 0, 0, 0, 0, []),
  (35, .invokevirtual 87, 3, 0, 74, 1, 8, []),
  (38, .iconst 3, 1, 3, 0, 0, 0, []),
  (39, .if_icmp .ne 79, 3, 0, 118, 0, 0, []),
  (42, .aload_n 0, 1, 0, 0, 0, 0, []),
  (43, .iconst 0, 1, 0, 0, 0, 0, []),
  (44, .invokevirtual 91, 3, 0, 81, 2, 8, []),
  (47, .aload_n 0, 1, 0, 0, 0, 0, []),
  (48, .iconst 1, 1, 1, 0, 0, 0, []),
  (49, .invokevirtual 91, 3, 0, 81, 2, 8, []),
  (52, .aload_n 0, 1, 0, 0, 0, 0, []),
  (53, .iconst 2, 1, 2, 0, 0, 0, []),
  (54, .invokevirtual 91, 3, 0, 81, 2, 8, []),
  (57, .aload_n 0, 1, 0, 0, 0, 0, []),
  (58, .invokevirtual 94, 3, 0, 82, 1, 8, []),
  (61, .aload_n 0, 1, 0, 0, 0, 0, []),
  (62, .iconst 0, 1, 0, 0, 0, 0, []),
  (63, .invokevirtual 97, 3, 0, 83, 2, 8, []),
  (66, .aload_n 0, 1, 0, 0, 0, 0, []),
  (67, .iconst 1, 1, 1, 0, 0, 0, []),
  (68, .invokevirtual 97, 3, 0, 83, 2, 8, []),
  (71, .aload_n 0, 1, 0, 0, 0, 0, []),
  (72, .invokevirtual 100, 3, 0, 86, 1, 8, []),
  (75, .iconst 0, 1, 0, 0, 0, 0, [])]
def am_c69_1 : List (Nat × am_Row) := [(76, .istore_n 2, 1, 0, 2, 0, 0, []),
  (77, .iload_n 2, 1, 0, 2, 0, 0, []),
  (78, .sipush 3000, 3, 3000, 0, 0, 0, []),
  (81, .if_icmp .ge 37, 3, 0, 118, 0, 0, []),
  (84, .aload_n 0, 1, 0, 0, 0, 0, []),
  (85, .getfield 46, 3, 0, 8, 7, 1, []),
  (88, .getfield 103, 3, 0, 2, 1, 0, []),
  (91, .aload_n 0, 1, 0, 0, 0, 0, []),
  (92, .getfield 109, 3, 0, 8, 14, 0, []),
  (95, .if_icmp .ge 23, 3, 0, 118, 0, 0, []),
  (98, .aload_n 0, 1, 0, 0, 0, 0, []),
  (99, .getfield 59, 3, 0, 8, 0, 1, []),
  (102, .invokevirtual 83, 3, 0, 2, 1, 0, []),
  (105, .ifCond .eq 13, 3, 0, 118, 0, 0, []),
  (108, .aload_n 0, 1, 0, 0, 0, 0, []),
  (109, .invokevirtual 112, 3, 0, 87, 1, 8, []),
  (112, .iinc 2 1, 3, 1, 2, 0, 0, []),
  (115, .goto (-38), 3, 0, 77, 0, 0, []),
  (118, .iinc 1 1, 3, 1, 1, 0, 0, []),
  (121, .goto (-111), 3, 0, 10, 0, 0, []),
  (124, .aload_n 0, 1, 0, 0, 0, 0, []),
  (125, .invokevirtual 115, 3, 0, 71, 1, 8, []),
  (128, .ireturn, 1, 0, 0, 0, 0, [])]
def am_c69 : List (Nat × am_Row) := am_c69_0 ++ (am_c69_1)
/-- BrotliWords$Opener.begin()V -/
def am_c70 : List (Nat × am_Row) := [(0, .aload_n 0, 1, 0, 0, 0, 0, []),
  (1, .getfield 59, 3, 0, 8, 0, 1, []),
  (4, .invokevirtual 118, 3, 0, 1, 1, 0, []),
  (7, .aload_n 0, 1, 0, 0, 0, 0, []),
  (8, .getfield 46, 3, 0, 8, 7, 1, []),
  (11, .iconst 0, 1, 0, 0, 0, 0, []),
  (12, .invokevirtual 121, 3, 0, 16, 2, 2, []),
  (15, .aload_n 0, 1, 0, 0, 0, 0, []),
  (16, .getfield 9, 3, 0, 8, 1, 1, []),
  (19, .invokestatic 124, 3, 0, 142, 1, 999, []),
  (22, .aload_n 0, 1, 0, 0, 0, 0, []),
  (23, .iconst 0, 1, 0, 0, 0, 0, []),
  (24, .putfield 128, 3, 0, 8, 3, 0, []),
  (27, .aload_n 0, 1, 0, 0, 0, 0, []),
  (28, .iconst 0, 1, 0, 0, 0, 0, []),
  (29, .putfield 131, 3, 0, 8, 5, 2, []),
  (32, .aload_n 0, 1, 0, 0, 0, 0, []),
  (33, .iconst 0, 1, 0, 0, 0, 0, []),
  (34, .putfield 79, 3, 0, 8, 15, 2, []),
  (37, .return_, 1, 0, 0, 0, 0, [])]
/-- BrotliWords$Opener.finish()I -/
def am_c71 : List (Nat × am_Row) := [(0, .aload_n 0, 1, 0, 0, 0, 0, []),
  (1, .getfield 59, 3, 0, 8, 0, 1, []),
  (4, .invokevirtual 134, 3, 0, 6, 1, 0, []),
  (7, .aload_n 0, 1, 0, 0, 0, 0, []),
  (8, .getfield 59, 3, 0, 8, 0, 1, []),
  (11, .getfield 137, 3, 0, 0, 1, 0, []),
  (14, .aload_n 0, 1, 0, 0, 0, 0, []),
  (15, .getfield 59, 3, 0, 8, 0, 1, []),
  (18, .getfield 140, 3, 0, 0, 2, 0, []),
  (21, .if_icmp .ge 12, 3, 0, 33, 0, 0, []),
  (24, .aload_n 0, 1, 0, 0, 0, 0, []),
  (25, .getfield 59, 3, 0, 8, 0, 1, []),
  (28, .bipush 16, 2, 16, 0, 0, 0, []),
  (30, .invokevirtual 143, 3, 0, 3, 2, 0, []),
  (33, .aload_n 0, 1, 0, 0, 0, 0, []),
  (34, .getfield 59, 3, 0, 8, 0, 1, []),
  (37, .invokevirtual 83, 3, 0, 2, 1, 0, []),
  (40, .ifCond .ne 22, 3, 0, 62, 0, 0, []),
  (43, .aload_n 0, 1, 0, 0, 0, 0, []),
  (44, .getfield 46, 3, 0, 8, 7, 1, []),
  (47, .iconst 0, 1, 0, 0, 0, 0, []),
  (48, .invokevirtual 121, 3, 0, 16, 2, 2, []),
  (51, .bipush (-10), 2, (-10), 0, 0, 0, []),
  (53, .aload_n 0, 1, 0, 0, 0, 0, []),
  (54, .getfield 59, 3, 0, 8, 0, 1, []),
  (57, .getfield 146, 3, 0, 0, 3, 0, []),
  (60, .isub, 1, 0, 0, 0, 0, []),
  (61, .ireturn, 1, 0, 0, 0, 0, []),
  (62, .aload_n 0, 1, 0, 0, 0, 0, []),
  (63, .getfield 46, 3, 0, 8, 7, 1, []),
  (66, .getfield 103, 3, 0, 2, 1, 0, []),
  (69, .ireturn, 1, 0, 0, 0, 0, [])]
/-- BrotliWords$Opener.readSpan()V -/
def am_c72_0 : List (Nat × am_Row) := [(0, .aload_n 0, 1, 0, 0, 0, 0, []),
  (1, .getfield 59, 3, 0, 8, 0, 1, []),
  (4, .bipush 16, 2, 16, 0, 0, 0, []),
  (6, .invokevirtual 149, 3, 0, 4, 2, 0, []),
  (9, .aload_n 0, 1, 0, 0, 0, 0, []),
  (10, .getfield 50, 3, 0, 8, 8, 1, []),
  (13, .invokevirtual 153, 3, 0, 114, 1, 10, []),
  (16, .if_icmp .eq 11, 3, 0, 27, 0, 0, []),
  (19, .aload_n 0, 1, 0, 0, 0, 0, []),
  (20, .getfield 59, 3, 0, 8, 0, 1, []),
  (23, .iconst 2, 1, 2, 0, 0, 0, []),
  (24, .invokevirtual 143, 3, 0, 3, 2, 0, []),
  (27, .bipush 16, 2, 16, 0, 0, 0, []),
  (29, .istore_n 1, 1, 0, 1, 0, 0, []),
  (30, .aload_n 0, 1, 0, 0, 0, 0, []),
  (31, .getfield 59, 3, 0, 8, 0, 1, []),
  (34, .iconst 1, 1, 1, 0, 0, 0, []),
  (35, .invokevirtual 149, 3, 0, 4, 2, 0, []),
  (38, .iconst 1, 1, 1, 0, 0, 0, []),
  (39, .if_icmp .ne 36, 3, 0, 75, 0, 0, []),
  (42, .aload_n 0, 1, 0, 0, 0, 0, []),
  (43, .getfield 59, 3, 0, 8, 0, 1, []),
  (46, .iconst 3, 1, 3, 0, 0, 0, []),
  (47, .invokevirtual 149, 3, 0, 4, 2, 0, []),
  (50, .istore_n 2, 1, 0, 2, 0, 0, []),
  (51, .iload_n 2, 1, 0, 2, 0, 0, []),
  (52, .ifCond .le 10, 3, 0, 62, 0, 0, []),
  (55, .bipush 17, 2, 17, 0, 0, 0, []),
  (57, .iload_n 2, 1, 0, 2, 0, 0, []),
  (58, .iadd, 1, 0, 0, 0, 0, []),
  (59, .goto 15, 3, 0, 74, 0, 0, []),
  (62, .aload_n 0, 1, 0, 0, 0, 0, []),
  (63, .aload_n 0, 1, 0, 0, 0, 0, []),
  (64, .getfield 59, 3, 0, 8, 0, 1, []),
  (67, .iconst 3, 1, 3, 0, 0, 0, []),
  (68, .invokevirtual 149, 3, 0, 4, 2, 0, []),
  (71, .invokevirtual 158, 3, 0, 73, 2, 8, []),
  (74, .istore_n 1, 1, 0, 1, 0, 0, []),
  (75, .aload_n 0, 1, 0, 0, 0, 0, []),
  (76, .iconst 1, 1, 1, 0, 0, 0, [])]
def am_c72_1 : List (Nat × am_Row) := [(77, .iload_n 1, 1, 0, 1, 0, 0, []),
  (78, .ishl, 1, 0, 0, 0, 0, []),
  (79, .bipush 16, 2, 16, 0, 0, 0, []),
  (81, .isub, 1, 0, 0, 0, 0, []),
  (82, .putfield 161, 3, 0, 8, 13, 0, []),
  (85, .return_, 1, 0, 0, 0, 0, [])]
def am_c72 : List (Nat × am_Row) := am_c72_0 ++ (am_c72_1)
/-- BrotliWords$Opener.shortSpan(I)I -/
def am_c73 : List (Nat × am_Row) := [(0, .iload_n 1, 1, 0, 1, 0, 0, []),
  (1, .iconst 1, 1, 1, 0, 0, 0, []),
  (2, .if_icmp .ne 11, 3, 0, 13, 0, 0, []),
  (5, .aload_n 0, 1, 0, 0, 0, 0, []),
  (6, .getfield 59, 3, 0, 8, 0, 1, []),
  (9, .iconst 3, 1, 3, 0, 0, 0, []),
  (10, .invokevirtual 143, 3, 0, 3, 2, 0, []),
  (13, .iload_n 1, 1, 0, 1, 0, 0, []),
  (14, .ifCond .ne 8, 3, 0, 22, 0, 0, []),
  (17, .bipush 17, 2, 17, 0, 0, 0, []),
  (19, .goto 7, 3, 0, 26, 0, 0, []),
  (22, .bipush 8, 2, 8, 0, 0, 0, []),
  (24, .iload_n 1, 1, 0, 1, 0, 0, []),
  (25, .iadd, 1, 0, 0, 0, 0, []),
  (26, .ireturn, 1, 0, 0, 0, 0, [])]
/-- BrotliWords$Opener.readPart()I -/
def am_c74_0 : List (Nat × am_Row) := [(0, .aload_n 0, 1, 0, 0, 0, 0, []),
  (1, .getfield 59, 3, 0, 8, 0, 1, []),
  (4, .iconst 1, 1, 1, 0, 0, 0, []),
  (5, .invokevirtual 149, 3, 0, 4, 2, 0, []),
  (8, .iconst 1, 1, 1, 0, 0, 0, []),
  (9, .if_icmp .ne 7, 3, 0, 16, 0, 0, []),
  (12, .iconst 1, 1, 1, 0, 0, 0, []),
  (13, .goto 4, 3, 0, 17, 0, 0, []),
  (16, .iconst 0, 1, 0, 0, 0, 0, []),
  (17, .istore_n 1, 1, 0, 1, 0, 0, []),
  (18, .iload_n 1, 1, 0, 1, 0, 0, []),
  (19, .ifCond .eq 28, 3, 0, 47, 0, 0, []),
  (22, .aload_n 0, 1, 0, 0, 0, 0, []),
  (23, .getfield 59, 3, 0, 8, 0, 1, []),
  (26, .iconst 1, 1, 1, 0, 0, 0, []),
  (27, .invokevirtual 149, 3, 0, 4, 2, 0, []),
  (30, .iconst 1, 1, 1, 0, 0, 0, []),
  (31, .if_icmp .ne 16, 3, 0, 47, 0, 0, []),
  (34, .aload_n 0, 1, 0, 0, 0, 0, []),
  (35, .iconst 0, 1, 0, 0, 0, 0, []),
  (36, .iconst 0, 1, 0, 0, 0, 0, []),
  (37, .invokevirtual 164, 3, 0, 77, 3, 8, []),
  (40, .aload_n 0, 1, 0, 0, 0, 0, []),
  (41, .iconst 1, 1, 1, 0, 0, 0, []),
  (42, .putfield 79, 3, 0, 8, 15, 2, []),
  (45, .iconst 0, 1, 0, 0, 0, 0, []),
  (46, .ireturn, 1, 0, 0, 0, 0, []),
  (47, .aload_n 0, 1, 0, 0, 0, 0, []),
  (48, .getfield 59, 3, 0, 8, 0, 1, []),
  (51, .iconst 2, 1, 2, 0, 0, 0, []),
  (52, .invokevirtual 149, 3, 0, 4, 2, 0, []),
  (55, .istore_n 2, 1, 0, 2, 0, 0, []),
  (56, .iload_n 2, 1, 0, 2, 0, 0, []),
  (57, .iconst 3, 1, 3, 0, 0, 0, []),
  (58, .if_icmp .ne 10, 3, 0, 68, 0, 0, []),
  (61, .aload_n 0, 1, 0, 0, 0, 0, []),
  (62, .iload_n 1, 1, 0, 1, 0, 0, []),
  (63, .invokevirtual 168, 3, 0, 76, 2, 8, []),
  (66, .iconst 1, 1, 1, 0, 0, 0, []),
  (67, .ireturn, 1, 0, 0, 0, 0, [])]
def am_c74_1 : List (Nat × am_Row) := [(68, .aload_n 0, 1, 0, 0, 0, 0, []),
  (69, .iload_n 2, 1, 0, 2, 0, 0, []),
  (70, .invokevirtual 172, 3, 0, 75, 2, 8, []),
  (73, .istore_n 3, 1, 0, 3, 0, 0, []),
  (74, .iload_n 1, 1, 0, 1, 0, 0, []),
  (75, .ifCond .ne 19, 3, 0, 94, 0, 0, []),
  (78, .aload_n 0, 1, 0, 0, 0, 0, []),
  (79, .getfield 59, 3, 0, 8, 0, 1, []),
  (82, .iconst 1, 1, 1, 0, 0, 0, []),
  (83, .invokevirtual 149, 3, 0, 4, 2, 0, []),
  (86, .iconst 1, 1, 1, 0, 0, 0, []),
  (87, .if_icmp .ne 7, 3, 0, 94, 0, 0, []),
  (90, .iconst 1, 1, 1, 0, 0, 0, []),
  (91, .goto 4, 3, 0, 95, 0, 0, []),
  (94, .iconst 0, 1, 0, 0, 0, 0, []),
  (95, .istore 4, 2, 0, 4, 0, 0, []),
  (97, .aload_n 0, 1, 0, 0, 0, 0, []),
  (98, .getfield 59, 3, 0, 8, 0, 1, []),
  (101, .invokevirtual 83, 3, 0, 2, 1, 0, []),
  (104, .ifCond .ne 5, 3, 0, 109, 0, 0, []),
  (107, .iconst 0, 1, 0, 0, 0, 0, []),
  (108, .ireturn, 1, 0, 0, 0, 0, []),
  (109, .aload_n 0, 1, 0, 0, 0, 0, []),
  (110, .iload_n 1, 1, 0, 1, 0, 0, []),
  (111, .putfield 79, 3, 0, 8, 15, 2, []),
  (114, .aload_n 0, 1, 0, 0, 0, 0, []),
  (115, .iload 4, 2, 0, 4, 0, 0, []),
  (117, .ifCond .eq 7, 3, 0, 124, 0, 0, []),
  (120, .iconst 2, 1, 2, 0, 0, 0, []),
  (121, .goto 4, 3, 0, 125, 0, 0, []),
  (124, .iconst 3, 1, 3, 0, 0, 0, []),
  (125, .iload_n 3, 1, 0, 3, 0, 0, []),
  (126, .invokevirtual 164, 3, 0, 77, 3, 8, []),
  (129, .iload 4, 2, 0, 4, 0, 0, []),
  (131, .ifCond .eq 24, 3, 0, 155, 0, 0, []),
  (134, .aload_n 0, 1, 0, 0, 0, 0, []),
  (135, .getfield 59, 3, 0, 8, 0, 1, []),
  (138, .invokevirtual 134, 3, 0, 6, 1, 0, []),
  (141, .aload_n 0, 1, 0, 0, 0, 0, []),
  (142, .getfield 59, 3, 0, 8, 0, 1, [])]
def am_c74_2 : List (Nat × am_Row) := [(145, .aload_n 0, 1, 0, 0, 0, 0, []),
  (146, .getfield 46, 3, 0, 8, 7, 1, []),
  (149, .iload_n 3, 1, 0, 3, 0, 0, []),
  (150, .invokevirtual 175, 3, 0, 8, 3, 0, []),
  (153, .iconst 2, 1, 2, 0, 0, 0, []),
  (154, .ireturn, 1, 0, 0, 0, 0, []),
  (155, .aload_n 0, 1, 0, 0, 0, 0, []),
  (156, .aload_n 0, 1, 0, 0, 0, 0, []),
  (157, .getfield 46, 3, 0, 8, 7, 1, []),
  (160, .getfield 103, 3, 0, 2, 1, 0, []),
  (163, .iload_n 3, 1, 0, 3, 0, 0, []),
  (164, .iadd, 1, 0, 0, 0, 0, []),
  (165, .putfield 109, 3, 0, 8, 14, 0, []),
  (168, .iconst 3, 1, 3, 0, 0, 0, []),
  (169, .ireturn, 1, 0, 0, 0, 0, [])]
def am_c74 : List (Nat × am_Row) := am_c74_0 ++ (am_c74_1 ++ (am_c74_2))
end
section
/-- BrotliWords$Opener.readSize(I)I -/
def am_c75 : List (Nat × am_Row) := [(0, .aload_n 0, 1, 0, 0, 0, 0, []),
  (1, .getfield 59, 3, 0, 8, 0, 1, []),
  (4, .bipush 16, 2, 16, 0, 0, 0, []),
  (6, .iconst 4, 1, 4, 0, 0, 0, []),
  (7, .iload_n 1, 1, 0, 1, 0, 0, []),
  (8, .imul, 1, 0, 0, 0, 0, []),
  (9, .iadd, 1, 0, 0, 0, 0, []),
  (10, .invokevirtual 149, 3, 0, 4, 2, 0, []),
  (13, .istore_n 2, 1, 0, 2, 0, 0, []),
  (14, .iload_n 1, 1, 0, 1, 0, 0, []),
  (15, .ifCond .le 22, 3, 0, 37, 0, 0, []),
  (18, .iload_n 2, 1, 0, 2, 0, 0, []),
  (19, .bipush 12, 2, 12, 0, 0, 0, []),
  (21, .iconst 4, 1, 4, 0, 0, 0, []),
  (22, .iload_n 1, 1, 0, 1, 0, 0, []),
  (23, .imul, 1, 0, 0, 0, 0, []),
  (24, .iadd, 1, 0, 0, 0, 0, []),
  (25, .ishr, 1, 0, 0, 0, 0, []),
  (26, .ifCond .ne 11, 3, 0, 37, 0, 0, []),
  (29, .aload_n 0, 1, 0, 0, 0, 0, []),
  (30, .getfield 59, 3, 0, 8, 0, 1, []),
  (33, .iconst 5, 1, 5, 0, 0, 0, []),
  (34, .invokevirtual 143, 3, 0, 3, 2, 0, []),
  (37, .iload_n 2, 1, 0, 2, 0, 0, []),
  (38, .sipush 3000, 3, 3000, 0, 0, 0, []),
  (41, .aload_n 0, 1, 0, 0, 0, 0, []),
  (42, .getfield 46, 3, 0, 8, 7, 1, []),
  (45, .getfield 103, 3, 0, 2, 1, 0, []),
  (48, .isub, 1, 0, 0, 0, 0, []),
  (49, .if_icmp .lt 12, 3, 0, 61, 0, 0, []),
  (52, .aload_n 0, 1, 0, 0, 0, 0, []),
  (53, .getfield 59, 3, 0, 8, 0, 1, []),
  (56, .bipush 17, 2, 17, 0, 0, 0, []),
  (58, .invokevirtual 143, 3, 0, 3, 2, 0, []),
  (61, .iload_n 2, 1, 0, 2, 0, 0, []),
  (62, .iconst 1, 1, 1, 0, 0, 0, []),
  (63, .iadd, 1, 0, 0, 0, 0, []),
  (64, .ireturn, 1, 0, 0, 0, 0, [])]
/-- BrotliWords$Opener.passOver(Z)V -/
def am_c76_0 : List (Nat × am_Row) := [(0, .iload_n 1, 1, 0, 1, 0, 0, []),
  (1, .ifCond .eq 12, 3, 0, 13, 0, 0, []),
  (4, .aload_n 0, 1, 0, 0, 0, 0, []),
  (5, .getfield 59, 3, 0, 8, 0, 1, []),
  (8, .iconst 4, 1, 4, 0, 0, 0, []),
  (9, .invokevirtual 143, 3, 0, 3, 2, 0, []),
  (12, .return_, 1, 0, 0, 0, 0, []),
  (13, .aload_n 0, 1, 0, 0, 0, 0, []),
  (14, .iconst 1, 1, 1, 0, 0, 0, []),
  (15, .iconst 0, 1, 0, 0, 0, 0, []),
  (16, .invokevirtual 164, 3, 0, 77, 3, 8, []),
  (19, .aload_n 0, 1, 0, 0, 0, 0, []),
  (20, .getfield 59, 3, 0, 8, 0, 1, []),
  (23, .iconst 1, 1, 1, 0, 0, 0, []),
  (24, .invokevirtual 149, 3, 0, 4, 2, 0, []),
  (27, .iconst 1, 1, 1, 0, 0, 0, []),
  (28, .if_icmp .ne 11, 3, 0, 39, 0, 0, []),
  (31, .aload_n 0, 1, 0, 0, 0, 0, []),
  (32, .getfield 59, 3, 0, 8, 0, 1, []),
  (35, .iconst 4, 1, 4, 0, 0, 0, []),
  (36, .invokevirtual 143, 3, 0, 3, 2, 0, []),
  (39, .aload_n 0, 1, 0, 0, 0, 0, []),
  (40, .getfield 59, 3, 0, 8, 0, 1, []),
  (43, .iconst 2, 1, 2, 0, 0, 0, []),
  (44, .invokevirtual 149, 3, 0, 4, 2, 0, []),
  (47, .istore_n 2, 1, 0, 2, 0, 0, []),
  (48, .aload_n 0, 1, 0, 0, 0, 0, []),
  (49, .getfield 59, 3, 0, 8, 0, 1, []),
  (52, .bipush 8, 2, 8, 0, 0, 0, []),
  (54, .iload_n 2, 1, 0, 2, 0, 0, []),
  (55, .imul, 1, 0, 0, 0, 0, []),
  (56, .invokevirtual 149, 3, 0, 4, 2, 0, []),
  (59, .istore_n 3, 1, 0, 3, 0, 0, []),
  (60, .iload_n 2, 1, 0, 2, 0, 0, []),
  (61, .iconst 1, 1, 1, 0, 0, 0, []),
  (62, .if_icmp .le 22, 3, 0, 84, 0, 0, []),
  (65, .iload_n 3, 1, 0, 3, 0, 0, []),
  (66, .bipush 8, 2, 8, 0, 0, 0, []),
  (68, .iload_n 2, 1, 0, 2, 0, 0, []),
  (69, .iconst 1, 1, 1, 0, 0, 0, [])]
def am_c76_1 : List (Nat × am_Row) := [(70, .isub, 1, 0, 0, 0, 0, []),
  (71, .imul, 1, 0, 0, 0, 0, []),
  (72, .ishr, 1, 0, 0, 0, 0, []),
  (73, .ifCond .ne 11, 3, 0, 84, 0, 0, []),
  (76, .aload_n 0, 1, 0, 0, 0, 0, []),
  (77, .getfield 59, 3, 0, 8, 0, 1, []),
  (80, .iconst 5, 1, 5, 0, 0, 0, []),
  (81, .invokevirtual 143, 3, 0, 3, 2, 0, []),
  (84, .iload_n 2, 1, 0, 2, 0, 0, []),
  (85, .ifCond .le 21, 3, 0, 106, 0, 0, []),
  (88, .aload_n 0, 1, 0, 0, 0, 0, []),
  (89, .getfield 59, 3, 0, 8, 0, 1, []),
  (92, .invokevirtual 83, 3, 0, 2, 1, 0, []),
  (95, .ifCond .eq 11, 3, 0, 106, 0, 0, []),
  (98, .aload_n 0, 1, 0, 0, 0, 0, []),
  (99, .iconst 1, 1, 1, 0, 0, 0, []),
  (100, .iload_n 3, 1, 0, 3, 0, 0, []),
  (101, .iconst 1, 1, 1, 0, 0, 0, []),
  (102, .iadd, 1, 0, 0, 0, 0, []),
  (103, .invokevirtual 179, 3, 0, 78, 3, 8, []),
  (106, .aload_n 0, 1, 0, 0, 0, 0, []),
  (107, .getfield 59, 3, 0, 8, 0, 1, []),
  (110, .invokevirtual 134, 3, 0, 6, 1, 0, []),
  (113, .iload_n 2, 1, 0, 2, 0, 0, []),
  (114, .ifCond .le 13, 3, 0, 127, 0, 0, []),
  (117, .aload_n 0, 1, 0, 0, 0, 0, []),
  (118, .getfield 59, 3, 0, 8, 0, 1, []),
  (121, .iload_n 3, 1, 0, 3, 0, 0, []),
  (122, .iconst 1, 1, 1, 0, 0, 0, []),
  (123, .iadd, 1, 0, 0, 0, 0, []),
  (124, .invokevirtual 182, 3, 0, 7, 2, 0, []),
  (127, .return_, 1, 0, 0, 0, 0, [])]
def am_c76 : List (Nat × am_Row) := am_c76_0 ++ (am_c76_1)
/-- BrotliWords$Opener.addPart(II)V -/
def am_c77 : List (Nat × am_Row) := [(0, .aload_n 0, 1, 0, 0, 0, 0, []),
  (1, .getfield 59, 3, 0, 8, 0, 1, []),
  (4, .invokevirtual 83, 3, 0, 2, 1, 0, []),
  (7, .ifCond .ne 4, 3, 0, 11, 0, 0, []),
  (10, .return_, 1, 0, 0, 0, 0, []),
  (11, .aload_n 0, 1, 0, 0, 0, 0, []),
  (12, .dup, 1, 0, 0, 0, 0, []),
  (13, .getfield 128, 3, 0, 8, 3, 0, []),
  (16, .iconst 1, 1, 1, 0, 0, 0, []),
  (17, .iadd, 1, 0, 0, 0, 0, []),
  (18, .putfield 128, 3, 0, 8, 3, 0, []),
  (21, .iconst 0, 1, 0, 0, 0, 0, []),
  (22, .istore_n 3, 1, 0, 3, 0, 0, []),
  (23, .iload_n 3, 1, 0, 3, 0, 0, []),
  (24, .bipush 12, 2, 12, 0, 0, 0, []),
  (26, .if_icmp .ge 15, 3, 0, 41, 0, 0, []),
  (29, .aload_n 0, 1, 0, 0, 0, 0, []),
  (30, .iload_n 3, 1, 0, 3, 0, 0, []),
  (31, .iconst 0, 1, 0, 0, 0, 0, []),
  (32, .invokevirtual 179, 3, 0, 78, 3, 8, []),
  (35, .iinc 3 1, 3, 1, 3, 0, 0, []),
  (38, .goto (-15), 3, 0, 23, 0, 0, []),
  (41, .aload_n 0, 1, 0, 0, 0, 0, []),
  (42, .iconst 0, 1, 0, 0, 0, 0, []),
  (43, .iload_n 1, 1, 0, 1, 0, 0, []),
  (44, .invokevirtual 179, 3, 0, 78, 3, 8, []),
  (47, .aload_n 0, 1, 0, 0, 0, 0, []),
  (48, .iconst 1, 1, 1, 0, 0, 0, []),
  (49, .iload_n 2, 1, 0, 2, 0, 0, []),
  (50, .invokevirtual 179, 3, 0, 78, 3, 8, []),
  (53, .return_, 1, 0, 0, 0, 0, [])]
/-- BrotliWords$Opener.note(II)V -/
def am_c78 : List (Nat × am_Row) := [(0, .aload_n 0, 1, 0, 0, 0, 0, []),
  (1, .getfield 128, 3, 0, 8, 3, 0, []),
  (4, .ifCond .le 29, 3, 0, 33, 0, 0, []),
  (7, .aload_n 0, 1, 0, 0, 0, 0, []),
  (8, .getfield 128, 3, 0, 8, 3, 0, []),
  (11, .bipush 60, 2, 60, 0, 0, 0, []),
  (13, .if_icmp .gt 20, 3, 0, 33, 0, 0, []),
  (16, .aload_n 0, 1, 0, 0, 0, 0, []),
  (17, .getfield 15, 3, 0, 8, 2, 1, []),
  (20, .aload_n 0, 1, 0, 0, 0, 0, []),
  (21, .getfield 128, 3, 0, 8, 3, 0, []),
  (24, .iconst 1, 1, 1, 0, 0, 0, []),
  (25, .isub, 1, 0, 0, 0, 0, []),
  (26, .bipush 12, 2, 12, 0, 0, 0, []),
  (28, .imul, 1, 0, 0, 0, 0, []),
  (29, .iload_n 1, 1, 0, 1, 0, 0, []),
  (30, .iadd, 1, 0, 0, 0, 0, []),
  (31, .iload_n 2, 1, 0, 2, 0, 0, []),
  (32, .iastore, 1, 0, 0, 0, 0, []),
  (33, .return_, 1, 0, 0, 0, 0, [])]
/-- BrotliWords$Opener.noteOneMore(I)V -/
def am_c79 : List (Nat × am_Row) := [(0, .aload_n 0, 1, 0, 0, 0, 0, []),
  (1, .getfield 128, 3, 0, 8, 3, 0, []),
  (4, .ifCond .le 32, 3, 0, 36, 0, 0, []),
  (7, .aload_n 0, 1, 0, 0, 0, 0, []),
  (8, .getfield 128, 3, 0, 8, 3, 0, []),
  (11, .bipush 60, 2, 60, 0, 0, 0, []),
  (13, .if_icmp .gt 23, 3, 0, 36, 0, 0, []),
  (16, .aload_n 0, 1, 0, 0, 0, 0, []),
  (17, .getfield 15, 3, 0, 8, 2, 1, []),
  (20, .aload_n 0, 1, 0, 0, 0, 0, []),
  (21, .getfield 128, 3, 0, 8, 3, 0, []),
  (24, .iconst 1, 1, 1, 0, 0, 0, []),
  (25, .isub, 1, 0, 0, 0, 0, []),
  (26, .bipush 12, 2, 12, 0, 0, 0, []),
  (28, .imul, 1, 0, 0, 0, 0, []),
  (29, .iload_n 1, 1, 0, 1, 0, 0, []),
  (30, .iadd, 1, 0, 0, 0, 0, []),
  (31, .dup2, 1, 0, 0, 0, 0, []),
  (32, .iaload, 1, 0, 0, 0, 0, []),
  (33, .iconst 1, 1, 1, 0, 0, 0, []),
  (34, .iadd, 1, 0, 0, 0, 0, []),
  (35, .iastore, 1, 0, 0, 0, 0, []),
  (36, .return_, 1, 0, 0, 0, 0, [])]
/-- BrotliWords$Opener.readHowMany()I -/
def am_c80 : List (Nat × am_Row) := [(0, .aload_n 0, 1, 0, 0, 0, 0, []),
  (1, .getfield 59, 3, 0, 8, 0, 1, []),
  (4, .iconst 1, 1, 1, 0, 0, 0, []),
  (5, .invokevirtual 149, 3, 0, 4, 2, 0, []),
  (8, .ifCond .ne 5, 3, 0, 13, 0, 0, []),
  (11, .iconst 1, 1, 1, 0, 0, 0, []),
  (12, .ireturn, 1, 0, 0, 0, 0, []),
  (13, .aload_n 0, 1, 0, 0, 0, 0, []),
  (14, .getfield 59, 3, 0, 8, 0, 1, []),
  (17, .iconst 3, 1, 3, 0, 0, 0, []),
  (18, .invokevirtual 149, 3, 0, 4, 2, 0, []),
  (21, .istore_n 1, 1, 0, 1, 0, 0, []),
  (22, .iconst 1, 1, 1, 0, 0, 0, []),
  (23, .iconst 1, 1, 1, 0, 0, 0, []),
  (24, .iload_n 1, 1, 0, 1, 0, 0, []),
  (25, .ishl, 1, 0, 0, 0, 0, []),
  (26, .iadd, 1, 0, 0, 0, 0, []),
  (27, .aload_n 0, 1, 0, 0, 0, 0, []),
  (28, .getfield 59, 3, 0, 8, 0, 1, []),
  (31, .iload_n 1, 1, 0, 1, 0, 0, []),
  (32, .invokevirtual 149, 3, 0, 4, 2, 0, []),
  (35, .iadd, 1, 0, 0, 0, 0, []),
  (36, .istore_n 2, 1, 0, 2, 0, 0, []),
  (37, .iload_n 2, 1, 0, 2, 0, 0, []),
  (38, .bipush 12, 2, 12, 0, 0, 0, []),
  (40, .if_icmp .le 12, 3, 0, 52, 0, 0, []),
  (43, .aload_n 0, 1, 0, 0, 0, 0, []),
  (44, .getfield 59, 3, 0, 8, 0, 1, []),
  (47, .bipush 7, 2, 7, 0, 0, 0, []),
  (49, .invokevirtual 143, 3, 0, 3, 2, 0, []),
  (52, .iload_n 2, 1, 0, 2, 0, 0, []),
  (53, .ireturn, 1, 0, 0, 0, 0, [])]
/-- BrotliWords$Opener.readKinds(I)V -/
def am_c81_0 : List (Nat × am_Row) := [(0, .aload_n 0, 1, 0, 0, 0, 0, []),
  (1, .invokevirtual 184, 3, 0, 80, 1, 8, []),
  (4, .istore_n 2, 1, 0, 2, 0, 0, []),
  (5, .aload_n 0, 1, 0, 0, 0, 0, []),
  (6, .getfield 59, 3, 0, 8, 0, 1, []),
  (9, .invokevirtual 83, 3, 0, 2, 1, 0, []),
  (12, .ifCond .ne 4, 3, 0, 16, 0, 0, []),
  (15, .return_, 1, 0, 0, 0, 0, []),
  (16, .aload_n 0, 1, 0, 0, 0, 0, []),
  (17, .iconst 2, 1, 2, 0, 0, 0, []),
  (18, .iload_n 1, 1, 0, 1, 0, 0, []),
  (19, .iadd, 1, 0, 0, 0, 0, []),
  (20, .iload_n 2, 1, 0, 2, 0, 0, []),
  (21, .invokevirtual 179, 3, 0, 78, 3, 8, []),
  (24, .aload_n 0, 1, 0, 0, 0, 0, []),
  (25, .getfield 25, 3, 0, 8, 6, 1, []),
  (28, .getfield 187, 3, 0, 7, 0, 1, []),
  (31, .iload_n 1, 1, 0, 1, 0, 0, []),
  (32, .iload_n 2, 1, 0, 2, 0, 0, []),
  (33, .iastore, 1, 0, 0, 0, 0, []),
  (34, .aload_n 0, 1, 0, 0, 0, 0, []),
  (35, .getfield 42, 3, 0, 8, 12, 1, []),
  (38, .iload_n 1, 1, 0, 1, 0, 0, []),
  (39, .aaload, 1, 0, 0, 0, 0, []),
  (40, .astore_n 3, 1, 0, 3, 0, 0, []),
  (41, .aload_n 3, 1, 0, 3, 0, 0, []),
  (42, .iload_n 2, 1, 0, 2, 0, 0, []),
  (43, .invokevirtual 190, 3, 0, 10, 2, 1, []),
  (46, .iload_n 2, 1, 0, 2, 0, 0, []),
  (47, .iconst 1, 1, 1, 0, 0, 0, []),
  (48, .if_icmp .le 38, 3, 0, 86, 0, 0, []),
  (51, .aload_n 0, 1, 0, 0, 0, 0, []),
  (52, .getfield 68, 3, 0, 8, 9, 1, []),
  (55, .aload_n 3, 1, 0, 3, 0, 0, []),
  (56, .getfield 192, 3, 0, 1, 0, 1, []),
  (59, .iload_n 2, 1, 0, 2, 0, 0, []),
  (60, .iconst 2, 1, 2, 0, 0, 0, []),
  (61, .iadd, 1, 0, 0, 0, 0, []),
  (62, .invokevirtual 195, 3, 0, 26, 3, 4, []),
  (65, .aload_n 0, 1, 0, 0, 0, 0, [])]
def am_c81_1 : List (Nat × am_Row) := [(66, .getfield 68, 3, 0, 8, 9, 1, []),
  (69, .aload_n 3, 1, 0, 3, 0, 0, []),
  (70, .getfield 199, 3, 0, 1, 1, 1, []),
  (73, .bipush 26, 2, 26, 0, 0, 0, []),
  (75, .invokevirtual 195, 3, 0, 26, 3, 4, []),
  (78, .aload_n 3, 1, 0, 3, 0, 0, []),
  (79, .aload_n 0, 1, 0, 0, 0, 0, []),
  (80, .getfield 59, 3, 0, 8, 0, 1, []),
  (83, .invokevirtual 202, 3, 0, 11, 2, 1, []),
  (86, .return_, 1, 0, 0, 0, 0, [])]
def am_c81 : List (Nat × am_Row) := am_c81_0 ++ (am_c81_1)
/-- BrotliWords$Opener.readForm()V -/
def am_c82_0 : List (Nat × am_Row) := [(0, .aload_n 0, 1, 0, 0, 0, 0, []),
  (1, .getfield 25, 3, 0, 8, 6, 1, []),
  (4, .aload_n 0, 1, 0, 0, 0, 0, []),
  (5, .getfield 59, 3, 0, 8, 0, 1, []),
  (8, .iconst 2, 1, 2, 0, 0, 0, []),
  (9, .invokevirtual 149, 3, 0, 4, 2, 0, []),
  (12, .putfield 205, 3, 0, 7, 8, 0, []),
  (15, .aload_n 0, 1, 0, 0, 0, 0, []),
  (16, .bipush 7, 2, 7, 0, 0, 0, []),
  (18, .aload_n 0, 1, 0, 0, 0, 0, []),
  (19, .getfield 25, 3, 0, 8, 6, 1, []),
  (22, .getfield 205, 3, 0, 7, 8, 0, []),
  (25, .invokevirtual 179, 3, 0, 78, 3, 8, []),
  (28, .aload_n 0, 1, 0, 0, 0, 0, []),
  (29, .getfield 25, 3, 0, 8, 6, 1, []),
  (32, .aload_n 0, 1, 0, 0, 0, 0, []),
  (33, .getfield 59, 3, 0, 8, 0, 1, []),
  (36, .iconst 4, 1, 4, 0, 0, 0, []),
  (37, .invokevirtual 149, 3, 0, 4, 2, 0, []),
  (40, .aload_n 0, 1, 0, 0, 0, 0, []),
  (41, .getfield 25, 3, 0, 8, 6, 1, []),
  (44, .getfield 205, 3, 0, 7, 8, 0, []),
  (47, .ishl, 1, 0, 0, 0, 0, []),
  (48, .putfield 208, 3, 0, 7, 9, 0, []),
  (51, .aload_n 0, 1, 0, 0, 0, 0, []),
  (52, .bipush 8, 2, 8, 0, 0, 0, []),
  (54, .aload_n 0, 1, 0, 0, 0, 0, []),
  (55, .getfield 25, 3, 0, 8, 6, 1, []),
  (58, .getfield 208, 3, 0, 7, 9, 0, []),
  (61, .invokevirtual 179, 3, 0, 78, 3, 8, []),
  (64, .iconst 0, 1, 0, 0, 0, 0, []),
  (65, .istore_n 1, 1, 0, 1, 0, 0, []),
  (66, .iload_n 1, 1, 0, 1, 0, 0, []),
  (67, .bipush 12, 2, 12, 0, 0, 0, []),
  (69, .if_icmp .ge 39, 3, 0, 108, 0, 0, []),
  (72, .iload_n 1, 1, 0, 1, 0, 0, []),
  (73, .aload_n 0, 1, 0, 0, 0, 0, []),
  (74, .getfield 25, 3, 0, 8, 6, 1, []),
  (77, .getfield 187, 3, 0, 7, 0, 1, []),
  (80, .iconst 0, 1, 0, 0, 0, 0, [])]
def am_c82_1 : List (Nat × am_Row) := [(81, .iaload, 1, 0, 0, 0, 0, []),
  (82, .if_icmp .ge 26, 3, 0, 108, 0, 0, []),
  (85, .aload_n 0, 1, 0, 0, 0, 0, []),
  (86, .getfield 25, 3, 0, 8, 6, 1, []),
  (89, .getfield 211, 3, 0, 7, 2, 1, []),
  (92, .iload_n 1, 1, 0, 1, 0, 0, []),
  (93, .aload_n 0, 1, 0, 0, 0, 0, []),
  (94, .getfield 59, 3, 0, 8, 0, 1, []),
  (97, .iconst 2, 1, 2, 0, 0, 0, []),
  (98, .invokevirtual 149, 3, 0, 4, 2, 0, []),
  (101, .iastore, 1, 0, 0, 0, 0, []),
  (102, .iinc 1 1, 3, 1, 1, 0, 0, []),
  (105, .goto (-39), 3, 0, 66, 0, 0, []),
  (108, .return_, 1, 0, 0, 0, 0, [])]
def am_c82 : List (Nat × am_Row) := am_c82_0 ++ (am_c82_1)
/-- BrotliWords$Opener.readTrees(I)V -/
def am_c83_0 : List (Nat × am_Row) := [(0, .aload_n 0, 1, 0, 0, 0, 0, []),
  (1, .invokevirtual 184, 3, 0, 80, 1, 8, []),
  (4, .istore_n 2, 1, 0, 2, 0, 0, []),
  (5, .aload_n 0, 1, 0, 0, 0, 0, []),
  (6, .getfield 59, 3, 0, 8, 0, 1, []),
  (9, .invokevirtual 83, 3, 0, 2, 1, 0, []),
  (12, .ifCond .ne 4, 3, 0, 16, 0, 0, []),
  (15, .return_, 1, 0, 0, 0, 0, []),
  (16, .aload_n 0, 1, 0, 0, 0, 0, []),
  (17, .iconst 5, 1, 5, 0, 0, 0, []),
  (18, .iload_n 1, 1, 0, 1, 0, 0, []),
  (19, .iadd, 1, 0, 0, 0, 0, []),
  (20, .iload_n 2, 1, 0, 2, 0, 0, []),
  (21, .invokevirtual 179, 3, 0, 78, 3, 8, []),
  (24, .aload_n 0, 1, 0, 0, 0, 0, []),
  (25, .getfield 25, 3, 0, 8, 6, 1, []),
  (28, .getfield 214, 3, 0, 7, 1, 1, []),
  (31, .iload_n 1, 1, 0, 1, 0, 0, []),
  (32, .iload_n 2, 1, 0, 2, 0, 0, []),
  (33, .iastore, 1, 0, 0, 0, 0, []),
  (34, .aload_n 0, 1, 0, 0, 0, 0, []),
  (35, .getfield 25, 3, 0, 8, 6, 1, []),
  (38, .iload_n 1, 1, 0, 1, 0, 0, []),
  (39, .invokevirtual 217, 3, 0, 63, 2, 7, []),
  (42, .astore_n 3, 1, 0, 3, 0, 0, []),
  (43, .aload_n 0, 1, 0, 0, 0, 0, []),
  (44, .getfield 25, 3, 0, 8, 6, 1, []),
  (47, .iload_n 1, 1, 0, 1, 0, 0, []),
  (48, .invokevirtual 221, 3, 0, 64, 2, 7, []),
  (51, .aload_n 3, 1, 0, 3, 0, 0, []),
  (52, .arraylength, 1, 0, 0, 0, 0, []),
  (53, .invokestatic 224, 3, 0, 903, 2, 0, []),
  (56, .istore 4, 2, 0, 4, 0, 0, []),
  (58, .aload_n 3, 1, 0, 3, 0, 0, []),
  (59, .iconst 0, 1, 0, 0, 0, 0, []),
  (60, .invokestatic 230, 3, 0, 260, 2, 999, []),
  (63, .iload_n 2, 1, 0, 2, 0, 0, []),
  (64, .iconst 1, 1, 1, 0, 0, 0, []),
  (65, .if_icmp .le 73, 3, 0, 138, 0, 0, []),
  (68, .aload_n 0, 1, 0, 0, 0, 0, [])]
def am_c83_1 : List (Nat × am_Row) := [(69, .getfield 59, 3, 0, 8, 0, 1, []),
  (72, .iconst 1, 1, 1, 0, 0, 0, []),
  (73, .invokevirtual 149, 3, 0, 4, 2, 0, []),
  (76, .ifCond .ne 7, 3, 0, 83, 0, 0, []),
  (79, .iconst 0, 1, 0, 0, 0, 0, []),
  (80, .goto 13, 3, 0, 93, 0, 0, []),
  (83, .aload_n 0, 1, 0, 0, 0, 0, []),
  (84, .getfield 59, 3, 0, 8, 0, 1, []),
  (87, .iconst 4, 1, 4, 0, 0, 0, []),
  (88, .invokevirtual 149, 3, 0, 4, 2, 0, []),
  (91, .iconst 1, 1, 1, 0, 0, 0, []),
  (92, .iadd, 1, 0, 0, 0, 0, []),
  (93, .istore 5, 2, 0, 5, 0, 0, []),
  (95, .aload_n 0, 1, 0, 0, 0, 0, []),
  (96, .getfield 68, 3, 0, 8, 9, 1, []),
  (99, .aload_n 0, 1, 0, 0, 0, 0, []),
  (100, .getfield 33, 3, 0, 8, 10, 1, []),
  (103, .iload_n 2, 1, 0, 2, 0, 0, []),
  (104, .iload 5, 2, 0, 5, 0, 0, []),
  (106, .iadd, 1, 0, 0, 0, 0, []),
  (107, .invokevirtual 195, 3, 0, 26, 3, 4, []),
  (110, .aload_n 0, 1, 0, 0, 0, 0, []),
  (111, .aload_n 3, 1, 0, 3, 0, 0, []),
  (112, .iload 4, 2, 0, 4, 0, 0, []),
  (114, .iload 5, 2, 0, 5, 0, 0, []),
  (116, .invokevirtual 236, 3, 0, 84, 4, 8, []),
  (119, .aload_n 0, 1, 0, 0, 0, 0, []),
  (120, .getfield 59, 3, 0, 8, 0, 1, []),
  (123, .iconst 1, 1, 1, 0, 0, 0, []),
  (124, .invokevirtual 149, 3, 0, 4, 2, 0, []),
  (127, .iconst 1, 1, 1, 0, 0, 0, []),
  (128, .if_icmp .ne 10, 3, 0, 138, 0, 0, []),
  (131, .aload_n 0, 1, 0, 0, 0, 0, []),
  (132, .aload_n 3, 1, 0, 3, 0, 0, []),
  (133, .iload 4, 2, 0, 4, 0, 0, []),
  (135, .invokevirtual 240, 3, 0, 85, 3, 8, []),
  (138, .return_, 1, 0, 0, 0, 0, [])]
def am_c83 : List (Nat × am_Row) := am_c83_0 ++ (am_c83_1)
/-- BrotliWords$Opener.fillMap([III)V -/
def am_c84_0 : List (Nat × am_Row) := [(0, .iconst 0, 1, 0, 0, 0, 0, []),
  (1, .istore 4, 2, 0, 4, 0, 0, []),
  (3, .iconst 0, 1, 0, 0, 0, 0, []),
  (4, .istore 5, 2, 0, 5, 0, 0, []),
  (6, .iload 5, 2, 0, 5, 0, 0, []),
  (8, .iload_n 2, 1, 0, 2, 0, 0, []),
  (9, .if_icmp .ge 101, 3, 0, 110, 0, 0, []),
  (12, .iload 4, 2, 0, 4, 0, 0, []),
  (14, .iload_n 2, 1, 0, 2, 0, 0, []),
  (15, .if_icmp .ge 95, 3, 0, 110, 0, 0, []),
  (18, .aload_n 0, 1, 0, 0, 0, 0, []),
  (19, .getfield 59, 3, 0, 8, 0, 1, []),
  (22, .invokevirtual 83, 3, 0, 2, 1, 0, []),
  (25, .ifCond .eq 85, 3, 0, 110, 0, 0, []),
  (28, .aload_n 0, 1, 0, 0, 0, 0, []),
  (29, .getfield 59, 3, 0, 8, 0, 1, []),
  (32, .aload_n 0, 1, 0, 0, 0, 0, []),
  (33, .getfield 33, 3, 0, 8, 10, 1, []),
  (36, .invokevirtual 243, 3, 0, 5, 2, 0, []),
  (39, .istore 6, 2, 0, 6, 0, 0, []),
  (41, .iload 6, 2, 0, 6, 0, 0, []),
  (43, .ifCond .eq 9, 3, 0, 52, 0, 0, []),
  (46, .iload 6, 2, 0, 6, 0, 0, []),
  (48, .iload_n 3, 1, 0, 3, 0, 0, []),
  (49, .if_icmp .le 21, 3, 0, 70, 0, 0, []),
  (52, .aload_n 1, 1, 0, 1, 0, 0, []),
  (53, .iload 4, 2, 0, 4, 0, 0, []),
  (55, .iinc 4 1, 3, 1, 4, 0, 0, []),
  (58, .iload 6, 2, 0, 6, 0, 0, []),
  (60, .iload_n 3, 1, 0, 3, 0, 0, []),
  (61, .isub, 1, 0, 0, 0, 0, []),
  (62, .iconst 0, 1, 0, 0, 0, 0, []),
  (63, .invokestatic 247, 3, 0, 902, 2, 0, []),
  (66, .iastore, 1, 0, 0, 0, 0, []),
  (67, .goto 37, 3, 0, 104, 0, 0, []),
  (70, .iload 4, 2, 0, 4, 0, 0, []),
  (72, .iconst 1, 1, 1, 0, 0, 0, []),
  (73, .iload 6, 2, 0, 6, 0, 0, []),
  (75, .ishl, 1, 0, 0, 0, 0, []),
  (76, .aload_n 0, 1, 0, 0, 0, 0, [])]
def am_c84_1 : List (Nat × am_Row) := [(77, .getfield 59, 3, 0, 8, 0, 1, []),
  (80, .iload 6, 2, 0, 6, 0, 0, []),
  (82, .invokevirtual 149, 3, 0, 4, 2, 0, []),
  (85, .iadd, 1, 0, 0, 0, 0, []),
  (86, .iadd, 1, 0, 0, 0, 0, []),
  (87, .istore 4, 2, 0, 4, 0, 0, []),
  (89, .iload 4, 2, 0, 4, 0, 0, []),
  (91, .iload_n 2, 1, 0, 2, 0, 0, []),
  (92, .if_icmp .le 12, 3, 0, 104, 0, 0, []),
  (95, .aload_n 0, 1, 0, 0, 0, 0, []),
  (96, .getfield 59, 3, 0, 8, 0, 1, []),
  (99, .bipush 15, 2, 15, 0, 0, 0, []),
  (101, .invokevirtual 143, 3, 0, 3, 2, 0, []),
  (104, .iinc 5 1, 3, 1, 5, 0, 0, []),
  (107, .goto (-101), 3, 0, 6, 0, 0, []),
  (110, .return_, 1, 0, 0, 0, 0, [])]
def am_c84 : List (Nat × am_Row) := am_c84_0 ++ (am_c84_1)
/-- BrotliWords$Opener.undoFront([II)V -/
def am_c85_0 : List (Nat × am_Row) := [(0, .iconst 0, 1, 0, 0, 0, 0, []),
  (1, .istore_n 3, 1, 0, 3, 0, 0, []),
  (2, .iload_n 3, 1, 0, 3, 0, 0, []),
  (3, .bipush 12, 2, 12, 0, 0, 0, []),
  (5, .if_icmp .ge 16, 3, 0, 21, 0, 0, []),
  (8, .aload_n 0, 1, 0, 0, 0, 0, []),
  (9, .getfield 37, 3, 0, 8, 11, 1, []),
  (12, .iload_n 3, 1, 0, 3, 0, 0, []),
  (13, .iload_n 3, 1, 0, 3, 0, 0, []),
  (14, .iastore, 1, 0, 0, 0, 0, []),
  (15, .iinc 3 1, 3, 1, 3, 0, 0, []),
  (18, .goto (-16), 3, 0, 2, 0, 0, []),
  (21, .iconst 0, 1, 0, 0, 0, 0, []),
  (22, .istore_n 3, 1, 0, 3, 0, 0, []),
  (23, .iload_n 3, 1, 0, 3, 0, 0, []),
  (24, .iload_n 2, 1, 0, 2, 0, 0, []),
  (25, .if_icmp .ge 72, 3, 0, 97, 0, 0, []),
  (28, .aload_n 1, 1, 0, 1, 0, 0, []),
  (29, .iload_n 3, 1, 0, 3, 0, 0, []),
  (30, .iaload, 1, 0, 0, 0, 0, []),
  (31, .bipush 11, 2, 11, 0, 0, 0, []),
  (33, .invokestatic 224, 3, 0, 903, 2, 0, []),
  (36, .istore 4, 2, 0, 4, 0, 0, []),
  (38, .aload_n 0, 1, 0, 0, 0, 0, []),
  (39, .getfield 37, 3, 0, 8, 11, 1, []),
  (42, .iload 4, 2, 0, 4, 0, 0, []),
  (44, .iaload, 1, 0, 0, 0, 0, []),
  (45, .istore 5, 2, 0, 5, 0, 0, []),
  (47, .iload 4, 2, 0, 4, 0, 0, []),
  (49, .istore 6, 2, 0, 6, 0, 0, []),
  (51, .iload 6, 2, 0, 6, 0, 0, []),
  (53, .ifCond .le 25, 3, 0, 78, 0, 0, []),
  (56, .aload_n 0, 1, 0, 0, 0, 0, []),
  (57, .getfield 37, 3, 0, 8, 11, 1, []),
  (60, .iload 6, 2, 0, 6, 0, 0, []),
  (62, .aload_n 0, 1, 0, 0, 0, 0, []),
  (63, .getfield 37, 3, 0, 8, 11, 1, []),
  (66, .iload 6, 2, 0, 6, 0, 0, []),
  (68, .iconst 1, 1, 1, 0, 0, 0, []),
  (69, .isub, 1, 0, 0, 0, 0, [])]
def am_c85_1 : List (Nat × am_Row) := [(70, .iaload, 1, 0, 0, 0, 0, []),
  (71, .iastore, 1, 0, 0, 0, 0, []),
  (72, .iinc 6 (-1), 3, (-1), 6, 0, 0, []),
  (75, .goto (-24), 3, 0, 51, 0, 0, []),
  (78, .aload_n 0, 1, 0, 0, 0, 0, []),
  (79, .getfield 37, 3, 0, 8, 11, 1, []),
  (82, .iconst 0, 1, 0, 0, 0, 0, []),
  (83, .iload 5, 2, 0, 5, 0, 0, []),
  (85, .iastore, 1, 0, 0, 0, 0, []),
  (86, .aload_n 1, 1, 0, 1, 0, 0, []),
  (87, .iload_n 3, 1, 0, 3, 0, 0, []),
  (88, .iload 5, 2, 0, 5, 0, 0, []),
  (90, .iastore, 1, 0, 0, 0, 0, []),
  (91, .iinc 3 1, 3, 1, 3, 0, 0, []),
  (94, .goto (-71), 3, 0, 23, 0, 0, []),
  (97, .return_, 1, 0, 0, 0, 0, [])]
def am_c85 : List (Nat × am_Row) := am_c85_0 ++ (am_c85_1)
/-- BrotliWords$Opener.readCodes()V -/
def am_c86_0 : List (Nat × am_Row) := [(0, .iconst 0, 1, 0, 0, 0, 0, []),
  (1, .istore_n 1, 1, 0, 1, 0, 0, []),
  (2, .iload_n 1, 1, 0, 1, 0, 0, []),
  (3, .iconst 3, 1, 3, 0, 0, 0, []),
  (4, .if_icmp .ge 70, 3, 0, 74, 0, 0, []),
  (7, .aload_n 0, 1, 0, 0, 0, 0, []),
  (8, .getfield 25, 3, 0, 8, 6, 1, []),
  (11, .iload_n 1, 1, 0, 1, 0, 0, []),
  (12, .invokevirtual 250, 3, 0, 65, 2, 7, []),
  (15, .bipush 12, 2, 12, 0, 0, 0, []),
  (17, .invokestatic 224, 3, 0, 903, 2, 0, []),
  (20, .istore_n 2, 1, 0, 2, 0, 0, []),
  (21, .iconst 0, 1, 0, 0, 0, 0, []),
  (22, .istore_n 3, 1, 0, 3, 0, 0, []),
  (23, .iload_n 3, 1, 0, 3, 0, 0, []),
  (24, .iload_n 2, 1, 0, 2, 0, 0, []),
  (25, .if_icmp .ge 43, 3, 0, 68, 0, 0, []),
  (28, .aload_n 0, 1, 0, 0, 0, 0, []),
  (29, .getfield 59, 3, 0, 8, 0, 1, []),
  (32, .invokevirtual 83, 3, 0, 2, 1, 0, []),
  (35, .ifCond .eq 33, 3, 0, 68, 0, 0, []),
  (38, .aload_n 0, 1, 0, 0, 0, 0, []),
  (39, .getfield 68, 3, 0, 8, 9, 1, []),
  (42, .aload_n 0, 1, 0, 0, 0, 0, []),
  (43, .getfield 25, 3, 0, 8, 6, 1, []),
  (46, .iload_n 1, 1, 0, 1, 0, 0, []),
  (47, .iload_n 3, 1, 0, 3, 0, 0, []),
  (48, .invokevirtual 253, 3, 0, 67, 3, 7, []),
  (51, .aload_n 0, 1, 0, 0, 0, 0, []),
  (52, .getfield 25, 3, 0, 8, 6, 1, []),
  (55, .iload_n 1, 1, 0, 1, 0, 0, []),
  (56, .invokevirtual 257, 3, 0, 66, 2, 7, []),
  (59, .invokevirtual 195, 3, 0, 26, 3, 4, []),
  (62, .iinc 3 1, 3, 1, 3, 0, 0, []),
  (65, .goto (-42), 3, 0, 23, 0, 0, []),
  (68, .iinc 1 1, 3, 1, 1, 0, 0, []),
  (71, .goto (-69), 3, 0, 2, 0, 0, []),
  (74, .aload_n 0, 1, 0, 0, 0, 0, []),
  (75, .getfield 59, 3, 0, 8, 0, 1, []),
  (78, .invokevirtual 83, 3, 0, 2, 1, 0, [])]
def am_c86_1 : List (Nat × am_Row) := [(81, .ifCond .eq 26, 3, 0, 107, 0, 0, []),
  (84, .aload_n 0, 1, 0, 0, 0, 0, []),
  (85, .getfield 21, 3, 0, 8, 4, 1, []),
  (88, .astore_n 1, 1, 0, 1, 0, 0, []),
  (89, .aload_n 0, 1, 0, 0, 0, 0, []),
  (90, .aload_n 0, 1, 0, 0, 0, 0, []),
  (91, .getfield 25, 3, 0, 8, 6, 1, []),
  (94, .putfield 21, 3, 0, 8, 4, 1, []),
  (97, .aload_n 0, 1, 0, 0, 0, 0, []),
  (98, .aload_n 1, 1, 0, 1, 0, 0, []),
  (99, .putfield 25, 3, 0, 8, 6, 1, []),
  (102, .aload_n 0, 1, 0, 0, 0, 0, []),
  (103, .iconst 1, 1, 1, 0, 0, 0, []),
  (104, .putfield 131, 3, 0, 8, 5, 2, []),
  (107, .return_, 1, 0, 0, 0, 0, [])]
def am_c86 : List (Nat × am_Row) := am_c86_0 ++ (am_c86_1)
/-- BrotliWords$Opener.makeCommand()V -/
def am_c87_0 : List (Nat × am_Row) := [(0, .aload_n 0, 1, 0, 0, 0, 0, []),
  (1, .getfield 42, 3, 0, 8, 12, 1, []),
  (4, .iconst 1, 1, 1, 0, 0, 0, []),
  (5, .aaload, 1, 0, 0, 0, 0, []),
  (6, .aload_n 0, 1, 0, 0, 0, 0, []),
  (7, .getfield 59, 3, 0, 8, 0, 1, []),
  (10, .invokevirtual 260, 3, 0, 12, 2, 1, []),
  (13, .aload_n 0, 1, 0, 0, 0, 0, []),
  (14, .getfield 59, 3, 0, 8, 0, 1, []),
  (17, .aload_n 0, 1, 0, 0, 0, 0, []),
  (18, .getfield 21, 3, 0, 8, 4, 1, []),
  (21, .iconst 1, 1, 1, 0, 0, 0, []),
  (22, .aload_n 0, 1, 0, 0, 0, 0, []),
  (23, .getfield 42, 3, 0, 8, 12, 1, []),
  (26, .iconst 1, 1, 1, 0, 0, 0, []),
  (27, .aaload, 1, 0, 0, 0, 0, []),
  (28, .getfield 263, 3, 0, 1, 3, 0, []),
  (31, .invokevirtual 253, 3, 0, 67, 3, 7, []),
  (34, .invokevirtual 243, 3, 0, 5, 2, 0, []),
  (37, .istore_n 1, 1, 0, 1, 0, 0, []),
  (38, .iload_n 1, 1, 0, 1, 0, 0, []),
  (39, .bipush 64, 2, 64, 0, 0, 0, []),
  (41, .idiv, 1, 0, 0, 0, 0, []),
  (42, .bipush 10, 2, 10, 0, 0, 0, []),
  (44, .invokestatic 224, 3, 0, 903, 2, 0, []),
  (47, .istore_n 2, 1, 0, 2, 0, 0, []),
  (48, .bipush 8, 2, 8, 0, 0, 0, []),
  (50, .getstatic 266, 3, 0, 202, 0, 0, []),
  (53, .iload_n 2, 1, 0, 2, 0, 0, []),
  (54, .iaload, 1, 0, 0, 0, 0, []),
  (55, .imul, 1, 0, 0, 0, 0, []),
  (56, .iload_n 1, 1, 0, 1, 0, 0, []),
  (57, .bipush 8, 2, 8, 0, 0, 0, []),
  (59, .idiv, 1, 0, 0, 0, 0, []),
  (60, .bipush 8, 2, 8, 0, 0, 0, []),
  (62, .irem, 1, 0, 0, 0, 0, []),
  (63, .iadd, 1, 0, 0, 0, 0, []),
  (64, .istore_n 3, 1, 0, 3, 0, 0, []),
  (65, .bipush 8, 2, 8, 0, 0, 0, []),
  (67, .getstatic 269, 3, 0, 203, 0, 0, [])]
def am_c87_1 : List (Nat × am_Row) := [(70, .iload_n 2, 1, 0, 2, 0, 0, []),
  (71, .iaload, 1, 0, 0, 0, 0, []),
  (72, .imul, 1, 0, 0, 0, 0, []),
  (73, .iload_n 1, 1, 0, 1, 0, 0, []),
  (74, .bipush 8, 2, 8, 0, 0, 0, []),
  (76, .irem, 1, 0, 0, 0, 0, []),
  (77, .iadd, 1, 0, 0, 0, 0, []),
  (78, .istore 4, 2, 0, 4, 0, 0, []),
  (80, .getstatic 272, 3, 0, 200, 0, 0, []),
  (83, .iload_n 3, 1, 0, 3, 0, 0, []),
  (84, .iaload, 1, 0, 0, 0, 0, []),
  (85, .aload_n 0, 1, 0, 0, 0, 0, []),
  (86, .getfield 59, 3, 0, 8, 0, 1, []),
  (89, .getstatic 275, 3, 0, 207, 0, 0, []),
  (92, .iload_n 3, 1, 0, 3, 0, 0, []),
  (93, .iaload, 1, 0, 0, 0, 0, []),
  (94, .invokevirtual 149, 3, 0, 4, 2, 0, []),
  (97, .iadd, 1, 0, 0, 0, 0, []),
  (98, .istore 5, 2, 0, 5, 0, 0, []),
  (100, .getstatic 278, 3, 0, 201, 0, 0, []),
  (103, .iload 4, 2, 0, 4, 0, 0, []),
  (105, .iaload, 1, 0, 0, 0, 0, []),
  (106, .aload_n 0, 1, 0, 0, 0, 0, []),
  (107, .getfield 59, 3, 0, 8, 0, 1, []),
  (110, .getstatic 281, 3, 0, 208, 0, 0, []),
  (113, .iload 4, 2, 0, 4, 0, 0, []),
  (115, .iaload, 1, 0, 0, 0, 0, []),
  (116, .invokevirtual 149, 3, 0, 4, 2, 0, []),
  (119, .iadd, 1, 0, 0, 0, 0, []),
  (120, .istore 6, 2, 0, 6, 0, 0, []),
  (122, .aload_n 0, 1, 0, 0, 0, 0, []),
  (123, .getfield 59, 3, 0, 8, 0, 1, []),
  (126, .invokevirtual 83, 3, 0, 2, 1, 0, []),
  (129, .ifCond .ne 4, 3, 0, 133, 0, 0, []),
  (132, .return_, 1, 0, 0, 0, 0, []),
  (133, .aload_n 0, 1, 0, 0, 0, 0, []),
  (134, .bipush 9, 2, 9, 0, 0, 0, []),
  (136, .invokevirtual 284, 3, 0, 79, 2, 8, []),
  (139, .iload 5, 2, 0, 5, 0, 0, []),
  (141, .aload_n 0, 1, 0, 0, 0, 0, [])]
def am_c87_2 : List (Nat × am_Row) := [(142, .getfield 109, 3, 0, 8, 14, 0, []),
  (145, .aload_n 0, 1, 0, 0, 0, 0, []),
  (146, .getfield 46, 3, 0, 8, 7, 1, []),
  (149, .getfield 103, 3, 0, 2, 1, 0, []),
  (152, .isub, 1, 0, 0, 0, 0, []),
  (153, .if_icmp .le 13, 3, 0, 166, 0, 0, []),
  (156, .aload_n 0, 1, 0, 0, 0, 0, []),
  (157, .getfield 59, 3, 0, 8, 0, 1, []),
  (160, .bipush 8, 2, 8, 0, 0, 0, []),
  (162, .invokevirtual 143, 3, 0, 3, 2, 0, []),
  (165, .return_, 1, 0, 0, 0, 0, []),
  (166, .iconst 0, 1, 0, 0, 0, 0, []),
  (167, .istore 7, 2, 0, 7, 0, 0, []),
  (169, .iload 7, 2, 0, 7, 0, 0, []),
  (171, .iload 5, 2, 0, 5, 0, 0, []),
  (173, .if_icmp .ge 23, 3, 0, 196, 0, 0, []),
  (176, .aload_n 0, 1, 0, 0, 0, 0, []),
  (177, .getfield 59, 3, 0, 8, 0, 1, []),
  (180, .invokevirtual 83, 3, 0, 2, 1, 0, []),
  (183, .ifCond .eq 13, 3, 0, 196, 0, 0, []),
  (186, .aload_n 0, 1, 0, 0, 0, 0, []),
  (187, .invokevirtual 287, 3, 0, 88, 1, 8, []),
  (190, .iinc 7 1, 3, 1, 7, 0, 0, []),
  (193, .goto (-24), 3, 0, 169, 0, 0, []),
  (196, .aload_n 0, 1, 0, 0, 0, 0, []),
  (197, .getfield 46, 3, 0, 8, 7, 1, []),
  (200, .getfield 103, 3, 0, 2, 1, 0, []),
  (203, .aload_n 0, 1, 0, 0, 0, 0, []),
  (204, .getfield 109, 3, 0, 8, 14, 0, []),
  (207, .if_icmp .ge 13, 3, 0, 220, 0, 0, []),
  (210, .aload_n 0, 1, 0, 0, 0, 0, []),
  (211, .getfield 59, 3, 0, 8, 0, 1, []),
  (214, .invokevirtual 83, 3, 0, 2, 1, 0, []),
  (217, .ifCond .ne 4, 3, 0, 221, 0, 0, []),
  (220, .return_, 1, 0, 0, 0, 0, []),
  (221, .iload_n 2, 1, 0, 2, 0, 0, []),
  (222, .iconst 2, 1, 2, 0, 0, 0, []),
  (223, .if_icmp .ge 7, 3, 0, 230, 0, 0, []),
  (226, .iconst 0, 1, 0, 0, 0, 0, []),
  (227, .goto 9, 3, 0, 236, 0, 0, [])]
def am_c87_3 : List (Nat × am_Row) := [(230, .aload_n 0, 1, 0, 0, 0, 0, []),
  (231, .iload 6, 2, 0, 6, 0, 0, []),
  (233, .invokevirtual 290, 3, 0, 89, 2, 8, []),
  (236, .istore 7, 2, 0, 7, 0, 0, []),
  (238, .aload_n 0, 1, 0, 0, 0, 0, []),
  (239, .iload 7, 2, 0, 7, 0, 0, []),
  (241, .invokevirtual 293, 3, 0, 90, 2, 8, []),
  (244, .istore 8, 2, 0, 8, 0, 0, []),
  (246, .aload_n 0, 1, 0, 0, 0, 0, []),
  (247, .getfield 161, 3, 0, 8, 13, 0, []),
  (250, .aload_n 0, 1, 0, 0, 0, 0, []),
  (251, .getfield 46, 3, 0, 8, 7, 1, []),
  (254, .getfield 103, 3, 0, 2, 1, 0, []),
  (257, .invokestatic 224, 3, 0, 903, 2, 0, []),
  (260, .istore 9, 2, 0, 9, 0, 0, []),
  (262, .iload 8, 2, 0, 8, 0, 0, []),
  (264, .ifCond .gt 15, 3, 0, 279, 0, 0, []),
  (267, .aload_n 0, 1, 0, 0, 0, 0, []),
  (268, .getfield 59, 3, 0, 8, 0, 1, []),
  (271, .bipush 9, 2, 9, 0, 0, 0, []),
  (273, .invokevirtual 143, 3, 0, 3, 2, 0, []),
  (276, .goto 36, 3, 0, 312, 0, 0, []),
  (279, .iload 8, 2, 0, 8, 0, 0, []),
  (281, .iload 9, 2, 0, 9, 0, 0, []),
  (283, .if_icmp .gt 16, 3, 0, 299, 0, 0, []),
  (286, .aload_n 0, 1, 0, 0, 0, 0, []),
  (287, .iload 6, 2, 0, 6, 0, 0, []),
  (289, .iload 8, 2, 0, 8, 0, 0, []),
  (291, .iload 7, 2, 0, 7, 0, 0, []),
  (293, .invokevirtual 296, 3, 0, 91, 4, 8, []),
  (296, .goto 16, 3, 0, 312, 0, 0, []),
  (299, .aload_n 0, 1, 0, 0, 0, 0, []),
  (300, .iload 6, 2, 0, 6, 0, 0, []),
  (302, .iload 8, 2, 0, 8, 0, 0, []),
  (304, .iload 9, 2, 0, 9, 0, 0, []),
  (306, .isub, 1, 0, 0, 0, 0, []),
  (307, .iconst 1, 1, 1, 0, 0, 0, []),
  (308, .isub, 1, 0, 0, 0, 0, []),
  (309, .invokevirtual 300, 3, 0, 92, 3, 8, []),
  (312, .return_, 1, 0, 0, 0, 0, [])]
def am_c87 : List (Nat × am_Row) := am_c87_0 ++ (am_c87_1 ++ (am_c87_2 ++ (am_c87_3)))
/-- BrotliWords$Opener.makeLiteral()V -/
def am_c88_0 : List (Nat × am_Row) := [(0, .aload_n 0, 1, 0, 0, 0, 0, []),
  (1, .getfield 42, 3, 0, 8, 12, 1, []),
  (4, .iconst 0, 1, 0, 0, 0, 0, []),
  (5, .aaload, 1, 0, 0, 0, 0, []),
  (6, .astore_n 1, 1, 0, 1, 0, 0, []),
  (7, .aload_n 1, 1, 0, 1, 0, 0, []),
  (8, .aload_n 0, 1, 0, 0, 0, 0, []),
  (9, .getfield 59, 3, 0, 8, 0, 1, []),
  (12, .invokevirtual 260, 3, 0, 12, 2, 1, []),
  (15, .aload_n 0, 1, 0, 0, 0, 0, []),
  (16, .getfield 21, 3, 0, 8, 4, 1, []),
  (19, .getfield 211, 3, 0, 7, 2, 1, []),
  (22, .aload_n 1, 1, 0, 1, 0, 0, []),
  (23, .getfield 263, 3, 0, 1, 3, 0, []),
  (26, .iaload, 1, 0, 0, 0, 0, []),
  (27, .aload_n 0, 1, 0, 0, 0, 0, []),
  (28, .getfield 46, 3, 0, 8, 7, 1, []),
  (31, .aload_n 0, 1, 0, 0, 0, 0, []),
  (32, .getfield 46, 3, 0, 8, 7, 1, []),
  (35, .getfield 103, 3, 0, 2, 1, 0, []),
  (38, .iconst 1, 1, 1, 0, 0, 0, []),
  (39, .isub, 1, 0, 0, 0, 0, []),
  (40, .invokevirtual 303, 3, 0, 15, 2, 2, []),
  (43, .aload_n 0, 1, 0, 0, 0, 0, []),
  (44, .getfield 46, 3, 0, 8, 7, 1, []),
  (47, .aload_n 0, 1, 0, 0, 0, 0, []),
  (48, .getfield 46, 3, 0, 8, 7, 1, []),
  (51, .getfield 103, 3, 0, 2, 1, 0, []),
  (54, .iconst 2, 1, 2, 0, 0, 0, []),
  (55, .isub, 1, 0, 0, 0, 0, []),
  (56, .invokevirtual 303, 3, 0, 15, 2, 2, []),
  (59, .invokestatic 305, 3, 0, 144, 3, 999, []),
  (62, .istore_n 2, 1, 0, 2, 0, 0, []),
  (63, .aload_n 0, 1, 0, 0, 0, 0, []),
  (64, .getfield 21, 3, 0, 8, 4, 1, []),
  (67, .getfield 309, 3, 0, 7, 3, 1, []),
  (70, .bipush 64, 2, 64, 0, 0, 0, []),
  (72, .aload_n 1, 1, 0, 1, 0, 0, []),
  (73, .getfield 263, 3, 0, 1, 3, 0, []),
  (76, .imul, 1, 0, 0, 0, 0, [])]
def am_c88_1 : List (Nat × am_Row) := [(77, .iload_n 2, 1, 0, 2, 0, 0, []),
  (78, .iadd, 1, 0, 0, 0, 0, []),
  (79, .iaload, 1, 0, 0, 0, 0, []),
  (80, .istore_n 3, 1, 0, 3, 0, 0, []),
  (81, .aload_n 0, 1, 0, 0, 0, 0, []),
  (82, .getfield 59, 3, 0, 8, 0, 1, []),
  (85, .aload_n 0, 1, 0, 0, 0, 0, []),
  (86, .getfield 21, 3, 0, 8, 4, 1, []),
  (89, .iconst 0, 1, 0, 0, 0, 0, []),
  (90, .iload_n 3, 1, 0, 3, 0, 0, []),
  (91, .invokevirtual 253, 3, 0, 67, 3, 7, []),
  (94, .invokevirtual 243, 3, 0, 5, 2, 0, []),
  (97, .istore 4, 2, 0, 4, 0, 0, []),
  (99, .aload_n 0, 1, 0, 0, 0, 0, []),
  (100, .getfield 59, 3, 0, 8, 0, 1, []),
  (103, .invokevirtual 83, 3, 0, 2, 1, 0, []),
  (106, .ifCond .eq 12, 3, 0, 118, 0, 0, []),
  (109, .aload_n 0, 1, 0, 0, 0, 0, []),
  (110, .getfield 46, 3, 0, 8, 7, 1, []),
  (113, .iload 4, 2, 0, 4, 0, 0, []),
  (115, .invokevirtual 312, 3, 0, 17, 2, 2, []),
  (118, .return_, 1, 0, 0, 0, 0, [])]
def am_c88 : List (Nat × am_Row) := am_c88_0 ++ (am_c88_1)
/-- BrotliWords$Opener.readDistanceSign(I)I -/
def am_c89 : List (Nat × am_Row) := [(0, .aload_n 0, 1, 0, 0, 0, 0, []),
  (1, .getfield 42, 3, 0, 8, 12, 1, []),
  (4, .iconst 2, 1, 2, 0, 0, 0, []),
  (5, .aaload, 1, 0, 0, 0, 0, []),
  (6, .astore_n 2, 1, 0, 2, 0, 0, []),
  (7, .aload_n 2, 1, 0, 2, 0, 0, []),
  (8, .aload_n 0, 1, 0, 0, 0, 0, []),
  (9, .getfield 59, 3, 0, 8, 0, 1, []),
  (12, .invokevirtual 260, 3, 0, 12, 2, 1, []),
  (15, .aload_n 0, 1, 0, 0, 0, 0, []),
  (16, .getfield 21, 3, 0, 8, 4, 1, []),
  (19, .getfield 315, 3, 0, 7, 4, 1, []),
  (22, .iconst 4, 1, 4, 0, 0, 0, []),
  (23, .aload_n 2, 1, 0, 2, 0, 0, []),
  (24, .getfield 263, 3, 0, 1, 3, 0, []),
  (27, .imul, 1, 0, 0, 0, 0, []),
  (28, .iload_n 1, 1, 0, 1, 0, 0, []),
  (29, .iconst 2, 1, 2, 0, 0, 0, []),
  (30, .isub, 1, 0, 0, 0, 0, []),
  (31, .iconst 3, 1, 3, 0, 0, 0, []),
  (32, .invokestatic 224, 3, 0, 903, 2, 0, []),
  (35, .iadd, 1, 0, 0, 0, 0, []),
  (36, .iaload, 1, 0, 0, 0, 0, []),
  (37, .istore_n 3, 1, 0, 3, 0, 0, []),
  (38, .aload_n 0, 1, 0, 0, 0, 0, []),
  (39, .getfield 59, 3, 0, 8, 0, 1, []),
  (42, .aload_n 0, 1, 0, 0, 0, 0, []),
  (43, .getfield 21, 3, 0, 8, 4, 1, []),
  (46, .iconst 2, 1, 2, 0, 0, 0, []),
  (47, .iload_n 3, 1, 0, 3, 0, 0, []),
  (48, .invokevirtual 253, 3, 0, 67, 3, 7, []),
  (51, .invokevirtual 243, 3, 0, 5, 2, 0, []),
  (54, .ireturn, 1, 0, 0, 0, 0, [])]
/-- BrotliWords$Opener.readDistance(I)I -/
def am_c90_0 : List (Nat × am_Row) := [(0, .iload_n 1, 1, 0, 1, 0, 0, []),
  (1, .iconst 4, 1, 4, 0, 0, 0, []),
  (2, .if_icmp .ge 10, 3, 0, 12, 0, 0, []),
  (5, .aload_n 0, 1, 0, 0, 0, 0, []),
  (6, .getfield 9, 3, 0, 8, 1, 1, []),
  (9, .iload_n 1, 1, 0, 1, 0, 0, []),
  (10, .iaload, 1, 0, 0, 0, 0, []),
  (11, .ireturn, 1, 0, 0, 0, 0, []),
  (12, .iload_n 1, 1, 0, 1, 0, 0, []),
  (13, .bipush 16, 2, 16, 0, 0, 0, []),
  (15, .if_icmp .ge 46, 3, 0, 61, 0, 0, []),
  (18, .iload_n 1, 1, 0, 1, 0, 0, []),
  (19, .iconst 4, 1, 4, 0, 0, 0, []),
  (20, .isub, 1, 0, 0, 0, 0, []),
  (21, .bipush 6, 2, 6, 0, 0, 0, []),
  (23, .irem, 1, 0, 0, 0, 0, []),
  (24, .istore_n 2, 1, 0, 2, 0, 0, []),
  (25, .iconst 1, 1, 1, 0, 0, 0, []),
  (26, .iload_n 2, 1, 0, 2, 0, 0, []),
  (27, .iconst 2, 1, 2, 0, 0, 0, []),
  (28, .idiv, 1, 0, 0, 0, 0, []),
  (29, .iadd, 1, 0, 0, 0, 0, []),
  (30, .istore_n 3, 1, 0, 3, 0, 0, []),
  (31, .aload_n 0, 1, 0, 0, 0, 0, []),
  (32, .getfield 9, 3, 0, 8, 1, 1, []),
  (35, .iload_n 1, 1, 0, 1, 0, 0, []),
  (36, .bipush 10, 2, 10, 0, 0, 0, []),
  (38, .if_icmp .ge 7, 3, 0, 45, 0, 0, []),
  (41, .iconst 0, 1, 0, 0, 0, 0, []),
  (42, .goto 4, 3, 0, 46, 0, 0, []),
  (45, .iconst 1, 1, 1, 0, 0, 0, []),
  (46, .iaload, 1, 0, 0, 0, 0, []),
  (47, .iload_n 2, 1, 0, 2, 0, 0, []),
  (48, .iconst 2, 1, 2, 0, 0, 0, []),
  (49, .irem, 1, 0, 0, 0, 0, []),
  (50, .ifCond .ne 8, 3, 0, 58, 0, 0, []),
  (53, .iload_n 3, 1, 0, 3, 0, 0, []),
  (54, .ineg, 1, 0, 0, 0, 0, []),
  (55, .goto 4, 3, 0, 59, 0, 0, []),
  (58, .iload_n 3, 1, 0, 3, 0, 0, [])]
def am_c90_1 : List (Nat × am_Row) := [(59, .iadd, 1, 0, 0, 0, 0, []),
  (60, .ireturn, 1, 0, 0, 0, 0, []),
  (61, .iload_n 1, 1, 0, 1, 0, 0, []),
  (62, .bipush 16, 2, 16, 0, 0, 0, []),
  (64, .aload_n 0, 1, 0, 0, 0, 0, []),
  (65, .getfield 21, 3, 0, 8, 4, 1, []),
  (68, .getfield 208, 3, 0, 7, 9, 0, []),
  (71, .iadd, 1, 0, 0, 0, 0, []),
  (72, .if_icmp .ge 8, 3, 0, 80, 0, 0, []),
  (75, .iload_n 1, 1, 0, 1, 0, 0, []),
  (76, .bipush 15, 2, 15, 0, 0, 0, []),
  (78, .isub, 1, 0, 0, 0, 0, []),
  (79, .ireturn, 1, 0, 0, 0, 0, []),
  (80, .iload_n 1, 1, 0, 1, 0, 0, []),
  (81, .aload_n 0, 1, 0, 0, 0, 0, []),
  (82, .getfield 21, 3, 0, 8, 4, 1, []),
  (85, .getfield 208, 3, 0, 7, 9, 0, []),
  (88, .isub, 1, 0, 0, 0, 0, []),
  (89, .bipush 16, 2, 16, 0, 0, 0, []),
  (91, .isub, 1, 0, 0, 0, 0, []),
  (92, .istore_n 2, 1, 0, 2, 0, 0, []),
  (93, .aload_n 0, 1, 0, 0, 0, 0, []),
  (94, .getfield 21, 3, 0, 8, 4, 1, []),
  (97, .getfield 205, 3, 0, 7, 8, 0, []),
  (100, .istore_n 3, 1, 0, 3, 0, 0, []),
  (101, .iconst 1, 1, 1, 0, 0, 0, []),
  (102, .iload_n 2, 1, 0, 2, 0, 0, []),
  (103, .iload_n 3, 1, 0, 3, 0, 0, []),
  (104, .iconst 1, 1, 1, 0, 0, 0, []),
  (105, .iadd, 1, 0, 0, 0, 0, []),
  (106, .ishr, 1, 0, 0, 0, 0, []),
  (107, .iadd, 1, 0, 0, 0, 0, []),
  (108, .istore 4, 2, 0, 4, 0, 0, []),
  (110, .iconst 2, 1, 2, 0, 0, 0, []),
  (111, .iload_n 2, 1, 0, 2, 0, 0, []),
  (112, .iload_n 3, 1, 0, 3, 0, 0, []),
  (113, .ishr, 1, 0, 0, 0, 0, []),
  (114, .iconst 1, 1, 1, 0, 0, 0, []),
  (115, .iand, 1, 0, 0, 0, 0, []),
  (116, .iadd, 1, 0, 0, 0, 0, [])]
def am_c90_2 : List (Nat × am_Row) := [(117, .iload 4, 2, 0, 4, 0, 0, []),
  (119, .ishl, 1, 0, 0, 0, 0, []),
  (120, .iconst 4, 1, 4, 0, 0, 0, []),
  (121, .isub, 1, 0, 0, 0, 0, []),
  (122, .aload_n 0, 1, 0, 0, 0, 0, []),
  (123, .getfield 59, 3, 0, 8, 0, 1, []),
  (126, .iload 4, 2, 0, 4, 0, 0, []),
  (128, .invokevirtual 149, 3, 0, 4, 2, 0, []),
  (131, .iadd, 1, 0, 0, 0, 0, []),
  (132, .istore 5, 2, 0, 5, 0, 0, []),
  (134, .iload 5, 2, 0, 5, 0, 0, []),
  (136, .iload_n 3, 1, 0, 3, 0, 0, []),
  (137, .ishl, 1, 0, 0, 0, 0, []),
  (138, .iload_n 2, 1, 0, 2, 0, 0, []),
  (139, .iconst 1, 1, 1, 0, 0, 0, []),
  (140, .iload_n 3, 1, 0, 3, 0, 0, []),
  (141, .ishl, 1, 0, 0, 0, 0, []),
  (142, .iconst 1, 1, 1, 0, 0, 0, []),
  (143, .isub, 1, 0, 0, 0, 0, []),
  (144, .iand, 1, 0, 0, 0, 0, []),
  (145, .iadd, 1, 0, 0, 0, 0, []),
  (146, .aload_n 0, 1, 0, 0, 0, 0, []),
  (147, .getfield 21, 3, 0, 8, 4, 1, []),
  (150, .getfield 208, 3, 0, 7, 9, 0, []),
  (153, .iadd, 1, 0, 0, 0, 0, []),
  (154, .iconst 1, 1, 1, 0, 0, 0, []),
  (155, .iadd, 1, 0, 0, 0, 0, []),
  (156, .ireturn, 1, 0, 0, 0, 0, [])]
def am_c90 : List (Nat × am_Row) := am_c90_0 ++ (am_c90_1 ++ (am_c90_2))
/-- BrotliWords$Opener.makeCopy(III)V -/
def am_c91_0 : List (Nat × am_Row) := [(0, .iload_n 1, 1, 0, 1, 0, 0, []),
  (1, .aload_n 0, 1, 0, 0, 0, 0, []),
  (2, .getfield 109, 3, 0, 8, 14, 0, []),
  (5, .aload_n 0, 1, 0, 0, 0, 0, []),
  (6, .getfield 46, 3, 0, 8, 7, 1, []),
  (9, .getfield 103, 3, 0, 2, 1, 0, []),
  (12, .isub, 1, 0, 0, 0, 0, []),
  (13, .if_icmp .le 12, 3, 0, 25, 0, 0, []),
  (16, .aload_n 0, 1, 0, 0, 0, 0, []),
  (17, .getfield 59, 3, 0, 8, 0, 1, []),
  (20, .bipush 8, 2, 8, 0, 0, 0, []),
  (22, .invokevirtual 143, 3, 0, 3, 2, 0, []),
  (25, .aload_n 0, 1, 0, 0, 0, 0, []),
  (26, .getfield 59, 3, 0, 8, 0, 1, []),
  (29, .invokevirtual 83, 3, 0, 2, 1, 0, []),
  (32, .ifCond .ne 4, 3, 0, 36, 0, 0, []),
  (35, .return_, 1, 0, 0, 0, 0, []),
  (36, .iconst 0, 1, 0, 0, 0, 0, []),
  (37, .istore 4, 2, 0, 4, 0, 0, []),
  (39, .iload 4, 2, 0, 4, 0, 0, []),
  (41, .iload_n 1, 1, 0, 1, 0, 0, []),
  (42, .if_icmp .ge 32, 3, 0, 74, 0, 0, []),
  (45, .aload_n 0, 1, 0, 0, 0, 0, []),
  (46, .getfield 46, 3, 0, 8, 7, 1, []),
  (49, .aload_n 0, 1, 0, 0, 0, 0, []),
  (50, .getfield 46, 3, 0, 8, 7, 1, []),
  (53, .aload_n 0, 1, 0, 0, 0, 0, []),
  (54, .getfield 46, 3, 0, 8, 7, 1, []),
  (57, .getfield 103, 3, 0, 2, 1, 0, []),
  (60, .iload_n 2, 1, 0, 2, 0, 0, []),
  (61, .isub, 1, 0, 0, 0, 0, []),
  (62, .invokevirtual 303, 3, 0, 15, 2, 2, []),
  (65, .invokevirtual 312, 3, 0, 17, 2, 2, []),
  (68, .iinc 4 1, 3, 1, 4, 0, 0, []),
  (71, .goto (-32), 3, 0, 39, 0, 0, []),
  (74, .iload_n 3, 1, 0, 3, 0, 0, []),
  (75, .ifCond .eq 11, 3, 0, 86, 0, 0, []),
  (78, .aload_n 0, 1, 0, 0, 0, 0, []),
  (79, .getfield 9, 3, 0, 8, 1, 1, []),
  (82, .iload_n 2, 1, 0, 2, 0, 0, [])]
def am_c91_1 : List (Nat × am_Row) := [(83, .invokestatic 318, 3, 0, 143, 2, 999, []),
  (86, .aload_n 0, 1, 0, 0, 0, 0, []),
  (87, .bipush 10, 2, 10, 0, 0, 0, []),
  (89, .invokevirtual 284, 3, 0, 79, 2, 8, []),
  (92, .return_, 1, 0, 0, 0, 0, [])]
def am_c91 : List (Nat × am_Row) := am_c91_0 ++ (am_c91_1)
/-- BrotliWords$Opener.makeWord(II)V -/
def am_c92_0 : List (Nat × am_Row) := [(0, .aload_n 0, 1, 0, 0, 0, 0, []),
  (1, .getfield 50, 3, 0, 8, 8, 1, []),
  (4, .iload_n 1, 1, 0, 1, 0, 0, []),
  (5, .invokevirtual 321, 3, 0, 113, 2, 10, []),
  (8, .istore_n 3, 1, 0, 3, 0, 0, []),
  (9, .iload_n 2, 1, 0, 2, 0, 0, []),
  (10, .iconst 1, 1, 1, 0, 0, 0, []),
  (11, .iload_n 3, 1, 0, 3, 0, 0, []),
  (12, .ishl, 1, 0, 0, 0, 0, []),
  (13, .iconst 1, 1, 1, 0, 0, 0, []),
  (14, .isub, 1, 0, 0, 0, 0, []),
  (15, .iand, 1, 0, 0, 0, 0, []),
  (16, .istore 4, 2, 0, 4, 0, 0, []),
  (18, .iload_n 2, 1, 0, 2, 0, 0, []),
  (19, .iload_n 3, 1, 0, 3, 0, 0, []),
  (20, .ishr, 1, 0, 0, 0, 0, []),
  (21, .istore 5, 2, 0, 5, 0, 0, []),
  (23, .iload 4, 2, 0, 4, 0, 0, []),
  (25, .aload_n 0, 1, 0, 0, 0, 0, []),
  (26, .getfield 50, 3, 0, 8, 8, 1, []),
  (29, .iload_n 1, 1, 0, 1, 0, 0, []),
  (30, .invokevirtual 324, 3, 0, 109, 2, 10, []),
  (33, .if_icmp .lt 15, 3, 0, 48, 0, 0, []),
  (36, .aload_n 0, 1, 0, 0, 0, 0, []),
  (37, .getfield 59, 3, 0, 8, 0, 1, []),
  (40, .bipush 10, 2, 10, 0, 0, 0, []),
  (42, .invokevirtual 143, 3, 0, 3, 2, 0, []),
  (45, .goto 52, 3, 0, 97, 0, 0, []),
  (48, .iload 5, 2, 0, 5, 0, 0, []),
  (50, .bipush 24, 2, 24, 0, 0, 0, []),
  (52, .if_icmp .lt 15, 3, 0, 67, 0, 0, []),
  (55, .aload_n 0, 1, 0, 0, 0, 0, []),
  (56, .getfield 59, 3, 0, 8, 0, 1, []),
  (59, .bipush 11, 2, 11, 0, 0, 0, []),
  (61, .invokevirtual 143, 3, 0, 3, 2, 0, []),
  (64, .goto 33, 3, 0, 97, 0, 0, []),
  (67, .iload_n 1, 1, 0, 1, 0, 0, []),
  (68, .iload 5, 2, 0, 5, 0, 0, []),
  (70, .invokestatic 327, 3, 0, 118, 2, 999, []),
  (73, .aload_n 0, 1, 0, 0, 0, 0, [])]
def am_c92_1 : List (Nat × am_Row) := [(74, .getfield 109, 3, 0, 8, 14, 0, []),
  (77, .aload_n 0, 1, 0, 0, 0, 0, []),
  (78, .getfield 46, 3, 0, 8, 7, 1, []),
  (81, .getfield 103, 3, 0, 2, 1, 0, []),
  (84, .isub, 1, 0, 0, 0, 0, []),
  (85, .if_icmp .le 12, 3, 0, 97, 0, 0, []),
  (88, .aload_n 0, 1, 0, 0, 0, 0, []),
  (89, .getfield 59, 3, 0, 8, 0, 1, []),
  (92, .bipush 8, 2, 8, 0, 0, 0, []),
  (94, .invokevirtual 143, 3, 0, 3, 2, 0, []),
  (97, .aload_n 0, 1, 0, 0, 0, 0, []),
  (98, .getfield 59, 3, 0, 8, 0, 1, []),
  (101, .invokevirtual 83, 3, 0, 2, 1, 0, []),
  (104, .ifCond .ne 4, 3, 0, 108, 0, 0, []),
  (107, .return_, 1, 0, 0, 0, 0, []),
  (108, .iload_n 1, 1, 0, 1, 0, 0, []),
  (109, .iload 5, 2, 0, 5, 0, 0, []),
  (111, .invokestatic 327, 3, 0, 118, 2, 999, []),
  (114, .istore 6, 2, 0, 6, 0, 0, []),
  (116, .iconst 0, 1, 0, 0, 0, 0, []),
  (117, .istore 7, 2, 0, 7, 0, 0, []),
  (119, .iload 7, 2, 0, 7, 0, 0, []),
  (121, .iload 6, 2, 0, 6, 0, 0, []),
  (123, .if_icmp .ge 30, 3, 0, 153, 0, 0, []),
  (126, .aload_n 0, 1, 0, 0, 0, 0, []),
  (127, .getfield 46, 3, 0, 8, 7, 1, []),
  (130, .aload_n 0, 1, 0, 0, 0, 0, []),
  (131, .getfield 50, 3, 0, 8, 8, 1, []),
  (134, .iload_n 1, 1, 0, 1, 0, 0, []),
  (135, .iload 4, 2, 0, 4, 0, 0, []),
  (137, .iload 5, 2, 0, 5, 0, 0, []),
  (139, .iload 7, 2, 0, 7, 0, 0, []),
  (141, .invokevirtual 330, 3, 0, 119, 5, 10, []),
  (144, .invokevirtual 312, 3, 0, 17, 2, 2, []),
  (147, .iinc 7 1, 3, 1, 7, 0, 0, []),
  (150, .goto (-31), 3, 0, 119, 0, 0, []),
  (153, .aload_n 0, 1, 0, 0, 0, 0, []),
  (154, .bipush 11, 2, 11, 0, 0, 0, []),
  (156, .invokevirtual 284, 3, 0, 79, 2, 8, []),
  (159, .return_, 1, 0, 0, 0, 0, [])]
def am_c92 : List (Nat × am_Row) := am_c92_0 ++ (am_c92_1)
/-- BrotliWords$Packer.<init>(LBrotliWords$Bytes;LBrotliWords$Bytes;LBrotliWords$Words;)V -/
def am_c93_0 : List (Nat × am_Row) := [(0, .aload_n 0, 1, 0, 0, 0, 0, []),
  (1, .invokespecial 3, 3, 0, 900, 1, 0, []),
  (4, .aload_n 0, 1, 0, 0, 0, 0, []),
  (5, .sipush 501, 3, 501, 0, 0, 0, []),
  (8, .newarray .int, 2, 0, 55, 0, 0, []),
  (10, .putfield 11, 3, 0, 9, 0, 1, []),
  (13, .aload_n 0, 1, 0, 0, 0, 0, []),
  (14, .sipush 501, 3, 501, 0, 0, 0, []),
  (17, .newarray .int, 2, 0, 56, 0, 0, []),
  (19, .putfield 15, 3, 0, 9, 1, 1, []),
  (22, .aload_n 0, 1, 0, 0, 0, 0, []),
  (23, .sipush 501, 3, 501, 0, 0, 0, []),
  (26, .newarray .int, 2, 0, 57, 0, 0, []),
  (28, .putfield 18, 3, 0, 9, 2, 1, []),
  (31, .aload_n 0, 1, 0, 0, 0, 0, []),
  (32, .sipush 501, 3, 501, 0, 0, 0, []),
  (35, .newarray .int, 2, 0, 58, 0, 0, []),
  (37, .putfield 21, 3, 0, 9, 3, 1, []),
  (40, .aload_n 0, 1, 0, 0, 0, 0, []),
  (41, .sipush 501, 3, 501, 0, 0, 0, []),
  (44, .newarray .int, 2, 0, 59, 0, 0, []),
  (46, .putfield 24, 3, 0, 9, 5, 1, []),
  (49, .aload_n 0, 1, 0, 0, 0, 0, []),
  (50, .sipush 501, 3, 501, 0, 0, 0, []),
  (53, .newarray .int, 2, 0, 60, 0, 0, []),
  (55, .putfield 27, 3, 0, 9, 6, 1, []),
  (58, .aload_n 0, 1, 0, 0, 0, 0, []),
  (59, .sipush 2000, 3, 2000, 0, 0, 0, []),
  (62, .newarray .int, 2, 0, 61, 0, 0, []),
  (64, .putfield 30, 3, 0, 9, 7, 1, []),
  (67, .aload_n 0, 1, 0, 0, 0, 0, []),
  (68, .sipush 2001, 3, 2001, 0, 0, 0, []),
  (71, .newarray .int, 2, 0, 62, 0, 0, []),
  (73, .putfield 33, 3, 0, 9, 8, 1, []),
  (76, .aload_n 0, 1, 0, 0, 0, 0, []),
  (77, .iconst 4, 1, 4, 0, 0, 0, []),
  (78, .newarray .int, 2, 0, 63, 0, 0, []),
  (80, .putfield 36, 3, 0, 9, 9, 1, []),
  (83, .aload_n 0, 1, 0, 0, 0, 0, []),
  (84, .new 39, 3, 0, 5, 11, 0, [])]
def am_c93_1 : List (Nat × am_Row) := [(87, .dup, 1, 0, 0, 0, 0, []),
  (88, .sipush 256, 3, 256, 0, 0, 0, []),
  (91, .invokespecial 41, 3, 0, 35, 2, 5, []),
  (94, .putfield 44, 3, 0, 9, 14, 1, []),
  (97, .aload_n 0, 1, 0, 0, 0, 0, []),
  (98, .new 39, 3, 0, 5, 11, 0, []),
  (101, .dup, 1, 0, 0, 0, 0, []),
  (102, .sipush 704, 3, 704, 0, 0, 0, []),
  (105, .invokespecial 41, 3, 0, 35, 2, 5, []),
  (108, .putfield 48, 3, 0, 9, 15, 1, []),
  (111, .aload_n 0, 1, 0, 0, 0, 0, []),
  (112, .new 39, 3, 0, 5, 11, 0, []),
  (115, .dup, 1, 0, 0, 0, 0, []),
  (116, .bipush 64, 2, 64, 0, 0, 0, []),
  (118, .invokespecial 41, 3, 0, 35, 2, 5, []),
  (121, .putfield 51, 3, 0, 9, 16, 1, []),
  (124, .aload_n 0, 1, 0, 0, 0, 0, []),
  (125, .new 39, 3, 0, 5, 11, 0, []),
  (128, .dup, 1, 0, 0, 0, 0, []),
  (129, .bipush 18, 2, 18, 0, 0, 0, []),
  (131, .invokespecial 41, 3, 0, 35, 2, 5, []),
  (134, .putfield 54, 3, 0, 9, 17, 1, []),
  (137, .aload_n 0, 1, 0, 0, 0, 0, []),
  (138, .aload_n 1, 1, 0, 1, 0, 0, []),
  (139, .putfield 57, 3, 0, 9, 10, 1, []),
  (142, .aload_n 0, 1, 0, 0, 0, 0, []),
  (143, .aload_n 2, 1, 0, 2, 0, 0, []),
  (144, .putfield 61, 3, 0, 9, 11, 1, []),
  (147, .aload_n 0, 1, 0, 0, 0, 0, []),
  (148, .aload_n 3, 1, 0, 3, 0, 0, []),
  (149, .putfield 64, 3, 0, 9, 12, 1, []),
  (152, .aload_n 0, 1, 0, 0, 0, 0, []),
  (153, .new 68, 3, 0, 6, 12, 0, []),
  (156, .dup, 1, 0, 0, 0, 0, []),
  (157, .aload_n 1, 1, 0, 1, 0, 0, []),
  (158, .aload_n 3, 1, 0, 3, 0, 0, []),
  (159, .invokespecial 70, 3, 0, 51, 3, 6, []),
  (162, .putfield 73, 3, 0, 9, 13, 1, []),
  (165, .return_, 1, 0, 0, 0, 0, [])]
def am_c93 : List (Nat × am_Row) := am_c93_0 ++ (am_c93_1)
/-- BrotliWords$Packer.packAll(I)V -/
def am_c94_0 : List (Nat × am_Row) := [(0, .aload_n 0, 1, 0, 0, 0, 0, []),
  (1, .getfield 57, 3, 0, 9, 10, 1, []),
  (4, .getfield 77, 3, 0, 2, 1, 0, []),
  (7, .sipush 2000, 3, 2000, 0, 0, 0, []),
  (10, .invokestatic 83, 3, 0, 903, 2, 0, []),
  (13, .istore_n 2, 1, 0, 2, 0, 0, []),
  (14, .aload_n 0, 1, 0, 0, 0, 0, []),
  (15, .iconst 0, 1, 0, 0, 0, 0, []),
  (16, .putfield 89, 3, 0, 9, 4, 0, []),
  (19, .aload_n 0, 1, 0, 0, 0, 0, []),
  (20, .getfield 61, 3, 0, 9, 11, 1, []),
  (23, .iconst 0, 1, 0, 0, 0, 0, []),
  (24, .invokevirtual 92, 3, 0, 16, 2, 2, []),
  (27, .aload_n 0, 1, 0, 0, 0, 0, []),
  (28, .getfield 61, 3, 0, 9, 11, 1, []),
  (31, .aload_n 0, 1, 0, 0, 0, 0, []),
  (32, .getfield 64, 3, 0, 9, 12, 1, []),
  (35, .invokevirtual 95, 3, 0, 114, 1, 10, []),
  (38, .bipush 16, 2, 16, 0, 0, 0, []),
  (40, .invokevirtual 101, 3, 0, 19, 3, 2, []),
  (43, .aload_n 0, 1, 0, 0, 0, 0, []),
  (44, .getfield 61, 3, 0, 9, 11, 1, []),
  (47, .iconst 0, 1, 0, 0, 0, 0, []),
  (48, .iconst 1, 1, 1, 0, 0, 0, []),
  (49, .invokevirtual 101, 3, 0, 19, 3, 2, []),
  (52, .iload_n 2, 1, 0, 2, 0, 0, []),
  (53, .ifCond .le 30, 3, 0, 83, 0, 0, []),
  (56, .iload_n 1, 1, 0, 1, 0, 0, []),
  (57, .ifCond .le 26, 3, 0, 83, 0, 0, []),
  (60, .aload_n 0, 1, 0, 0, 0, 0, []),
  (61, .iload_n 1, 1, 0, 1, 0, 0, []),
  (62, .iload_n 2, 1, 0, 2, 0, 0, []),
  (63, .invokevirtual 105, 3, 0, 96, 3, 9, []),
  (66, .aload_n 0, 1, 0, 0, 0, 0, []),
  (67, .iload_n 2, 1, 0, 2, 0, 0, []),
  (68, .invokevirtual 108, 3, 0, 100, 2, 9, []),
  (71, .aload_n 0, 1, 0, 0, 0, 0, []),
  (72, .iload_n 2, 1, 0, 2, 0, 0, []),
  (73, .invokevirtual 111, 3, 0, 106, 2, 9, []),
  (76, .aload_n 0, 1, 0, 0, 0, 0, [])]
def am_c94_1 : List (Nat × am_Row) := [(77, .invokevirtual 114, 3, 0, 107, 1, 9, []),
  (80, .goto 17, 3, 0, 97, 0, 0, []),
  (83, .aload_n 0, 1, 0, 0, 0, 0, []),
  (84, .iload_n 2, 1, 0, 2, 0, 0, []),
  (85, .invokevirtual 117, 3, 0, 95, 2, 9, []),
  (88, .aload_n 0, 1, 0, 0, 0, 0, []),
  (89, .getfield 61, 3, 0, 9, 11, 1, []),
  (92, .iconst 3, 1, 3, 0, 0, 0, []),
  (93, .iconst 2, 1, 2, 0, 0, 0, []),
  (94, .invokevirtual 101, 3, 0, 19, 3, 2, []),
  (97, .aload_n 0, 1, 0, 0, 0, 0, []),
  (98, .getfield 61, 3, 0, 9, 11, 1, []),
  (101, .invokevirtual 120, 3, 0, 20, 1, 2, []),
  (104, .return_, 1, 0, 0, 0, 0, [])]
def am_c94 : List (Nat × am_Row) := am_c94_0 ++ (am_c94_1)
/-- BrotliWords$Packer.writeRaw(I)V -/
def am_c95 : List (Nat × am_Row) := [(0, .iload_n 1, 1, 0, 1, 0, 0, []),
  (1, .ifCond .ne 4, 3, 0, 5, 0, 0, []),
  (4, .return_, 1, 0, 0, 0, 0, []),
  (5, .aload_n 0, 1, 0, 0, 0, 0, []),
  (6, .getfield 61, 3, 0, 9, 11, 1, []),
  (9, .iconst 0, 1, 0, 0, 0, 0, []),
  (10, .iconst 3, 1, 3, 0, 0, 0, []),
  (11, .invokevirtual 101, 3, 0, 19, 3, 2, []),
  (14, .aload_n 0, 1, 0, 0, 0, 0, []),
  (15, .getfield 61, 3, 0, 9, 11, 1, []),
  (18, .iload_n 1, 1, 0, 1, 0, 0, []),
  (19, .iconst 1, 1, 1, 0, 0, 0, []),
  (20, .isub, 1, 0, 0, 0, 0, []),
  (21, .bipush 16, 2, 16, 0, 0, 0, []),
  (23, .invokevirtual 101, 3, 0, 19, 3, 2, []),
  (26, .aload_n 0, 1, 0, 0, 0, 0, []),
  (27, .getfield 61, 3, 0, 9, 11, 1, []),
  (30, .iconst 1, 1, 1, 0, 0, 0, []),
  (31, .iconst 1, 1, 1, 0, 0, 0, []),
  (32, .invokevirtual 101, 3, 0, 19, 3, 2, []),
  (35, .iconst 0, 1, 0, 0, 0, 0, []),
  (36, .istore_n 2, 1, 0, 2, 0, 0, []),
  (37, .iload_n 2, 1, 0, 2, 0, 0, []),
  (38, .iload_n 1, 1, 0, 1, 0, 0, []),
  (39, .if_icmp .ge 24, 3, 0, 63, 0, 0, []),
  (42, .aload_n 0, 1, 0, 0, 0, 0, []),
  (43, .getfield 61, 3, 0, 9, 11, 1, []),
  (46, .aload_n 0, 1, 0, 0, 0, 0, []),
  (47, .getfield 57, 3, 0, 9, 10, 1, []),
  (50, .iload_n 2, 1, 0, 2, 0, 0, []),
  (51, .invokevirtual 123, 3, 0, 15, 2, 2, []),
  (54, .invokevirtual 127, 3, 0, 17, 2, 2, []),
  (57, .iinc 2 1, 3, 1, 2, 0, 0, []),
  (60, .goto (-23), 3, 0, 37, 0, 0, []),
  (63, .return_, 1, 0, 0, 0, 0, [])]
/-- BrotliWords$Packer.choose(II)V -/
def am_c96_0 : List (Nat × am_Row) := [(0, .aload_n 0, 1, 0, 0, 0, 0, []),
  (1, .getfield 73, 3, 0, 9, 13, 1, []),
  (4, .invokevirtual 130, 3, 0, 52, 1, 6, []),
  (7, .iload_n 1, 1, 0, 1, 0, 0, []),
  (8, .iconst 1, 1, 1, 0, 0, 0, []),
  (9, .if_icmp .ne 45, 3, 0, 54, 0, 0, []),
  (12, .iconst 0, 1, 0, 0, 0, 0, []),
  (13, .istore_n 3, 1, 0, 3, 0, 0, []),
  (14, .iload_n 3, 1, 0, 3, 0, 0, []),
  (15, .iload_n 2, 1, 0, 2, 0, 0, []),
  (16, .if_icmp .ge 37, 3, 0, 53, 0, 0, []),
  (19, .aload_n 0, 1, 0, 0, 0, 0, []),
  (20, .getfield 73, 3, 0, 9, 13, 1, []),
  (23, .iload_n 3, 1, 0, 3, 0, 0, []),
  (24, .invokevirtual 133, 3, 0, 53, 2, 6, []),
  (27, .aload_n 0, 1, 0, 0, 0, 0, []),
  (28, .getfield 30, 3, 0, 9, 7, 1, []),
  (31, .iload_n 3, 1, 0, 3, 0, 0, []),
  (32, .aload_n 0, 1, 0, 0, 0, 0, []),
  (33, .iload_n 3, 1, 0, 3, 0, 0, []),
  (34, .invokevirtual 136, 3, 0, 97, 2, 9, []),
  (37, .iastore, 1, 0, 0, 0, 0, []),
  (38, .iload_n 3, 1, 0, 3, 0, 0, []),
  (39, .aload_n 0, 1, 0, 0, 0, 0, []),
  (40, .iload_n 3, 1, 0, 3, 0, 0, []),
  (41, .invokevirtual 139, 3, 0, 99, 2, 9, []),
  (44, .iconst 1, 1, 1, 0, 0, 0, []),
  (45, .invokestatic 142, 3, 0, 902, 2, 0, []),
  (48, .iadd, 1, 0, 0, 0, 0, []),
  (49, .istore_n 3, 1, 0, 3, 0, 0, []),
  (50, .goto (-36), 3, 0, 14, 0, 0, []),
  (53, .return_, 1, 0, 0, 0, 0, []),
  (54, .iconst 0, 1, 0, 0, 0, 0, []),
  (55, .istore_n 3, 1, 0, 3, 0, 0, []),
  (56, .iload_n 3, 1, 0, 3, 0, 0, []),
  (57, .iload_n 2, 1, 0, 2, 0, 0, []),
  (58, .if_icmp .ge 17, 3, 0, 75, 0, 0, []),
  (61, .aload_n 0, 1, 0, 0, 0, 0, []),
  (62, .getfield 73, 3, 0, 9, 13, 1, []),
  (65, .iload_n 3, 1, 0, 3, 0, 0, [])]
def am_c96_1 : List (Nat × am_Row) := [(66, .invokevirtual 133, 3, 0, 53, 2, 6, []),
  (69, .iinc 3 1, 3, 1, 3, 0, 0, []),
  (72, .goto (-16), 3, 0, 56, 0, 0, []),
  (75, .aload_n 0, 1, 0, 0, 0, 0, []),
  (76, .getfield 33, 3, 0, 9, 8, 1, []),
  (79, .iload_n 2, 1, 0, 2, 0, 0, []),
  (80, .iconst 0, 1, 0, 0, 0, 0, []),
  (81, .iastore, 1, 0, 0, 0, 0, []),
  (82, .iload_n 2, 1, 0, 2, 0, 0, []),
  (83, .iconst 1, 1, 1, 0, 0, 0, []),
  (84, .isub, 1, 0, 0, 0, 0, []),
  (85, .istore_n 3, 1, 0, 3, 0, 0, []),
  (86, .iload_n 3, 1, 0, 3, 0, 0, []),
  (87, .ifCond .lt 14, 3, 0, 101, 0, 0, []),
  (90, .aload_n 0, 1, 0, 0, 0, 0, []),
  (91, .iload_n 3, 1, 0, 3, 0, 0, []),
  (92, .invokevirtual 145, 3, 0, 98, 2, 9, []),
  (95, .iinc 3 (-1), 3, (-1), 3, 0, 0, []),
  (98, .goto (-12), 3, 0, 86, 0, 0, []),
  (101, .return_, 1, 0, 0, 0, 0, [])]
def am_c96 : List (Nat × am_Row) := am_c96_0 ++ (am_c96_1)
/-- BrotliWords$Packer.longest(I)I -/
def am_c97 : List (Nat × am_Row) := [(0, .aload_n 0, 1, 0, 0, 0, 0, []),
  (1, .getfield 73, 3, 0, 9, 13, 1, []),
  (4, .getfield 148, 3, 0, 6, 0, 1, []),
  (7, .iload_n 1, 1, 0, 1, 0, 0, []),
  (8, .iaload, 1, 0, 0, 0, 0, []),
  (9, .istore_n 2, 1, 0, 2, 0, 0, []),
  (10, .aload_n 0, 1, 0, 0, 0, 0, []),
  (11, .getfield 73, 3, 0, 9, 13, 1, []),
  (14, .getfield 151, 3, 0, 6, 2, 1, []),
  (17, .iload_n 1, 1, 0, 1, 0, 0, []),
  (18, .iaload, 1, 0, 0, 0, 0, []),
  (19, .istore_n 3, 1, 0, 3, 0, 0, []),
  (20, .iload_n 2, 1, 0, 2, 0, 0, []),
  (21, .ifCond .ne 9, 3, 0, 30, 0, 0, []),
  (24, .iload_n 3, 1, 0, 3, 0, 0, []),
  (25, .ifCond .ne 5, 3, 0, 30, 0, 0, []),
  (28, .iconst 0, 1, 0, 0, 0, 0, []),
  (29, .ireturn, 1, 0, 0, 0, 0, []),
  (30, .iload_n 2, 1, 0, 2, 0, 0, []),
  (31, .iload_n 3, 1, 0, 3, 0, 0, []),
  (32, .if_icmp .lt 7, 3, 0, 39, 0, 0, []),
  (35, .iconst 1, 1, 1, 0, 0, 0, []),
  (36, .goto 4, 3, 0, 40, 0, 0, []),
  (39, .iconst 2, 1, 2, 0, 0, 0, []),
  (40, .ireturn, 1, 0, 0, 0, 0, [])]
/-- BrotliWords$Packer.takeCheapest(I)V -/
def am_c98_0 : List (Nat × am_Row) := [(0, .aload_n 0, 1, 0, 0, 0, 0, []),
  (1, .getfield 73, 3, 0, 9, 13, 1, []),
  (4, .getfield 148, 3, 0, 6, 0, 1, []),
  (7, .iload_n 1, 1, 0, 1, 0, 0, []),
  (8, .iaload, 1, 0, 0, 0, 0, []),
  (9, .istore_n 2, 1, 0, 2, 0, 0, []),
  (10, .aload_n 0, 1, 0, 0, 0, 0, []),
  (11, .getfield 73, 3, 0, 9, 13, 1, []),
  (14, .getfield 151, 3, 0, 6, 2, 1, []),
  (17, .iload_n 1, 1, 0, 1, 0, 0, []),
  (18, .iaload, 1, 0, 0, 0, 0, []),
  (19, .istore_n 3, 1, 0, 3, 0, 0, []),
  (20, .aload_n 0, 1, 0, 0, 0, 0, []),
  (21, .getfield 30, 3, 0, 9, 7, 1, []),
  (24, .iload_n 1, 1, 0, 1, 0, 0, []),
  (25, .iconst 0, 1, 0, 0, 0, 0, []),
  (26, .iastore, 1, 0, 0, 0, 0, []),
  (27, .aload_n 0, 1, 0, 0, 0, 0, []),
  (28, .getfield 33, 3, 0, 9, 8, 1, []),
  (31, .iload_n 1, 1, 0, 1, 0, 0, []),
  (32, .bipush 9, 2, 9, 0, 0, 0, []),
  (34, .aload_n 0, 1, 0, 0, 0, 0, []),
  (35, .getfield 33, 3, 0, 9, 8, 1, []),
  (38, .iload_n 1, 1, 0, 1, 0, 0, []),
  (39, .iconst 1, 1, 1, 0, 0, 0, []),
  (40, .iadd, 1, 0, 0, 0, 0, []),
  (41, .iaload, 1, 0, 0, 0, 0, []),
  (42, .iadd, 1, 0, 0, 0, 0, []),
  (43, .iastore, 1, 0, 0, 0, 0, []),
  (44, .iload_n 3, 1, 0, 3, 0, 0, []),
  (45, .ifCond .le 47, 3, 0, 92, 0, 0, []),
  (48, .bipush 24, 2, 24, 0, 0, 0, []),
  (50, .aload_n 0, 1, 0, 0, 0, 0, []),
  (51, .getfield 33, 3, 0, 9, 8, 1, []),
  (54, .iload_n 1, 1, 0, 1, 0, 0, []),
  (55, .iload_n 3, 1, 0, 3, 0, 0, []),
  (56, .iadd, 1, 0, 0, 0, 0, []),
  (57, .iaload, 1, 0, 0, 0, 0, []),
  (58, .iadd, 1, 0, 0, 0, 0, []),
  (59, .aload_n 0, 1, 0, 0, 0, 0, [])]
def am_c98_1 : List (Nat × am_Row) := [(60, .getfield 33, 3, 0, 9, 8, 1, []),
  (63, .iload_n 1, 1, 0, 1, 0, 0, []),
  (64, .iaload, 1, 0, 0, 0, 0, []),
  (65, .if_icmp .gt 27, 3, 0, 92, 0, 0, []),
  (68, .aload_n 0, 1, 0, 0, 0, 0, []),
  (69, .getfield 30, 3, 0, 9, 7, 1, []),
  (72, .iload_n 1, 1, 0, 1, 0, 0, []),
  (73, .iconst 2, 1, 2, 0, 0, 0, []),
  (74, .iastore, 1, 0, 0, 0, 0, []),
  (75, .aload_n 0, 1, 0, 0, 0, 0, []),
  (76, .getfield 33, 3, 0, 9, 8, 1, []),
  (79, .iload_n 1, 1, 0, 1, 0, 0, []),
  (80, .bipush 24, 2, 24, 0, 0, 0, []),
  (82, .aload_n 0, 1, 0, 0, 0, 0, []),
  (83, .getfield 33, 3, 0, 9, 8, 1, []),
  (86, .iload_n 1, 1, 0, 1, 0, 0, []),
  (87, .iload_n 3, 1, 0, 3, 0, 0, []),
  (88, .iadd, 1, 0, 0, 0, 0, []),
  (89, .iaload, 1, 0, 0, 0, 0, []),
  (90, .iadd, 1, 0, 0, 0, 0, []),
  (91, .iastore, 1, 0, 0, 0, 0, []),
  (92, .iload_n 2, 1, 0, 2, 0, 0, []),
  (93, .ifCond .le 47, 3, 0, 140, 0, 0, []),
  (96, .bipush 24, 2, 24, 0, 0, 0, []),
  (98, .aload_n 0, 1, 0, 0, 0, 0, []),
  (99, .getfield 33, 3, 0, 9, 8, 1, []),
  (102, .iload_n 1, 1, 0, 1, 0, 0, []),
  (103, .iload_n 2, 1, 0, 2, 0, 0, []),
  (104, .iadd, 1, 0, 0, 0, 0, []),
  (105, .iaload, 1, 0, 0, 0, 0, []),
  (106, .iadd, 1, 0, 0, 0, 0, []),
  (107, .aload_n 0, 1, 0, 0, 0, 0, []),
  (108, .getfield 33, 3, 0, 9, 8, 1, []),
  (111, .iload_n 1, 1, 0, 1, 0, 0, []),
  (112, .iaload, 1, 0, 0, 0, 0, []),
  (113, .if_icmp .gt 27, 3, 0, 140, 0, 0, []),
  (116, .aload_n 0, 1, 0, 0, 0, 0, []),
  (117, .getfield 30, 3, 0, 9, 7, 1, []),
  (120, .iload_n 1, 1, 0, 1, 0, 0, []),
  (121, .iconst 1, 1, 1, 0, 0, 0, [])]
def am_c98_2 : List (Nat × am_Row) := [(122, .iastore, 1, 0, 0, 0, 0, []),
  (123, .aload_n 0, 1, 0, 0, 0, 0, []),
  (124, .getfield 33, 3, 0, 9, 8, 1, []),
  (127, .iload_n 1, 1, 0, 1, 0, 0, []),
  (128, .bipush 24, 2, 24, 0, 0, 0, []),
  (130, .aload_n 0, 1, 0, 0, 0, 0, []),
  (131, .getfield 33, 3, 0, 9, 8, 1, []),
  (134, .iload_n 1, 1, 0, 1, 0, 0, []),
  (135, .iload_n 2, 1, 0, 2, 0, 0, []),
  (136, .iadd, 1, 0, 0, 0, 0, []),
  (137, .iaload, 1, 0, 0, 0, 0, []),
  (138, .iadd, 1, 0, 0, 0, 0, []),
  (139, .iastore, 1, 0, 0, 0, 0, []),
  (140, .return_, 1, 0, 0, 0, 0, [])]
def am_c98 : List (Nat × am_Row) := am_c98_0 ++ (am_c98_1 ++ (am_c98_2))
/-- BrotliWords$Packer.makesAt(I)I -/
def am_c99 : List (Nat × am_Row) := [(0, .aload_n 0, 1, 0, 0, 0, 0, []),
  (1, .getfield 30, 3, 0, 9, 7, 1, []),
  (4, .iload_n 1, 1, 0, 1, 0, 0, []),
  (5, .iaload, 1, 0, 0, 0, 0, []),
  (6, .ifCond .ne 5, 3, 0, 11, 0, 0, []),
  (9, .iconst 1, 1, 1, 0, 0, 0, []),
  (10, .ireturn, 1, 0, 0, 0, 0, []),
  (11, .aload_n 0, 1, 0, 0, 0, 0, []),
  (12, .getfield 30, 3, 0, 9, 7, 1, []),
  (15, .iload_n 1, 1, 0, 1, 0, 0, []),
  (16, .iaload, 1, 0, 0, 0, 0, []),
  (17, .iconst 1, 1, 1, 0, 0, 0, []),
  (18, .if_icmp .ne 15, 3, 0, 33, 0, 0, []),
  (21, .aload_n 0, 1, 0, 0, 0, 0, []),
  (22, .getfield 73, 3, 0, 9, 13, 1, []),
  (25, .getfield 148, 3, 0, 6, 0, 1, []),
  (28, .iload_n 1, 1, 0, 1, 0, 0, []),
  (29, .iaload, 1, 0, 0, 0, 0, []),
  (30, .goto 12, 3, 0, 42, 0, 0, []),
  (33, .aload_n 0, 1, 0, 0, 0, 0, []),
  (34, .getfield 73, 3, 0, 9, 13, 1, []),
  (37, .getfield 151, 3, 0, 6, 2, 1, []),
  (40, .iload_n 1, 1, 0, 1, 0, 0, []),
  (41, .iaload, 1, 0, 0, 0, 0, []),
  (42, .ireturn, 1, 0, 0, 0, 0, [])]
/-- BrotliWords$Packer.listCommands(I)V -/
def am_c100_0 : List (Nat × am_Row) := [(0, .iconst 0, 1, 0, 0, 0, 0, []),
  (1, .istore_n 2, 1, 0, 2, 0, 0, []),
  (2, .aload_n 0, 1, 0, 0, 0, 0, []),
  (3, .getfield 36, 3, 0, 9, 9, 1, []),
  (6, .invokestatic 154, 3, 0, 142, 1, 999, []),
  (9, .iconst 0, 1, 0, 0, 0, 0, []),
  (10, .istore_n 3, 1, 0, 3, 0, 0, []),
  (11, .iload_n 3, 1, 0, 3, 0, 0, []),
  (12, .iload_n 1, 1, 0, 1, 0, 0, []),
  (13, .if_icmp .ge 78, 3, 0, 91, 0, 0, []),
  (16, .aload_n 0, 1, 0, 0, 0, 0, []),
  (17, .getfield 30, 3, 0, 9, 7, 1, []),
  (20, .iload_n 3, 1, 0, 3, 0, 0, []),
  (21, .iaload, 1, 0, 0, 0, 0, []),
  (22, .ifCond .ne 9, 3, 0, 31, 0, 0, []),
  (25, .iinc 2 1, 3, 1, 2, 0, 0, []),
  (28, .goto 48, 3, 0, 76, 0, 0, []),
  (31, .aload_n 0, 1, 0, 0, 0, 0, []),
  (32, .getfield 30, 3, 0, 9, 7, 1, []),
  (35, .iload_n 3, 1, 0, 3, 0, 0, []),
  (36, .iaload, 1, 0, 0, 0, 0, []),
  (37, .iconst 1, 1, 1, 0, 0, 0, []),
  (38, .if_icmp .ne 30, 3, 0, 68, 0, 0, []),
  (41, .aload_n 0, 1, 0, 0, 0, 0, []),
  (42, .iload_n 2, 1, 0, 2, 0, 0, []),
  (43, .aload_n 0, 1, 0, 0, 0, 0, []),
  (44, .getfield 73, 3, 0, 9, 13, 1, []),
  (47, .getfield 148, 3, 0, 6, 0, 1, []),
  (50, .iload_n 3, 1, 0, 3, 0, 0, []),
  (51, .iaload, 1, 0, 0, 0, 0, []),
  (52, .aload_n 0, 1, 0, 0, 0, 0, []),
  (53, .getfield 73, 3, 0, 9, 13, 1, []),
  (56, .getfield 158, 3, 0, 6, 1, 1, []),
  (59, .iload_n 3, 1, 0, 3, 0, 0, []),
  (60, .iaload, 1, 0, 0, 0, 0, []),
  (61, .iload_n 3, 1, 0, 3, 0, 0, []),
  (62, .invokevirtual 161, 3, 0, 102, 5, 9, []),
  (65, .goto 9, 3, 0, 74, 0, 0, []),
  (68, .aload_n 0, 1, 0, 0, 0, 0, []),
  (69, .iload_n 2, 1, 0, 2, 0, 0, [])]
def am_c100_1 : List (Nat × am_Row) := [(70, .iload_n 3, 1, 0, 3, 0, 0, []),
  (71, .invokevirtual 165, 3, 0, 101, 3, 9, []),
  (74, .iconst 0, 1, 0, 0, 0, 0, []),
  (75, .istore_n 2, 1, 0, 2, 0, 0, []),
  (76, .iload_n 3, 1, 0, 3, 0, 0, []),
  (77, .aload_n 0, 1, 0, 0, 0, 0, []),
  (78, .iload_n 3, 1, 0, 3, 0, 0, []),
  (79, .invokevirtual 139, 3, 0, 99, 2, 9, []),
  (82, .iconst 1, 1, 1, 0, 0, 0, []),
  (83, .invokestatic 142, 3, 0, 902, 2, 0, []),
  (86, .iadd, 1, 0, 0, 0, 0, []),
  (87, .istore_n 3, 1, 0, 3, 0, 0, []),
  (88, .goto (-77), 3, 0, 11, 0, 0, []),
  (91, .iload_n 2, 1, 0, 2, 0, 0, []),
  (92, .ifCond .le 94, 3, 0, 186, 0, 0, []),
  (95, .aload_n 0, 1, 0, 0, 0, 0, []),
  (96, .getfield 89, 3, 0, 9, 4, 0, []),
  (99, .sipush 501, 3, 501, 0, 0, 0, []),
  (102, .if_icmp .ge 84, 3, 0, 186, 0, 0, []),
  (105, .aload_n 0, 1, 0, 0, 0, 0, []),
  (106, .getfield 11, 3, 0, 9, 0, 1, []),
  (109, .aload_n 0, 1, 0, 0, 0, 0, []),
  (110, .getfield 89, 3, 0, 9, 4, 0, []),
  (113, .iload_n 2, 1, 0, 2, 0, 0, []),
  (114, .iastore, 1, 0, 0, 0, 0, []),
  (115, .aload_n 0, 1, 0, 0, 0, 0, []),
  (116, .getfield 15, 3, 0, 9, 1, 1, []),
  (119, .aload_n 0, 1, 0, 0, 0, 0, []),
  (120, .getfield 89, 3, 0, 9, 4, 0, []),
  (123, .iconst 0, 1, 0, 0, 0, 0, []),
  (124, .iastore, 1, 0, 0, 0, 0, []),
  (125, .aload_n 0, 1, 0, 0, 0, 0, []),
  (126, .getfield 18, 3, 0, 9, 2, 1, []),
  (129, .aload_n 0, 1, 0, 0, 0, 0, []),
  (130, .getfield 89, 3, 0, 9, 4, 0, []),
  (133, .iconst 0, 1, 0, 0, 0, 0, []),
  (134, .iastore, 1, 0, 0, 0, 0, []),
  (135, .aload_n 0, 1, 0, 0, 0, 0, []),
  (136, .getfield 21, 3, 0, 9, 3, 1, []),
  (139, .aload_n 0, 1, 0, 0, 0, 0, [])]
def am_c100_2 : List (Nat × am_Row) := [(140, .getfield 89, 3, 0, 9, 4, 0, []),
  (143, .getstatic 168, 3, 0, 200, 0, 0, []),
  (146, .iload_n 2, 1, 0, 2, 0, 0, []),
  (147, .invokestatic 171, 3, 0, 104, 2, 999, []),
  (150, .iconst 0, 1, 0, 0, 0, 0, []),
  (151, .iconst (-1), 1, (-1), 0, 0, 0, []),
  (152, .invokestatic 175, 3, 0, 105, 3, 999, []),
  (155, .iastore, 1, 0, 0, 0, 0, []),
  (156, .aload_n 0, 1, 0, 0, 0, 0, []),
  (157, .getfield 24, 3, 0, 9, 5, 1, []),
  (160, .aload_n 0, 1, 0, 0, 0, 0, []),
  (161, .getfield 89, 3, 0, 9, 4, 0, []),
  (164, .iconst (-1), 1, (-1), 0, 0, 0, []),
  (165, .iastore, 1, 0, 0, 0, 0, []),
  (166, .aload_n 0, 1, 0, 0, 0, 0, []),
  (167, .getfield 27, 3, 0, 9, 6, 1, []),
  (170, .aload_n 0, 1, 0, 0, 0, 0, []),
  (171, .getfield 89, 3, 0, 9, 4, 0, []),
  (174, .iconst 0, 1, 0, 0, 0, 0, []),
  (175, .iastore, 1, 0, 0, 0, 0, []),
  (176, .aload_n 0, 1, 0, 0, 0, 0, []),
  (177, .dup, 1, 0, 0, 0, 0, []),
  (178, .getfield 89, 3, 0, 9, 4, 0, []),
  (181, .iconst 1, 1, 1, 0, 0, 0, []),
  (182, .iadd, 1, 0, 0, 0, 0, []),
  (183, .putfield 89, 3, 0, 9, 4, 0, []),
  (186, .return_, 1, 0, 0, 0, 0, [])]
def am_c100 : List (Nat × am_Row) := am_c100_0 ++ (am_c100_1 ++ (am_c100_2))
/-- BrotliWords$Packer.addWord(II)V -/
def am_c101_0 : List (Nat × am_Row) := [(0, .aload_n 0, 1, 0, 0, 0, 0, []),
  (1, .getfield 73, 3, 0, 9, 13, 1, []),
  (4, .getfield 179, 3, 0, 6, 3, 1, []),
  (7, .iload_n 2, 1, 0, 2, 0, 0, []),
  (8, .iaload, 1, 0, 0, 0, 0, []),
  (9, .istore_n 3, 1, 0, 3, 0, 0, []),
  (10, .iconst 4, 1, 4, 0, 0, 0, []),
  (11, .iload_n 3, 1, 0, 3, 0, 0, []),
  (12, .bipush 24, 2, 24, 0, 0, 0, []),
  (14, .idiv, 1, 0, 0, 0, 0, []),
  (15, .bipush 32, 2, 32, 0, 0, 0, []),
  (17, .idiv, 1, 0, 0, 0, 0, []),
  (18, .iadd, 1, 0, 0, 0, 0, []),
  (19, .istore 4, 2, 0, 4, 0, 0, []),
  (21, .iload_n 3, 1, 0, 3, 0, 0, []),
  (22, .bipush 24, 2, 24, 0, 0, 0, []),
  (24, .idiv, 1, 0, 0, 0, 0, []),
  (25, .bipush 32, 2, 32, 0, 0, 0, []),
  (27, .irem, 1, 0, 0, 0, 0, []),
  (28, .istore 5, 2, 0, 5, 0, 0, []),
  (30, .iload 5, 2, 0, 5, 0, 0, []),
  (32, .iload_n 3, 1, 0, 3, 0, 0, []),
  (33, .bipush 24, 2, 24, 0, 0, 0, []),
  (35, .irem, 1, 0, 0, 0, 0, []),
  (36, .aload_n 0, 1, 0, 0, 0, 0, []),
  (37, .getfield 64, 3, 0, 9, 12, 1, []),
  (40, .iload 4, 2, 0, 4, 0, 0, []),
  (42, .invokevirtual 182, 3, 0, 113, 2, 10, []),
  (45, .ishl, 1, 0, 0, 0, 0, []),
  (46, .iadd, 1, 0, 0, 0, 0, []),
  (47, .istore 6, 2, 0, 6, 0, 0, []),
  (49, .aload_n 0, 1, 0, 0, 0, 0, []),
  (50, .iload_n 1, 1, 0, 1, 0, 0, []),
  (51, .iload 4, 2, 0, 4, 0, 0, []),
  (53, .iload_n 2, 1, 0, 2, 0, 0, []),
  (54, .iconst 1, 1, 1, 0, 0, 0, []),
  (55, .iadd, 1, 0, 0, 0, 0, []),
  (56, .iload 6, 2, 0, 6, 0, 0, []),
  (58, .iadd, 1, 0, 0, 0, 0, []),
  (59, .iload_n 2, 1, 0, 2, 0, 0, [])]
def am_c101_1 : List (Nat × am_Row) := [(60, .invokevirtual 161, 3, 0, 102, 5, 9, []),
  (63, .return_, 1, 0, 0, 0, 0, [])]
def am_c101 : List (Nat × am_Row) := am_c101_0 ++ (am_c101_1)
/-- BrotliWords$Packer.addCommand(IIII)V -/
def am_c102_0 : List (Nat × am_Row) := [(0, .aload_n 0, 1, 0, 0, 0, 0, []),
  (1, .getfield 89, 3, 0, 9, 4, 0, []),
  (4, .sipush 501, 3, 501, 0, 0, 0, []),
  (7, .if_icmp .lt 4, 3, 0, 11, 0, 0, []),
  (10, .return_, 1, 0, 0, 0, 0, []),
  (11, .aload_n 0, 1, 0, 0, 0, 0, []),
  (12, .iload_n 3, 1, 0, 3, 0, 0, []),
  (13, .invokevirtual 185, 3, 0, 103, 2, 9, []),
  (16, .istore 5, 2, 0, 5, 0, 0, []),
  (18, .aload_n 0, 1, 0, 0, 0, 0, []),
  (19, .getfield 11, 3, 0, 9, 0, 1, []),
  (22, .aload_n 0, 1, 0, 0, 0, 0, []),
  (23, .getfield 89, 3, 0, 9, 4, 0, []),
  (26, .iload_n 1, 1, 0, 1, 0, 0, []),
  (27, .iastore, 1, 0, 0, 0, 0, []),
  (28, .aload_n 0, 1, 0, 0, 0, 0, []),
  (29, .getfield 15, 3, 0, 9, 1, 1, []),
  (32, .aload_n 0, 1, 0, 0, 0, 0, []),
  (33, .getfield 89, 3, 0, 9, 4, 0, []),
  (36, .iload_n 2, 1, 0, 2, 0, 0, []),
  (37, .iastore, 1, 0, 0, 0, 0, []),
  (38, .aload_n 0, 1, 0, 0, 0, 0, []),
  (39, .getfield 18, 3, 0, 9, 2, 1, []),
  (42, .aload_n 0, 1, 0, 0, 0, 0, []),
  (43, .getfield 89, 3, 0, 9, 4, 0, []),
  (46, .iload_n 3, 1, 0, 3, 0, 0, []),
  (47, .iastore, 1, 0, 0, 0, 0, []),
  (48, .aload_n 0, 1, 0, 0, 0, 0, []),
  (49, .getfield 21, 3, 0, 9, 3, 1, []),
  (52, .aload_n 0, 1, 0, 0, 0, 0, []),
  (53, .getfield 89, 3, 0, 9, 4, 0, []),
  (56, .getstatic 168, 3, 0, 200, 0, 0, []),
  (59, .iload_n 1, 1, 0, 1, 0, 0, []),
  (60, .invokestatic 171, 3, 0, 104, 2, 999, []),
  (63, .getstatic 188, 3, 0, 201, 0, 0, []),
  (66, .iload_n 2, 1, 0, 2, 0, 0, []),
  (67, .invokestatic 171, 3, 0, 104, 2, 999, []),
  (70, .iload 5, 2, 0, 5, 0, 0, []),
  (72, .invokestatic 175, 3, 0, 105, 3, 999, []),
  (75, .iastore, 1, 0, 0, 0, 0, [])]
def am_c102_1 : List (Nat × am_Row) := [(76, .aload_n 0, 1, 0, 0, 0, 0, []),
  (77, .getfield 24, 3, 0, 9, 5, 1, []),
  (80, .aload_n 0, 1, 0, 0, 0, 0, []),
  (81, .getfield 89, 3, 0, 9, 4, 0, []),
  (84, .aload_n 0, 1, 0, 0, 0, 0, []),
  (85, .getfield 21, 3, 0, 9, 3, 1, []),
  (88, .aload_n 0, 1, 0, 0, 0, 0, []),
  (89, .getfield 89, 3, 0, 9, 4, 0, []),
  (92, .iaload, 1, 0, 0, 0, 0, []),
  (93, .sipush 128, 3, 128, 0, 0, 0, []),
  (96, .if_icmp .ge 7, 3, 0, 103, 0, 0, []),
  (99, .iconst (-1), 1, (-1), 0, 0, 0, []),
  (100, .goto 5, 3, 0, 105, 0, 0, []),
  (103, .iload 5, 2, 0, 5, 0, 0, []),
  (105, .iastore, 1, 0, 0, 0, 0, []),
  (106, .aload_n 0, 1, 0, 0, 0, 0, []),
  (107, .getfield 27, 3, 0, 9, 6, 1, []),
  (110, .aload_n 0, 1, 0, 0, 0, 0, []),
  (111, .getfield 89, 3, 0, 9, 4, 0, []),
  (114, .aload_n 0, 1, 0, 0, 0, 0, []),
  (115, .iload 4, 2, 0, 4, 0, 0, []),
  (117, .invokevirtual 139, 3, 0, 99, 2, 9, []),
  (120, .iastore, 1, 0, 0, 0, 0, []),
  (121, .aload_n 0, 1, 0, 0, 0, 0, []),
  (122, .dup, 1, 0, 0, 0, 0, []),
  (123, .getfield 89, 3, 0, 9, 4, 0, []),
  (126, .iconst 1, 1, 1, 0, 0, 0, []),
  (127, .iadd, 1, 0, 0, 0, 0, []),
  (128, .putfield 89, 3, 0, 9, 4, 0, []),
  (131, .aload_n 0, 1, 0, 0, 0, 0, []),
  (132, .getfield 30, 3, 0, 9, 7, 1, []),
  (135, .iload 4, 2, 0, 4, 0, 0, []),
  (137, .iaload, 1, 0, 0, 0, 0, []),
  (138, .iconst 1, 1, 1, 0, 0, 0, []),
  (139, .if_icmp .ne 16, 3, 0, 155, 0, 0, []),
  (142, .iload 5, 2, 0, 5, 0, 0, []),
  (144, .ifCond .eq 11, 3, 0, 155, 0, 0, []),
  (147, .aload_n 0, 1, 0, 0, 0, 0, []),
  (148, .getfield 36, 3, 0, 9, 9, 1, []),
  (151, .iload_n 3, 1, 0, 3, 0, 0, [])]
def am_c102_2 : List (Nat × am_Row) := [(152, .invokestatic 191, 3, 0, 143, 2, 999, []),
  (155, .return_, 1, 0, 0, 0, 0, [])]
def am_c102 : List (Nat × am_Row) := am_c102_0 ++ (am_c102_1 ++ (am_c102_2))
/-- BrotliWords$Packer.distanceSign(I)I -/
def am_c103 : List (Nat × am_Row) := [(0, .iconst 0, 1, 0, 0, 0, 0, []),
  (1, .istore_n 2, 1, 0, 2, 0, 0, []),
  (2, .iload_n 2, 1, 0, 2, 0, 0, []),
  (3, .iconst 4, 1, 4, 0, 0, 0, []),
  (4, .if_icmp .ge 21, 3, 0, 25, 0, 0, []),
  (7, .aload_n 0, 1, 0, 0, 0, 0, []),
  (8, .getfield 36, 3, 0, 9, 9, 1, []),
  (11, .iload_n 2, 1, 0, 2, 0, 0, []),
  (12, .iaload, 1, 0, 0, 0, 0, []),
  (13, .iload_n 1, 1, 0, 1, 0, 0, []),
  (14, .if_icmp .ne 5, 3, 0, 19, 0, 0, []),
  (17, .iload_n 2, 1, 0, 2, 0, 0, []),
  (18, .ireturn, 1, 0, 0, 0, 0, []),
  (19, .iinc 2 1, 3, 1, 2, 0, 0, []),
  (22, .goto (-20), 3, 0, 2, 0, 0, []),
  (25, .iload_n 1, 1, 0, 1, 0, 0, []),
  (26, .iconst 3, 1, 3, 0, 0, 0, []),
  (27, .iadd, 1, 0, 0, 0, 0, []),
  (28, .invokestatic 195, 3, 0, 141, 1, 999, []),
  (31, .iconst 2, 1, 2, 0, 0, 0, []),
  (32, .isub, 1, 0, 0, 0, 0, []),
  (33, .istore_n 2, 1, 0, 2, 0, 0, []),
  (34, .bipush 16, 2, 16, 0, 0, 0, []),
  (36, .iconst 2, 1, 2, 0, 0, 0, []),
  (37, .iload_n 2, 1, 0, 2, 0, 0, []),
  (38, .iconst 1, 1, 1, 0, 0, 0, []),
  (39, .isub, 1, 0, 0, 0, 0, []),
  (40, .imul, 1, 0, 0, 0, 0, []),
  (41, .iadd, 1, 0, 0, 0, 0, []),
  (42, .iload_n 1, 1, 0, 1, 0, 0, []),
  (43, .iconst 3, 1, 3, 0, 0, 0, []),
  (44, .iadd, 1, 0, 0, 0, 0, []),
  (45, .iload_n 2, 1, 0, 2, 0, 0, []),
  (46, .ishr, 1, 0, 0, 0, 0, []),
  (47, .iconst 1, 1, 1, 0, 0, 0, []),
  (48, .iand, 1, 0, 0, 0, 0, []),
  (49, .iadd, 1, 0, 0, 0, 0, []),
  (50, .ireturn, 1, 0, 0, 0, 0, [])]
/-- BrotliWords$Packer.codeOf([II)I -/
def am_c104 : List (Nat × am_Row) := [(0, .iconst 0, 1, 0, 0, 0, 0, []),
  (1, .istore_n 2, 1, 0, 2, 0, 0, []),
  (2, .iconst 0, 1, 0, 0, 0, 0, []),
  (3, .istore_n 3, 1, 0, 3, 0, 0, []),
  (4, .iload_n 3, 1, 0, 3, 0, 0, []),
  (5, .aload_n 0, 1, 0, 0, 0, 0, []),
  (6, .arraylength, 1, 0, 0, 0, 0, []),
  (7, .if_icmp .ge 18, 3, 0, 25, 0, 0, []),
  (10, .aload_n 0, 1, 0, 0, 0, 0, []),
  (11, .iload_n 3, 1, 0, 3, 0, 0, []),
  (12, .iaload, 1, 0, 0, 0, 0, []),
  (13, .iload_n 1, 1, 0, 1, 0, 0, []),
  (14, .if_icmp .gt 5, 3, 0, 19, 0, 0, []),
  (17, .iload_n 3, 1, 0, 3, 0, 0, []),
  (18, .istore_n 2, 1, 0, 2, 0, 0, []),
  (19, .iinc 3 1, 3, 1, 3, 0, 0, []),
  (22, .goto (-18), 3, 0, 4, 0, 0, []),
  (25, .iload_n 2, 1, 0, 2, 0, 0, []),
  (26, .ireturn, 1, 0, 0, 0, 0, [])]
/-- BrotliWords$Packer.commandSign(III)I -/
def am_c105_0 : List (Nat × am_Row) := [(0, .iload_n 1, 1, 0, 1, 0, 0, []),
  (1, .bipush 8, 2, 8, 0, 0, 0, []),
  (3, .idiv, 1, 0, 0, 0, 0, []),
  (4, .istore_n 3, 1, 0, 3, 0, 0, []),
  (5, .iload_n 2, 1, 0, 2, 0, 0, []),
  (6, .ifCond .ne 15, 3, 0, 21, 0, 0, []),
  (9, .iload_n 0, 1, 0, 0, 0, 0, []),
  (10, .bipush 8, 2, 8, 0, 0, 0, []),
  (12, .if_icmp .ge 9, 3, 0, 21, 0, 0, []),
  (15, .iload_n 1, 1, 0, 1, 0, 0, []),
  (16, .bipush 16, 2, 16, 0, 0, 0, []),
  (18, .if_icmp .lt 50, 3, 0, 68, 0, 0, []),
  (21, .iconst 2, 1, 2, 0, 0, 0, []),
  (22, .istore 4, 2, 0, 4, 0, 0, []),
  (24, .iload 4, 2, 0, 4, 0, 0, []),
  (26, .getstatic 198, 3, 0, 202, 0, 0, []),
  (29, .arraylength, 1, 0, 0, 0, 0, []),
  (30, .if_icmp .ge 38, 3, 0, 68, 0, 0, []),
  (33, .getstatic 198, 3, 0, 202, 0, 0, []),
  (36, .iload 4, 2, 0, 4, 0, 0, []),
  (38, .iaload, 1, 0, 0, 0, 0, []),
  (39, .iload_n 0, 1, 0, 0, 0, 0, []),
  (40, .bipush 8, 2, 8, 0, 0, 0, []),
  (42, .idiv, 1, 0, 0, 0, 0, []),
  (43, .if_icmp .ne 19, 3, 0, 62, 0, 0, []),
  (46, .getstatic 201, 3, 0, 203, 0, 0, []),
  (49, .iload 4, 2, 0, 4, 0, 0, []),
  (51, .iaload, 1, 0, 0, 0, 0, []),
  (52, .iload_n 1, 1, 0, 1, 0, 0, []),
  (53, .bipush 8, 2, 8, 0, 0, 0, []),
  (55, .idiv, 1, 0, 0, 0, 0, []),
  (56, .if_icmp .ne 6, 3, 0, 62, 0, 0, []),
  (59, .iload 4, 2, 0, 4, 0, 0, []),
  (61, .istore_n 3, 1, 0, 3, 0, 0, []),
  (62, .iinc 4 1, 3, 1, 4, 0, 0, []),
  (65, .goto (-41), 3, 0, 24, 0, 0, []),
  (68, .bipush 64, 2, 64, 0, 0, 0, []),
  (70, .iload_n 3, 1, 0, 3, 0, 0, []),
  (71, .imul, 1, 0, 0, 0, 0, []),
  (72, .bipush 8, 2, 8, 0, 0, 0, [])]
def am_c105_1 : List (Nat × am_Row) := [(74, .iload_n 0, 1, 0, 0, 0, 0, []),
  (75, .bipush 8, 2, 8, 0, 0, 0, []),
  (77, .irem, 1, 0, 0, 0, 0, []),
  (78, .imul, 1, 0, 0, 0, 0, []),
  (79, .iadd, 1, 0, 0, 0, 0, []),
  (80, .iload_n 1, 1, 0, 1, 0, 0, []),
  (81, .bipush 8, 2, 8, 0, 0, 0, []),
  (83, .irem, 1, 0, 0, 0, 0, []),
  (84, .iadd, 1, 0, 0, 0, 0, []),
  (85, .ireturn, 1, 0, 0, 0, 0, [])]
def am_c105 : List (Nat × am_Row) := am_c105_0 ++ (am_c105_1)
/-- BrotliWords$Packer.tellPart(I)V -/
def am_c106_0 : List (Nat × am_Row) := [(0, .aload_n 0, 1, 0, 0, 0, 0, []),
  (1, .getfield 44, 3, 0, 9, 14, 1, []),
  (4, .invokevirtual 204, 3, 0, 36, 1, 5, []),
  (7, .aload_n 0, 1, 0, 0, 0, 0, []),
  (8, .getfield 48, 3, 0, 9, 15, 1, []),
  (11, .invokevirtual 204, 3, 0, 36, 1, 5, []),
  (14, .aload_n 0, 1, 0, 0, 0, 0, []),
  (15, .getfield 51, 3, 0, 9, 16, 1, []),
  (18, .invokevirtual 204, 3, 0, 36, 1, 5, []),
  (21, .iconst 0, 1, 0, 0, 0, 0, []),
  (22, .istore_n 2, 1, 0, 2, 0, 0, []),
  (23, .iconst 0, 1, 0, 0, 0, 0, []),
  (24, .istore_n 3, 1, 0, 3, 0, 0, []),
  (25, .iload_n 3, 1, 0, 3, 0, 0, []),
  (26, .aload_n 0, 1, 0, 0, 0, 0, []),
  (27, .getfield 89, 3, 0, 9, 4, 0, []),
  (30, .if_icmp .ge 89, 3, 0, 119, 0, 0, []),
  (33, .aload_n 0, 1, 0, 0, 0, 0, []),
  (34, .getfield 48, 3, 0, 9, 15, 1, []),
  (37, .aload_n 0, 1, 0, 0, 0, 0, []),
  (38, .getfield 21, 3, 0, 9, 3, 1, []),
  (41, .iload_n 3, 1, 0, 3, 0, 0, []),
  (42, .iaload, 1, 0, 0, 0, 0, []),
  (43, .invokevirtual 205, 3, 0, 37, 2, 5, []),
  (46, .iconst 0, 1, 0, 0, 0, 0, []),
  (47, .istore 4, 2, 0, 4, 0, 0, []),
  (49, .iload 4, 2, 0, 4, 0, 0, []),
  (51, .aload_n 0, 1, 0, 0, 0, 0, []),
  (52, .getfield 11, 3, 0, 9, 0, 1, []),
  (55, .iload_n 3, 1, 0, 3, 0, 0, []),
  (56, .iaload, 1, 0, 0, 0, 0, []),
  (57, .if_icmp .ge 27, 3, 0, 84, 0, 0, []),
  (60, .aload_n 0, 1, 0, 0, 0, 0, []),
  (61, .getfield 44, 3, 0, 9, 14, 1, []),
  (64, .aload_n 0, 1, 0, 0, 0, 0, []),
  (65, .getfield 57, 3, 0, 9, 10, 1, []),
  (68, .iload_n 2, 1, 0, 2, 0, 0, []),
  (69, .iload 4, 2, 0, 4, 0, 0, []),
  (71, .iadd, 1, 0, 0, 0, 0, []),
  (72, .invokevirtual 123, 3, 0, 15, 2, 2, [])]
def am_c106_1 : List (Nat × am_Row) := [(75, .invokevirtual 205, 3, 0, 37, 2, 5, []),
  (78, .iinc 4 1, 3, 1, 4, 0, 0, []),
  (81, .goto (-32), 3, 0, 49, 0, 0, []),
  (84, .aload_n 0, 1, 0, 0, 0, 0, []),
  (85, .getfield 51, 3, 0, 9, 16, 1, []),
  (88, .aload_n 0, 1, 0, 0, 0, 0, []),
  (89, .getfield 24, 3, 0, 9, 5, 1, []),
  (92, .iload_n 3, 1, 0, 3, 0, 0, []),
  (93, .iaload, 1, 0, 0, 0, 0, []),
  (94, .invokevirtual 205, 3, 0, 37, 2, 5, []),
  (97, .iload_n 2, 1, 0, 2, 0, 0, []),
  (98, .aload_n 0, 1, 0, 0, 0, 0, []),
  (99, .getfield 11, 3, 0, 9, 0, 1, []),
  (102, .iload_n 3, 1, 0, 3, 0, 0, []),
  (103, .iaload, 1, 0, 0, 0, 0, []),
  (104, .aload_n 0, 1, 0, 0, 0, 0, []),
  (105, .getfield 27, 3, 0, 9, 6, 1, []),
  (108, .iload_n 3, 1, 0, 3, 0, 0, []),
  (109, .iaload, 1, 0, 0, 0, 0, []),
  (110, .iadd, 1, 0, 0, 0, 0, []),
  (111, .iadd, 1, 0, 0, 0, 0, []),
  (112, .istore_n 2, 1, 0, 2, 0, 0, []),
  (113, .iinc 3 1, 3, 1, 3, 0, 0, []),
  (116, .goto (-91), 3, 0, 25, 0, 0, []),
  (119, .aload_n 0, 1, 0, 0, 0, 0, []),
  (120, .getfield 61, 3, 0, 9, 11, 1, []),
  (123, .iconst 1, 1, 1, 0, 0, 0, []),
  (124, .iconst 4, 1, 4, 0, 0, 0, []),
  (125, .invokevirtual 101, 3, 0, 19, 3, 2, []),
  (128, .aload_n 0, 1, 0, 0, 0, 0, []),
  (129, .getfield 61, 3, 0, 9, 11, 1, []),
  (132, .iload_n 1, 1, 0, 1, 0, 0, []),
  (133, .iconst 1, 1, 1, 0, 0, 0, []),
  (134, .isub, 1, 0, 0, 0, 0, []),
  (135, .bipush 16, 2, 16, 0, 0, 0, []),
  (137, .invokevirtual 101, 3, 0, 19, 3, 2, []),
  (140, .aload_n 0, 1, 0, 0, 0, 0, []),
  (141, .getfield 61, 3, 0, 9, 11, 1, []),
  (144, .iconst 0, 1, 0, 0, 0, 0, []),
  (145, .bipush 13, 2, 13, 0, 0, 0, [])]
def am_c106_2 : List (Nat × am_Row) := [(147, .invokevirtual 101, 3, 0, 19, 3, 2, []),
  (150, .aload_n 0, 1, 0, 0, 0, 0, []),
  (151, .getfield 44, 3, 0, 9, 14, 1, []),
  (154, .aload_n 0, 1, 0, 0, 0, 0, []),
  (155, .getfield 61, 3, 0, 9, 11, 1, []),
  (158, .aload_n 0, 1, 0, 0, 0, 0, []),
  (159, .getfield 54, 3, 0, 9, 17, 1, []),
  (162, .invokevirtual 208, 3, 0, 39, 3, 5, []),
  (165, .aload_n 0, 1, 0, 0, 0, 0, []),
  (166, .getfield 48, 3, 0, 9, 15, 1, []),
  (169, .aload_n 0, 1, 0, 0, 0, 0, []),
  (170, .getfield 61, 3, 0, 9, 11, 1, []),
  (173, .aload_n 0, 1, 0, 0, 0, 0, []),
  (174, .getfield 54, 3, 0, 9, 17, 1, []),
  (177, .invokevirtual 208, 3, 0, 39, 3, 5, []),
  (180, .aload_n 0, 1, 0, 0, 0, 0, []),
  (181, .getfield 51, 3, 0, 9, 16, 1, []),
  (184, .aload_n 0, 1, 0, 0, 0, 0, []),
  (185, .getfield 61, 3, 0, 9, 11, 1, []),
  (188, .aload_n 0, 1, 0, 0, 0, 0, []),
  (189, .getfield 54, 3, 0, 9, 17, 1, []),
  (192, .invokevirtual 208, 3, 0, 39, 3, 5, []),
  (195, .return_, 1, 0, 0, 0, 0, [])]
def am_c106 : List (Nat × am_Row) := am_c106_0 ++ (am_c106_1 ++ (am_c106_2))
/-- BrotliWords$Packer.writeCommands()V -/
def am_c107_0 : List (Nat × am_Row) := [(0, .iconst 0, 1, 0, 0, 0, 0, []),
  (1, .istore_n 1, 1, 0, 1, 0, 0, []),
  (2, .iconst 0, 1, 0, 0, 0, 0, []),
  (3, .istore_n 2, 1, 0, 2, 0, 0, []),
  (4, .iload_n 2, 1, 0, 2, 0, 0, []),
  (5, .aload_n 0, 1, 0, 0, 0, 0, []),
  (6, .getfield 89, 3, 0, 9, 4, 0, []),
  (9, .if_icmp .ge 226, 3, 0, 235, 0, 0, []),
  (12, .aload_n 0, 1, 0, 0, 0, 0, []),
  (13, .getfield 48, 3, 0, 9, 15, 1, []),
  (16, .aload_n 0, 1, 0, 0, 0, 0, []),
  (17, .getfield 61, 3, 0, 9, 11, 1, []),
  (20, .aload_n 0, 1, 0, 0, 0, 0, []),
  (21, .getfield 21, 3, 0, 9, 3, 1, []),
  (24, .iload_n 2, 1, 0, 2, 0, 0, []),
  (25, .iaload, 1, 0, 0, 0, 0, []),
  (26, .invokevirtual 212, 3, 0, 38, 3, 5, []),
  (29, .getstatic 168, 3, 0, 200, 0, 0, []),
  (32, .aload_n 0, 1, 0, 0, 0, 0, []),
  (33, .getfield 11, 3, 0, 9, 0, 1, []),
  (36, .iload_n 2, 1, 0, 2, 0, 0, []),
  (37, .iaload, 1, 0, 0, 0, 0, []),
  (38, .invokestatic 171, 3, 0, 104, 2, 999, []),
  (41, .istore_n 3, 1, 0, 3, 0, 0, []),
  (42, .getstatic 188, 3, 0, 201, 0, 0, []),
  (45, .aload_n 0, 1, 0, 0, 0, 0, []),
  (46, .getfield 15, 3, 0, 9, 1, 1, []),
  (49, .iload_n 2, 1, 0, 2, 0, 0, []),
  (50, .iaload, 1, 0, 0, 0, 0, []),
  (51, .invokestatic 171, 3, 0, 104, 2, 999, []),
  (54, .istore 4, 2, 0, 4, 0, 0, []),
  (56, .aload_n 0, 1, 0, 0, 0, 0, []),
  (57, .getfield 61, 3, 0, 9, 11, 1, []),
  (60, .aload_n 0, 1, 0, 0, 0, 0, []),
  (61, .getfield 11, 3, 0, 9, 0, 1, []),
  (64, .iload_n 2, 1, 0, 2, 0, 0, []),
  (65, .iaload, 1, 0, 0, 0, 0, []),
  (66, .getstatic 168, 3, 0, 200, 0, 0, []),
  (69, .iload_n 3, 1, 0, 3, 0, 0, []),
  (70, .iaload, 1, 0, 0, 0, 0, [])]
def am_c107_1 : List (Nat × am_Row) := [(71, .isub, 1, 0, 0, 0, 0, []),
  (72, .getstatic 216, 3, 0, 207, 0, 0, []),
  (75, .iload_n 3, 1, 0, 3, 0, 0, []),
  (76, .iaload, 1, 0, 0, 0, 0, []),
  (77, .invokevirtual 101, 3, 0, 19, 3, 2, []),
  (80, .aload_n 0, 1, 0, 0, 0, 0, []),
  (81, .getfield 61, 3, 0, 9, 11, 1, []),
  (84, .aload_n 0, 1, 0, 0, 0, 0, []),
  (85, .getfield 15, 3, 0, 9, 1, 1, []),
  (88, .iload_n 2, 1, 0, 2, 0, 0, []),
  (89, .iaload, 1, 0, 0, 0, 0, []),
  (90, .getstatic 188, 3, 0, 201, 0, 0, []),
  (93, .iload 4, 2, 0, 4, 0, 0, []),
  (95, .iaload, 1, 0, 0, 0, 0, []),
  (96, .isub, 1, 0, 0, 0, 0, []),
  (97, .getstatic 219, 3, 0, 208, 0, 0, []),
  (100, .iload 4, 2, 0, 4, 0, 0, []),
  (102, .iaload, 1, 0, 0, 0, 0, []),
  (103, .invokevirtual 101, 3, 0, 19, 3, 2, []),
  (106, .iconst 0, 1, 0, 0, 0, 0, []),
  (107, .istore 5, 2, 0, 5, 0, 0, []),
  (109, .iload 5, 2, 0, 5, 0, 0, []),
  (111, .aload_n 0, 1, 0, 0, 0, 0, []),
  (112, .getfield 11, 3, 0, 9, 0, 1, []),
  (115, .iload_n 2, 1, 0, 2, 0, 0, []),
  (116, .iaload, 1, 0, 0, 0, 0, []),
  (117, .if_icmp .ge 31, 3, 0, 148, 0, 0, []),
  (120, .aload_n 0, 1, 0, 0, 0, 0, []),
  (121, .getfield 44, 3, 0, 9, 14, 1, []),
  (124, .aload_n 0, 1, 0, 0, 0, 0, []),
  (125, .getfield 61, 3, 0, 9, 11, 1, []),
  (128, .aload_n 0, 1, 0, 0, 0, 0, []),
  (129, .getfield 57, 3, 0, 9, 10, 1, []),
  (132, .iload_n 1, 1, 0, 1, 0, 0, []),
  (133, .iload 5, 2, 0, 5, 0, 0, []),
  (135, .iadd, 1, 0, 0, 0, 0, []),
  (136, .invokevirtual 123, 3, 0, 15, 2, 2, []),
  (139, .invokevirtual 212, 3, 0, 38, 3, 5, []),
  (142, .iinc 5 1, 3, 1, 5, 0, 0, []),
  (145, .goto (-36), 3, 0, 109, 0, 0, [])]
def am_c107_2 : List (Nat × am_Row) := [(148, .aload_n 0, 1, 0, 0, 0, 0, []),
  (149, .getfield 24, 3, 0, 9, 5, 1, []),
  (152, .iload_n 2, 1, 0, 2, 0, 0, []),
  (153, .iaload, 1, 0, 0, 0, 0, []),
  (154, .ifCond .lt 20, 3, 0, 174, 0, 0, []),
  (157, .aload_n 0, 1, 0, 0, 0, 0, []),
  (158, .getfield 51, 3, 0, 9, 16, 1, []),
  (161, .aload_n 0, 1, 0, 0, 0, 0, []),
  (162, .getfield 61, 3, 0, 9, 11, 1, []),
  (165, .aload_n 0, 1, 0, 0, 0, 0, []),
  (166, .getfield 24, 3, 0, 9, 5, 1, []),
  (169, .iload_n 2, 1, 0, 2, 0, 0, []),
  (170, .iaload, 1, 0, 0, 0, 0, []),
  (171, .invokevirtual 212, 3, 0, 38, 3, 5, []),
  (174, .aload_n 0, 1, 0, 0, 0, 0, []),
  (175, .getfield 24, 3, 0, 9, 5, 1, []),
  (178, .iload_n 2, 1, 0, 2, 0, 0, []),
  (179, .iaload, 1, 0, 0, 0, 0, []),
  (180, .bipush 16, 2, 16, 0, 0, 0, []),
  (182, .if_icmp .lt 31, 3, 0, 213, 0, 0, []),
  (185, .aload_n 0, 1, 0, 0, 0, 0, []),
  (186, .getfield 61, 3, 0, 9, 11, 1, []),
  (189, .aload_n 0, 1, 0, 0, 0, 0, []),
  (190, .getfield 18, 3, 0, 9, 2, 1, []),
  (193, .iload_n 2, 1, 0, 2, 0, 0, []),
  (194, .iaload, 1, 0, 0, 0, 0, []),
  (195, .iconst 3, 1, 3, 0, 0, 0, []),
  (196, .iadd, 1, 0, 0, 0, 0, []),
  (197, .iconst 1, 1, 1, 0, 0, 0, []),
  (198, .aload_n 0, 1, 0, 0, 0, 0, []),
  (199, .getfield 24, 3, 0, 9, 5, 1, []),
  (202, .iload_n 2, 1, 0, 2, 0, 0, []),
  (203, .iaload, 1, 0, 0, 0, 0, []),
  (204, .bipush 16, 2, 16, 0, 0, 0, []),
  (206, .isub, 1, 0, 0, 0, 0, []),
  (207, .iconst 2, 1, 2, 0, 0, 0, []),
  (208, .idiv, 1, 0, 0, 0, 0, []),
  (209, .iadd, 1, 0, 0, 0, 0, []),
  (210, .invokevirtual 101, 3, 0, 19, 3, 2, []),
  (213, .iload_n 1, 1, 0, 1, 0, 0, [])]
def am_c107_3 : List (Nat × am_Row) := [(214, .aload_n 0, 1, 0, 0, 0, 0, []),
  (215, .getfield 11, 3, 0, 9, 0, 1, []),
  (218, .iload_n 2, 1, 0, 2, 0, 0, []),
  (219, .iaload, 1, 0, 0, 0, 0, []),
  (220, .aload_n 0, 1, 0, 0, 0, 0, []),
  (221, .getfield 27, 3, 0, 9, 6, 1, []),
  (224, .iload_n 2, 1, 0, 2, 0, 0, []),
  (225, .iaload, 1, 0, 0, 0, 0, []),
  (226, .iadd, 1, 0, 0, 0, 0, []),
  (227, .iadd, 1, 0, 0, 0, 0, []),
  (228, .istore_n 1, 1, 0, 1, 0, 0, []),
  (229, .iinc 2 1, 3, 1, 2, 0, 0, []),
  (232, .goto (-228), 3, 0, 4, 0, 0, []),
  (235, .return_, 1, 0, 0, 0, 0, [])]
def am_c107 : List (Nat × am_Row) := am_c107_0 ++ (am_c107_1 ++ (am_c107_2 ++ (am_c107_3)))
/-- BrotliWords$Words.<init>()V -/
def am_c108 : List (Nat × am_Row) := [(0, .aload_n 0, 1, 0, 0, 0, 0, []),
  (1, .invokespecial 3, 3, 0, 900, 1, 0, []),
  (4, .aload_n 0, 1, 0, 0, 0, 0, []),
  (5, .sipush 2240, 3, 2240, 0, 0, 0, []),
  (8, .newarray .byte, 2, 0, 64, 0, 0, []),
  (10, .putfield 9, 3, 0, 10, 0, 1, []),
  (13, .aload_n 0, 1, 0, 0, 0, 0, []),
  (14, .bipush 11, 2, 11, 0, 0, 0, []),
  (16, .newarray .int, 2, 0, 65, 0, 0, []),
  (18, .putfield 15, 3, 0, 10, 1, 1, []),
  (21, .return_, 1, 0, 0, 0, 0, [])]
/-- BrotliWords$Words.manyOf(I)I -/
def am_c109 : List (Nat × am_Row) := [(0, .iload_n 1, 1, 0, 1, 0, 0, []),
  (1, .iconst 4, 1, 4, 0, 0, 0, []),
  (2, .if_icmp .lt 9, 3, 0, 11, 0, 0, []),
  (5, .iload_n 1, 1, 0, 1, 0, 0, []),
  (6, .bipush 10, 2, 10, 0, 0, 0, []),
  (8, .if_icmp .le 7, 3, 0, 15, 0, 0, []),
  (11, .iconst 0, 1, 0, 0, 0, 0, []),
  (12, .goto 9, 3, 0, 21, 0, 0, []),
  (15, .aload_n 0, 1, 0, 0, 0, 0, []),
  (16, .getfield 15, 3, 0, 10, 1, 1, []),
  (19, .iload_n 1, 1, 0, 1, 0, 0, []),
  (20, .iaload, 1, 0, 0, 0, 0, []),
  (21, .ireturn, 1, 0, 0, 0, 0, [])]
/-- BrotliWords$Words.all()I -/
def am_c110 : List (Nat × am_Row) := [(0, .iconst 0, 1, 0, 0, 0, 0, []),
  (1, .istore_n 1, 1, 0, 1, 0, 0, []),
  (2, .iconst 4, 1, 4, 0, 0, 0, []),
  (3, .istore_n 2, 1, 0, 2, 0, 0, []),
  (4, .iload_n 2, 1, 0, 2, 0, 0, []),
  (5, .bipush 10, 2, 10, 0, 0, 0, []),
  (7, .if_icmp .gt 18, 3, 0, 25, 0, 0, []),
  (10, .iload_n 1, 1, 0, 1, 0, 0, []),
  (11, .aload_n 0, 1, 0, 0, 0, 0, []),
  (12, .getfield 15, 3, 0, 10, 1, 1, []),
  (15, .iload_n 2, 1, 0, 2, 0, 0, []),
  (16, .iaload, 1, 0, 0, 0, 0, []),
  (17, .iadd, 1, 0, 0, 0, 0, []),
  (18, .istore_n 1, 1, 0, 1, 0, 0, []),
  (19, .iinc 2 1, 3, 1, 2, 0, 0, []),
  (22, .goto (-18), 3, 0, 4, 0, 0, []),
  (25, .iload_n 1, 1, 0, 1, 0, 0, []),
  (26, .ireturn, 1, 0, 0, 0, 0, [])]
/-- BrotliWords$Words.forget()V -/
def am_c111 : List (Nat × am_Row) := [(0, .aload_n 0, 1, 0, 0, 0, 0, []),
  (1, .getfield 15, 3, 0, 10, 1, 1, []),
  (4, .iconst 0, 1, 0, 0, 0, 0, []),
  (5, .invokestatic 19, 3, 0, 260, 2, 999, []),
  (8, .return_, 1, 0, 0, 0, 0, [])]
/-- BrotliWords$Words.add(LBrotliWords$Bytes;)V -/
def am_c112_0 : List (Nat × am_Row) := [(0, .aload_n 1, 1, 0, 1, 0, 0, []),
  (1, .getfield 25, 3, 0, 2, 1, 0, []),
  (4, .istore_n 2, 1, 0, 2, 0, 0, []),
  (5, .aload_n 0, 1, 0, 0, 0, 0, []),
  (6, .iload_n 2, 1, 0, 2, 0, 0, []),
  (7, .invokevirtual 31, 3, 0, 109, 2, 10, []),
  (10, .istore_n 3, 1, 0, 3, 0, 0, []),
  (11, .iload_n 2, 1, 0, 2, 0, 0, []),
  (12, .iconst 4, 1, 4, 0, 0, 0, []),
  (13, .if_icmp .lt 15, 3, 0, 28, 0, 0, []),
  (16, .iload_n 2, 1, 0, 2, 0, 0, []),
  (17, .bipush 10, 2, 10, 0, 0, 0, []),
  (19, .if_icmp .gt 9, 3, 0, 28, 0, 0, []),
  (22, .iload_n 3, 1, 0, 3, 0, 0, []),
  (23, .bipush 32, 2, 32, 0, 0, 0, []),
  (25, .if_icmp .lt 4, 3, 0, 29, 0, 0, []),
  (28, .return_, 1, 0, 0, 0, 0, []),
  (29, .iload_n 2, 1, 0, 2, 0, 0, []),
  (30, .iconst 4, 1, 4, 0, 0, 0, []),
  (31, .isub, 1, 0, 0, 0, 0, []),
  (32, .bipush 32, 2, 32, 0, 0, 0, []),
  (34, .imul, 1, 0, 0, 0, 0, []),
  (35, .iload_n 3, 1, 0, 3, 0, 0, []),
  (36, .iadd, 1, 0, 0, 0, 0, []),
  (37, .bipush 10, 2, 10, 0, 0, 0, []),
  (39, .imul, 1, 0, 0, 0, 0, []),
  (40, .istore 4, 2, 0, 4, 0, 0, []),
  (42, .iconst 0, 1, 0, 0, 0, 0, []),
  (43, .istore 5, 2, 0, 5, 0, 0, []),
  (45, .iload 5, 2, 0, 5, 0, 0, []),
  (47, .iload_n 2, 1, 0, 2, 0, 0, []),
  (48, .if_icmp .ge 26, 3, 0, 74, 0, 0, []),
  (51, .aload_n 0, 1, 0, 0, 0, 0, []),
  (52, .getfield 9, 3, 0, 10, 0, 1, []),
  (55, .iload 4, 2, 0, 4, 0, 0, []),
  (57, .iload 5, 2, 0, 5, 0, 0, []),
  (59, .iadd, 1, 0, 0, 0, 0, []),
  (60, .aload_n 1, 1, 0, 1, 0, 0, []),
  (61, .iload 5, 2, 0, 5, 0, 0, []),
  (63, .invokevirtual 35, 3, 0, 15, 2, 2, [])]
def am_c112_1 : List (Nat × am_Row) := [(66, .i2b, 1, 0, 0, 0, 0, []),
  (67, .bastore, 1, 0, 0, 0, 0, []),
  (68, .iinc 5 1, 3, 1, 5, 0, 0, []),
  (71, .goto (-26), 3, 0, 45, 0, 0, []),
  (74, .aload_n 0, 1, 0, 0, 0, 0, []),
  (75, .getfield 15, 3, 0, 10, 1, 1, []),
  (78, .iload_n 2, 1, 0, 2, 0, 0, []),
  (79, .dup2, 1, 0, 0, 0, 0, []),
  (80, .iaload, 1, 0, 0, 0, 0, []),
  (81, .iconst 1, 1, 1, 0, 0, 0, []),
  (82, .iadd, 1, 0, 0, 0, 0, []),
  (83, .iastore, 1, 0, 0, 0, 0, []),
  (84, .return_, 1, 0, 0, 0, 0, [])]
def am_c112 : List (Nat × am_Row) := am_c112_0 ++ (am_c112_1)
/-- BrotliWords$Words.bitsFor(I)I -/
def am_c113 : List (Nat × am_Row) := [(0, .iconst 0, 1, 0, 0, 0, 0, []),
  (1, .istore_n 2, 1, 0, 2, 0, 0, []),
  (2, .iconst 0, 1, 0, 0, 0, 0, []),
  (3, .istore_n 3, 1, 0, 3, 0, 0, []),
  (4, .iload_n 3, 1, 0, 3, 0, 0, []),
  (5, .iconst 5, 1, 5, 0, 0, 0, []),
  (6, .if_icmp .ge 23, 3, 0, 29, 0, 0, []),
  (9, .iconst 1, 1, 1, 0, 0, 0, []),
  (10, .iload_n 2, 1, 0, 2, 0, 0, []),
  (11, .ishl, 1, 0, 0, 0, 0, []),
  (12, .aload_n 0, 1, 0, 0, 0, 0, []),
  (13, .iload_n 1, 1, 0, 1, 0, 0, []),
  (14, .invokevirtual 31, 3, 0, 109, 2, 10, []),
  (17, .if_icmp .ge 6, 3, 0, 23, 0, 0, []),
  (20, .iinc 2 1, 3, 1, 2, 0, 0, []),
  (23, .iinc 3 1, 3, 1, 3, 0, 0, []),
  (26, .goto (-22), 3, 0, 4, 0, 0, []),
  (29, .iload_n 2, 1, 0, 2, 0, 0, []),
  (30, .ireturn, 1, 0, 0, 0, 0, [])]
/-- BrotliWords$Words.digestOfAll()I -/
def am_c114_0 : List (Nat × am_Row) := [(0, .sipush 5381, 3, 5381, 0, 0, 0, []),
  (3, .istore_n 1, 1, 0, 1, 0, 0, []),
  (4, .iconst 4, 1, 4, 0, 0, 0, []),
  (5, .istore_n 2, 1, 0, 2, 0, 0, []),
  (6, .iload_n 2, 1, 0, 2, 0, 0, []),
  (7, .bipush 10, 2, 10, 0, 0, 0, []),
  (9, .if_icmp .gt 75, 3, 0, 84, 0, 0, []),
  (12, .bipush 33, 2, 33, 0, 0, 0, []),
  (14, .iload_n 1, 1, 0, 1, 0, 0, []),
  (15, .imul, 1, 0, 0, 0, 0, []),
  (16, .aload_n 0, 1, 0, 0, 0, 0, []),
  (17, .getfield 15, 3, 0, 10, 1, 1, []),
  (20, .iload_n 2, 1, 0, 2, 0, 0, []),
  (21, .iaload, 1, 0, 0, 0, 0, []),
  (22, .ixor, 1, 0, 0, 0, 0, []),
  (23, .ldc 38, 2, 65535, 0, 0, 0, []),
  (25, .iand, 1, 0, 0, 0, 0, []),
  (26, .istore_n 1, 1, 0, 1, 0, 0, []),
  (27, .iconst 0, 1, 0, 0, 0, 0, []),
  (28, .istore_n 3, 1, 0, 3, 0, 0, []),
  (29, .iload_n 3, 1, 0, 3, 0, 0, []),
  (30, .aload_n 0, 1, 0, 0, 0, 0, []),
  (31, .getfield 15, 3, 0, 10, 1, 1, []),
  (34, .iload_n 2, 1, 0, 2, 0, 0, []),
  (35, .iaload, 1, 0, 0, 0, 0, []),
  (36, .if_icmp .ge 42, 3, 0, 78, 0, 0, []),
  (39, .iconst 0, 1, 0, 0, 0, 0, []),
  (40, .istore 4, 2, 0, 4, 0, 0, []),
  (42, .iload 4, 2, 0, 4, 0, 0, []),
  (44, .iload_n 2, 1, 0, 2, 0, 0, []),
  (45, .if_icmp .ge 27, 3, 0, 72, 0, 0, []),
  (48, .bipush 33, 2, 33, 0, 0, 0, []),
  (50, .iload_n 1, 1, 0, 1, 0, 0, []),
  (51, .imul, 1, 0, 0, 0, 0, []),
  (52, .aload_n 0, 1, 0, 0, 0, 0, []),
  (53, .iload_n 2, 1, 0, 2, 0, 0, []),
  (54, .iload_n 3, 1, 0, 3, 0, 0, []),
  (55, .iconst 0, 1, 0, 0, 0, 0, []),
  (56, .iload 4, 2, 0, 4, 0, 0, []),
  (58, .invokevirtual 39, 3, 0, 116, 5, 10, [])]
def am_c114_1 : List (Nat × am_Row) := [(61, .ixor, 1, 0, 0, 0, 0, []),
  (62, .ldc 38, 2, 65535, 0, 0, 0, []),
  (64, .iand, 1, 0, 0, 0, 0, []),
  (65, .istore_n 1, 1, 0, 1, 0, 0, []),
  (66, .iinc 4 1, 3, 1, 4, 0, 0, []),
  (69, .goto (-27), 3, 0, 42, 0, 0, []),
  (72, .iinc 3 1, 3, 1, 3, 0, 0, []),
  (75, .goto (-46), 3, 0, 29, 0, 0, []),
  (78, .iinc 2 1, 3, 1, 2, 0, 0, []),
  (81, .goto (-75), 3, 0, 6, 0, 0, []),
  (84, .iload_n 1, 1, 0, 1, 0, 0, []),
  (85, .ireturn, 1, 0, 0, 0, 0, [])]
def am_c114 : List (Nat × am_Row) := am_c114_0 ++ (am_c114_1)
/-- BrotliWords$Words.coreSize(II)I -/
def am_c115 : List (Nat × am_Row) := [(0, .iload_n 1, 1, 0, 1, 0, 0, []),
  (1, .iconst 3, 1, 3, 0, 0, 0, []),
  (2, .if_icmp .ge 5, 3, 0, 7, 0, 0, []),
  (5, .iload_n 0, 1, 0, 0, 0, 0, []),
  (6, .ireturn, 1, 0, 0, 0, 0, []),
  (7, .iload_n 1, 1, 0, 1, 0, 0, []),
  (8, .iconst 5, 1, 5, 0, 0, 0, []),
  (9, .if_icmp .ne 9, 3, 0, 18, 0, 0, []),
  (12, .iload_n 0, 1, 0, 0, 0, 0, []),
  (13, .iconst 2, 1, 2, 0, 0, 0, []),
  (14, .isub, 1, 0, 0, 0, 0, []),
  (15, .goto 6, 3, 0, 21, 0, 0, []),
  (18, .iload_n 0, 1, 0, 0, 0, 0, []),
  (19, .iconst 1, 1, 1, 0, 0, 0, []),
  (20, .isub, 1, 0, 0, 0, 0, []),
  (21, .ireturn, 1, 0, 0, 0, 0, [])]
/-- BrotliWords$Words.coreByte(IIII)I -/
def am_c116_0 : List (Nat × am_Row) := [(0, .iload_n 1, 1, 0, 1, 0, 0, []),
  (1, .iconst 4, 1, 4, 0, 0, 0, []),
  (2, .isub, 1, 0, 0, 0, 0, []),
  (3, .bipush 32, 2, 32, 0, 0, 0, []),
  (5, .imul, 1, 0, 0, 0, 0, []),
  (6, .iload_n 2, 1, 0, 2, 0, 0, []),
  (7, .iadd, 1, 0, 0, 0, 0, []),
  (8, .bipush 10, 2, 10, 0, 0, 0, []),
  (10, .imul, 1, 0, 0, 0, 0, []),
  (11, .iload 4, 2, 0, 4, 0, 0, []),
  (13, .iadd, 1, 0, 0, 0, 0, []),
  (14, .istore 5, 2, 0, 5, 0, 0, []),
  (16, .iload_n 3, 1, 0, 3, 0, 0, []),
  (17, .iconst 3, 1, 3, 0, 0, 0, []),
  (18, .if_icmp .ne 6, 3, 0, 24, 0, 0, []),
  (21, .iinc 5 1, 3, 1, 5, 0, 0, []),
  (24, .iload 5, 2, 0, 5, 0, 0, []),
  (26, .ifCond .lt 13, 3, 0, 39, 0, 0, []),
  (29, .iload 5, 2, 0, 5, 0, 0, []),
  (31, .aload_n 0, 1, 0, 0, 0, 0, []),
  (32, .getfield 9, 3, 0, 10, 0, 1, []),
  (35, .arraylength, 1, 0, 0, 0, 0, []),
  (36, .if_icmp .lt 7, 3, 0, 43, 0, 0, []),
  (39, .iconst 0, 1, 0, 0, 0, 0, []),
  (40, .goto 14, 3, 0, 54, 0, 0, []),
  (43, .aload_n 0, 1, 0, 0, 0, 0, []),
  (44, .getfield 9, 3, 0, 10, 0, 1, []),
  (47, .iload 5, 2, 0, 5, 0, 0, []),
  (49, .baload, 1, 0, 0, 0, 0, []),
  (50, .sipush 255, 3, 255, 0, 0, 0, []),
  (53, .iand, 1, 0, 0, 0, 0, []),
  (54, .istore 6, 2, 0, 6, 0, 0, []),
  (56, .iload_n 3, 1, 0, 3, 0, 0, []),
  (57, .iconst 2, 1, 2, 0, 0, 0, []),
  (58, .if_icmp .eq 13, 3, 0, 71, 0, 0, []),
  (61, .iload_n 3, 1, 0, 3, 0, 0, []),
  (62, .iconst 1, 1, 1, 0, 0, 0, []),
  (63, .if_icmp .ne 12, 3, 0, 75, 0, 0, []),
  (66, .iload 4, 2, 0, 4, 0, 0, []),
  (68, .ifCond .ne 7, 3, 0, 75, 0, 0, [])]
def am_c116_1 : List (Nat × am_Row) := [(71, .iconst 1, 1, 1, 0, 0, 0, []),
  (72, .goto 4, 3, 0, 76, 0, 0, []),
  (75, .iconst 0, 1, 0, 0, 0, 0, []),
  (76, .istore 7, 2, 0, 7, 0, 0, []),
  (78, .iload 7, 2, 0, 7, 0, 0, []),
  (80, .ifCond .eq 25, 3, 0, 105, 0, 0, []),
  (83, .iload 6, 2, 0, 6, 0, 0, []),
  (85, .bipush 97, 2, 97, 0, 0, 0, []),
  (87, .if_icmp .lt 18, 3, 0, 105, 0, 0, []),
  (90, .iload 6, 2, 0, 6, 0, 0, []),
  (92, .bipush 122, 2, 122, 0, 0, 0, []),
  (94, .if_icmp .gt 11, 3, 0, 105, 0, 0, []),
  (97, .iload 6, 2, 0, 6, 0, 0, []),
  (99, .bipush 32, 2, 32, 0, 0, 0, []),
  (101, .isub, 1, 0, 0, 0, 0, []),
  (102, .goto 5, 3, 0, 107, 0, 0, []),
  (105, .iload 6, 2, 0, 6, 0, 0, []),
  (107, .ireturn, 1, 0, 0, 0, 0, [])]
def am_c116 : List (Nat × am_Row) := am_c116_0 ++ (am_c116_1)
/-- BrotliWords$Words.aroundSize(I)I -/
def am_c117 : List (Nat × am_Row) := [(0, .iload_n 0, 1, 0, 0, 0, 0, []),
  (1, .iconst 3, 1, 3, 0, 0, 0, []),
  (2, .if_icmp .ne 7, 3, 0, 9, 0, 0, []),
  (5, .iconst 2, 1, 2, 0, 0, 0, []),
  (6, .goto 8, 3, 0, 14, 0, 0, []),
  (9, .iload_n 0, 1, 0, 0, 0, 0, []),
  (10, .iconst 1, 1, 1, 0, 0, 0, []),
  (11, .invokestatic 43, 3, 0, 903, 2, 0, []),
  (14, .ireturn, 1, 0, 0, 0, 0, [])]
/-- BrotliWords$Words.changedSize(II)I -/
def am_c118 : List (Nat × am_Row) := [(0, .iload_n 0, 1, 0, 0, 0, 0, []),
  (1, .iload_n 1, 1, 0, 1, 0, 0, []),
  (2, .bipush 6, 2, 6, 0, 0, 0, []),
  (4, .irem, 1, 0, 0, 0, 0, []),
  (5, .invokestatic 49, 3, 0, 115, 2, 999, []),
  (8, .iload_n 1, 1, 0, 1, 0, 0, []),
  (9, .bipush 6, 2, 6, 0, 0, 0, []),
  (11, .idiv, 1, 0, 0, 0, 0, []),
  (12, .invokestatic 52, 3, 0, 117, 1, 999, []),
  (15, .iadd, 1, 0, 0, 0, 0, []),
  (16, .ireturn, 1, 0, 0, 0, 0, [])]
/-- BrotliWords$Words.changedByte(IIII)I -/
def am_c119_0 : List (Nat × am_Row) := [(0, .iload_n 3, 1, 0, 3, 0, 0, []),
  (1, .bipush 6, 2, 6, 0, 0, 0, []),
  (3, .irem, 1, 0, 0, 0, 0, []),
  (4, .istore 5, 2, 0, 5, 0, 0, []),
  (6, .iload_n 3, 1, 0, 3, 0, 0, []),
  (7, .bipush 6, 2, 6, 0, 0, 0, []),
  (9, .idiv, 1, 0, 0, 0, 0, []),
  (10, .istore 6, 2, 0, 6, 0, 0, []),
  (12, .iload_n 1, 1, 0, 1, 0, 0, []),
  (13, .iload 5, 2, 0, 5, 0, 0, []),
  (15, .invokestatic 49, 3, 0, 115, 2, 999, []),
  (18, .istore 7, 2, 0, 7, 0, 0, []),
  (20, .iload 6, 2, 0, 6, 0, 0, []),
  (22, .iconst 2, 1, 2, 0, 0, 0, []),
  (23, .if_icmp .ne 10, 3, 0, 33, 0, 0, []),
  (26, .iload 4, 2, 0, 4, 0, 0, []),
  (28, .iconst 1, 1, 1, 0, 0, 0, []),
  (29, .isub, 1, 0, 0, 0, 0, []),
  (30, .goto 5, 3, 0, 35, 0, 0, []),
  (33, .iload 4, 2, 0, 4, 0, 0, []),
  (35, .istore 8, 2, 0, 8, 0, 0, []),
  (37, .iload 8, 2, 0, 8, 0, 0, []),
  (39, .ifCond .lt 21, 3, 0, 60, 0, 0, []),
  (42, .iload 8, 2, 0, 8, 0, 0, []),
  (44, .iload 7, 2, 0, 7, 0, 0, []),
  (46, .if_icmp .ge 14, 3, 0, 60, 0, 0, []),
  (49, .aload_n 0, 1, 0, 0, 0, 0, []),
  (50, .iload_n 1, 1, 0, 1, 0, 0, []),
  (51, .iload_n 2, 1, 0, 2, 0, 0, []),
  (52, .iload 5, 2, 0, 5, 0, 0, []),
  (54, .iload 8, 2, 0, 8, 0, 0, []),
  (56, .invokevirtual 39, 3, 0, 116, 5, 10, []),
  (59, .ireturn, 1, 0, 0, 0, 0, []),
  (60, .iload 6, 2, 0, 6, 0, 0, []),
  (62, .iconst 3, 1, 3, 0, 0, 0, []),
  (63, .if_icmp .ne 15, 3, 0, 78, 0, 0, []),
  (66, .iload 8, 2, 0, 8, 0, 0, []),
  (68, .iload 7, 2, 0, 7, 0, 0, []),
  (70, .if_icmp .ne 8, 3, 0, 78, 0, 0, []),
  (73, .bipush 44, 2, 44, 0, 0, 0, [])]
def am_c119_1 : List (Nat × am_Row) := [(75, .goto 5, 3, 0, 80, 0, 0, []),
  (78, .bipush 32, 2, 32, 0, 0, 0, []),
  (80, .ireturn, 1, 0, 0, 0, 0, [])]
def am_c119 : List (Nat × am_Row) := am_c119_0 ++ (am_c119_1)
/-- BrotliWords.<init>()V -/
def am_c120_0 : List (Nat × am_Row) := [(0, .aload_n 0, 1, 0, 0, 0, 0, []),
  (1, .invokespecial 3, 3, 0, 900, 1, 0, []),
  (4, .aload_n 0, 1, 0, 0, 0, 0, []),
  (5, .new 9, 3, 0, 2, 3, 0, []),
  (8, .dup, 1, 0, 0, 0, 0, []),
  (9, .sipush 2400, 3, 2400, 0, 0, 0, []),
  (12, .invokespecial 11, 3, 0, 14, 2, 2, []),
  (15, .putfield 14, 3, 0, 11, 0, 1, []),
  (18, .aload_n 0, 1, 0, 0, 0, 0, []),
  (19, .new 9, 3, 0, 2, 3, 0, []),
  (22, .dup, 1, 0, 0, 0, 0, []),
  (23, .sipush 4096, 3, 4096, 0, 0, 0, []),
  (26, .invokespecial 11, 3, 0, 14, 2, 2, []),
  (29, .putfield 18, 3, 0, 11, 1, 1, []),
  (32, .aload_n 0, 1, 0, 0, 0, 0, []),
  (33, .new 21, 3, 0, 10, 2, 0, []),
  (36, .dup, 1, 0, 0, 0, 0, []),
  (37, .invokespecial 23, 3, 0, 108, 1, 10, []),
  (40, .putfield 24, 3, 0, 11, 2, 1, []),
  (43, .aload_n 0, 1, 0, 0, 0, 0, []),
  (44, .new 28, 3, 0, 8, 16, 0, []),
  (47, .dup, 1, 0, 0, 0, 0, []),
  (48, .aload_n 0, 1, 0, 0, 0, 0, []),
  (49, .getfield 14, 3, 0, 11, 0, 1, []),
  (52, .aload_n 0, 1, 0, 0, 0, 0, []),
  (53, .getfield 18, 3, 0, 11, 1, 1, []),
  (56, .aload_n 0, 1, 0, 0, 0, 0, []),
  (57, .getfield 24, 3, 0, 11, 2, 1, []),
  (60, .invokespecial 30, 3, 0, 68, 4, 8, []),
  (63, .putfield 33, 3, 0, 11, 3, 1, []),
  (66, .aload_n 0, 1, 0, 0, 0, 0, []),
  (67, .new 37, 3, 0, 9, 18, 0, []),
  (70, .dup, 1, 0, 0, 0, 0, []),
  (71, .aload_n 0, 1, 0, 0, 0, 0, []),
  (72, .getfield 14, 3, 0, 11, 0, 1, []),
  (75, .aload_n 0, 1, 0, 0, 0, 0, []),
  (76, .getfield 18, 3, 0, 11, 1, 1, []),
  (79, .aload_n 0, 1, 0, 0, 0, 0, []),
  (80, .getfield 24, 3, 0, 11, 2, 1, []),
  (83, .invokespecial 39, 3, 0, 93, 4, 9, [])]
def am_c120_1 : List (Nat × am_Row) := [(86, .putfield 40, 3, 0, 11, 4, 1, []),
  (89, .return_, 1, 0, 0, 0, 0, [])]
def am_c120 : List (Nat × am_Row) := am_c120_0 ++ (am_c120_1)
/-- BrotliWords.feed(IIIII)I -/
def am_c121 : List (Nat × am_Row) := [(0, .aload_n 0, 1, 0, 0, 0, 0, []),
  (1, .getfield 14, 3, 0, 11, 0, 1, []),
  (4, .getfield 44, 3, 0, 2, 1, 0, []),
  (7, .bipush 20, 2, 20, 0, 0, 0, []),
  (9, .iadd, 1, 0, 0, 0, 0, []),
  (10, .sipush 2400, 3, 2400, 0, 0, 0, []),
  (13, .if_icmp .le 6, 3, 0, 19, 0, 0, []),
  (16, .bipush (-3), 2, (-3), 0, 0, 0, []),
  (18, .ireturn, 1, 0, 0, 0, 0, []),
  (19, .aload_n 0, 1, 0, 0, 0, 0, []),
  (20, .getfield 14, 3, 0, 11, 0, 1, []),
  (23, .iload_n 1, 1, 0, 1, 0, 0, []),
  (24, .invokevirtual 48, 3, 0, 18, 2, 2, []),
  (27, .aload_n 0, 1, 0, 0, 0, 0, []),
  (28, .getfield 14, 3, 0, 11, 0, 1, []),
  (31, .iload_n 2, 1, 0, 2, 0, 0, []),
  (32, .invokevirtual 48, 3, 0, 18, 2, 2, []),
  (35, .aload_n 0, 1, 0, 0, 0, 0, []),
  (36, .getfield 14, 3, 0, 11, 0, 1, []),
  (39, .iload_n 3, 1, 0, 3, 0, 0, []),
  (40, .invokevirtual 48, 3, 0, 18, 2, 2, []),
  (43, .aload_n 0, 1, 0, 0, 0, 0, []),
  (44, .getfield 14, 3, 0, 11, 0, 1, []),
  (47, .iload 4, 2, 0, 4, 0, 0, []),
  (49, .invokevirtual 48, 3, 0, 18, 2, 2, []),
  (52, .aload_n 0, 1, 0, 0, 0, 0, []),
  (53, .getfield 14, 3, 0, 11, 0, 1, []),
  (56, .iload 5, 2, 0, 5, 0, 0, []),
  (58, .invokevirtual 48, 3, 0, 18, 2, 2, []),
  (61, .aload_n 0, 1, 0, 0, 0, 0, []),
  (62, .getfield 14, 3, 0, 11, 0, 1, []),
  (65, .getfield 44, 3, 0, 2, 1, 0, []),
  (68, .ireturn, 1, 0, 0, 0, 0, [])]
/-- BrotliWords.end(I)I -/
def am_c122 : List (Nat × am_Row) := [(0, .iload_n 1, 1, 0, 1, 0, 0, []),
  (1, .ifCond .lt 21, 3, 0, 22, 0, 0, []),
  (4, .iload_n 1, 1, 0, 1, 0, 0, []),
  (5, .bipush 20, 2, 20, 0, 0, 0, []),
  (7, .if_icmp .gt 15, 3, 0, 22, 0, 0, []),
  (10, .aload_n 0, 1, 0, 0, 0, 0, []),
  (11, .getfield 14, 3, 0, 11, 0, 1, []),
  (14, .getfield 44, 3, 0, 2, 1, 0, []),
  (17, .bipush 20, 2, 20, 0, 0, 0, []),
  (19, .if_icmp .ge 5, 3, 0, 24, 0, 0, []),
  (22, .iconst (-1), 1, (-1), 0, 0, 0, []),
  (23, .ireturn, 1, 0, 0, 0, 0, []),
  (24, .aload_n 0, 1, 0, 0, 0, 0, []),
  (25, .getfield 14, 3, 0, 11, 0, 1, []),
  (28, .aload_n 0, 1, 0, 0, 0, 0, []),
  (29, .getfield 14, 3, 0, 11, 0, 1, []),
  (32, .getfield 44, 3, 0, 2, 1, 0, []),
  (35, .bipush 20, 2, 20, 0, 0, 0, []),
  (37, .isub, 1, 0, 0, 0, 0, []),
  (38, .iload_n 1, 1, 0, 1, 0, 0, []),
  (39, .iadd, 1, 0, 0, 0, 0, []),
  (40, .invokevirtual 51, 3, 0, 16, 2, 2, []),
  (43, .aload_n 0, 1, 0, 0, 0, 0, []),
  (44, .getfield 14, 3, 0, 11, 0, 1, []),
  (47, .getfield 44, 3, 0, 2, 1, 0, []),
  (50, .ireturn, 1, 0, 0, 0, 0, [])]
/-- BrotliWords.bits(II)I -/
def am_c123 : List (Nat × am_Row) := [(0, .iload_n 2, 1, 0, 2, 0, 0, []),
  (1, .iconst 1, 1, 1, 0, 0, 0, []),
  (2, .if_icmp .lt 9, 3, 0, 11, 0, 0, []),
  (5, .iload_n 2, 1, 0, 2, 0, 0, []),
  (6, .bipush 32, 2, 32, 0, 0, 0, []),
  (8, .if_icmp .le 5, 3, 0, 13, 0, 0, []),
  (11, .iconst (-1), 1, (-1), 0, 0, 0, []),
  (12, .ireturn, 1, 0, 0, 0, 0, []),
  (13, .aload_n 0, 1, 0, 0, 0, 0, []),
  (14, .getfield 14, 3, 0, 11, 0, 1, []),
  (17, .getfield 54, 3, 0, 2, 2, 0, []),
  (20, .iload_n 2, 1, 0, 2, 0, 0, []),
  (21, .iadd, 1, 0, 0, 0, 0, []),
  (22, .sipush 19200, 3, 19200, 0, 0, 0, []),
  (25, .if_icmp .le 6, 3, 0, 31, 0, 0, []),
  (28, .bipush (-3), 2, (-3), 0, 0, 0, []),
  (30, .ireturn, 1, 0, 0, 0, 0, []),
  (31, .aload_n 0, 1, 0, 0, 0, 0, []),
  (32, .getfield 14, 3, 0, 11, 0, 1, []),
  (35, .iload_n 1, 1, 0, 1, 0, 0, []),
  (36, .iload_n 2, 1, 0, 2, 0, 0, []),
  (37, .invokevirtual 57, 3, 0, 19, 3, 2, []),
  (40, .aload_n 0, 1, 0, 0, 0, 0, []),
  (41, .getfield 14, 3, 0, 11, 0, 1, []),
  (44, .getfield 54, 3, 0, 2, 2, 0, []),
  (47, .ireturn, 1, 0, 0, 0, 0, [])]
/-- BrotliWords.spoil(II)I -/
def am_c124 : List (Nat × am_Row) := [(0, .iload_n 1, 1, 0, 1, 0, 0, []),
  (1, .ifCond .lt 26, 3, 0, 27, 0, 0, []),
  (4, .iload_n 1, 1, 0, 1, 0, 0, []),
  (5, .aload_n 0, 1, 0, 0, 0, 0, []),
  (6, .getfield 14, 3, 0, 11, 0, 1, []),
  (9, .getfield 44, 3, 0, 2, 1, 0, []),
  (12, .if_icmp .ge 15, 3, 0, 27, 0, 0, []),
  (15, .iload_n 2, 1, 0, 2, 0, 0, []),
  (16, .iconst 1, 1, 1, 0, 0, 0, []),
  (17, .if_icmp .lt 10, 3, 0, 27, 0, 0, []),
  (20, .iload_n 2, 1, 0, 2, 0, 0, []),
  (21, .sipush 255, 3, 255, 0, 0, 0, []),
  (24, .if_icmp .le 5, 3, 0, 29, 0, 0, []),
  (27, .iconst (-1), 1, (-1), 0, 0, 0, []),
  (28, .ireturn, 1, 0, 0, 0, 0, []),
  (29, .aload_n 0, 1, 0, 0, 0, 0, []),
  (30, .getfield 14, 3, 0, 11, 0, 1, []),
  (33, .getfield 61, 3, 0, 2, 0, 1, []),
  (36, .iload_n 1, 1, 0, 1, 0, 0, []),
  (37, .dup2, 1, 0, 0, 0, 0, []),
  (38, .baload, 1, 0, 0, 0, 0, []),
  (39, .iload_n 2, 1, 0, 2, 0, 0, []),
  (40, .i2b, 1, 0, 0, 0, 0, []),
  (41, .ixor, 1, 0, 0, 0, 0, []),
  (42, .i2b, 1, 0, 0, 0, 0, []),
  (43, .bastore, 1, 0, 0, 0, 0, []),
  (44, .aload_n 0, 1, 0, 0, 0, 0, []),
  (45, .getfield 14, 3, 0, 11, 0, 1, []),
  (48, .aload_n 0, 1, 0, 0, 0, 0, []),
  (49, .getfield 14, 3, 0, 11, 0, 1, []),
  (52, .getfield 44, 3, 0, 2, 1, 0, []),
  (55, .invokevirtual 51, 3, 0, 16, 2, 2, []),
  (58, .aload_n 0, 1, 0, 0, 0, 0, []),
  (59, .getfield 14, 3, 0, 11, 0, 1, []),
  (62, .iload_n 1, 1, 0, 1, 0, 0, []),
  (63, .invokevirtual 65, 3, 0, 15, 2, 2, []),
  (66, .ireturn, 1, 0, 0, 0, 0, [])]
/-- BrotliWords.wipe()I -/
def am_c125 : List (Nat × am_Row) := [(0, .aload_n 0, 1, 0, 0, 0, 0, []),
  (1, .getfield 14, 3, 0, 11, 0, 1, []),
  (4, .getfield 44, 3, 0, 2, 1, 0, []),
  (7, .istore_n 1, 1, 0, 1, 0, 0, []),
  (8, .aload_n 0, 1, 0, 0, 0, 0, []),
  (9, .getfield 14, 3, 0, 11, 0, 1, []),
  (12, .iconst 0, 1, 0, 0, 0, 0, []),
  (13, .invokevirtual 51, 3, 0, 16, 2, 2, []),
  (16, .iload_n 1, 1, 0, 1, 0, 0, []),
  (17, .ireturn, 1, 0, 0, 0, 0, [])]
/-- BrotliWords.word()I -/
def am_c126 : List (Nat × am_Row) := [(0, .aload_n 0, 1, 0, 0, 0, 0, []),
  (1, .getfield 14, 3, 0, 11, 0, 1, []),
  (4, .getfield 44, 3, 0, 2, 1, 0, []),
  (7, .istore_n 1, 1, 0, 1, 0, 0, []),
  (8, .iload_n 1, 1, 0, 1, 0, 0, []),
  (9, .iconst 4, 1, 4, 0, 0, 0, []),
  (10, .if_icmp .lt 9, 3, 0, 19, 0, 0, []),
  (13, .iload_n 1, 1, 0, 1, 0, 0, []),
  (14, .bipush 10, 2, 10, 0, 0, 0, []),
  (16, .if_icmp .le 5, 3, 0, 21, 0, 0, []),
  (19, .iconst (-1), 1, (-1), 0, 0, 0, []),
  (20, .ireturn, 1, 0, 0, 0, 0, []),
  (21, .aload_n 0, 1, 0, 0, 0, 0, []),
  (22, .getfield 24, 3, 0, 11, 2, 1, []),
  (25, .iload_n 1, 1, 0, 1, 0, 0, []),
  (26, .invokevirtual 69, 3, 0, 109, 2, 10, []),
  (29, .bipush 32, 2, 32, 0, 0, 0, []),
  (31, .if_icmp .lt 6, 3, 0, 37, 0, 0, []),
  (34, .bipush (-3), 2, (-3), 0, 0, 0, []),
  (36, .ireturn, 1, 0, 0, 0, 0, []),
  (37, .aload_n 0, 1, 0, 0, 0, 0, []),
  (38, .getfield 24, 3, 0, 11, 2, 1, []),
  (41, .aload_n 0, 1, 0, 0, 0, 0, []),
  (42, .getfield 14, 3, 0, 11, 0, 1, []),
  (45, .invokevirtual 72, 3, 0, 112, 2, 10, []),
  (48, .aload_n 0, 1, 0, 0, 0, 0, []),
  (49, .getfield 14, 3, 0, 11, 0, 1, []),
  (52, .iconst 0, 1, 0, 0, 0, 0, []),
  (53, .invokevirtual 51, 3, 0, 16, 2, 2, []),
  (56, .aload_n 0, 1, 0, 0, 0, 0, []),
  (57, .getfield 24, 3, 0, 11, 2, 1, []),
  (60, .iload_n 1, 1, 0, 1, 0, 0, []),
  (61, .invokevirtual 69, 3, 0, 109, 2, 10, []),
  (64, .ireturn, 1, 0, 0, 0, 0, [])]
/-- BrotliWords.clear()I -/
def am_c127 : List (Nat × am_Row) := [(0, .aload_n 0, 1, 0, 0, 0, 0, []),
  (1, .getfield 24, 3, 0, 11, 2, 1, []),
  (4, .invokevirtual 76, 3, 0, 110, 1, 10, []),
  (7, .istore_n 1, 1, 0, 1, 0, 0, []),
  (8, .aload_n 0, 1, 0, 0, 0, 0, []),
  (9, .getfield 24, 3, 0, 11, 2, 1, []),
  (12, .invokevirtual 80, 3, 0, 111, 1, 10, []),
  (15, .iload_n 1, 1, 0, 1, 0, 0, []),
  (16, .ireturn, 1, 0, 0, 0, 0, [])]
/-- BrotliWords.digest()I -/
def am_c128 : List (Nat × am_Row) := [(0, .aload_n 0, 1, 0, 0, 0, 0, []),
  (1, .getfield 24, 3, 0, 11, 2, 1, []),
  (4, .invokevirtual 83, 3, 0, 114, 1, 10, []),
  (7, .ireturn, 1, 0, 0, 0, 0, [])]
/-- BrotliWords.changed(IIII)I -/
def am_c129 : List (Nat × am_Row) := [(0, .iload_n 2, 1, 0, 2, 0, 0, []),
  (1, .ifCond .lt 25, 3, 0, 26, 0, 0, []),
  (4, .iload_n 2, 1, 0, 2, 0, 0, []),
  (5, .aload_n 0, 1, 0, 0, 0, 0, []),
  (6, .getfield 24, 3, 0, 11, 2, 1, []),
  (9, .iload_n 1, 1, 0, 1, 0, 0, []),
  (10, .invokevirtual 69, 3, 0, 109, 2, 10, []),
  (13, .if_icmp .ge 13, 3, 0, 26, 0, 0, []),
  (16, .iload_n 3, 1, 0, 3, 0, 0, []),
  (17, .ifCond .lt 9, 3, 0, 26, 0, 0, []),
  (20, .iload_n 3, 1, 0, 3, 0, 0, []),
  (21, .bipush 24, 2, 24, 0, 0, 0, []),
  (23, .if_icmp .lt 5, 3, 0, 28, 0, 0, []),
  (26, .iconst (-1), 1, (-1), 0, 0, 0, []),
  (27, .ireturn, 1, 0, 0, 0, 0, []),
  (28, .iload_n 1, 1, 0, 1, 0, 0, []),
  (29, .iload_n 3, 1, 0, 3, 0, 0, []),
  (30, .invokestatic 86, 3, 0, 118, 2, 999, []),
  (33, .istore 5, 2, 0, 5, 0, 0, []),
  (35, .iload 4, 2, 0, 4, 0, 0, []),
  (37, .iconst (-1), 1, (-1), 0, 0, 0, []),
  (38, .if_icmp .ne 6, 3, 0, 44, 0, 0, []),
  (41, .iload 5, 2, 0, 5, 0, 0, []),
  (43, .ireturn, 1, 0, 0, 0, 0, []),
  (44, .iload 4, 2, 0, 4, 0, 0, []),
  (46, .ifCond .lt 10, 3, 0, 56, 0, 0, []),
  (49, .iload 4, 2, 0, 4, 0, 0, []),
  (51, .iload 5, 2, 0, 5, 0, 0, []),
  (53, .if_icmp .lt 7, 3, 0, 60, 0, 0, []),
  (56, .iconst (-1), 1, (-1), 0, 0, 0, []),
  (57, .goto 15, 3, 0, 72, 0, 0, []),
  (60, .aload_n 0, 1, 0, 0, 0, 0, []),
  (61, .getfield 24, 3, 0, 11, 2, 1, []),
  (64, .iload_n 1, 1, 0, 1, 0, 0, []),
  (65, .iload_n 2, 1, 0, 2, 0, 0, []),
  (66, .iload_n 3, 1, 0, 3, 0, 0, []),
  (67, .iload 4, 2, 0, 4, 0, 0, []),
  (69, .invokevirtual 90, 3, 0, 119, 5, 10, []),
  (72, .ireturn, 1, 0, 0, 0, 0, [])]
/-- BrotliWords.pack(I)I -/
def am_c130 : List (Nat × am_Row) := [(0, .iload_n 1, 1, 0, 1, 0, 0, []),
  (1, .ifCond .lt 21, 3, 0, 22, 0, 0, []),
  (4, .iload_n 1, 1, 0, 1, 0, 0, []),
  (5, .iconst 2, 1, 2, 0, 0, 0, []),
  (6, .if_icmp .gt 16, 3, 0, 22, 0, 0, []),
  (9, .aload_n 0, 1, 0, 0, 0, 0, []),
  (10, .getfield 14, 3, 0, 11, 0, 1, []),
  (13, .getfield 44, 3, 0, 2, 1, 0, []),
  (16, .sipush 2000, 3, 2000, 0, 0, 0, []),
  (19, .if_icmp .le 5, 3, 0, 24, 0, 0, []),
  (22, .iconst (-1), 1, (-1), 0, 0, 0, []),
  (23, .ireturn, 1, 0, 0, 0, 0, []),
  (24, .aload_n 0, 1, 0, 0, 0, 0, []),
  (25, .getfield 40, 3, 0, 11, 4, 1, []),
  (28, .iload_n 1, 1, 0, 1, 0, 0, []),
  (29, .invokevirtual 94, 3, 0, 94, 2, 9, []),
  (32, .aload_n 0, 1, 0, 0, 0, 0, []),
  (33, .getfield 14, 3, 0, 11, 0, 1, []),
  (36, .iconst 0, 1, 0, 0, 0, 0, []),
  (37, .invokevirtual 51, 3, 0, 16, 2, 2, []),
  (40, .aload_n 0, 1, 0, 0, 0, 0, []),
  (41, .getfield 18, 3, 0, 11, 1, 1, []),
  (44, .getfield 44, 3, 0, 2, 1, 0, []),
  (47, .ireturn, 1, 0, 0, 0, 0, [])]
/-- BrotliWords.open()I -/
def am_c131 : List (Nat × am_Row) := [(0, .aload_n 0, 1, 0, 0, 0, 0, []),
  (1, .getfield 33, 3, 0, 11, 3, 1, []),
  (4, .invokevirtual 97, 3, 0, 69, 1, 8, []),
  (7, .istore_n 1, 1, 0, 1, 0, 0, []),
  (8, .aload_n 0, 1, 0, 0, 0, 0, []),
  (9, .getfield 14, 3, 0, 11, 0, 1, []),
  (12, .iconst 0, 1, 0, 0, 0, 0, []),
  (13, .invokevirtual 51, 3, 0, 16, 2, 2, []),
  (16, .iload_n 1, 1, 0, 1, 0, 0, []),
  (17, .ireturn, 1, 0, 0, 0, 0, [])]
/-- BrotliWords.pass()I -/
def am_c132 : List (Nat × am_Row) := [(0, .aload_n 0, 1, 0, 0, 0, 0, []),
  (1, .getfield 18, 3, 0, 11, 1, 1, []),
  (4, .getfield 44, 3, 0, 2, 1, 0, []),
  (7, .sipush 2400, 3, 2400, 0, 0, 0, []),
  (10, .if_icmp .le 6, 3, 0, 16, 0, 0, []),
  (13, .bipush (-3), 2, (-3), 0, 0, 0, []),
  (15, .ireturn, 1, 0, 0, 0, 0, []),
  (16, .aload_n 0, 1, 0, 0, 0, 0, []),
  (17, .getfield 14, 3, 0, 11, 0, 1, []),
  (20, .iconst 0, 1, 0, 0, 0, 0, []),
  (21, .invokevirtual 51, 3, 0, 16, 2, 2, []),
  (24, .iconst 0, 1, 0, 0, 0, 0, []),
  (25, .istore_n 1, 1, 0, 1, 0, 0, []),
  (26, .iload_n 1, 1, 0, 1, 0, 0, []),
  (27, .aload_n 0, 1, 0, 0, 0, 0, []),
  (28, .getfield 18, 3, 0, 11, 1, 1, []),
  (31, .getfield 44, 3, 0, 2, 1, 0, []),
  (34, .if_icmp .ge 24, 3, 0, 58, 0, 0, []),
  (37, .aload_n 0, 1, 0, 0, 0, 0, []),
  (38, .getfield 14, 3, 0, 11, 0, 1, []),
  (41, .aload_n 0, 1, 0, 0, 0, 0, []),
  (42, .getfield 18, 3, 0, 11, 1, 1, []),
  (45, .iload_n 1, 1, 0, 1, 0, 0, []),
  (46, .invokevirtual 65, 3, 0, 15, 2, 2, []),
  (49, .invokevirtual 100, 3, 0, 17, 2, 2, []),
  (52, .iinc 1 1, 3, 1, 1, 0, 0, []),
  (55, .goto (-29), 3, 0, 26, 0, 0, []),
  (58, .aload_n 0, 1, 0, 0, 0, 0, []),
  (59, .getfield 14, 3, 0, 11, 0, 1, []),
  (62, .getfield 44, 3, 0, 2, 1, 0, []),
  (65, .ireturn, 1, 0, 0, 0, 0, [])]
/-- BrotliWords.out(I)I -/
def am_c133 : List (Nat × am_Row) := [(0, .iload_n 1, 1, 0, 1, 0, 0, []),
  (1, .ifCond .lt 14, 3, 0, 15, 0, 0, []),
  (4, .iload_n 1, 1, 0, 1, 0, 0, []),
  (5, .aload_n 0, 1, 0, 0, 0, 0, []),
  (6, .getfield 18, 3, 0, 11, 1, 1, []),
  (9, .getfield 44, 3, 0, 2, 1, 0, []),
  (12, .if_icmp .lt 7, 3, 0, 19, 0, 0, []),
  (15, .iconst (-1), 1, (-1), 0, 0, 0, []),
  (16, .goto 11, 3, 0, 27, 0, 0, []),
  (19, .aload_n 0, 1, 0, 0, 0, 0, []),
  (20, .getfield 18, 3, 0, 11, 1, 1, []),
  (23, .iload_n 1, 1, 0, 1, 0, 0, []),
  (24, .invokevirtual 65, 3, 0, 15, 2, 2, []),
  (27, .ireturn, 1, 0, 0, 0, 0, [])]
/-- BrotliWords.read()I -/
def am_c134 : List (Nat × am_Row) := [(0, .aload_n 0, 1, 0, 0, 0, 0, []),
  (1, .getfield 33, 3, 0, 11, 3, 1, []),
  (4, .getfield 102, 3, 0, 8, 0, 1, []),
  (7, .getfield 106, 3, 0, 0, 1, 0, []),
  (10, .ireturn, 1, 0, 0, 0, 0, [])]
/-- BrotliWords.part(II)I -/
def am_c135 : List (Nat × am_Row) := [(0, .iload_n 1, 1, 0, 1, 0, 0, []),
  (1, .ifCond .lt 29, 3, 0, 30, 0, 0, []),
  (4, .iload_n 1, 1, 0, 1, 0, 0, []),
  (5, .aload_n 0, 1, 0, 0, 0, 0, []),
  (6, .getfield 33, 3, 0, 11, 3, 1, []),
  (9, .getfield 110, 3, 0, 8, 3, 0, []),
  (12, .bipush 60, 2, 60, 0, 0, 0, []),
  (14, .invokestatic 113, 3, 0, 903, 2, 0, []),
  (17, .if_icmp .ge 13, 3, 0, 30, 0, 0, []),
  (20, .iload_n 2, 1, 0, 2, 0, 0, []),
  (21, .ifCond .lt 9, 3, 0, 30, 0, 0, []),
  (24, .iload_n 2, 1, 0, 2, 0, 0, []),
  (25, .bipush 12, 2, 12, 0, 0, 0, []),
  (27, .if_icmp .lt 5, 3, 0, 32, 0, 0, []),
  (30, .iconst (-1), 1, (-1), 0, 0, 0, []),
  (31, .ireturn, 1, 0, 0, 0, 0, []),
  (32, .aload_n 0, 1, 0, 0, 0, 0, []),
  (33, .getfield 33, 3, 0, 11, 3, 1, []),
  (36, .getfield 118, 3, 0, 8, 2, 1, []),
  (39, .iload_n 1, 1, 0, 1, 0, 0, []),
  (40, .bipush 12, 2, 12, 0, 0, 0, []),
  (42, .imul, 1, 0, 0, 0, 0, []),
  (43, .iload_n 2, 1, 0, 2, 0, 0, []),
  (44, .iadd, 1, 0, 0, 0, 0, []),
  (45, .iaload, 1, 0, 0, 0, 0, []),
  (46, .ireturn, 1, 0, 0, 0, 0, [])]
/-- BrotliWords.ring(I)I -/
def am_c136 : List (Nat × am_Row) := [(0, .iload_n 1, 1, 0, 1, 0, 0, []),
  (1, .ifCond .lt 8, 3, 0, 9, 0, 0, []),
  (4, .iload_n 1, 1, 0, 1, 0, 0, []),
  (5, .iconst 3, 1, 3, 0, 0, 0, []),
  (6, .if_icmp .le 7, 3, 0, 13, 0, 0, []),
  (9, .iconst (-1), 1, (-1), 0, 0, 0, []),
  (10, .goto 12, 3, 0, 22, 0, 0, []),
  (13, .aload_n 0, 1, 0, 0, 0, 0, []),
  (14, .getfield 33, 3, 0, 11, 3, 1, []),
  (17, .getfield 122, 3, 0, 8, 1, 1, []),
  (20, .iload_n 1, 1, 0, 1, 0, 0, []),
  (21, .iaload, 1, 0, 0, 0, 0, []),
  (22, .ireturn, 1, 0, 0, 0, 0, [])]
/-- BrotliWords.map(II)I -/
def am_c137 : List (Nat × am_Row) := [(0, .aload_n 0, 1, 0, 0, 0, 0, []),
  (1, .getfield 33, 3, 0, 11, 3, 1, []),
  (4, .getfield 125, 3, 0, 8, 5, 2, []),
  (7, .ifCond .eq 31, 3, 0, 38, 0, 0, []),
  (10, .iload_n 1, 1, 0, 1, 0, 0, []),
  (11, .ifCond .lt 27, 3, 0, 38, 0, 0, []),
  (14, .iload_n 1, 1, 0, 1, 0, 0, []),
  (15, .iconst 1, 1, 1, 0, 0, 0, []),
  (16, .if_icmp .gt 22, 3, 0, 38, 0, 0, []),
  (19, .iload_n 2, 1, 0, 2, 0, 0, []),
  (20, .ifCond .lt 18, 3, 0, 38, 0, 0, []),
  (23, .iload_n 2, 1, 0, 2, 0, 0, []),
  (24, .aload_n 0, 1, 0, 0, 0, 0, []),
  (25, .getfield 33, 3, 0, 11, 3, 1, []),
  (28, .getfield 129, 3, 0, 8, 4, 1, []),
  (31, .iload_n 1, 1, 0, 1, 0, 0, []),
  (32, .invokevirtual 133, 3, 0, 64, 2, 7, []),
  (35, .if_icmp .lt 5, 3, 0, 40, 0, 0, []),
  (38, .iconst (-1), 1, (-1), 0, 0, 0, []),
  (39, .ireturn, 1, 0, 0, 0, 0, []),
  (40, .aload_n 0, 1, 0, 0, 0, 0, []),
  (41, .getfield 33, 3, 0, 11, 3, 1, []),
  (44, .getfield 129, 3, 0, 8, 4, 1, []),
  (47, .iload_n 1, 1, 0, 1, 0, 0, []),
  (48, .invokevirtual 138, 3, 0, 63, 2, 7, []),
  (51, .iload_n 2, 1, 0, 2, 0, 0, []),
  (52, .iaload, 1, 0, 0, 0, 0, []),
  (53, .ireturn, 1, 0, 0, 0, 0, [])]
/-- BrotliWords.length(III)I -/
def am_c138 : List (Nat × am_Row) := [(0, .aload_n 0, 1, 0, 0, 0, 0, []),
  (1, .getfield 33, 3, 0, 11, 3, 1, []),
  (4, .getfield 125, 3, 0, 8, 5, 2, []),
  (7, .ifCond .eq 31, 3, 0, 38, 0, 0, []),
  (10, .iload_n 1, 1, 0, 1, 0, 0, []),
  (11, .ifCond .lt 27, 3, 0, 38, 0, 0, []),
  (14, .iload_n 1, 1, 0, 1, 0, 0, []),
  (15, .iconst 2, 1, 2, 0, 0, 0, []),
  (16, .if_icmp .gt 22, 3, 0, 38, 0, 0, []),
  (19, .iload_n 2, 1, 0, 2, 0, 0, []),
  (20, .ifCond .lt 18, 3, 0, 38, 0, 0, []),
  (23, .iload_n 2, 1, 0, 2, 0, 0, []),
  (24, .aload_n 0, 1, 0, 0, 0, 0, []),
  (25, .getfield 33, 3, 0, 11, 3, 1, []),
  (28, .getfield 129, 3, 0, 8, 4, 1, []),
  (31, .iload_n 1, 1, 0, 1, 0, 0, []),
  (32, .invokevirtual 142, 3, 0, 65, 2, 7, []),
  (35, .if_icmp .lt 5, 3, 0, 40, 0, 0, []),
  (38, .iconst (-1), 1, (-1), 0, 0, 0, []),
  (39, .ireturn, 1, 0, 0, 0, 0, []),
  (40, .iload_n 3, 1, 0, 3, 0, 0, []),
  (41, .ifCond .lt 18, 3, 0, 59, 0, 0, []),
  (44, .iload_n 3, 1, 0, 3, 0, 0, []),
  (45, .aload_n 0, 1, 0, 0, 0, 0, []),
  (46, .getfield 33, 3, 0, 11, 3, 1, []),
  (49, .getfield 129, 3, 0, 8, 4, 1, []),
  (52, .iload_n 1, 1, 0, 1, 0, 0, []),
  (53, .invokevirtual 145, 3, 0, 66, 2, 7, []),
  (56, .if_icmp .lt 5, 3, 0, 61, 0, 0, []),
  (59, .iconst (-1), 1, (-1), 0, 0, 0, []),
  (60, .ireturn, 1, 0, 0, 0, 0, []),
  (61, .aload_n 0, 1, 0, 0, 0, 0, []),
  (62, .getfield 33, 3, 0, 11, 3, 1, []),
  (65, .getfield 129, 3, 0, 8, 4, 1, []),
  (68, .iload_n 1, 1, 0, 1, 0, 0, []),
  (69, .iload_n 2, 1, 0, 2, 0, 0, []),
  (70, .invokevirtual 148, 3, 0, 67, 3, 7, []),
  (73, .iload_n 3, 1, 0, 3, 0, 0, []),
  (74, .invokevirtual 152, 3, 0, 24, 2, 3, []),
  (77, .ireturn, 1, 0, 0, 0, 0, [])]
/-- BrotliWords.command(II)I -/
def am_c139 : List (Nat × am_Row) := [(0, .iload_n 1, 1, 0, 1, 0, 0, []),
  (1, .ifCond .lt 14, 3, 0, 15, 0, 0, []),
  (4, .iload_n 1, 1, 0, 1, 0, 0, []),
  (5, .aload_n 0, 1, 0, 0, 0, 0, []),
  (6, .getfield 40, 3, 0, 11, 4, 1, []),
  (9, .getfield 157, 3, 0, 9, 4, 0, []),
  (12, .if_icmp .lt 5, 3, 0, 17, 0, 0, []),
  (15, .iconst (-1), 1, (-1), 0, 0, 0, []),
  (16, .ireturn, 1, 0, 0, 0, 0, []),
  (17, .iload_n 2, 1, 0, 2, 0, 0, []),
  (18, .tableswitch 70 0 3 #[30, 40, 50, 60], 30, 0, 88, 0, 0, [(0, 48), (1, 58), (2, 68), (3, 78)]),
  (48, .aload_n 0, 1, 0, 0, 0, 0, []),
  (49, .getfield 40, 3, 0, 11, 4, 1, []),
  (52, .getfield 160, 3, 0, 9, 0, 1, []),
  (55, .iload_n 1, 1, 0, 1, 0, 0, []),
  (56, .iaload, 1, 0, 0, 0, 0, []),
  (57, .ireturn, 1, 0, 0, 0, 0, []),
  (58, .aload_n 0, 1, 0, 0, 0, 0, []),
  (59, .getfield 40, 3, 0, 11, 4, 1, []),
  (62, .getfield 163, 3, 0, 9, 1, 1, []),
  (65, .iload_n 1, 1, 0, 1, 0, 0, []),
  (66, .iaload, 1, 0, 0, 0, 0, []),
  (67, .ireturn, 1, 0, 0, 0, 0, []),
  (68, .aload_n 0, 1, 0, 0, 0, 0, []),
  (69, .getfield 40, 3, 0, 11, 4, 1, []),
  (72, .getfield 166, 3, 0, 9, 2, 1, []),
  (75, .iload_n 1, 1, 0, 1, 0, 0, []),
  (76, .iaload, 1, 0, 0, 0, 0, []),
  (77, .ireturn, 1, 0, 0, 0, 0, []),
  (78, .aload_n 0, 1, 0, 0, 0, 0, []),
  (79, .getfield 40, 3, 0, 11, 4, 1, []),
  (82, .getfield 169, 3, 0, 9, 3, 1, []),
  (85, .iload_n 1, 1, 0, 1, 0, 0, []),
  (86, .iaload, 1, 0, 0, 0, 0, []),
  (87, .ireturn, 1, 0, 0, 0, 0, []),
  (88, .iconst (-1), 1, (-1), 0, 0, 0, []),
  (89, .ireturn, 1, 0, 0, 0, 0, [])]
/-- BrotliWords.count(I)I -/
def am_c140 : List (Nat × am_Row) := [(0, .iload_n 1, 1, 0, 1, 0, 0, []),
  (1, .tableswitch 75 0 4 #[35, 43, 51, 59, 67], 35, 0, 76, 0, 0, [(0, 36), (1, 44), (2, 52), (3, 60), (4, 68)]),
  (36, .aload_n 0, 1, 0, 0, 0, 0, []),
  (37, .getfield 24, 3, 0, 11, 2, 1, []),
  (40, .invokevirtual 76, 3, 0, 110, 1, 10, []),
  (43, .ireturn, 1, 0, 0, 0, 0, []),
  (44, .aload_n 0, 1, 0, 0, 0, 0, []),
  (45, .getfield 14, 3, 0, 11, 0, 1, []),
  (48, .getfield 44, 3, 0, 2, 1, 0, []),
  (51, .ireturn, 1, 0, 0, 0, 0, []),
  (52, .aload_n 0, 1, 0, 0, 0, 0, []),
  (53, .getfield 18, 3, 0, 11, 1, 1, []),
  (56, .getfield 44, 3, 0, 2, 1, 0, []),
  (59, .ireturn, 1, 0, 0, 0, 0, []),
  (60, .aload_n 0, 1, 0, 0, 0, 0, []),
  (61, .getfield 33, 3, 0, 11, 3, 1, []),
  (64, .getfield 110, 3, 0, 8, 3, 0, []),
  (67, .ireturn, 1, 0, 0, 0, 0, []),
  (68, .aload_n 0, 1, 0, 0, 0, 0, []),
  (69, .getfield 40, 3, 0, 11, 4, 1, []),
  (72, .getfield 157, 3, 0, 9, 4, 0, []),
  (75, .ireturn, 1, 0, 0, 0, 0, []),
  (76, .iconst (-1), 1, (-1), 0, 0, 0, []),
  (77, .ireturn, 1, 0, 0, 0, 0, [])]
/-- BrotliWords.bitsIn(I)I -/
def am_c141 : List (Nat × am_Row) := [(0, .iconst 0, 1, 0, 0, 0, 0, []),
  (1, .istore_n 1, 1, 0, 1, 0, 0, []),
  (2, .iconst 0, 1, 0, 0, 0, 0, []),
  (3, .istore_n 2, 1, 0, 2, 0, 0, []),
  (4, .iload_n 2, 1, 0, 2, 0, 0, []),
  (5, .bipush 31, 2, 31, 0, 0, 0, []),
  (7, .if_icmp .ge 19, 3, 0, 26, 0, 0, []),
  (10, .iload_n 0, 1, 0, 0, 0, 0, []),
  (11, .iload_n 2, 1, 0, 2, 0, 0, []),
  (12, .ishr, 1, 0, 0, 0, 0, []),
  (13, .ifCond .le 7, 3, 0, 20, 0, 0, []),
  (16, .iload_n 2, 1, 0, 2, 0, 0, []),
  (17, .iconst 1, 1, 1, 0, 0, 0, []),
  (18, .iadd, 1, 0, 0, 0, 0, []),
  (19, .istore_n 1, 1, 0, 1, 0, 0, []),
  (20, .iinc 2 1, 3, 1, 2, 0, 0, []),
  (23, .goto (-19), 3, 0, 4, 0, 0, []),
  (26, .iload_n 1, 1, 0, 1, 0, 0, []),
  (27, .ireturn, 1, 0, 0, 0, 0, [])]
/-- BrotliWords.startRing([I)V -/
def am_c142 : List (Nat × am_Row) := [(0, .aload_n 0, 1, 0, 0, 0, 0, []),
  (1, .iconst 0, 1, 0, 0, 0, 0, []),
  (2, .iconst 4, 1, 4, 0, 0, 0, []),
  (3, .iastore, 1, 0, 0, 0, 0, []),
  (4, .aload_n 0, 1, 0, 0, 0, 0, []),
  (5, .iconst 1, 1, 1, 0, 0, 0, []),
  (6, .bipush 11, 2, 11, 0, 0, 0, []),
  (8, .iastore, 1, 0, 0, 0, 0, []),
  (9, .aload_n 0, 1, 0, 0, 0, 0, []),
  (10, .iconst 2, 1, 2, 0, 0, 0, []),
  (11, .bipush 15, 2, 15, 0, 0, 0, []),
  (13, .iastore, 1, 0, 0, 0, 0, []),
  (14, .aload_n 0, 1, 0, 0, 0, 0, []),
  (15, .iconst 3, 1, 3, 0, 0, 0, []),
  (16, .bipush 16, 2, 16, 0, 0, 0, []),
  (18, .iastore, 1, 0, 0, 0, 0, []),
  (19, .return_, 1, 0, 0, 0, 0, [])]
/-- BrotliWords.comeToRing([II)V -/
def am_c143 : List (Nat × am_Row) := [(0, .aload_n 0, 1, 0, 0, 0, 0, []),
  (1, .iconst 3, 1, 3, 0, 0, 0, []),
  (2, .aload_n 0, 1, 0, 0, 0, 0, []),
  (3, .iconst 2, 1, 2, 0, 0, 0, []),
  (4, .iaload, 1, 0, 0, 0, 0, []),
  (5, .iastore, 1, 0, 0, 0, 0, []),
  (6, .aload_n 0, 1, 0, 0, 0, 0, []),
  (7, .iconst 2, 1, 2, 0, 0, 0, []),
  (8, .aload_n 0, 1, 0, 0, 0, 0, []),
  (9, .iconst 1, 1, 1, 0, 0, 0, []),
  (10, .iaload, 1, 0, 0, 0, 0, []),
  (11, .iastore, 1, 0, 0, 0, 0, []),
  (12, .aload_n 0, 1, 0, 0, 0, 0, []),
  (13, .iconst 1, 1, 1, 0, 0, 0, []),
  (14, .aload_n 0, 1, 0, 0, 0, 0, []),
  (15, .iconst 0, 1, 0, 0, 0, 0, []),
  (16, .iaload, 1, 0, 0, 0, 0, []),
  (17, .iastore, 1, 0, 0, 0, 0, []),
  (18, .aload_n 0, 1, 0, 0, 0, 0, []),
  (19, .iconst 0, 1, 0, 0, 0, 0, []),
  (20, .iload_n 1, 1, 0, 1, 0, 0, []),
  (21, .iastore, 1, 0, 0, 0, 0, []),
  (22, .return_, 1, 0, 0, 0, 0, [])]
/-- BrotliWords.context(III)I -/
def am_c144 : List (Nat × am_Row) := [(0, .iload_n 0, 1, 0, 0, 0, 0, []),
  (1, .tableswitch 46 0 2 #[27, 32, 36], 27, 0, 47, 0, 0, [(0, 28), (1, 33), (2, 37)]),
  (28, .iload_n 1, 1, 0, 1, 0, 0, []),
  (29, .bipush 63, 2, 63, 0, 0, 0, []),
  (31, .iand, 1, 0, 0, 0, 0, []),
  (32, .ireturn, 1, 0, 0, 0, 0, []),
  (33, .iload_n 1, 1, 0, 1, 0, 0, []),
  (34, .iconst 2, 1, 2, 0, 0, 0, []),
  (35, .ishr, 1, 0, 0, 0, 0, []),
  (36, .ireturn, 1, 0, 0, 0, 0, []),
  (37, .iload_n 1, 1, 0, 1, 0, 0, []),
  (38, .invokestatic 172, 3, 0, 145, 1, 999, []),
  (41, .iload_n 2, 1, 0, 2, 0, 0, []),
  (42, .invokestatic 175, 3, 0, 148, 1, 999, []),
  (45, .ior, 1, 0, 0, 0, 0, []),
  (46, .ireturn, 1, 0, 0, 0, 0, []),
  (47, .bipush 8, 2, 8, 0, 0, 0, []),
  (49, .iload_n 1, 1, 0, 1, 0, 0, []),
  (50, .invokestatic 178, 3, 0, 149, 1, 999, []),
  (53, .imul, 1, 0, 0, 0, 0, []),
  (54, .iload_n 2, 1, 0, 2, 0, 0, []),
  (55, .invokestatic 178, 3, 0, 149, 1, 999, []),
  (58, .iadd, 1, 0, 0, 0, 0, []),
  (59, .ireturn, 1, 0, 0, 0, 0, [])]
/-- BrotliWords.firstOf(I)I -/
def am_c145_0 : List (Nat × am_Row) := [(0, .iload_n 0, 1, 0, 0, 0, 0, []),
  (1, .sipush 128, 3, 128, 0, 0, 0, []),
  (4, .if_icmp .lt 22, 3, 0, 26, 0, 0, []),
  (7, .iload_n 0, 1, 0, 0, 0, 0, []),
  (8, .sipush 192, 3, 192, 0, 0, 0, []),
  (11, .if_icmp .ge 9, 3, 0, 20, 0, 0, []),
  (14, .iload_n 0, 1, 0, 0, 0, 0, []),
  (15, .iconst 1, 1, 1, 0, 0, 0, []),
  (16, .iand, 1, 0, 0, 0, 0, []),
  (17, .goto 8, 3, 0, 25, 0, 0, []),
  (20, .iconst 2, 1, 2, 0, 0, 0, []),
  (21, .iload_n 0, 1, 0, 0, 0, 0, []),
  (22, .iconst 1, 1, 1, 0, 0, 0, []),
  (23, .iand, 1, 0, 0, 0, 0, []),
  (24, .iadd, 1, 0, 0, 0, 0, []),
  (25, .ireturn, 1, 0, 0, 0, 0, []),
  (26, .iload_n 0, 1, 0, 0, 0, 0, []),
  (27, .bipush 32, 2, 32, 0, 0, 0, []),
  (29, .if_icmp .lt 9, 3, 0, 38, 0, 0, []),
  (32, .iload_n 0, 1, 0, 0, 0, 0, []),
  (33, .bipush 127, 2, 127, 0, 0, 0, []),
  (35, .if_icmp .ne 27, 3, 0, 62, 0, 0, []),
  (38, .iload_n 0, 1, 0, 0, 0, 0, []),
  (39, .bipush 9, 2, 9, 0, 0, 0, []),
  (41, .if_icmp .eq 15, 3, 0, 56, 0, 0, []),
  (44, .iload_n 0, 1, 0, 0, 0, 0, []),
  (45, .bipush 10, 2, 10, 0, 0, 0, []),
  (47, .if_icmp .eq 9, 3, 0, 56, 0, 0, []),
  (50, .iload_n 0, 1, 0, 0, 0, 0, []),
  (51, .bipush 13, 2, 13, 0, 0, 0, []),
  (53, .if_icmp .ne 7, 3, 0, 60, 0, 0, []),
  (56, .iconst 4, 1, 4, 0, 0, 0, []),
  (57, .goto 4, 3, 0, 61, 0, 0, []),
  (60, .iconst 0, 1, 0, 0, 0, 0, []),
  (61, .ireturn, 1, 0, 0, 0, 0, []),
  (62, .iload_n 0, 1, 0, 0, 0, 0, []),
  (63, .bipush 97, 2, 97, 0, 0, 0, []),
  (65, .if_icmp .lt 27, 3, 0, 92, 0, 0, []),
  (68, .iload_n 0, 1, 0, 0, 0, 0, []),
  (69, .bipush 122, 2, 122, 0, 0, 0, [])]
def am_c145_1 : List (Nat × am_Row) := [(71, .if_icmp .gt 21, 3, 0, 92, 0, 0, []),
  (74, .iload_n 0, 1, 0, 0, 0, 0, []),
  (75, .bipush 32, 2, 32, 0, 0, 0, []),
  (77, .isub, 1, 0, 0, 0, 0, []),
  (78, .invokestatic 181, 3, 0, 146, 1, 999, []),
  (81, .ifCond .eq 8, 3, 0, 89, 0, 0, []),
  (84, .bipush 56, 2, 56, 0, 0, 0, []),
  (86, .goto 5, 3, 0, 91, 0, 0, []),
  (89, .bipush 60, 2, 60, 0, 0, 0, []),
  (91, .ireturn, 1, 0, 0, 0, 0, []),
  (92, .iload_n 0, 1, 0, 0, 0, 0, []),
  (93, .bipush 65, 2, 65, 0, 0, 0, []),
  (95, .if_icmp .lt 24, 3, 0, 119, 0, 0, []),
  (98, .iload_n 0, 1, 0, 0, 0, 0, []),
  (99, .bipush 90, 2, 90, 0, 0, 0, []),
  (101, .if_icmp .gt 18, 3, 0, 119, 0, 0, []),
  (104, .iload_n 0, 1, 0, 0, 0, 0, []),
  (105, .invokestatic 181, 3, 0, 146, 1, 999, []),
  (108, .ifCond .eq 8, 3, 0, 116, 0, 0, []),
  (111, .bipush 48, 2, 48, 0, 0, 0, []),
  (113, .goto 5, 3, 0, 118, 0, 0, []),
  (116, .bipush 52, 2, 52, 0, 0, 0, []),
  (118, .ireturn, 1, 0, 0, 0, 0, []),
  (119, .iload_n 0, 1, 0, 0, 0, 0, []),
  (120, .bipush 48, 2, 48, 0, 0, 0, []),
  (122, .if_icmp .lt 14, 3, 0, 136, 0, 0, []),
  (125, .iload_n 0, 1, 0, 0, 0, 0, []),
  (126, .bipush 57, 2, 57, 0, 0, 0, []),
  (128, .if_icmp .gt 8, 3, 0, 136, 0, 0, []),
  (131, .bipush 44, 2, 44, 0, 0, 0, []),
  (133, .goto 7, 3, 0, 140, 0, 0, []),
  (136, .iload_n 0, 1, 0, 0, 0, 0, []),
  (137, .invokestatic 185, 3, 0, 147, 1, 999, []),
  (140, .ireturn, 1, 0, 0, 0, 0, [])]
def am_c145 : List (Nat × am_Row) := am_c145_0 ++ (am_c145_1)
/-- BrotliWords.isVowel(I)Z -/
def am_c146 : List (Nat × am_Row) := [(0, .iload_n 0, 1, 0, 0, 0, 0, []),
  (1, .bipush 65, 2, 65, 0, 0, 0, []),
  (3, .if_icmp .eq 27, 3, 0, 30, 0, 0, []),
  (6, .iload_n 0, 1, 0, 0, 0, 0, []),
  (7, .bipush 69, 2, 69, 0, 0, 0, []),
  (9, .if_icmp .eq 21, 3, 0, 30, 0, 0, []),
  (12, .iload_n 0, 1, 0, 0, 0, 0, []),
  (13, .bipush 73, 2, 73, 0, 0, 0, []),
  (15, .if_icmp .eq 15, 3, 0, 30, 0, 0, []),
  (18, .iload_n 0, 1, 0, 0, 0, 0, []),
  (19, .bipush 79, 2, 79, 0, 0, 0, []),
  (21, .if_icmp .eq 9, 3, 0, 30, 0, 0, []),
  (24, .iload_n 0, 1, 0, 0, 0, 0, []),
  (25, .bipush 85, 2, 85, 0, 0, 0, []),
  (27, .if_icmp .ne 7, 3, 0, 34, 0, 0, []),
  (30, .iconst 1, 1, 1, 0, 0, 0, []),
  (31, .goto 4, 3, 0, 35, 0, 0, []),
  (34, .iconst 0, 1, 0, 0, 0, 0, []),
  (35, .ireturn, 1, 0, 1, 0, 0, [])]
/-- BrotliWords.firstOfSign(I)I -/
def am_c147 : List (Nat × am_Row) := [(0, .iload_n 0, 1, 0, 0, 0, 0, []),
  (1, .lookupswitch 171 #[(32, 147), (34, 150), (37, 153), (39, 150), (40, 156), (41, 159), (44, 162), (46, 165), (58, 162), (59, 162), (60, 156), (61, 168), (62, 159), (91, 156), (93, 159), (123, 156), (125, 159)], 147, 0, 172, 0, 0, [(32, 148), (34, 151), (37, 154), (39, 151), (40, 157), (41, 160), (44, 163), (46, 166), (58, 163), (59, 163), (60, 157), (61, 169), (62, 160), (91, 157), (93, 160), (123, 157), (125, 160)]),
  (148, .bipush 8, 2, 8, 0, 0, 0, []),
  (150, .ireturn, 1, 0, 0, 0, 0, []),
  (151, .bipush 16, 2, 16, 0, 0, 0, []),
  (153, .ireturn, 1, 0, 0, 0, 0, []),
  (154, .bipush 20, 2, 20, 0, 0, 0, []),
  (156, .ireturn, 1, 0, 0, 0, 0, []),
  (157, .bipush 24, 2, 24, 0, 0, 0, []),
  (159, .ireturn, 1, 0, 0, 0, 0, []),
  (160, .bipush 28, 2, 28, 0, 0, 0, []),
  (162, .ireturn, 1, 0, 0, 0, 0, []),
  (163, .bipush 32, 2, 32, 0, 0, 0, []),
  (165, .ireturn, 1, 0, 0, 0, 0, []),
  (166, .bipush 36, 2, 36, 0, 0, 0, []),
  (168, .ireturn, 1, 0, 0, 0, 0, []),
  (169, .bipush 40, 2, 40, 0, 0, 0, []),
  (171, .ireturn, 1, 0, 0, 0, 0, []),
  (172, .bipush 12, 2, 12, 0, 0, 0, []),
  (174, .ireturn, 1, 0, 0, 0, 0, [])]
end
section
/-- BrotliWords.secondOf(I)I -/
def am_c148 : List (Nat × am_Row) := [(0, .iload_n 0, 1, 0, 0, 0, 0, []),
  (1, .bipush 32, 2, 32, 0, 0, 0, []),
  (3, .if_icmp .lt 16, 3, 0, 19, 0, 0, []),
  (6, .iload_n 0, 1, 0, 0, 0, 0, []),
  (7, .bipush 127, 2, 127, 0, 0, 0, []),
  (9, .if_icmp .lt 12, 3, 0, 21, 0, 0, []),
  (12, .iload_n 0, 1, 0, 0, 0, 0, []),
  (13, .sipush 192, 3, 192, 0, 0, 0, []),
  (16, .if_icmp .ge 5, 3, 0, 21, 0, 0, []),
  (19, .iconst 0, 1, 0, 0, 0, 0, []),
  (20, .ireturn, 1, 0, 0, 0, 0, []),
  (21, .iload_n 0, 1, 0, 0, 0, 0, []),
  (22, .sipush 192, 3, 192, 0, 0, 0, []),
  (25, .if_icmp .ge 27, 3, 0, 52, 0, 0, []),
  (28, .iload_n 0, 1, 0, 0, 0, 0, []),
  (29, .bipush 48, 2, 48, 0, 0, 0, []),
  (31, .if_icmp .lt 9, 3, 0, 40, 0, 0, []),
  (34, .iload_n 0, 1, 0, 0, 0, 0, []),
  (35, .bipush 57, 2, 57, 0, 0, 0, []),
  (37, .if_icmp .le 15, 3, 0, 52, 0, 0, []),
  (40, .iload_n 0, 1, 0, 0, 0, 0, []),
  (41, .bipush 65, 2, 65, 0, 0, 0, []),
  (43, .if_icmp .lt 11, 3, 0, 54, 0, 0, []),
  (46, .iload_n 0, 1, 0, 0, 0, 0, []),
  (47, .bipush 90, 2, 90, 0, 0, 0, []),
  (49, .if_icmp .gt 5, 3, 0, 54, 0, 0, []),
  (52, .iconst 2, 1, 2, 0, 0, 0, []),
  (53, .ireturn, 1, 0, 0, 0, 0, []),
  (54, .iload_n 0, 1, 0, 0, 0, 0, []),
  (55, .bipush 97, 2, 97, 0, 0, 0, []),
  (57, .if_icmp .lt 13, 3, 0, 70, 0, 0, []),
  (60, .iload_n 0, 1, 0, 0, 0, 0, []),
  (61, .bipush 122, 2, 122, 0, 0, 0, []),
  (63, .if_icmp .gt 7, 3, 0, 70, 0, 0, []),
  (66, .iconst 3, 1, 3, 0, 0, 0, []),
  (67, .goto 4, 3, 0, 71, 0, 0, []),
  (70, .iconst 1, 1, 1, 0, 0, 0, []),
  (71, .ireturn, 1, 0, 0, 0, 0, [])]
/-- BrotliWords.sizeOf(I)I -/
def am_c149 : List (Nat × am_Row) := [(0, .iload_n 0, 1, 0, 0, 0, 0, []),
  (1, .bipush 64, 2, 64, 0, 0, 0, []),
  (3, .if_icmp .ge 23, 3, 0, 26, 0, 0, []),
  (6, .iload_n 0, 1, 0, 0, 0, 0, []),
  (7, .ifCond .ne 7, 3, 0, 14, 0, 0, []),
  (10, .iconst 0, 1, 0, 0, 0, 0, []),
  (11, .goto 14, 3, 0, 25, 0, 0, []),
  (14, .iload_n 0, 1, 0, 0, 0, 0, []),
  (15, .bipush 16, 2, 16, 0, 0, 0, []),
  (17, .if_icmp .ge 7, 3, 0, 24, 0, 0, []),
  (20, .iconst 1, 1, 1, 0, 0, 0, []),
  (21, .goto 4, 3, 0, 25, 0, 0, []),
  (24, .iconst 2, 1, 2, 0, 0, 0, []),
  (25, .ireturn, 1, 0, 0, 0, 0, []),
  (26, .iload_n 0, 1, 0, 0, 0, 0, []),
  (27, .sipush 192, 3, 192, 0, 0, 0, []),
  (30, .if_icmp .ge 16, 3, 0, 46, 0, 0, []),
  (33, .iload_n 0, 1, 0, 0, 0, 0, []),
  (34, .sipush 128, 3, 128, 0, 0, 0, []),
  (37, .if_icmp .ge 7, 3, 0, 44, 0, 0, []),
  (40, .iconst 3, 1, 3, 0, 0, 0, []),
  (41, .goto 4, 3, 0, 45, 0, 0, []),
  (44, .iconst 4, 1, 4, 0, 0, 0, []),
  (45, .ireturn, 1, 0, 0, 0, 0, []),
  (46, .iload_n 0, 1, 0, 0, 0, 0, []),
  (47, .sipush 240, 3, 240, 0, 0, 0, []),
  (50, .if_icmp .ge 7, 3, 0, 57, 0, 0, []),
  (53, .iconst 5, 1, 5, 0, 0, 0, []),
  (54, .goto 17, 3, 0, 71, 0, 0, []),
  (57, .iload_n 0, 1, 0, 0, 0, 0, []),
  (58, .sipush 255, 3, 255, 0, 0, 0, []),
  (61, .if_icmp .ge 8, 3, 0, 69, 0, 0, []),
  (64, .bipush 6, 2, 6, 0, 0, 0, []),
  (66, .goto 5, 3, 0, 71, 0, 0, []),
  (69, .bipush 7, 2, 7, 0, 0, 0, []),
  (71, .ireturn, 1, 0, 0, 0, 0, [])]
/-- BrotliWordsModel$Stop.<init>()V -/
def am_c150 : List (Nat × am_Row) := [(0, .aload_n 0, 1, 0, 0, 0, 0, []),
  (1, .aconst_null, 1, 0, 0, 0, 0, []),
  (2, .aconst_null, 1, 0, 0, 0, 0, []),
  (3, .iconst 0, 1, 0, 0, 0, 0, []),
  (4, .iconst 0, 1, 0, 0, 0, 0, []),
  (5, .invokespecial 1, 3, 0, 261, 5, 12, []),
  (8, .return_, 1, 0, 0, 0, 0, [])]
/-- BrotliWordsModel.in(JJJ)Z -/
def am_c151 : List (Nat × am_Row) := [(0, .lload_n 0, 1, 0, 0, 0, 0, []),
  (1, .lload_n 2, 1, 0, 0, 0, 0, []),
  (2, .lcmp, 1, 0, 0, 0, 0, []),
  (3, .ifCond .lt 14, 3, 0, 17, 0, 0, []),
  (6, .lload_n 0, 1, 0, 0, 0, 0, []),
  (7, .lload 4, 2, 0, 0, 0, 0, []),
  (9, .lcmp, 1, 0, 0, 0, 0, []),
  (10, .ifCond .gt 7, 3, 0, 17, 0, 0, []),
  (13, .iconst 1, 1, 1, 0, 0, 0, []),
  (14, .goto 4, 3, 0, 18, 0, 0, []),
  (17, .iconst 0, 1, 0, 0, 0, 0, []),
  (18, .ireturn, 1, 0, 1, 0, 0, [])]
/-- BrotliWordsModel.fail(I)V -/
def am_c152 : List (Nat × am_Row) := [(0, .aload_n 0, 1, 0, 0, 0, 0, []),
  (1, .getfield 7, 3, 0, 13, 1, 1, []),
  (4, .iload_n 1, 1, 0, 1, 0, 0, []),
  (5, .putfield 11, 3, 0, 12, 6, 0, []),
  (8, .aload_n 0, 1, 0, 0, 0, 0, []),
  (9, .getfield 7, 3, 0, 13, 1, 1, []),
  (12, .athrow, 1, 0, 0, 0, 0, [])]
/-- BrotliWordsModel.<init>()V -/
def am_c153_0 : List (Nat × am_Row) := [(0, .aload_n 0, 1, 0, 0, 0, 0, []),
  (1, .invokespecial 16, 3, 0, 900, 1, 0, []),
  (4, .aload_n 0, 1, 0, 0, 0, 0, []),
  (5, .new 12, 3, 0, 12, 7, 0, []),
  (8, .dup, 1, 0, 0, 0, 0, []),
  (9, .invokespecial 22, 3, 0, 150, 1, 12, []),
  (12, .putfield 7, 3, 0, 13, 1, 1, []),
  (15, .aload_n 0, 1, 0, 0, 0, 0, []),
  (16, .sipush 2440, 3, 2440, 0, 0, 0, []),
  (19, .newarray .byte, 2, 0, 66, 0, 0, []),
  (21, .putfield 23, 3, 0, 13, 2, 1, []),
  (24, .aload_n 0, 1, 0, 0, 0, 0, []),
  (25, .iconst (-1), 1, (-1), 0, 0, 0, []),
  (26, .putfield 27, 3, 0, 13, 4, 0, []),
  (29, .aload_n 0, 1, 0, 0, 0, 0, []),
  (30, .sipush 9000, 3, 9000, 0, 0, 0, []),
  (33, .newarray .byte, 2, 0, 67, 0, 0, []),
  (35, .putfield 30, 3, 0, 13, 5, 1, []),
  (38, .aload_n 0, 1, 0, 0, 0, 0, []),
  (39, .sipush 2240, 3, 2240, 0, 0, 0, []),
  (42, .newarray .byte, 2, 0, 68, 0, 0, []),
  (44, .putfield 33, 3, 0, 13, 7, 1, []),
  (47, .aload_n 0, 1, 0, 0, 0, 0, []),
  (48, .bipush 11, 2, 11, 0, 0, 0, []),
  (50, .newarray .int, 2, 0, 69, 0, 0, []),
  (52, .putfield 36, 3, 0, 13, 8, 1, []),
  (55, .aload_n 0, 1, 0, 0, 0, 0, []),
  (56, .bipush 20, 2, 20, 0, 0, 0, []),
  (58, .newarray .byte, 2, 0, 70, 0, 0, []),
  (60, .putfield 40, 3, 0, 13, 9, 1, []),
  (63, .aload_n 0, 1, 0, 0, 0, 0, []),
  (64, .sipush 18000, 3, 18000, 0, 0, 0, []),
  (67, .newarray .int, 2, 0, 71, 0, 0, []),
  (69, .putfield 43, 3, 0, 13, 11, 1, []),
  (72, .aload_n 0, 1, 0, 0, 0, 0, []),
  (73, .sipush 18000, 3, 18000, 0, 0, 0, []),
  (76, .newarray .int, 2, 0, 72, 0, 0, []),
  (78, .putfield 46, 3, 0, 13, 12, 1, []),
  (81, .aload_n 0, 1, 0, 0, 0, 0, []),
  (82, .sipush 18000, 3, 18000, 0, 0, 0, [])]
def am_c153_1 : List (Nat × am_Row) := [(85, .newarray .int, 2, 0, 73, 0, 0, []),
  (87, .putfield 49, 3, 0, 13, 13, 1, []),
  (90, .aload_n 0, 1, 0, 0, 0, 0, []),
  (91, .sipush 2440, 3, 2440, 0, 0, 0, []),
  (94, .newarray .byte, 2, 0, 74, 0, 0, []),
  (96, .putfield 52, 3, 0, 13, 14, 1, []),
  (99, .aload_n 0, 1, 0, 0, 0, 0, []),
  (100, .iconst 4, 1, 4, 0, 0, 0, []),
  (101, .newarray .int, 2, 0, 75, 0, 0, []),
  (103, .putfield 55, 3, 0, 13, 17, 1, []),
  (106, .aload_n 0, 1, 0, 0, 0, 0, []),
  (107, .sipush 720, 3, 720, 0, 0, 0, []),
  (110, .newarray .int, 2, 0, 76, 0, 0, []),
  (112, .putfield 58, 3, 0, 13, 18, 1, []),
  (115, .aload_n 0, 1, 0, 0, 0, 0, []),
  (116, .iconst 4, 1, 4, 0, 0, 0, []),
  (117, .newarray .int, 2, 0, 77, 0, 0, []),
  (119, .putfield 61, 3, 0, 13, 21, 1, []),
  (122, .aload_n 0, 1, 0, 0, 0, 0, []),
  (123, .iconst 3, 1, 3, 0, 0, 0, []),
  (124, .newarray .int, 2, 0, 78, 0, 0, []),
  (126, .putfield 64, 3, 0, 13, 24, 1, []),
  (129, .aload_n 0, 1, 0, 0, 0, 0, []),
  (130, .iconst 3, 1, 3, 0, 0, 0, []),
  (131, .newarray .int, 2, 0, 79, 0, 0, []),
  (133, .putfield 67, 3, 0, 13, 25, 1, []),
  (136, .aload_n 0, 1, 0, 0, 0, 0, []),
  (137, .iconst 3, 1, 3, 0, 0, 0, []),
  (138, .newarray .int, 2, 0, 80, 0, 0, []),
  (140, .putfield 70, 3, 0, 13, 26, 1, []),
  (143, .aload_n 0, 1, 0, 0, 0, 0, []),
  (144, .iconst 3, 1, 3, 0, 0, 0, []),
  (145, .newarray .int, 2, 0, 81, 0, 0, []),
  (147, .putfield 73, 3, 0, 13, 27, 1, []),
  (150, .aload_n 0, 1, 0, 0, 0, 0, []),
  (151, .bipush 12, 2, 12, 0, 0, 0, []),
  (153, .newarray .int, 2, 0, 82, 0, 0, []),
  (155, .putfield 76, 3, 0, 13, 28, 1, []),
  (158, .aload_n 0, 1, 0, 0, 0, 0, []),
  (159, .sipush 768, 3, 768, 0, 0, 0, [])]
def am_c153_2 : List (Nat × am_Row) := [(162, .newarray .int, 2, 0, 83, 0, 0, []),
  (164, .putfield 79, 3, 0, 13, 31, 1, []),
  (167, .aload_n 0, 1, 0, 0, 0, 0, []),
  (168, .bipush 48, 2, 48, 0, 0, 0, []),
  (170, .newarray .int, 2, 0, 84, 0, 0, []),
  (172, .putfield 82, 3, 0, 13, 32, 1, []),
  (175, .aload_n 0, 1, 0, 0, 0, 0, []),
  (176, .iconst 3, 1, 3, 0, 0, 0, []),
  (177, .newarray .int, 2, 0, 85, 0, 0, []),
  (179, .putfield 85, 3, 0, 13, 34, 1, []),
  (182, .aload_n 0, 1, 0, 0, 0, 0, []),
  (183, .sipush 18000, 3, 18000, 0, 0, 0, []),
  (186, .newarray .int, 2, 0, 86, 0, 0, []),
  (188, .putfield 88, 3, 0, 13, 38, 1, []),
  (191, .aload_n 0, 1, 0, 0, 0, 0, []),
  (192, .sipush 768, 3, 768, 0, 0, 0, []),
  (195, .newarray .int, 2, 0, 87, 0, 0, []),
  (197, .putfield 91, 3, 0, 13, 39, 1, []),
  (200, .aload_n 0, 1, 0, 0, 0, 0, []),
  (201, .bipush 48, 2, 48, 0, 0, 0, []),
  (203, .newarray .int, 2, 0, 88, 0, 0, []),
  (205, .putfield 94, 3, 0, 13, 40, 1, []),
  (208, .aload_n 0, 1, 0, 0, 0, 0, []),
  (209, .bipush 12, 2, 12, 0, 0, 0, []),
  (211, .newarray .int, 2, 0, 89, 0, 0, []),
  (213, .putfield 97, 3, 0, 13, 41, 1, []),
  (216, .aload_n 0, 1, 0, 0, 0, 0, []),
  (217, .sipush 1500, 3, 1500, 0, 0, 0, []),
  (220, .newarray .int, 2, 0, 90, 0, 0, []),
  (222, .putfield 100, 3, 0, 13, 44, 1, []),
  (225, .aload_n 0, 1, 0, 0, 0, 0, []),
  (226, .sipush 1500, 3, 1500, 0, 0, 0, []),
  (229, .newarray .int, 2, 0, 91, 0, 0, []),
  (231, .putfield 103, 3, 0, 13, 45, 1, []),
  (234, .aload_n 0, 1, 0, 0, 0, 0, []),
  (235, .sipush 1500, 3, 1500, 0, 0, 0, []),
  (238, .newarray .boolean, 2, 0, 92, 0, 0, []),
  (240, .putfield 106, 3, 0, 13, 46, 1, []),
  (243, .aload_n 0, 1, 0, 0, 0, 0, []),
  (244, .sipush 1024, 3, 1024, 0, 0, 0, [])]
def am_c153_3 : List (Nat × am_Row) := [(247, .newarray .int, 2, 0, 93, 0, 0, []),
  (249, .putfield 110, 3, 0, 13, 47, 1, []),
  (252, .aload_n 0, 1, 0, 0, 0, 0, []),
  (253, .sipush 1024, 3, 1024, 0, 0, 0, []),
  (256, .newarray .int, 2, 0, 94, 0, 0, []),
  (258, .putfield 113, 3, 0, 13, 48, 1, []),
  (261, .aload_n 0, 1, 0, 0, 0, 0, []),
  (262, .sipush 1024, 3, 1024, 0, 0, 0, []),
  (265, .newarray .int, 2, 0, 95, 0, 0, []),
  (267, .putfield 116, 3, 0, 13, 49, 1, []),
  (270, .aload_n 0, 1, 0, 0, 0, 0, []),
  (271, .sipush 2001, 3, 2001, 0, 0, 0, []),
  (274, .newarray .int, 2, 0, 96, 0, 0, []),
  (276, .putfield 119, 3, 0, 13, 51, 1, []),
  (279, .aload_n 0, 1, 0, 0, 0, 0, []),
  (280, .sipush 2001, 3, 2001, 0, 0, 0, []),
  (283, .newarray .int, 2, 0, 97, 0, 0, []),
  (285, .putfield 122, 3, 0, 13, 52, 1, []),
  (288, .aload_n 0, 1, 0, 0, 0, 0, []),
  (289, .sipush 2001, 3, 2001, 0, 0, 0, []),
  (292, .newarray .int, 2, 0, 98, 0, 0, []),
  (294, .putfield 125, 3, 0, 13, 53, 1, []),
  (297, .aload_n 0, 1, 0, 0, 0, 0, []),
  (298, .sipush 2001, 3, 2001, 0, 0, 0, []),
  (301, .newarray .int, 2, 0, 99, 0, 0, []),
  (303, .putfield 128, 3, 0, 13, 54, 1, []),
  (306, .aload_n 0, 1, 0, 0, 0, 0, []),
  (307, .sipush 2001, 3, 2001, 0, 0, 0, []),
  (310, .newarray .int, 2, 0, 100, 0, 0, []),
  (312, .putfield 131, 3, 0, 13, 55, 1, []),
  (315, .aload_n 0, 1, 0, 0, 0, 0, []),
  (316, .sipush 2001, 3, 2001, 0, 0, 0, []),
  (319, .newarray .int, 2, 0, 101, 0, 0, []),
  (321, .putfield 134, 3, 0, 13, 56, 1, []),
  (324, .aload_n 0, 1, 0, 0, 0, 0, []),
  (325, .sipush 2001, 3, 2001, 0, 0, 0, []),
  (328, .newarray .int, 2, 0, 102, 0, 0, []),
  (330, .putfield 137, 3, 0, 13, 57, 1, []),
  (333, .aload_n 0, 1, 0, 0, 0, 0, []),
  (334, .sipush 2001, 3, 2001, 0, 0, 0, [])]
def am_c153_4 : List (Nat × am_Row) := [(337, .newarray .int, 2, 0, 103, 0, 0, []),
  (339, .putfield 140, 3, 0, 13, 58, 1, []),
  (342, .aload_n 0, 1, 0, 0, 0, 0, []),
  (343, .sipush 8100, 3, 8100, 0, 0, 0, []),
  (346, .newarray .int, 2, 0, 104, 0, 0, []),
  (348, .putfield 143, 3, 0, 13, 60, 1, []),
  (351, .aload_n 0, 1, 0, 0, 0, 0, []),
  (352, .sipush 2100, 3, 2100, 0, 0, 0, []),
  (355, .newarray .int, 2, 0, 105, 0, 0, []),
  (357, .putfield 146, 3, 0, 13, 61, 1, []),
  (360, .aload_n 0, 1, 0, 0, 0, 0, []),
  (361, .sipush 2100, 3, 2100, 0, 0, 0, []),
  (364, .newarray .int, 2, 0, 106, 0, 0, []),
  (366, .putfield 149, 3, 0, 13, 62, 1, []),
  (369, .aload_n 0, 1, 0, 0, 0, 0, []),
  (370, .iconst 4, 1, 4, 0, 0, 0, []),
  (371, .newarray .int, 2, 0, 107, 0, 0, []),
  (373, .putfield 152, 3, 0, 13, 64, 1, []),
  (376, .aload_n 0, 1, 0, 0, 0, 0, []),
  (377, .iconst 0, 1, 0, 0, 0, 0, []),
  (378, .putfield 1, 3, 0, 13, 0, 0, []),
  (381, .aload_n 0, 1, 0, 0, 0, 0, []),
  (382, .invokevirtual 155, 3, 0, 188, 1, 13, []),
  (385, .return_, 1, 0, 0, 0, 0, [])]
def am_c153 : List (Nat × am_Row) := am_c153_0 ++ (am_c153_1 ++ (am_c153_2 ++ (am_c153_3 ++ (am_c153_4))))
/-- BrotliWordsModel.feed(IIIII)I -/
def am_c154_0 : List (Nat × am_Row) := [(0, .aload_n 0, 1, 0, 0, 0, 0, []),
  (1, .iconst 0, 1, 0, 0, 0, 0, []),
  (2, .putfield 1, 3, 0, 13, 0, 0, []),
  (5, .aload_n 0, 1, 0, 0, 0, 0, []),
  (6, .getfield 158, 3, 0, 13, 3, 0, []),
  (9, .bipush 20, 2, 20, 0, 0, 0, []),
  (11, .iadd, 1, 0, 0, 0, 0, []),
  (12, .sipush 2400, 3, 2400, 0, 0, 0, []),
  (15, .if_icmp .le 6, 3, 0, 21, 0, 0, []),
  (18, .bipush (-3), 2, (-3), 0, 0, 0, []),
  (20, .ireturn, 1, 0, 0, 0, 0, []),
  (21, .iconst 0, 1, 0, 0, 0, 0, []),
  (22, .istore 6, 2, 0, 6, 0, 0, []),
  (24, .iload 6, 2, 0, 6, 0, 0, []),
  (26, .bipush 20, 2, 20, 0, 0, 0, []),
  (28, .if_icmp .ge 83, 3, 0, 111, 0, 0, []),
  (31, .iload 6, 2, 0, 6, 0, 0, []),
  (33, .iconst 4, 1, 4, 0, 0, 0, []),
  (34, .if_icmp .ge 7, 3, 0, 41, 0, 0, []),
  (37, .iload_n 1, 1, 0, 1, 0, 0, []),
  (38, .goto 39, 3, 0, 77, 0, 0, []),
  (41, .iload 6, 2, 0, 6, 0, 0, []),
  (43, .bipush 8, 2, 8, 0, 0, 0, []),
  (45, .if_icmp .ge 7, 3, 0, 52, 0, 0, []),
  (48, .iload_n 2, 1, 0, 2, 0, 0, []),
  (49, .goto 28, 3, 0, 77, 0, 0, []),
  (52, .iload 6, 2, 0, 6, 0, 0, []),
  (54, .bipush 12, 2, 12, 0, 0, 0, []),
  (56, .if_icmp .ge 7, 3, 0, 63, 0, 0, []),
  (59, .iload_n 3, 1, 0, 3, 0, 0, []),
  (60, .goto 17, 3, 0, 77, 0, 0, []),
  (63, .iload 6, 2, 0, 6, 0, 0, []),
  (65, .bipush 16, 2, 16, 0, 0, 0, []),
  (67, .if_icmp .ge 8, 3, 0, 75, 0, 0, []),
  (70, .iload 4, 2, 0, 4, 0, 0, []),
  (72, .goto 5, 3, 0, 77, 0, 0, []),
  (75, .iload 5, 2, 0, 5, 0, 0, []),
  (77, .istore 7, 2, 0, 7, 0, 0, []),
  (79, .aload_n 0, 1, 0, 0, 0, 0, []),
  (80, .getfield 23, 3, 0, 13, 2, 1, [])]
def am_c154_1 : List (Nat × am_Row) := [(83, .aload_n 0, 1, 0, 0, 0, 0, []),
  (84, .getfield 158, 3, 0, 13, 3, 0, []),
  (87, .iload 6, 2, 0, 6, 0, 0, []),
  (89, .iadd, 1, 0, 0, 0, 0, []),
  (90, .iload 7, 2, 0, 7, 0, 0, []),
  (92, .bipush 24, 2, 24, 0, 0, 0, []),
  (94, .bipush 8, 2, 8, 0, 0, 0, []),
  (96, .iload 6, 2, 0, 6, 0, 0, []),
  (98, .iconst 4, 1, 4, 0, 0, 0, []),
  (99, .irem, 1, 0, 0, 0, 0, []),
  (100, .imul, 1, 0, 0, 0, 0, []),
  (101, .isub, 1, 0, 0, 0, 0, []),
  (102, .iushr, 1, 0, 0, 0, 0, []),
  (103, .i2b, 1, 0, 0, 0, 0, []),
  (104, .bastore, 1, 0, 0, 0, 0, []),
  (105, .iinc 6 1, 3, 1, 6, 0, 0, []),
  (108, .goto (-84), 3, 0, 24, 0, 0, []),
  (111, .aload_n 0, 1, 0, 0, 0, 0, []),
  (112, .aload_n 0, 1, 0, 0, 0, 0, []),
  (113, .getfield 158, 3, 0, 13, 3, 0, []),
  (116, .bipush 20, 2, 20, 0, 0, 0, []),
  (118, .iadd, 1, 0, 0, 0, 0, []),
  (119, .putfield 158, 3, 0, 13, 3, 0, []),
  (122, .aload_n 0, 1, 0, 0, 0, 0, []),
  (123, .iconst (-1), 1, (-1), 0, 0, 0, []),
  (124, .putfield 27, 3, 0, 13, 4, 0, []),
  (127, .aload_n 0, 1, 0, 0, 0, 0, []),
  (128, .getfield 158, 3, 0, 13, 3, 0, []),
  (131, .ireturn, 1, 0, 0, 0, 0, [])]
def am_c154 : List (Nat × am_Row) := am_c154_0 ++ (am_c154_1)
/-- BrotliWordsModel.end(I)I -/
def am_c155 : List (Nat × am_Row) := [(0, .aload_n 0, 1, 0, 0, 0, 0, []),
  (1, .iconst 0, 1, 0, 0, 0, 0, []),
  (2, .putfield 1, 3, 0, 13, 0, 0, []),
  (5, .iload_n 1, 1, 0, 1, 0, 0, []),
  (6, .i2l, 1, 0, 0, 0, 0, []),
  (7, .lconst 0, 1, 0, 0, 0, 0, []),
  (8, .ldc2_w 161, 3, 20, 0, 0, 0, []),
  (11, .invokestatic 163, 3, 0, 901, 3, 0, []),
  (14, .ifCond .eq 12, 3, 0, 26, 0, 0, []),
  (17, .aload_n 0, 1, 0, 0, 0, 0, []),
  (18, .getfield 158, 3, 0, 13, 3, 0, []),
  (21, .bipush 20, 2, 20, 0, 0, 0, []),
  (23, .if_icmp .ge 5, 3, 0, 28, 0, 0, []),
  (26, .iconst (-1), 1, (-1), 0, 0, 0, []),
  (27, .ireturn, 1, 0, 0, 0, 0, []),
  (28, .aload_n 0, 1, 0, 0, 0, 0, []),
  (29, .aload_n 0, 1, 0, 0, 0, 0, []),
  (30, .getfield 158, 3, 0, 13, 3, 0, []),
  (33, .iload_n 1, 1, 0, 1, 0, 0, []),
  (34, .iadd, 1, 0, 0, 0, 0, []),
  (35, .bipush 20, 2, 20, 0, 0, 0, []),
  (37, .isub, 1, 0, 0, 0, 0, []),
  (38, .putfield 158, 3, 0, 13, 3, 0, []),
  (41, .aload_n 0, 1, 0, 0, 0, 0, []),
  (42, .iconst (-1), 1, (-1), 0, 0, 0, []),
  (43, .putfield 27, 3, 0, 13, 4, 0, []),
  (46, .aload_n 0, 1, 0, 0, 0, 0, []),
  (47, .getfield 158, 3, 0, 13, 3, 0, []),
  (50, .ireturn, 1, 0, 0, 0, 0, [])]
/-- BrotliWordsModel.bits(II)I -/
def am_c156_0 : List (Nat × am_Row) := [(0, .aload_n 0, 1, 0, 0, 0, 0, []),
  (1, .iconst 0, 1, 0, 0, 0, 0, []),
  (2, .putfield 1, 3, 0, 13, 0, 0, []),
  (5, .iload_n 2, 1, 0, 2, 0, 0, []),
  (6, .i2l, 1, 0, 0, 0, 0, []),
  (7, .lconst 1, 1, 1, 0, 0, 0, []),
  (8, .ldc2_w 166, 3, 32, 0, 0, 0, []),
  (11, .invokestatic 163, 3, 0, 901, 3, 0, []),
  (14, .ifCond .ne 5, 3, 0, 19, 0, 0, []),
  (17, .iconst (-1), 1, (-1), 0, 0, 0, []),
  (18, .ireturn, 1, 0, 0, 0, 0, []),
  (19, .aload_n 0, 1, 0, 0, 0, 0, []),
  (20, .getfield 27, 3, 0, 13, 4, 0, []),
  (23, .ifCond .ge 13, 3, 0, 36, 0, 0, []),
  (26, .bipush 8, 2, 8, 0, 0, 0, []),
  (28, .aload_n 0, 1, 0, 0, 0, 0, []),
  (29, .getfield 158, 3, 0, 13, 3, 0, []),
  (32, .imul, 1, 0, 0, 0, 0, []),
  (33, .goto 7, 3, 0, 40, 0, 0, []),
  (36, .aload_n 0, 1, 0, 0, 0, 0, []),
  (37, .getfield 27, 3, 0, 13, 4, 0, []),
  (40, .istore_n 3, 1, 0, 3, 0, 0, []),
  (41, .iload_n 3, 1, 0, 3, 0, 0, []),
  (42, .iload_n 2, 1, 0, 2, 0, 0, []),
  (43, .iadd, 1, 0, 0, 0, 0, []),
  (44, .sipush 19200, 3, 19200, 0, 0, 0, []),
  (47, .if_icmp .le 6, 3, 0, 53, 0, 0, []),
  (50, .bipush (-3), 2, (-3), 0, 0, 0, []),
  (52, .ireturn, 1, 0, 0, 0, 0, []),
  (53, .iconst 0, 1, 0, 0, 0, 0, []),
  (54, .istore 4, 2, 0, 4, 0, 0, []),
  (56, .iload 4, 2, 0, 4, 0, 0, []),
  (58, .iload_n 2, 1, 0, 2, 0, 0, []),
  (59, .if_icmp .ge 86, 3, 0, 145, 0, 0, []),
  (62, .iload_n 3, 1, 0, 3, 0, 0, []),
  (63, .iload 4, 2, 0, 4, 0, 0, []),
  (65, .iadd, 1, 0, 0, 0, 0, []),
  (66, .istore 5, 2, 0, 5, 0, 0, []),
  (68, .iload 5, 2, 0, 5, 0, 0, []),
  (70, .bipush 8, 2, 8, 0, 0, 0, [])]
def am_c156_1 : List (Nat × am_Row) := [(72, .idiv, 1, 0, 0, 0, 0, []),
  (73, .aload_n 0, 1, 0, 0, 0, 0, []),
  (74, .getfield 158, 3, 0, 13, 3, 0, []),
  (77, .if_icmp .lt 23, 3, 0, 100, 0, 0, []),
  (80, .aload_n 0, 1, 0, 0, 0, 0, []),
  (81, .getfield 23, 3, 0, 13, 2, 1, []),
  (84, .aload_n 0, 1, 0, 0, 0, 0, []),
  (85, .getfield 158, 3, 0, 13, 3, 0, []),
  (88, .iconst 0, 1, 0, 0, 0, 0, []),
  (89, .bastore, 1, 0, 0, 0, 0, []),
  (90, .aload_n 0, 1, 0, 0, 0, 0, []),
  (91, .dup, 1, 0, 0, 0, 0, []),
  (92, .getfield 158, 3, 0, 13, 3, 0, []),
  (95, .iconst 1, 1, 1, 0, 0, 0, []),
  (96, .iadd, 1, 0, 0, 0, 0, []),
  (97, .putfield 158, 3, 0, 13, 3, 0, []),
  (100, .iload_n 1, 1, 0, 1, 0, 0, []),
  (101, .iload 4, 2, 0, 4, 0, 0, []),
  (103, .iushr, 1, 0, 0, 0, 0, []),
  (104, .iconst 1, 1, 1, 0, 0, 0, []),
  (105, .iand, 1, 0, 0, 0, 0, []),
  (106, .iconst 1, 1, 1, 0, 0, 0, []),
  (107, .if_icmp .ne 32, 3, 0, 139, 0, 0, []),
  (110, .aload_n 0, 1, 0, 0, 0, 0, []),
  (111, .getfield 23, 3, 0, 13, 2, 1, []),
  (114, .iload 5, 2, 0, 5, 0, 0, []),
  (116, .bipush 8, 2, 8, 0, 0, 0, []),
  (118, .idiv, 1, 0, 0, 0, 0, []),
  (119, .aload_n 0, 1, 0, 0, 0, 0, []),
  (120, .getfield 23, 3, 0, 13, 2, 1, []),
  (123, .iload 5, 2, 0, 5, 0, 0, []),
  (125, .bipush 8, 2, 8, 0, 0, 0, []),
  (127, .idiv, 1, 0, 0, 0, 0, []),
  (128, .baload, 1, 0, 0, 0, 0, []),
  (129, .iconst 1, 1, 1, 0, 0, 0, []),
  (130, .iload 5, 2, 0, 5, 0, 0, []),
  (132, .bipush 8, 2, 8, 0, 0, 0, []),
  (134, .irem, 1, 0, 0, 0, 0, []),
  (135, .ishl, 1, 0, 0, 0, 0, []),
  (136, .ior, 1, 0, 0, 0, 0, [])]
def am_c156_2 : List (Nat × am_Row) := [(137, .i2b, 1, 0, 0, 0, 0, []),
  (138, .bastore, 1, 0, 0, 0, 0, []),
  (139, .iinc 4 1, 3, 1, 4, 0, 0, []),
  (142, .goto (-86), 3, 0, 56, 0, 0, []),
  (145, .aload_n 0, 1, 0, 0, 0, 0, []),
  (146, .iload_n 3, 1, 0, 3, 0, 0, []),
  (147, .iload_n 2, 1, 0, 2, 0, 0, []),
  (148, .iadd, 1, 0, 0, 0, 0, []),
  (149, .putfield 27, 3, 0, 13, 4, 0, []),
  (152, .aload_n 0, 1, 0, 0, 0, 0, []),
  (153, .getfield 27, 3, 0, 13, 4, 0, []),
  (156, .ireturn, 1, 0, 0, 0, 0, [])]
def am_c156 : List (Nat × am_Row) := am_c156_0 ++ (am_c156_1 ++ (am_c156_2))
/-- BrotliWordsModel.spoil(II)I -/
def am_c157_0 : List (Nat × am_Row) := [(0, .aload_n 0, 1, 0, 0, 0, 0, []),
  (1, .iconst 0, 1, 0, 0, 0, 0, []),
  (2, .putfield 1, 3, 0, 13, 0, 0, []),
  (5, .iload_n 1, 1, 0, 1, 0, 0, []),
  (6, .i2l, 1, 0, 0, 0, 0, []),
  (7, .lconst 0, 1, 0, 0, 0, 0, []),
  (8, .aload_n 0, 1, 0, 0, 0, 0, []),
  (9, .getfield 158, 3, 0, 13, 3, 0, []),
  (12, .iconst 1, 1, 1, 0, 0, 0, []),
  (13, .isub, 1, 0, 0, 0, 0, []),
  (14, .i2l, 1, 0, 0, 0, 0, []),
  (15, .invokestatic 163, 3, 0, 901, 3, 0, []),
  (18, .ifCond .eq 15, 3, 0, 33, 0, 0, []),
  (21, .iload_n 2, 1, 0, 2, 0, 0, []),
  (22, .i2l, 1, 0, 0, 0, 0, []),
  (23, .lconst 1, 1, 1, 0, 0, 0, []),
  (24, .ldc2_w 168, 3, 255, 0, 0, 0, []),
  (27, .invokestatic 163, 3, 0, 901, 3, 0, []),
  (30, .ifCond .ne 5, 3, 0, 35, 0, 0, []),
  (33, .iconst (-1), 1, (-1), 0, 0, 0, []),
  (34, .ireturn, 1, 0, 0, 0, 0, []),
  (35, .aload_n 0, 1, 0, 0, 0, 0, []),
  (36, .getfield 23, 3, 0, 13, 2, 1, []),
  (39, .iload_n 1, 1, 0, 1, 0, 0, []),
  (40, .aload_n 0, 1, 0, 0, 0, 0, []),
  (41, .getfield 23, 3, 0, 13, 2, 1, []),
  (44, .iload_n 1, 1, 0, 1, 0, 0, []),
  (45, .baload, 1, 0, 0, 0, 0, []),
  (46, .iload_n 2, 1, 0, 2, 0, 0, []),
  (47, .ixor, 1, 0, 0, 0, 0, []),
  (48, .i2b, 1, 0, 0, 0, 0, []),
  (49, .bastore, 1, 0, 0, 0, 0, []),
  (50, .aload_n 0, 1, 0, 0, 0, 0, []),
  (51, .iconst (-1), 1, (-1), 0, 0, 0, []),
  (52, .putfield 27, 3, 0, 13, 4, 0, []),
  (55, .aload_n 0, 1, 0, 0, 0, 0, []),
  (56, .getfield 23, 3, 0, 13, 2, 1, []),
  (59, .iload_n 1, 1, 0, 1, 0, 0, []),
  (60, .baload, 1, 0, 0, 0, 0, []),
  (61, .sipush 255, 3, 255, 0, 0, 0, [])]
def am_c157_1 : List (Nat × am_Row) := [(64, .iand, 1, 0, 0, 0, 0, []),
  (65, .ireturn, 1, 0, 0, 0, 0, [])]
def am_c157 : List (Nat × am_Row) := am_c157_0 ++ (am_c157_1)
/-- BrotliWordsModel.emptyTape()V -/
def am_c158 : List (Nat × am_Row) := [(0, .aload_n 0, 1, 0, 0, 0, 0, []),
  (1, .iconst 0, 1, 0, 0, 0, 0, []),
  (2, .putfield 158, 3, 0, 13, 3, 0, []),
  (5, .aload_n 0, 1, 0, 0, 0, 0, []),
  (6, .iconst (-1), 1, (-1), 0, 0, 0, []),
  (7, .putfield 27, 3, 0, 13, 4, 0, []),
  (10, .return_, 1, 0, 0, 0, 0, [])]
/-- BrotliWordsModel.wipe()I -/
def am_c159 : List (Nat × am_Row) := [(0, .aload_n 0, 1, 0, 0, 0, 0, []),
  (1, .iconst 0, 1, 0, 0, 0, 0, []),
  (2, .putfield 1, 3, 0, 13, 0, 0, []),
  (5, .aload_n 0, 1, 0, 0, 0, 0, []),
  (6, .getfield 158, 3, 0, 13, 3, 0, []),
  (9, .istore_n 1, 1, 0, 1, 0, 0, []),
  (10, .aload_n 0, 1, 0, 0, 0, 0, []),
  (11, .invokevirtual 170, 3, 0, 158, 1, 13, []),
  (14, .iload_n 1, 1, 0, 1, 0, 0, []),
  (15, .ireturn, 1, 0, 0, 0, 0, [])]
/-- BrotliWordsModel.wordAt(II)I -/
def am_c160 : List (Nat × am_Row) := [(0, .sipush 320, 3, 320, 0, 0, 0, []),
  (3, .iload_n 1, 1, 0, 1, 0, 0, []),
  (4, .iconst 4, 1, 4, 0, 0, 0, []),
  (5, .isub, 1, 0, 0, 0, 0, []),
  (6, .imul, 1, 0, 0, 0, 0, []),
  (7, .bipush 10, 2, 10, 0, 0, 0, []),
  (9, .iload_n 2, 1, 0, 2, 0, 0, []),
  (10, .imul, 1, 0, 0, 0, 0, []),
  (11, .iadd, 1, 0, 0, 0, 0, []),
  (12, .ireturn, 1, 0, 0, 0, 0, [])]
/-- BrotliWordsModel.word()I -/
def am_c161_0 : List (Nat × am_Row) := [(0, .aload_n 0, 1, 0, 0, 0, 0, []),
  (1, .iconst 0, 1, 0, 0, 0, 0, []),
  (2, .putfield 1, 3, 0, 13, 0, 0, []),
  (5, .aload_n 0, 1, 0, 0, 0, 0, []),
  (6, .getfield 158, 3, 0, 13, 3, 0, []),
  (9, .i2l, 1, 0, 0, 0, 0, []),
  (10, .ldc2_w 173, 3, 4, 0, 0, 0, []),
  (13, .ldc2_w 175, 3, 10, 0, 0, 0, []),
  (16, .invokestatic 163, 3, 0, 901, 3, 0, []),
  (19, .ifCond .ne 5, 3, 0, 24, 0, 0, []),
  (22, .iconst (-1), 1, (-1), 0, 0, 0, []),
  (23, .ireturn, 1, 0, 0, 0, 0, []),
  (24, .aload_n 0, 1, 0, 0, 0, 0, []),
  (25, .getfield 158, 3, 0, 13, 3, 0, []),
  (28, .istore_n 1, 1, 0, 1, 0, 0, []),
  (29, .aload_n 0, 1, 0, 0, 0, 0, []),
  (30, .getfield 36, 3, 0, 13, 8, 1, []),
  (33, .iload_n 1, 1, 0, 1, 0, 0, []),
  (34, .iaload, 1, 0, 0, 0, 0, []),
  (35, .bipush 32, 2, 32, 0, 0, 0, []),
  (37, .if_icmp .ne 6, 3, 0, 43, 0, 0, []),
  (40, .bipush (-3), 2, (-3), 0, 0, 0, []),
  (42, .ireturn, 1, 0, 0, 0, 0, []),
  (43, .iconst 0, 1, 0, 0, 0, 0, []),
  (44, .istore_n 2, 1, 0, 2, 0, 0, []),
  (45, .iload_n 2, 1, 0, 2, 0, 0, []),
  (46, .iload_n 1, 1, 0, 1, 0, 0, []),
  (47, .if_icmp .ge 33, 3, 0, 80, 0, 0, []),
  (50, .aload_n 0, 1, 0, 0, 0, 0, []),
  (51, .getfield 33, 3, 0, 13, 7, 1, []),
  (54, .aload_n 0, 1, 0, 0, 0, 0, []),
  (55, .iload_n 1, 1, 0, 1, 0, 0, []),
  (56, .aload_n 0, 1, 0, 0, 0, 0, []),
  (57, .getfield 36, 3, 0, 13, 8, 1, []),
  (60, .iload_n 1, 1, 0, 1, 0, 0, []),
  (61, .iaload, 1, 0, 0, 0, 0, []),
  (62, .invokevirtual 177, 3, 0, 160, 3, 13, []),
  (65, .iload_n 2, 1, 0, 2, 0, 0, []),
  (66, .iadd, 1, 0, 0, 0, 0, []),
  (67, .aload_n 0, 1, 0, 0, 0, 0, [])]
def am_c161_1 : List (Nat × am_Row) := [(68, .getfield 23, 3, 0, 13, 2, 1, []),
  (71, .iload_n 2, 1, 0, 2, 0, 0, []),
  (72, .baload, 1, 0, 0, 0, 0, []),
  (73, .bastore, 1, 0, 0, 0, 0, []),
  (74, .iinc 2 1, 3, 1, 2, 0, 0, []),
  (77, .goto (-32), 3, 0, 45, 0, 0, []),
  (80, .aload_n 0, 1, 0, 0, 0, 0, []),
  (81, .getfield 36, 3, 0, 13, 8, 1, []),
  (84, .iload_n 1, 1, 0, 1, 0, 0, []),
  (85, .dup2, 1, 0, 0, 0, 0, []),
  (86, .iaload, 1, 0, 0, 0, 0, []),
  (87, .iconst 1, 1, 1, 0, 0, 0, []),
  (88, .iadd, 1, 0, 0, 0, 0, []),
  (89, .iastore, 1, 0, 0, 0, 0, []),
  (90, .aload_n 0, 1, 0, 0, 0, 0, []),
  (91, .invokevirtual 170, 3, 0, 158, 1, 13, []),
  (94, .aload_n 0, 1, 0, 0, 0, 0, []),
  (95, .getfield 36, 3, 0, 13, 8, 1, []),
  (98, .iload_n 1, 1, 0, 1, 0, 0, []),
  (99, .iaload, 1, 0, 0, 0, 0, []),
  (100, .ireturn, 1, 0, 0, 0, 0, [])]
def am_c161 : List (Nat × am_Row) := am_c161_0 ++ (am_c161_1)
/-- BrotliWordsModel.allWords()I -/
def am_c162 : List (Nat × am_Row) := [(0, .iconst 0, 1, 0, 0, 0, 0, []),
  (1, .istore_n 1, 1, 0, 1, 0, 0, []),
  (2, .iconst 4, 1, 4, 0, 0, 0, []),
  (3, .istore_n 2, 1, 0, 2, 0, 0, []),
  (4, .iload_n 2, 1, 0, 2, 0, 0, []),
  (5, .bipush 10, 2, 10, 0, 0, 0, []),
  (7, .if_icmp .gt 18, 3, 0, 25, 0, 0, []),
  (10, .iload_n 1, 1, 0, 1, 0, 0, []),
  (11, .aload_n 0, 1, 0, 0, 0, 0, []),
  (12, .getfield 36, 3, 0, 13, 8, 1, []),
  (15, .iload_n 2, 1, 0, 2, 0, 0, []),
  (16, .iaload, 1, 0, 0, 0, 0, []),
  (17, .iadd, 1, 0, 0, 0, 0, []),
  (18, .istore_n 1, 1, 0, 1, 0, 0, []),
  (19, .iinc 2 1, 3, 1, 2, 0, 0, []),
  (22, .goto (-18), 3, 0, 4, 0, 0, []),
  (25, .iload_n 1, 1, 0, 1, 0, 0, []),
  (26, .ireturn, 1, 0, 0, 0, 0, [])]
/-- BrotliWordsModel.clear()I -/
def am_c163 : List (Nat × am_Row) := [(0, .aload_n 0, 1, 0, 0, 0, 0, []),
  (1, .iconst 0, 1, 0, 0, 0, 0, []),
  (2, .putfield 1, 3, 0, 13, 0, 0, []),
  (5, .aload_n 0, 1, 0, 0, 0, 0, []),
  (6, .invokevirtual 181, 3, 0, 162, 1, 13, []),
  (9, .istore_n 1, 1, 0, 1, 0, 0, []),
  (10, .iconst 4, 1, 4, 0, 0, 0, []),
  (11, .istore_n 2, 1, 0, 2, 0, 0, []),
  (12, .iload_n 2, 1, 0, 2, 0, 0, []),
  (13, .bipush 10, 2, 10, 0, 0, 0, []),
  (15, .if_icmp .gt 16, 3, 0, 31, 0, 0, []),
  (18, .aload_n 0, 1, 0, 0, 0, 0, []),
  (19, .getfield 36, 3, 0, 13, 8, 1, []),
  (22, .iload_n 2, 1, 0, 2, 0, 0, []),
  (23, .iconst 0, 1, 0, 0, 0, 0, []),
  (24, .iastore, 1, 0, 0, 0, 0, []),
  (25, .iinc 2 1, 3, 1, 2, 0, 0, []),
  (28, .goto (-16), 3, 0, 12, 0, 0, []),
  (31, .iload_n 1, 1, 0, 1, 0, 0, []),
  (32, .ireturn, 1, 0, 0, 0, 0, [])]
/-- BrotliWordsModel.digestNow()I -/
def am_c164_0 : List (Nat × am_Row) := [(0, .sipush 5381, 3, 5381, 0, 0, 0, []),
  (3, .istore_n 1, 1, 0, 1, 0, 0, []),
  (4, .iconst 4, 1, 4, 0, 0, 0, []),
  (5, .istore_n 2, 1, 0, 2, 0, 0, []),
  (6, .iload_n 2, 1, 0, 2, 0, 0, []),
  (7, .bipush 10, 2, 10, 0, 0, 0, []),
  (9, .if_icmp .gt 84, 3, 0, 93, 0, 0, []),
  (12, .bipush 33, 2, 33, 0, 0, 0, []),
  (14, .iload_n 1, 1, 0, 1, 0, 0, []),
  (15, .imul, 1, 0, 0, 0, 0, []),
  (16, .aload_n 0, 1, 0, 0, 0, 0, []),
  (17, .getfield 36, 3, 0, 13, 8, 1, []),
  (20, .iload_n 2, 1, 0, 2, 0, 0, []),
  (21, .iaload, 1, 0, 0, 0, 0, []),
  (22, .ixor, 1, 0, 0, 0, 0, []),
  (23, .ldc 185, 2, 65535, 0, 0, 0, []),
  (25, .iand, 1, 0, 0, 0, 0, []),
  (26, .istore_n 1, 1, 0, 1, 0, 0, []),
  (27, .iconst 0, 1, 0, 0, 0, 0, []),
  (28, .istore_n 3, 1, 0, 3, 0, 0, []),
  (29, .iload_n 3, 1, 0, 3, 0, 0, []),
  (30, .aload_n 0, 1, 0, 0, 0, 0, []),
  (31, .getfield 36, 3, 0, 13, 8, 1, []),
  (34, .iload_n 2, 1, 0, 2, 0, 0, []),
  (35, .iaload, 1, 0, 0, 0, 0, []),
  (36, .if_icmp .ge 51, 3, 0, 87, 0, 0, []),
  (39, .iconst 0, 1, 0, 0, 0, 0, []),
  (40, .istore 4, 2, 0, 4, 0, 0, []),
  (42, .iload 4, 2, 0, 4, 0, 0, []),
  (44, .iload_n 2, 1, 0, 2, 0, 0, []),
  (45, .if_icmp .ge 36, 3, 0, 81, 0, 0, []),
  (48, .bipush 33, 2, 33, 0, 0, 0, []),
  (50, .iload_n 1, 1, 0, 1, 0, 0, []),
  (51, .imul, 1, 0, 0, 0, 0, []),
  (52, .aload_n 0, 1, 0, 0, 0, 0, []),
  (53, .getfield 33, 3, 0, 13, 7, 1, []),
  (56, .aload_n 0, 1, 0, 0, 0, 0, []),
  (57, .iload_n 2, 1, 0, 2, 0, 0, []),
  (58, .iload_n 3, 1, 0, 3, 0, 0, []),
  (59, .invokevirtual 177, 3, 0, 160, 3, 13, [])]
def am_c164_1 : List (Nat × am_Row) := [(62, .iload 4, 2, 0, 4, 0, 0, []),
  (64, .iadd, 1, 0, 0, 0, 0, []),
  (65, .baload, 1, 0, 0, 0, 0, []),
  (66, .sipush 255, 3, 255, 0, 0, 0, []),
  (69, .iand, 1, 0, 0, 0, 0, []),
  (70, .ixor, 1, 0, 0, 0, 0, []),
  (71, .ldc 185, 2, 65535, 0, 0, 0, []),
  (73, .iand, 1, 0, 0, 0, 0, []),
  (74, .istore_n 1, 1, 0, 1, 0, 0, []),
  (75, .iinc 4 1, 3, 1, 4, 0, 0, []),
  (78, .goto (-36), 3, 0, 42, 0, 0, []),
  (81, .iinc 3 1, 3, 1, 3, 0, 0, []),
  (84, .goto (-55), 3, 0, 29, 0, 0, []),
  (87, .iinc 2 1, 3, 1, 2, 0, 0, []),
  (90, .goto (-84), 3, 0, 6, 0, 0, []),
  (93, .iload_n 1, 1, 0, 1, 0, 0, []),
  (94, .ireturn, 1, 0, 0, 0, 0, [])]
def am_c164 : List (Nat × am_Row) := am_c164_0 ++ (am_c164_1)
/-- BrotliWordsModel.digest()I -/
def am_c165 : List (Nat × am_Row) := [(0, .aload_n 0, 1, 0, 0, 0, 0, []),
  (1, .iconst 0, 1, 0, 0, 0, 0, []),
  (2, .putfield 1, 3, 0, 13, 0, 0, []),
  (5, .aload_n 0, 1, 0, 0, 0, 0, []),
  (6, .invokevirtual 186, 3, 0, 164, 1, 13, []),
  (9, .ireturn, 1, 0, 0, 0, 0, [])]
/-- BrotliWordsModel.bitsOf(I)I -/
def am_c166 : List (Nat × am_Row) := [(0, .iconst 0, 1, 0, 0, 0, 0, []),
  (1, .istore_n 2, 1, 0, 2, 0, 0, []),
  (2, .iconst 1, 1, 1, 0, 0, 0, []),
  (3, .iload_n 2, 1, 0, 2, 0, 0, []),
  (4, .ishl, 1, 0, 0, 0, 0, []),
  (5, .aload_n 0, 1, 0, 0, 0, 0, []),
  (6, .getfield 36, 3, 0, 13, 8, 1, []),
  (9, .iload_n 1, 1, 0, 1, 0, 0, []),
  (10, .iaload, 1, 0, 0, 0, 0, []),
  (11, .if_icmp .ge 9, 3, 0, 20, 0, 0, []),
  (14, .iinc 2 1, 3, 1, 2, 0, 0, []),
  (17, .goto (-15), 3, 0, 2, 0, 0, []),
  (20, .iload_n 2, 1, 0, 2, 0, 0, []),
  (21, .ireturn, 1, 0, 0, 0, 0, [])]
/-- BrotliWordsModel.putChanged(I)V -/
def am_c167 : List (Nat × am_Row) := [(0, .aload_n 0, 1, 0, 0, 0, 0, []),
  (1, .getfield 40, 3, 0, 13, 9, 1, []),
  (4, .aload_n 0, 1, 0, 0, 0, 0, []),
  (5, .getfield 189, 3, 0, 13, 10, 0, []),
  (8, .iload_n 1, 1, 0, 1, 0, 0, []),
  (9, .i2b, 1, 0, 0, 0, 0, []),
  (10, .bastore, 1, 0, 0, 0, 0, []),
  (11, .aload_n 0, 1, 0, 0, 0, 0, []),
  (12, .dup, 1, 0, 0, 0, 0, []),
  (13, .getfield 189, 3, 0, 13, 10, 0, []),
  (16, .iconst 1, 1, 1, 0, 0, 0, []),
  (17, .iadd, 1, 0, 0, 0, 0, []),
  (18, .putfield 189, 3, 0, 13, 10, 0, []),
  (21, .return_, 1, 0, 0, 0, 0, [])]
/-- BrotliWordsModel.change(III)V -/
def am_c168_0 : List (Nat × am_Row) := [(0, .iload_n 3, 1, 0, 3, 0, 0, []),
  (1, .bipush 6, 2, 6, 0, 0, 0, []),
  (3, .irem, 1, 0, 0, 0, 0, []),
  (4, .istore 4, 2, 0, 4, 0, 0, []),
  (6, .iload_n 3, 1, 0, 3, 0, 0, []),
  (7, .bipush 6, 2, 6, 0, 0, 0, []),
  (9, .idiv, 1, 0, 0, 0, 0, []),
  (10, .istore 5, 2, 0, 5, 0, 0, []),
  (12, .aload_n 0, 1, 0, 0, 0, 0, []),
  (13, .iconst 0, 1, 0, 0, 0, 0, []),
  (14, .putfield 189, 3, 0, 13, 10, 0, []),
  (17, .iload 5, 2, 0, 5, 0, 0, []),
  (19, .iconst 2, 1, 2, 0, 0, 0, []),
  (20, .if_icmp .ne 9, 3, 0, 29, 0, 0, []),
  (23, .aload_n 0, 1, 0, 0, 0, 0, []),
  (24, .bipush 32, 2, 32, 0, 0, 0, []),
  (26, .invokevirtual 192, 3, 0, 167, 2, 13, []),
  (29, .iload 4, 2, 0, 4, 0, 0, []),
  (31, .iconst 3, 1, 3, 0, 0, 0, []),
  (32, .if_icmp .ne 7, 3, 0, 39, 0, 0, []),
  (35, .iconst 1, 1, 1, 0, 0, 0, []),
  (36, .goto 4, 3, 0, 40, 0, 0, []),
  (39, .iconst 0, 1, 0, 0, 0, 0, []),
  (40, .istore 6, 2, 0, 6, 0, 0, []),
  (42, .iload 4, 2, 0, 4, 0, 0, []),
  (44, .iconst 4, 1, 4, 0, 0, 0, []),
  (45, .if_icmp .ne 9, 3, 0, 54, 0, 0, []),
  (48, .iload_n 1, 1, 0, 1, 0, 0, []),
  (49, .iconst 1, 1, 1, 0, 0, 0, []),
  (50, .isub, 1, 0, 0, 0, 0, []),
  (51, .goto 16, 3, 0, 67, 0, 0, []),
  (54, .iload 4, 2, 0, 4, 0, 0, []),
  (56, .iconst 5, 1, 5, 0, 0, 0, []),
  (57, .if_icmp .ne 9, 3, 0, 66, 0, 0, []),
  (60, .iload_n 1, 1, 0, 1, 0, 0, []),
  (61, .iconst 2, 1, 2, 0, 0, 0, []),
  (62, .isub, 1, 0, 0, 0, 0, []),
  (63, .goto 4, 3, 0, 67, 0, 0, []),
  (66, .iload_n 1, 1, 0, 1, 0, 0, []),
  (67, .istore 7, 2, 0, 7, 0, 0, [])]
def am_c168_1 : List (Nat × am_Row) := [(69, .iload 6, 2, 0, 6, 0, 0, []),
  (71, .istore 8, 2, 0, 8, 0, 0, []),
  (73, .iload 8, 2, 0, 8, 0, 0, []),
  (75, .iload 7, 2, 0, 7, 0, 0, []),
  (77, .if_icmp .ge 82, 3, 0, 159, 0, 0, []),
  (80, .aload_n 0, 1, 0, 0, 0, 0, []),
  (81, .getfield 33, 3, 0, 13, 7, 1, []),
  (84, .aload_n 0, 1, 0, 0, 0, 0, []),
  (85, .iload_n 1, 1, 0, 1, 0, 0, []),
  (86, .iload_n 2, 1, 0, 2, 0, 0, []),
  (87, .invokevirtual 177, 3, 0, 160, 3, 13, []),
  (90, .iload 8, 2, 0, 8, 0, 0, []),
  (92, .iadd, 1, 0, 0, 0, 0, []),
  (93, .baload, 1, 0, 0, 0, 0, []),
  (94, .istore 9, 2, 0, 9, 0, 0, []),
  (96, .iload 9, 2, 0, 9, 0, 0, []),
  (98, .bipush 97, 2, 97, 0, 0, 0, []),
  (100, .if_icmp .lt 14, 3, 0, 114, 0, 0, []),
  (103, .iload 9, 2, 0, 9, 0, 0, []),
  (105, .bipush 122, 2, 122, 0, 0, 0, []),
  (107, .if_icmp .gt 7, 3, 0, 114, 0, 0, []),
  (110, .iconst 1, 1, 1, 0, 0, 0, []),
  (111, .goto 4, 3, 0, 115, 0, 0, []),
  (114, .iconst 0, 1, 0, 0, 0, 0, []),
  (115, .istore 10, 2, 0, 10, 0, 0, []),
  (117, .aload_n 0, 1, 0, 0, 0, 0, []),
  (118, .iload 10, 2, 0, 10, 0, 0, []),
  (120, .ifCond .eq 28, 3, 0, 148, 0, 0, []),
  (123, .iload 4, 2, 0, 4, 0, 0, []),
  (125, .iconst 2, 1, 2, 0, 0, 0, []),
  (126, .if_icmp .eq 14, 3, 0, 140, 0, 0, []),
  (129, .iload 4, 2, 0, 4, 0, 0, []),
  (131, .iconst 1, 1, 1, 0, 0, 0, []),
  (132, .if_icmp .ne 16, 3, 0, 148, 0, 0, []),
  (135, .iload 8, 2, 0, 8, 0, 0, []),
  (137, .ifCond .ne 11, 3, 0, 148, 0, 0, []),
  (140, .iload 9, 2, 0, 9, 0, 0, []),
  (142, .bipush 32, 2, 32, 0, 0, 0, []),
  (144, .isub, 1, 0, 0, 0, 0, []),
  (145, .goto 5, 3, 0, 150, 0, 0, [])]
def am_c168_2 : List (Nat × am_Row) := [(148, .iload 9, 2, 0, 9, 0, 0, []),
  (150, .invokevirtual 192, 3, 0, 167, 2, 13, []),
  (153, .iinc 8 1, 3, 1, 8, 0, 0, []),
  (156, .goto (-83), 3, 0, 73, 0, 0, []),
  (159, .iload 5, 2, 0, 5, 0, 0, []),
  (161, .iconst 3, 1, 3, 0, 0, 0, []),
  (162, .if_icmp .ne 9, 3, 0, 171, 0, 0, []),
  (165, .aload_n 0, 1, 0, 0, 0, 0, []),
  (166, .bipush 44, 2, 44, 0, 0, 0, []),
  (168, .invokevirtual 192, 3, 0, 167, 2, 13, []),
  (171, .iload 5, 2, 0, 5, 0, 0, []),
  (173, .iconst 1, 1, 1, 0, 0, 0, []),
  (174, .if_icmp .eq 9, 3, 0, 183, 0, 0, []),
  (177, .iload 5, 2, 0, 5, 0, 0, []),
  (179, .iconst 3, 1, 3, 0, 0, 0, []),
  (180, .if_icmp .ne 9, 3, 0, 189, 0, 0, []),
  (183, .aload_n 0, 1, 0, 0, 0, 0, []),
  (184, .bipush 32, 2, 32, 0, 0, 0, []),
  (186, .invokevirtual 192, 3, 0, 167, 2, 13, []),
  (189, .return_, 1, 0, 0, 0, 0, [])]
def am_c168 : List (Nat × am_Row) := am_c168_0 ++ (am_c168_1 ++ (am_c168_2))
/-- BrotliWordsModel.changed(IIII)I -/
def am_c169_0 : List (Nat × am_Row) := [(0, .aload_n 0, 1, 0, 0, 0, 0, []),
  (1, .iconst 0, 1, 0, 0, 0, 0, []),
  (2, .putfield 1, 3, 0, 13, 0, 0, []),
  (5, .iload_n 1, 1, 0, 1, 0, 0, []),
  (6, .i2l, 1, 0, 0, 0, 0, []),
  (7, .ldc2_w 173, 3, 4, 0, 0, 0, []),
  (10, .ldc2_w 175, 3, 10, 0, 0, 0, []),
  (13, .invokestatic 163, 3, 0, 901, 3, 0, []),
  (16, .ifCond .eq 51, 3, 0, 67, 0, 0, []),
  (19, .iload_n 2, 1, 0, 2, 0, 0, []),
  (20, .i2l, 1, 0, 0, 0, 0, []),
  (21, .lconst 0, 1, 0, 0, 0, 0, []),
  (22, .aload_n 0, 1, 0, 0, 0, 0, []),
  (23, .getfield 36, 3, 0, 13, 8, 1, []),
  (26, .iload_n 1, 1, 0, 1, 0, 0, []),
  (27, .i2l, 1, 0, 0, 0, 0, []),
  (28, .ldc2_w 173, 3, 4, 0, 0, 0, []),
  (31, .ldc2_w 175, 3, 10, 0, 0, 0, []),
  (34, .invokestatic 163, 3, 0, 901, 3, 0, []),
  (37, .ifCond .eq 7, 3, 0, 44, 0, 0, []),
  (40, .iload_n 1, 1, 0, 1, 0, 0, []),
  (41, .goto 4, 3, 0, 45, 0, 0, []),
  (44, .iconst 4, 1, 4, 0, 0, 0, []),
  (45, .iaload, 1, 0, 0, 0, 0, []),
  (46, .iconst 1, 1, 1, 0, 0, 0, []),
  (47, .isub, 1, 0, 0, 0, 0, []),
  (48, .i2l, 1, 0, 0, 0, 0, []),
  (49, .invokestatic 163, 3, 0, 901, 3, 0, []),
  (52, .ifCond .eq 15, 3, 0, 67, 0, 0, []),
  (55, .iload_n 3, 1, 0, 3, 0, 0, []),
  (56, .i2l, 1, 0, 0, 0, 0, []),
  (57, .lconst 0, 1, 0, 0, 0, 0, []),
  (58, .ldc2_w 196, 3, 23, 0, 0, 0, []),
  (61, .invokestatic 163, 3, 0, 901, 3, 0, []),
  (64, .ifCond .ne 5, 3, 0, 69, 0, 0, []),
  (67, .iconst (-1), 1, (-1), 0, 0, 0, []),
  (68, .ireturn, 1, 0, 0, 0, 0, []),
  (69, .aload_n 0, 1, 0, 0, 0, 0, []),
  (70, .iload_n 1, 1, 0, 1, 0, 0, []),
  (71, .iload_n 2, 1, 0, 2, 0, 0, [])]
def am_c169_1 : List (Nat × am_Row) := [(72, .iload_n 3, 1, 0, 3, 0, 0, []),
  (73, .invokevirtual 198, 3, 0, 168, 4, 13, []),
  (76, .iload 4, 2, 0, 4, 0, 0, []),
  (78, .iconst (-1), 1, (-1), 0, 0, 0, []),
  (79, .if_icmp .ne 10, 3, 0, 89, 0, 0, []),
  (82, .aload_n 0, 1, 0, 0, 0, 0, []),
  (83, .getfield 189, 3, 0, 13, 10, 0, []),
  (86, .goto 35, 3, 0, 121, 0, 0, []),
  (89, .iload 4, 2, 0, 4, 0, 0, []),
  (91, .i2l, 1, 0, 0, 0, 0, []),
  (92, .lconst 0, 1, 0, 0, 0, 0, []),
  (93, .aload_n 0, 1, 0, 0, 0, 0, []),
  (94, .getfield 189, 3, 0, 13, 10, 0, []),
  (97, .iconst 1, 1, 1, 0, 0, 0, []),
  (98, .isub, 1, 0, 0, 0, 0, []),
  (99, .i2l, 1, 0, 0, 0, 0, []),
  (100, .invokestatic 163, 3, 0, 901, 3, 0, []),
  (103, .ifCond .eq 17, 3, 0, 120, 0, 0, []),
  (106, .aload_n 0, 1, 0, 0, 0, 0, []),
  (107, .getfield 40, 3, 0, 13, 9, 1, []),
  (110, .iload 4, 2, 0, 4, 0, 0, []),
  (112, .baload, 1, 0, 0, 0, 0, []),
  (113, .sipush 255, 3, 255, 0, 0, 0, []),
  (116, .iand, 1, 0, 0, 0, 0, []),
  (117, .goto 4, 3, 0, 121, 0, 0, []),
  (120, .iconst (-1), 1, (-1), 0, 0, 0, []),
  (121, .ireturn, 1, 0, 0, 0, 0, [])]
def am_c169 : List (Nat × am_Row) := am_c169_0 ++ (am_c169_1)
/-- BrotliWordsModel.distanceSigns()I -/
def am_c170 : List (Nat × am_Row) := [(0, .bipush 16, 2, 16, 0, 0, 0, []),
  (2, .aload_n 0, 1, 0, 0, 0, 0, []),
  (3, .getfield 202, 3, 0, 13, 23, 0, []),
  (6, .iadd, 1, 0, 0, 0, 0, []),
  (7, .bipush 48, 2, 48, 0, 0, 0, []),
  (9, .aload_n 0, 1, 0, 0, 0, 0, []),
  (10, .getfield 205, 3, 0, 13, 22, 0, []),
  (13, .ishl, 1, 0, 0, 0, 0, []),
  (14, .iadd, 1, 0, 0, 0, 0, []),
  (15, .ireturn, 1, 0, 0, 0, 0, [])]
/-- BrotliWordsModel.layCodes(II)V -/
def am_c171 : List (Nat × am_Row) := [(0, .iconst 0, 1, 0, 0, 0, 0, []),
  (1, .istore_n 3, 1, 0, 3, 0, 0, []),
  (2, .iconst 1, 1, 1, 0, 0, 0, []),
  (3, .istore 4, 2, 0, 4, 0, 0, []),
  (5, .iload 4, 2, 0, 4, 0, 0, []),
  (7, .bipush 15, 2, 15, 0, 0, 0, []),
  (9, .if_icmp .gt 55, 3, 0, 64, 0, 0, []),
  (12, .iconst 0, 1, 0, 0, 0, 0, []),
  (13, .istore 5, 2, 0, 5, 0, 0, []),
  (15, .iload 5, 2, 0, 5, 0, 0, []),
  (17, .iload_n 2, 1, 0, 2, 0, 0, []),
  (18, .if_icmp .ge 36, 3, 0, 54, 0, 0, []),
  (21, .aload_n 0, 1, 0, 0, 0, 0, []),
  (22, .getfield 43, 3, 0, 13, 11, 1, []),
  (25, .iload_n 1, 1, 0, 1, 0, 0, []),
  (26, .iload 5, 2, 0, 5, 0, 0, []),
  (28, .iadd, 1, 0, 0, 0, 0, []),
  (29, .iaload, 1, 0, 0, 0, 0, []),
  (30, .iload 4, 2, 0, 4, 0, 0, []),
  (32, .if_icmp .ne 16, 3, 0, 48, 0, 0, []),
  (35, .aload_n 0, 1, 0, 0, 0, 0, []),
  (36, .getfield 46, 3, 0, 13, 12, 1, []),
  (39, .iload_n 1, 1, 0, 1, 0, 0, []),
  (40, .iload 5, 2, 0, 5, 0, 0, []),
  (42, .iadd, 1, 0, 0, 0, 0, []),
  (43, .iload_n 3, 1, 0, 3, 0, 0, []),
  (44, .iastore, 1, 0, 0, 0, 0, []),
  (45, .iinc 3 1, 3, 1, 3, 0, 0, []),
  (48, .iinc 5 1, 3, 1, 5, 0, 0, []),
  (51, .goto (-36), 3, 0, 15, 0, 0, []),
  (54, .iconst 2, 1, 2, 0, 0, 0, []),
  (55, .iload_n 3, 1, 0, 3, 0, 0, []),
  (56, .imul, 1, 0, 0, 0, 0, []),
  (57, .istore_n 3, 1, 0, 3, 0, 0, []),
  (58, .iinc 4 1, 3, 1, 4, 0, 0, []),
  (61, .goto (-56), 3, 0, 5, 0, 0, []),
  (64, .return_, 1, 0, 0, 0, 0, [])]
/-- BrotliWordsModel.noLengths(II)V -/
def am_c172 : List (Nat × am_Row) := [(0, .iconst 0, 1, 0, 0, 0, 0, []),
  (1, .istore_n 3, 1, 0, 3, 0, 0, []),
  (2, .iload_n 3, 1, 0, 3, 0, 0, []),
  (3, .iload_n 2, 1, 0, 2, 0, 0, []),
  (4, .if_icmp .ge 18, 3, 0, 22, 0, 0, []),
  (7, .aload_n 0, 1, 0, 0, 0, 0, []),
  (8, .getfield 43, 3, 0, 13, 11, 1, []),
  (11, .iload_n 1, 1, 0, 1, 0, 0, []),
  (12, .iload_n 3, 1, 0, 3, 0, 0, []),
  (13, .iadd, 1, 0, 0, 0, 0, []),
  (14, .iconst 0, 1, 0, 0, 0, 0, []),
  (15, .iastore, 1, 0, 0, 0, 0, []),
  (16, .iinc 3 1, 3, 1, 3, 0, 0, []),
  (19, .goto (-17), 3, 0, 2, 0, 0, []),
  (22, .aload_n 0, 1, 0, 0, 0, 0, []),
  (23, .getfield 49, 3, 0, 13, 13, 1, []),
  (26, .iload_n 1, 1, 0, 1, 0, 0, []),
  (27, .iconst (-1), 1, (-1), 0, 0, 0, []),
  (28, .iastore, 1, 0, 0, 0, 0, []),
  (29, .return_, 1, 0, 0, 0, 0, [])]
/-- BrotliWordsModel.bit()I -/
def am_c173 : List (Nat × am_Row) := [(0, .aload_n 0, 1, 0, 0, 0, 0, []),
  (1, .getfield 208, 3, 0, 13, 16, 0, []),
  (4, .bipush 8, 2, 8, 0, 0, 0, []),
  (6, .aload_n 0, 1, 0, 0, 0, 0, []),
  (7, .getfield 211, 3, 0, 13, 15, 0, []),
  (10, .imul, 1, 0, 0, 0, 0, []),
  (11, .if_icmp .ne 8, 3, 0, 19, 0, 0, []),
  (14, .aload_n 0, 1, 0, 0, 0, 0, []),
  (15, .iconst 1, 1, 1, 0, 0, 0, []),
  (16, .invokevirtual 214, 3, 0, 152, 2, 13, []),
  (19, .aload_n 0, 1, 0, 0, 0, 0, []),
  (20, .getfield 52, 3, 0, 13, 14, 1, []),
  (23, .aload_n 0, 1, 0, 0, 0, 0, []),
  (24, .getfield 208, 3, 0, 13, 16, 0, []),
  (27, .bipush 8, 2, 8, 0, 0, 0, []),
  (29, .idiv, 1, 0, 0, 0, 0, []),
  (30, .baload, 1, 0, 0, 0, 0, []),
  (31, .aload_n 0, 1, 0, 0, 0, 0, []),
  (32, .getfield 208, 3, 0, 13, 16, 0, []),
  (35, .bipush 8, 2, 8, 0, 0, 0, []),
  (37, .irem, 1, 0, 0, 0, 0, []),
  (38, .ishr, 1, 0, 0, 0, 0, []),
  (39, .iconst 1, 1, 1, 0, 0, 0, []),
  (40, .iand, 1, 0, 0, 0, 0, []),
  (41, .istore_n 1, 1, 0, 1, 0, 0, []),
  (42, .aload_n 0, 1, 0, 0, 0, 0, []),
  (43, .dup, 1, 0, 0, 0, 0, []),
  (44, .getfield 208, 3, 0, 13, 16, 0, []),
  (47, .iconst 1, 1, 1, 0, 0, 0, []),
  (48, .iadd, 1, 0, 0, 0, 0, []),
  (49, .putfield 208, 3, 0, 13, 16, 0, []),
  (52, .iload_n 1, 1, 0, 1, 0, 0, []),
  (53, .ireturn, 1, 0, 0, 0, 0, [])]
/-- BrotliWordsModel.number(I)I -/
def am_c174 : List (Nat × am_Row) := [(0, .iconst 0, 1, 0, 0, 0, 0, []),
  (1, .istore_n 2, 1, 0, 2, 0, 0, []),
  (2, .iconst 0, 1, 0, 0, 0, 0, []),
  (3, .istore_n 3, 1, 0, 3, 0, 0, []),
  (4, .iload_n 3, 1, 0, 3, 0, 0, []),
  (5, .iload_n 1, 1, 0, 1, 0, 0, []),
  (6, .if_icmp .ge 18, 3, 0, 24, 0, 0, []),
  (9, .iload_n 2, 1, 0, 2, 0, 0, []),
  (10, .aload_n 0, 1, 0, 0, 0, 0, []),
  (11, .invokevirtual 217, 3, 0, 173, 1, 13, []),
  (14, .iload_n 3, 1, 0, 3, 0, 0, []),
  (15, .ishl, 1, 0, 0, 0, 0, []),
  (16, .ior, 1, 0, 0, 0, 0, []),
  (17, .istore_n 2, 1, 0, 2, 0, 0, []),
  (18, .iinc 3 1, 3, 1, 3, 0, 0, []),
  (21, .goto (-17), 3, 0, 4, 0, 0, []),
  (24, .iload_n 2, 1, 0, 2, 0, 0, []),
  (25, .ireturn, 1, 0, 0, 0, 0, [])]
/-- BrotliWordsModel.toByte()V -/
def am_c175 : List (Nat × am_Row) := [(0, .iconst 0, 1, 0, 0, 0, 0, []),
  (1, .istore_n 1, 1, 0, 1, 0, 0, []),
  (2, .aload_n 0, 1, 0, 0, 0, 0, []),
  (3, .getfield 208, 3, 0, 13, 16, 0, []),
  (6, .bipush 8, 2, 8, 0, 0, 0, []),
  (8, .irem, 1, 0, 0, 0, 0, []),
  (9, .ifCond .eq 13, 3, 0, 22, 0, 0, []),
  (12, .iload_n 1, 1, 0, 1, 0, 0, []),
  (13, .aload_n 0, 1, 0, 0, 0, 0, []),
  (14, .invokevirtual 217, 3, 0, 173, 1, 13, []),
  (17, .ior, 1, 0, 0, 0, 0, []),
  (18, .istore_n 1, 1, 0, 1, 0, 0, []),
  (19, .goto (-17), 3, 0, 2, 0, 0, []),
  (22, .iload_n 1, 1, 0, 1, 0, 0, []),
  (23, .ifCond .eq 9, 3, 0, 32, 0, 0, []),
  (26, .aload_n 0, 1, 0, 0, 0, 0, []),
  (27, .bipush 6, 2, 6, 0, 0, 0, []),
  (29, .invokevirtual 214, 3, 0, 152, 2, 13, []),
  (32, .return_, 1, 0, 0, 0, 0, [])]
/-- BrotliWordsModel.sign(II)I -/
def am_c176_0 : List (Nat × am_Row) := [(0, .aload_n 0, 1, 0, 0, 0, 0, []),
  (1, .getfield 49, 3, 0, 13, 13, 1, []),
  (4, .iload_n 1, 1, 0, 1, 0, 0, []),
  (5, .iaload, 1, 0, 0, 0, 0, []),
  (6, .ifCond .lt 10, 3, 0, 16, 0, 0, []),
  (9, .aload_n 0, 1, 0, 0, 0, 0, []),
  (10, .getfield 49, 3, 0, 13, 13, 1, []),
  (13, .iload_n 1, 1, 0, 1, 0, 0, []),
  (14, .iaload, 1, 0, 0, 0, 0, []),
  (15, .ireturn, 1, 0, 0, 0, 0, []),
  (16, .iconst 0, 1, 0, 0, 0, 0, []),
  (17, .istore_n 3, 1, 0, 3, 0, 0, []),
  (18, .iconst 1, 1, 1, 0, 0, 0, []),
  (19, .istore 4, 2, 0, 4, 0, 0, []),
  (21, .iload 4, 2, 0, 4, 0, 0, []),
  (23, .bipush 15, 2, 15, 0, 0, 0, []),
  (25, .if_icmp .gt 63, 3, 0, 88, 0, 0, []),
  (28, .iconst 2, 1, 2, 0, 0, 0, []),
  (29, .iload_n 3, 1, 0, 3, 0, 0, []),
  (30, .imul, 1, 0, 0, 0, 0, []),
  (31, .aload_n 0, 1, 0, 0, 0, 0, []),
  (32, .invokevirtual 217, 3, 0, 173, 1, 13, []),
  (35, .iadd, 1, 0, 0, 0, 0, []),
  (36, .istore_n 3, 1, 0, 3, 0, 0, []),
  (37, .iconst 0, 1, 0, 0, 0, 0, []),
  (38, .istore 5, 2, 0, 5, 0, 0, []),
  (40, .iload 5, 2, 0, 5, 0, 0, []),
  (42, .iload_n 2, 1, 0, 2, 0, 0, []),
  (43, .if_icmp .ge 39, 3, 0, 82, 0, 0, []),
  (46, .aload_n 0, 1, 0, 0, 0, 0, []),
  (47, .getfield 43, 3, 0, 13, 11, 1, []),
  (50, .iload_n 1, 1, 0, 1, 0, 0, []),
  (51, .iload 5, 2, 0, 5, 0, 0, []),
  (53, .iadd, 1, 0, 0, 0, 0, []),
  (54, .iaload, 1, 0, 0, 0, 0, []),
  (55, .iload 4, 2, 0, 4, 0, 0, []),
  (57, .if_icmp .ne 19, 3, 0, 76, 0, 0, []),
  (60, .aload_n 0, 1, 0, 0, 0, 0, []),
  (61, .getfield 46, 3, 0, 13, 12, 1, []),
  (64, .iload_n 1, 1, 0, 1, 0, 0, [])]
def am_c176_1 : List (Nat × am_Row) := [(65, .iload 5, 2, 0, 5, 0, 0, []),
  (67, .iadd, 1, 0, 0, 0, 0, []),
  (68, .iaload, 1, 0, 0, 0, 0, []),
  (69, .iload_n 3, 1, 0, 3, 0, 0, []),
  (70, .if_icmp .ne 6, 3, 0, 76, 0, 0, []),
  (73, .iload 5, 2, 0, 5, 0, 0, []),
  (75, .ireturn, 1, 0, 0, 0, 0, []),
  (76, .iinc 5 1, 3, 1, 5, 0, 0, []),
  (79, .goto (-39), 3, 0, 40, 0, 0, []),
  (82, .iinc 4 1, 3, 1, 4, 0, 0, []),
  (85, .goto (-64), 3, 0, 21, 0, 0, []),
  (88, .iconst 0, 1, 0, 0, 0, 0, []),
  (89, .ireturn, 1, 0, 0, 0, 0, [])]
def am_c176 : List (Nat × am_Row) := am_c176_0 ++ (am_c176_1)
/-- BrotliWordsModel.widthOf(I)I -/
def am_c177 : List (Nat × am_Row) := [(0, .iconst 0, 1, 0, 0, 0, 0, []),
  (1, .istore_n 1, 1, 0, 1, 0, 0, []),
  (2, .iload_n 0, 1, 0, 0, 0, 0, []),
  (3, .iload_n 1, 1, 0, 1, 0, 0, []),
  (4, .ishr, 1, 0, 0, 0, 0, []),
  (5, .ifCond .le 9, 3, 0, 14, 0, 0, []),
  (8, .iinc 1 1, 3, 1, 1, 0, 0, []),
  (11, .goto (-9), 3, 0, 2, 0, 0, []),
  (14, .iload_n 1, 1, 0, 1, 0, 0, []),
  (15, .ireturn, 1, 0, 0, 0, 0, [])]
/-- BrotliWordsModel.readCode(II)V -/
def am_c178 : List (Nat × am_Row) := [(0, .aload_n 0, 1, 0, 0, 0, 0, []),
  (1, .iload_n 1, 1, 0, 1, 0, 0, []),
  (2, .iload_n 2, 1, 0, 2, 0, 0, []),
  (3, .invokevirtual 220, 3, 0, 172, 3, 13, []),
  (6, .aload_n 0, 1, 0, 0, 0, 0, []),
  (7, .iconst 2, 1, 2, 0, 0, 0, []),
  (8, .invokevirtual 224, 3, 0, 174, 2, 13, []),
  (11, .istore_n 3, 1, 0, 3, 0, 0, []),
  (12, .iload_n 3, 1, 0, 3, 0, 0, []),
  (13, .iconst 1, 1, 1, 0, 0, 0, []),
  (14, .if_icmp .ne 12, 3, 0, 26, 0, 0, []),
  (17, .aload_n 0, 1, 0, 0, 0, 0, []),
  (18, .iload_n 1, 1, 0, 1, 0, 0, []),
  (19, .iload_n 2, 1, 0, 2, 0, 0, []),
  (20, .invokevirtual 228, 3, 0, 179, 3, 13, []),
  (23, .goto 14, 3, 0, 37, 0, 0, []),
  (26, .aload_n 0, 1, 0, 0, 0, 0, []),
  (27, .iload_n 3, 1, 0, 3, 0, 0, []),
  (28, .invokevirtual 231, 3, 0, 183, 2, 13, []),
  (31, .aload_n 0, 1, 0, 0, 0, 0, []),
  (32, .iload_n 1, 1, 0, 1, 0, 0, []),
  (33, .iload_n 2, 1, 0, 2, 0, 0, []),
  (34, .invokevirtual 234, 3, 0, 184, 3, 13, []),
  (37, .aload_n 0, 1, 0, 0, 0, 0, []),
  (38, .iload_n 1, 1, 0, 1, 0, 0, []),
  (39, .iload_n 2, 1, 0, 2, 0, 0, []),
  (40, .invokevirtual 237, 3, 0, 171, 3, 13, []),
  (43, .return_, 1, 0, 0, 0, 0, [])]
/-- BrotliWordsModel.readFew(II)V -/
def am_c179_0 : List (Nat × am_Row) := [(0, .aload_n 0, 1, 0, 0, 0, 0, []),
  (1, .iconst 2, 1, 2, 0, 0, 0, []),
  (2, .invokevirtual 224, 3, 0, 174, 2, 13, []),
  (5, .iconst 1, 1, 1, 0, 0, 0, []),
  (6, .iadd, 1, 0, 0, 0, 0, []),
  (7, .istore_n 3, 1, 0, 3, 0, 0, []),
  (8, .iconst 0, 1, 0, 0, 0, 0, []),
  (9, .istore 4, 2, 0, 4, 0, 0, []),
  (11, .iload 4, 2, 0, 4, 0, 0, []),
  (13, .iload_n 3, 1, 0, 3, 0, 0, []),
  (14, .if_icmp .ge 100, 3, 0, 114, 0, 0, []),
  (17, .aload_n 0, 1, 0, 0, 0, 0, []),
  (18, .getfield 55, 3, 0, 13, 17, 1, []),
  (21, .iload 4, 2, 0, 4, 0, 0, []),
  (23, .aload_n 0, 1, 0, 0, 0, 0, []),
  (24, .iload_n 2, 1, 0, 2, 0, 0, []),
  (25, .iconst 1, 1, 1, 0, 0, 0, []),
  (26, .isub, 1, 0, 0, 0, 0, []),
  (27, .invokestatic 240, 3, 0, 177, 1, 999, []),
  (30, .invokevirtual 224, 3, 0, 174, 2, 13, []),
  (33, .iastore, 1, 0, 0, 0, 0, []),
  (34, .aload_n 0, 1, 0, 0, 0, 0, []),
  (35, .getfield 55, 3, 0, 13, 17, 1, []),
  (38, .iload 4, 2, 0, 4, 0, 0, []),
  (40, .iaload, 1, 0, 0, 0, 0, []),
  (41, .iload_n 2, 1, 0, 2, 0, 0, []),
  (42, .if_icmp .ge 7, 3, 0, 49, 0, 0, []),
  (45, .iconst 1, 1, 1, 0, 0, 0, []),
  (46, .goto 4, 3, 0, 50, 0, 0, []),
  (49, .iconst 0, 1, 0, 0, 0, 0, []),
  (50, .istore 5, 2, 0, 5, 0, 0, []),
  (52, .iconst 0, 1, 0, 0, 0, 0, []),
  (53, .istore 6, 2, 0, 6, 0, 0, []),
  (55, .iload 6, 2, 0, 6, 0, 0, []),
  (57, .iload 4, 2, 0, 4, 0, 0, []),
  (59, .if_icmp .ge 38, 3, 0, 97, 0, 0, []),
  (62, .iload 5, 2, 0, 5, 0, 0, []),
  (64, .ifCond .eq 24, 3, 0, 88, 0, 0, []),
  (67, .aload_n 0, 1, 0, 0, 0, 0, []),
  (68, .getfield 55, 3, 0, 13, 17, 1, [])]
def am_c179_1 : List (Nat × am_Row) := [(71, .iload 6, 2, 0, 6, 0, 0, []),
  (73, .iaload, 1, 0, 0, 0, 0, []),
  (74, .aload_n 0, 1, 0, 0, 0, 0, []),
  (75, .getfield 55, 3, 0, 13, 17, 1, []),
  (78, .iload 4, 2, 0, 4, 0, 0, []),
  (80, .iaload, 1, 0, 0, 0, 0, []),
  (81, .if_icmp .eq 7, 3, 0, 88, 0, 0, []),
  (84, .iconst 1, 1, 1, 0, 0, 0, []),
  (85, .goto 4, 3, 0, 89, 0, 0, []),
  (88, .iconst 0, 1, 0, 0, 0, 0, []),
  (89, .istore 5, 2, 0, 5, 0, 0, []),
  (91, .iinc 6 1, 3, 1, 6, 0, 0, []),
  (94, .goto (-39), 3, 0, 55, 0, 0, []),
  (97, .iload 5, 2, 0, 5, 0, 0, []),
  (99, .ifCond .ne 9, 3, 0, 108, 0, 0, []),
  (102, .aload_n 0, 1, 0, 0, 0, 0, []),
  (103, .bipush 12, 2, 12, 0, 0, 0, []),
  (105, .invokevirtual 214, 3, 0, 152, 2, 13, []),
  (108, .iinc 4 1, 3, 1, 4, 0, 0, []),
  (111, .goto (-100), 3, 0, 11, 0, 0, []),
  (114, .iload_n 3, 1, 0, 3, 0, 0, []),
  (115, .iconst 4, 1, 4, 0, 0, 0, []),
  (116, .if_icmp .ne 10, 3, 0, 126, 0, 0, []),
  (119, .aload_n 0, 1, 0, 0, 0, 0, []),
  (120, .invokevirtual 217, 3, 0, 173, 1, 13, []),
  (123, .goto 4, 3, 0, 127, 0, 0, []),
  (126, .iconst 0, 1, 0, 0, 0, 0, []),
  (127, .istore 4, 2, 0, 4, 0, 0, []),
  (129, .iconst 0, 1, 0, 0, 0, 0, []),
  (130, .istore 5, 2, 0, 5, 0, 0, []),
  (132, .iload 5, 2, 0, 5, 0, 0, []),
  (134, .iload_n 3, 1, 0, 3, 0, 0, []),
  (135, .if_icmp .ge 31, 3, 0, 166, 0, 0, []),
  (138, .aload_n 0, 1, 0, 0, 0, 0, []),
  (139, .getfield 43, 3, 0, 13, 11, 1, []),
  (142, .iload_n 1, 1, 0, 1, 0, 0, []),
  (143, .aload_n 0, 1, 0, 0, 0, 0, []),
  (144, .getfield 55, 3, 0, 13, 17, 1, []),
  (147, .iload 5, 2, 0, 5, 0, 0, []),
  (149, .iaload, 1, 0, 0, 0, 0, [])]
def am_c179_2 : List (Nat × am_Row) := [(150, .iadd, 1, 0, 0, 0, 0, []),
  (151, .iload_n 3, 1, 0, 3, 0, 0, []),
  (152, .iload 4, 2, 0, 4, 0, 0, []),
  (154, .iload 5, 2, 0, 5, 0, 0, []),
  (156, .invokestatic 243, 3, 0, 180, 3, 999, []),
  (159, .iastore, 1, 0, 0, 0, 0, []),
  (160, .iinc 5 1, 3, 1, 5, 0, 0, []),
  (163, .goto (-31), 3, 0, 132, 0, 0, []),
  (166, .aload_n 0, 1, 0, 0, 0, 0, []),
  (167, .getfield 49, 3, 0, 13, 13, 1, []),
  (170, .iload_n 1, 1, 0, 1, 0, 0, []),
  (171, .iload_n 3, 1, 0, 3, 0, 0, []),
  (172, .iconst 1, 1, 1, 0, 0, 0, []),
  (173, .if_icmp .ne 12, 3, 0, 185, 0, 0, []),
  (176, .aload_n 0, 1, 0, 0, 0, 0, []),
  (177, .getfield 55, 3, 0, 13, 17, 1, []),
  (180, .iconst 0, 1, 0, 0, 0, 0, []),
  (181, .iaload, 1, 0, 0, 0, 0, []),
  (182, .goto 4, 3, 0, 186, 0, 0, []),
  (185, .iconst (-1), 1, (-1), 0, 0, 0, []),
  (186, .iastore, 1, 0, 0, 0, 0, []),
  (187, .return_, 1, 0, 0, 0, 0, [])]
def am_c179 : List (Nat × am_Row) := am_c179_0 ++ (am_c179_1 ++ (am_c179_2))
/-- BrotliWordsModel.fewLength(III)I -/
def am_c180 : List (Nat × am_Row) := [(0, .iload_n 0, 1, 0, 0, 0, 0, []),
  (1, .iconst 1, 1, 1, 0, 0, 0, []),
  (2, .if_icmp .ne 7, 3, 0, 9, 0, 0, []),
  (5, .iconst 0, 1, 0, 0, 0, 0, []),
  (6, .goto 55, 3, 0, 61, 0, 0, []),
  (9, .iload_n 0, 1, 0, 0, 0, 0, []),
  (10, .iconst 2, 1, 2, 0, 0, 0, []),
  (11, .if_icmp .ne 7, 3, 0, 18, 0, 0, []),
  (14, .iconst 1, 1, 1, 0, 0, 0, []),
  (15, .goto 46, 3, 0, 61, 0, 0, []),
  (18, .iload_n 0, 1, 0, 0, 0, 0, []),
  (19, .iconst 3, 1, 3, 0, 0, 0, []),
  (20, .if_icmp .ne 15, 3, 0, 35, 0, 0, []),
  (23, .iload_n 2, 1, 0, 2, 0, 0, []),
  (24, .ifCond .ne 7, 3, 0, 31, 0, 0, []),
  (27, .iconst 1, 1, 1, 0, 0, 0, []),
  (28, .goto 33, 3, 0, 61, 0, 0, []),
  (31, .iconst 2, 1, 2, 0, 0, 0, []),
  (32, .goto 29, 3, 0, 61, 0, 0, []),
  (35, .iload_n 1, 1, 0, 1, 0, 0, []),
  (36, .ifCond .ne 7, 3, 0, 43, 0, 0, []),
  (39, .iconst 2, 1, 2, 0, 0, 0, []),
  (40, .goto 21, 3, 0, 61, 0, 0, []),
  (43, .iload_n 2, 1, 0, 2, 0, 0, []),
  (44, .ifCond .ne 7, 3, 0, 51, 0, 0, []),
  (47, .iconst 1, 1, 1, 0, 0, 0, []),
  (48, .goto 13, 3, 0, 61, 0, 0, []),
  (51, .iload_n 2, 1, 0, 2, 0, 0, []),
  (52, .iconst 1, 1, 1, 0, 0, 0, []),
  (53, .if_icmp .ne 7, 3, 0, 60, 0, 0, []),
  (56, .iconst 2, 1, 2, 0, 0, 0, []),
  (57, .goto 4, 3, 0, 61, 0, 0, []),
  (60, .iconst 3, 1, 3, 0, 0, 0, []),
  (61, .ireturn, 1, 0, 0, 0, 0, [])]
/-- BrotliWordsModel.markAt(I)I -/
def am_c181 : List (Nat × am_Row) := [(0, .iload_n 0, 1, 0, 0, 0, 0, []),
  (1, .iconst 4, 1, 4, 0, 0, 0, []),
  (2, .if_icmp .ge 9, 3, 0, 11, 0, 0, []),
  (5, .iload_n 0, 1, 0, 0, 0, 0, []),
  (6, .iconst 1, 1, 1, 0, 0, 0, []),
  (7, .iadd, 1, 0, 0, 0, 0, []),
  (8, .goto 57, 3, 0, 65, 0, 0, []),
  (11, .iload_n 0, 1, 0, 0, 0, 0, []),
  (12, .iconst 4, 1, 4, 0, 0, 0, []),
  (13, .if_icmp .ne 7, 3, 0, 20, 0, 0, []),
  (16, .iconst 0, 1, 0, 0, 0, 0, []),
  (17, .goto 48, 3, 0, 65, 0, 0, []),
  (20, .iload_n 0, 1, 0, 0, 0, 0, []),
  (21, .iconst 5, 1, 5, 0, 0, 0, []),
  (22, .if_icmp .ne 7, 3, 0, 29, 0, 0, []),
  (25, .iconst 5, 1, 5, 0, 0, 0, []),
  (26, .goto 39, 3, 0, 65, 0, 0, []),
  (29, .iload_n 0, 1, 0, 0, 0, 0, []),
  (30, .bipush 6, 2, 6, 0, 0, 0, []),
  (32, .if_icmp .ne 8, 3, 0, 40, 0, 0, []),
  (35, .bipush 17, 2, 17, 0, 0, 0, []),
  (37, .goto 28, 3, 0, 65, 0, 0, []),
  (40, .iload_n 0, 1, 0, 0, 0, 0, []),
  (41, .bipush 7, 2, 7, 0, 0, 0, []),
  (43, .if_icmp .ne 8, 3, 0, 51, 0, 0, []),
  (46, .bipush 6, 2, 6, 0, 0, 0, []),
  (48, .goto 17, 3, 0, 65, 0, 0, []),
  (51, .iload_n 0, 1, 0, 0, 0, 0, []),
  (52, .bipush 8, 2, 8, 0, 0, 0, []),
  (54, .if_icmp .ne 8, 3, 0, 62, 0, 0, []),
  (57, .bipush 16, 2, 16, 0, 0, 0, []),
  (59, .goto 6, 3, 0, 65, 0, 0, []),
  (62, .iload_n 0, 1, 0, 0, 0, 0, []),
  (63, .iconst 2, 1, 2, 0, 0, 0, []),
  (64, .isub, 1, 0, 0, 0, 0, []),
  (65, .ireturn, 1, 0, 0, 0, 0, [])]
/-- BrotliWordsModel.markLength()I -/
def am_c182 : List (Nat × am_Row) := [(0, .aload_n 0, 1, 0, 0, 0, 0, []),
  (1, .invokevirtual 217, 3, 0, 173, 1, 13, []),
  (4, .istore_n 1, 1, 0, 1, 0, 0, []),
  (5, .aload_n 0, 1, 0, 0, 0, 0, []),
  (6, .invokevirtual 217, 3, 0, 173, 1, 13, []),
  (9, .istore_n 2, 1, 0, 2, 0, 0, []),
  (10, .iload_n 1, 1, 0, 1, 0, 0, []),
  (11, .ifCond .ne 13, 3, 0, 24, 0, 0, []),
  (14, .iload_n 2, 1, 0, 2, 0, 0, []),
  (15, .ifCond .ne 7, 3, 0, 22, 0, 0, []),
  (18, .iconst 0, 1, 0, 0, 0, 0, []),
  (19, .goto 4, 3, 0, 23, 0, 0, []),
  (22, .iconst 3, 1, 3, 0, 0, 0, []),
  (23, .ireturn, 1, 0, 0, 0, 0, []),
  (24, .iload_n 2, 1, 0, 2, 0, 0, []),
  (25, .ifCond .ne 5, 3, 0, 30, 0, 0, []),
  (28, .iconst 4, 1, 4, 0, 0, 0, []),
  (29, .ireturn, 1, 0, 0, 0, 0, []),
  (30, .aload_n 0, 1, 0, 0, 0, 0, []),
  (31, .invokevirtual 217, 3, 0, 173, 1, 13, []),
  (34, .ifCond .ne 5, 3, 0, 39, 0, 0, []),
  (37, .iconst 2, 1, 2, 0, 0, 0, []),
  (38, .ireturn, 1, 0, 0, 0, 0, []),
  (39, .aload_n 0, 1, 0, 0, 0, 0, []),
  (40, .invokevirtual 217, 3, 0, 173, 1, 13, []),
  (43, .ifCond .ne 7, 3, 0, 50, 0, 0, []),
  (46, .iconst 1, 1, 1, 0, 0, 0, []),
  (47, .goto 4, 3, 0, 51, 0, 0, []),
  (50, .iconst 5, 1, 5, 0, 0, 0, []),
  (51, .ireturn, 1, 0, 0, 0, 0, [])]
/-- BrotliWordsModel.readMarks(I)V -/
def am_c183_0 : List (Nat × am_Row) := [(0, .aload_n 0, 1, 0, 0, 0, 0, []),
  (1, .sipush 17910, 3, 17910, 0, 0, 0, []),
  (4, .bipush 18, 2, 18, 0, 0, 0, []),
  (6, .invokevirtual 220, 3, 0, 172, 3, 13, []),
  (9, .iconst 0, 1, 0, 0, 0, 0, []),
  (10, .istore_n 2, 1, 0, 2, 0, 0, []),
  (11, .iconst 0, 1, 0, 0, 0, 0, []),
  (12, .istore_n 3, 1, 0, 3, 0, 0, []),
  (13, .iconst 0, 1, 0, 0, 0, 0, []),
  (14, .istore 4, 2, 0, 4, 0, 0, []),
  (16, .iload_n 1, 1, 0, 1, 0, 0, []),
  (17, .istore 5, 2, 0, 5, 0, 0, []),
  (19, .iload 5, 2, 0, 5, 0, 0, []),
  (21, .bipush 18, 2, 18, 0, 0, 0, []),
  (23, .if_icmp .ge 72, 3, 0, 95, 0, 0, []),
  (26, .iload_n 2, 1, 0, 2, 0, 0, []),
  (27, .bipush 32, 2, 32, 0, 0, 0, []),
  (29, .if_icmp .ge 66, 3, 0, 95, 0, 0, []),
  (32, .aload_n 0, 1, 0, 0, 0, 0, []),
  (33, .invokevirtual 247, 3, 0, 182, 1, 13, []),
  (36, .istore 6, 2, 0, 6, 0, 0, []),
  (38, .aload_n 0, 1, 0, 0, 0, 0, []),
  (39, .getfield 43, 3, 0, 13, 11, 1, []),
  (42, .sipush 17910, 3, 17910, 0, 0, 0, []),
  (45, .iload 5, 2, 0, 5, 0, 0, []),
  (47, .invokestatic 250, 3, 0, 181, 1, 999, []),
  (50, .iadd, 1, 0, 0, 0, 0, []),
  (51, .iload 6, 2, 0, 6, 0, 0, []),
  (53, .iastore, 1, 0, 0, 0, 0, []),
  (54, .iload 6, 2, 0, 6, 0, 0, []),
  (56, .ifCond .le 21, 3, 0, 77, 0, 0, []),
  (59, .iload_n 2, 1, 0, 2, 0, 0, []),
  (60, .bipush 32, 2, 32, 0, 0, 0, []),
  (62, .iload 6, 2, 0, 6, 0, 0, []),
  (64, .ishr, 1, 0, 0, 0, 0, []),
  (65, .iadd, 1, 0, 0, 0, 0, []),
  (66, .istore_n 2, 1, 0, 2, 0, 0, []),
  (67, .iinc 3 1, 3, 1, 3, 0, 0, []),
  (70, .iload 5, 2, 0, 5, 0, 0, []),
  (72, .invokestatic 250, 3, 0, 181, 1, 999, [])]
def am_c183_1 : List (Nat × am_Row) := [(75, .istore 4, 2, 0, 4, 0, 0, []),
  (77, .iload_n 2, 1, 0, 2, 0, 0, []),
  (78, .bipush 32, 2, 32, 0, 0, 0, []),
  (80, .if_icmp .le 9, 3, 0, 89, 0, 0, []),
  (83, .aload_n 0, 1, 0, 0, 0, 0, []),
  (84, .bipush 13, 2, 13, 0, 0, 0, []),
  (86, .invokevirtual 214, 3, 0, 152, 2, 13, []),
  (89, .iinc 5 1, 3, 1, 5, 0, 0, []),
  (92, .goto (-73), 3, 0, 19, 0, 0, []),
  (95, .iload_n 3, 1, 0, 3, 0, 0, []),
  (96, .ifCond .eq 14, 3, 0, 110, 0, 0, []),
  (99, .iload_n 3, 1, 0, 3, 0, 0, []),
  (100, .iconst 1, 1, 1, 0, 0, 0, []),
  (101, .if_icmp .le 15, 3, 0, 116, 0, 0, []),
  (104, .iload_n 2, 1, 0, 2, 0, 0, []),
  (105, .bipush 32, 2, 32, 0, 0, 0, []),
  (107, .if_icmp .eq 9, 3, 0, 116, 0, 0, []),
  (110, .aload_n 0, 1, 0, 0, 0, 0, []),
  (111, .bipush 13, 2, 13, 0, 0, 0, []),
  (113, .invokevirtual 214, 3, 0, 152, 2, 13, []),
  (116, .aload_n 0, 1, 0, 0, 0, 0, []),
  (117, .getfield 49, 3, 0, 13, 13, 1, []),
  (120, .sipush 17910, 3, 17910, 0, 0, 0, []),
  (123, .iload_n 3, 1, 0, 3, 0, 0, []),
  (124, .iconst 1, 1, 1, 0, 0, 0, []),
  (125, .if_icmp .ne 8, 3, 0, 133, 0, 0, []),
  (128, .iload 4, 2, 0, 4, 0, 0, []),
  (130, .goto 4, 3, 0, 134, 0, 0, []),
  (133, .iconst (-1), 1, (-1), 0, 0, 0, []),
  (134, .iastore, 1, 0, 0, 0, 0, []),
  (135, .aload_n 0, 1, 0, 0, 0, 0, []),
  (136, .sipush 17910, 3, 17910, 0, 0, 0, []),
  (139, .bipush 18, 2, 18, 0, 0, 0, []),
  (141, .invokevirtual 237, 3, 0, 171, 3, 13, []),
  (144, .return_, 1, 0, 0, 0, 0, [])]
def am_c183 : List (Nat × am_Row) := am_c183_0 ++ (am_c183_1)
/-- BrotliWordsModel.readLengths(II)V -/
def am_c184_0 : List (Nat × am_Row) := [(0, .iconst 0, 1, 0, 0, 0, 0, []),
  (1, .istore_n 3, 1, 0, 3, 0, 0, []),
  (2, .iconst 0, 1, 0, 0, 0, 0, []),
  (3, .istore 4, 2, 0, 4, 0, 0, []),
  (5, .bipush 8, 2, 8, 0, 0, 0, []),
  (7, .istore 5, 2, 0, 5, 0, 0, []),
  (9, .iconst 0, 1, 0, 0, 0, 0, []),
  (10, .istore 6, 2, 0, 6, 0, 0, []),
  (12, .iconst 0, 1, 0, 0, 0, 0, []),
  (13, .istore 7, 2, 0, 7, 0, 0, []),
  (15, .iload 4, 2, 0, 4, 0, 0, []),
  (17, .ldc 253, 2, 32768, 0, 0, 0, []),
  (19, .if_icmp .ge 231, 3, 0, 250, 0, 0, []),
  (22, .iload_n 3, 1, 0, 3, 0, 0, []),
  (23, .iload_n 2, 1, 0, 2, 0, 0, []),
  (24, .if_icmp .ge 226, 3, 0, 250, 0, 0, []),
  (27, .aload_n 0, 1, 0, 0, 0, 0, []),
  (28, .sipush 17910, 3, 17910, 0, 0, 0, []),
  (31, .bipush 18, 2, 18, 0, 0, 0, []),
  (33, .invokevirtual 254, 3, 0, 176, 3, 13, []),
  (36, .istore 8, 2, 0, 8, 0, 0, []),
  (38, .iconst 1, 1, 1, 0, 0, 0, []),
  (39, .istore 9, 2, 0, 9, 0, 0, []),
  (41, .iload 8, 2, 0, 8, 0, 0, []),
  (43, .bipush 16, 2, 16, 0, 0, 0, []),
  (45, .if_icmp .ge 23, 3, 0, 68, 0, 0, []),
  (48, .iconst 0, 1, 0, 0, 0, 0, []),
  (49, .istore 6, 2, 0, 6, 0, 0, []),
  (51, .iload 8, 2, 0, 8, 0, 0, []),
  (53, .ifCond .le 8, 3, 0, 61, 0, 0, []),
  (56, .iload 8, 2, 0, 8, 0, 0, []),
  (58, .goto 5, 3, 0, 63, 0, 0, []),
  (61, .iload 5, 2, 0, 5, 0, 0, []),
  (63, .istore 5, 2, 0, 5, 0, 0, []),
  (65, .goto 80, 3, 0, 145, 0, 0, []),
  (68, .aload_n 0, 1, 0, 0, 0, 0, []),
  (69, .iload 8, 2, 0, 8, 0, 0, []),
  (71, .bipush 14, 2, 14, 0, 0, 0, []),
  (73, .isub, 1, 0, 0, 0, 0, []),
  (74, .invokevirtual 224, 3, 0, 174, 2, 13, [])]
def am_c184_1 : List (Nat × am_Row) := [(77, .istore 10, 2, 0, 10, 0, 0, []),
  (79, .iload 6, 2, 0, 6, 0, 0, []),
  (81, .iload 8, 2, 0, 8, 0, 0, []),
  (83, .if_icmp .ne 29, 3, 0, 112, 0, 0, []),
  (86, .iload 8, 2, 0, 8, 0, 0, []),
  (88, .bipush 16, 2, 16, 0, 0, 0, []),
  (90, .if_icmp .ne 7, 3, 0, 97, 0, 0, []),
  (93, .iconst 4, 1, 4, 0, 0, 0, []),
  (94, .goto 5, 3, 0, 99, 0, 0, []),
  (97, .bipush 8, 2, 8, 0, 0, 0, []),
  (99, .iload 7, 2, 0, 7, 0, 0, []),
  (101, .iconst 2, 1, 2, 0, 0, 0, []),
  (102, .isub, 1, 0, 0, 0, 0, []),
  (103, .imul, 1, 0, 0, 0, 0, []),
  (104, .iconst 3, 1, 3, 0, 0, 0, []),
  (105, .iadd, 1, 0, 0, 0, 0, []),
  (106, .iload 10, 2, 0, 10, 0, 0, []),
  (108, .iadd, 1, 0, 0, 0, 0, []),
  (109, .goto 7, 3, 0, 116, 0, 0, []),
  (112, .iconst 3, 1, 3, 0, 0, 0, []),
  (113, .iload 10, 2, 0, 10, 0, 0, []),
  (115, .iadd, 1, 0, 0, 0, 0, []),
  (116, .istore 11, 2, 0, 11, 0, 0, []),
  (118, .iload 6, 2, 0, 6, 0, 0, []),
  (120, .iload 8, 2, 0, 8, 0, 0, []),
  (122, .if_icmp .ne 11, 3, 0, 133, 0, 0, []),
  (125, .iload 11, 2, 0, 11, 0, 0, []),
  (127, .iload 7, 2, 0, 7, 0, 0, []),
  (129, .isub, 1, 0, 0, 0, 0, []),
  (130, .goto 5, 3, 0, 135, 0, 0, []),
  (133, .iload 11, 2, 0, 11, 0, 0, []),
  (135, .istore 9, 2, 0, 9, 0, 0, []),
  (137, .iload 11, 2, 0, 11, 0, 0, []),
  (139, .istore 7, 2, 0, 7, 0, 0, []),
  (141, .iload 8, 2, 0, 8, 0, 0, []),
  (143, .istore 6, 2, 0, 6, 0, 0, []),
  (145, .iload 9, 2, 0, 9, 0, 0, []),
  (147, .iload_n 2, 1, 0, 2, 0, 0, []),
  (148, .iload_n 3, 1, 0, 3, 0, 0, []),
  (149, .isub, 1, 0, 0, 0, 0, [])]
def am_c184_2 : List (Nat × am_Row) := [(150, .if_icmp .le 9, 3, 0, 159, 0, 0, []),
  (153, .aload_n 0, 1, 0, 0, 0, 0, []),
  (154, .bipush 14, 2, 14, 0, 0, 0, []),
  (156, .invokevirtual 214, 3, 0, 152, 2, 13, []),
  (159, .iload 8, 2, 0, 8, 0, 0, []),
  (161, .bipush 16, 2, 16, 0, 0, 0, []),
  (163, .if_icmp .ge 8, 3, 0, 171, 0, 0, []),
  (166, .iload 8, 2, 0, 8, 0, 0, []),
  (168, .goto 16, 3, 0, 184, 0, 0, []),
  (171, .iload 8, 2, 0, 8, 0, 0, []),
  (173, .bipush 16, 2, 16, 0, 0, 0, []),
  (175, .if_icmp .ne 8, 3, 0, 183, 0, 0, []),
  (178, .iload 5, 2, 0, 5, 0, 0, []),
  (180, .goto 4, 3, 0, 184, 0, 0, []),
  (183, .iconst 0, 1, 0, 0, 0, 0, []),
  (184, .istore 10, 2, 0, 10, 0, 0, []),
  (186, .iconst 0, 1, 0, 0, 0, 0, []),
  (187, .istore 11, 2, 0, 11, 0, 0, []),
  (189, .iload 11, 2, 0, 11, 0, 0, []),
  (191, .iload 9, 2, 0, 9, 0, 0, []),
  (193, .if_icmp .ge 41, 3, 0, 234, 0, 0, []),
  (196, .aload_n 0, 1, 0, 0, 0, 0, []),
  (197, .getfield 43, 3, 0, 13, 11, 1, []),
  (200, .iload_n 1, 1, 0, 1, 0, 0, []),
  (201, .iload_n 3, 1, 0, 3, 0, 0, []),
  (202, .iadd, 1, 0, 0, 0, 0, []),
  (203, .iload 10, 2, 0, 10, 0, 0, []),
  (205, .iastore, 1, 0, 0, 0, 0, []),
  (206, .iinc 3 1, 3, 1, 3, 0, 0, []),
  (209, .iload 4, 2, 0, 4, 0, 0, []),
  (211, .iload 10, 2, 0, 10, 0, 0, []),
  (213, .ifCond .le 11, 3, 0, 224, 0, 0, []),
  (216, .ldc 253, 2, 32768, 0, 0, 0, []),
  (218, .iload 10, 2, 0, 10, 0, 0, []),
  (220, .ishr, 1, 0, 0, 0, 0, []),
  (221, .goto 4, 3, 0, 225, 0, 0, []),
  (224, .iconst 0, 1, 0, 0, 0, 0, []),
  (225, .iadd, 1, 0, 0, 0, 0, []),
  (226, .istore 4, 2, 0, 4, 0, 0, []),
  (228, .iinc 11 1, 3, 1, 11, 0, 0, [])]
def am_c184_3 : List (Nat × am_Row) := [(231, .goto (-42), 3, 0, 189, 0, 0, []),
  (234, .iload 4, 2, 0, 4, 0, 0, []),
  (236, .ldc 253, 2, 32768, 0, 0, 0, []),
  (238, .if_icmp .le 9, 3, 0, 247, 0, 0, []),
  (241, .aload_n 0, 1, 0, 0, 0, 0, []),
  (242, .bipush 14, 2, 14, 0, 0, 0, []),
  (244, .invokevirtual 214, 3, 0, 152, 2, 13, []),
  (247, .goto (-232), 3, 0, 15, 0, 0, []),
  (250, .iload 4, 2, 0, 4, 0, 0, []),
  (252, .ldc 253, 2, 32768, 0, 0, 0, []),
  (254, .if_icmp .eq 9, 3, 0, 263, 0, 0, []),
  (257, .aload_n 0, 1, 0, 0, 0, 0, []),
  (258, .bipush 14, 2, 14, 0, 0, 0, []),
  (260, .invokevirtual 214, 3, 0, 152, 2, 13, []),
  (263, .return_, 1, 0, 0, 0, 0, [])]
def am_c184 : List (Nat × am_Row) := am_c184_0 ++ (am_c184_1 ++ (am_c184_2 ++ (am_c184_3)))
/-- BrotliWordsModel.tell(II)V -/
def am_c185 : List (Nat × am_Row) := [(0, .aload_n 0, 1, 0, 0, 0, 0, []),
  (1, .getfield 257, 3, 0, 13, 19, 0, []),
  (4, .i2l, 1, 0, 0, 0, 0, []),
  (5, .lconst 1, 1, 1, 0, 0, 0, []),
  (6, .ldc2_w 260, 3, 60, 0, 0, 0, []),
  (9, .invokestatic 163, 3, 0, 901, 3, 0, []),
  (12, .ifCond .eq 20, 3, 0, 32, 0, 0, []),
  (15, .aload_n 0, 1, 0, 0, 0, 0, []),
  (16, .getfield 58, 3, 0, 13, 18, 1, []),
  (19, .bipush 12, 2, 12, 0, 0, 0, []),
  (21, .aload_n 0, 1, 0, 0, 0, 0, []),
  (22, .getfield 257, 3, 0, 13, 19, 0, []),
  (25, .iconst 1, 1, 1, 0, 0, 0, []),
  (26, .isub, 1, 0, 0, 0, 0, []),
  (27, .imul, 1, 0, 0, 0, 0, []),
  (28, .iload_n 1, 1, 0, 1, 0, 0, []),
  (29, .iadd, 1, 0, 0, 0, 0, []),
  (30, .iload_n 2, 1, 0, 2, 0, 0, []),
  (31, .iastore, 1, 0, 0, 0, 0, []),
  (32, .return_, 1, 0, 0, 0, 0, [])]
/-- BrotliWordsModel.tellMore(I)V -/
def am_c186 : List (Nat × am_Row) := [(0, .aload_n 0, 1, 0, 0, 0, 0, []),
  (1, .getfield 257, 3, 0, 13, 19, 0, []),
  (4, .i2l, 1, 0, 0, 0, 0, []),
  (5, .lconst 1, 1, 1, 0, 0, 0, []),
  (6, .ldc2_w 260, 3, 60, 0, 0, 0, []),
  (9, .invokestatic 163, 3, 0, 901, 3, 0, []),
  (12, .ifCond .eq 23, 3, 0, 35, 0, 0, []),
  (15, .aload_n 0, 1, 0, 0, 0, 0, []),
  (16, .getfield 58, 3, 0, 13, 18, 1, []),
  (19, .bipush 12, 2, 12, 0, 0, 0, []),
  (21, .aload_n 0, 1, 0, 0, 0, 0, []),
  (22, .getfield 257, 3, 0, 13, 19, 0, []),
  (25, .iconst 1, 1, 1, 0, 0, 0, []),
  (26, .isub, 1, 0, 0, 0, 0, []),
  (27, .imul, 1, 0, 0, 0, 0, []),
  (28, .iload_n 1, 1, 0, 1, 0, 0, []),
  (29, .iadd, 1, 0, 0, 0, 0, []),
  (30, .dup2, 1, 0, 0, 0, 0, []),
  (31, .iaload, 1, 0, 0, 0, 0, []),
  (32, .iconst 1, 1, 1, 0, 0, 0, []),
  (33, .iadd, 1, 0, 0, 0, 0, []),
  (34, .iastore, 1, 0, 0, 0, 0, []),
  (35, .return_, 1, 0, 0, 0, 0, [])]
/-- BrotliWordsModel.newPart(II)V -/
def am_c187 : List (Nat × am_Row) := [(0, .aload_n 0, 1, 0, 0, 0, 0, []),
  (1, .dup, 1, 0, 0, 0, 0, []),
  (2, .getfield 257, 3, 0, 13, 19, 0, []),
  (5, .iconst 1, 1, 1, 0, 0, 0, []),
  (6, .iadd, 1, 0, 0, 0, 0, []),
  (7, .putfield 257, 3, 0, 13, 19, 0, []),
  (10, .iconst 0, 1, 0, 0, 0, 0, []),
  (11, .istore_n 3, 1, 0, 3, 0, 0, []),
  (12, .iload_n 3, 1, 0, 3, 0, 0, []),
  (13, .bipush 12, 2, 12, 0, 0, 0, []),
  (15, .if_icmp .ge 15, 3, 0, 30, 0, 0, []),
  (18, .aload_n 0, 1, 0, 0, 0, 0, []),
  (19, .iload_n 3, 1, 0, 3, 0, 0, []),
  (20, .iconst 0, 1, 0, 0, 0, 0, []),
  (21, .invokevirtual 262, 3, 0, 185, 3, 13, []),
  (24, .iinc 3 1, 3, 1, 3, 0, 0, []),
  (27, .goto (-15), 3, 0, 12, 0, 0, []),
  (30, .aload_n 0, 1, 0, 0, 0, 0, []),
  (31, .iconst 0, 1, 0, 0, 0, 0, []),
  (32, .iload_n 1, 1, 0, 1, 0, 0, []),
  (33, .invokevirtual 262, 3, 0, 185, 3, 13, []),
  (36, .aload_n 0, 1, 0, 0, 0, 0, []),
  (37, .iconst 1, 1, 1, 0, 0, 0, []),
  (38, .iload_n 2, 1, 0, 2, 0, 0, []),
  (39, .invokevirtual 262, 3, 0, 185, 3, 13, []),
  (42, .return_, 1, 0, 0, 0, 0, [])]
/-- BrotliWordsModel.ringAtFirst()V -/
def am_c188 : List (Nat × am_Row) := [(0, .aload_n 0, 1, 0, 0, 0, 0, []),
  (1, .getfield 61, 3, 0, 13, 21, 1, []),
  (4, .iconst 0, 1, 0, 0, 0, 0, []),
  (5, .bipush 16, 2, 16, 0, 0, 0, []),
  (7, .iastore, 1, 0, 0, 0, 0, []),
  (8, .aload_n 0, 1, 0, 0, 0, 0, []),
  (9, .getfield 61, 3, 0, 13, 21, 1, []),
  (12, .iconst 1, 1, 1, 0, 0, 0, []),
  (13, .bipush 15, 2, 15, 0, 0, 0, []),
  (15, .iastore, 1, 0, 0, 0, 0, []),
  (16, .aload_n 0, 1, 0, 0, 0, 0, []),
  (17, .getfield 61, 3, 0, 13, 21, 1, []),
  (20, .iconst 2, 1, 2, 0, 0, 0, []),
  (21, .bipush 11, 2, 11, 0, 0, 0, []),
  (23, .iastore, 1, 0, 0, 0, 0, []),
  (24, .aload_n 0, 1, 0, 0, 0, 0, []),
  (25, .getfield 61, 3, 0, 13, 21, 1, []),
  (28, .iconst 3, 1, 3, 0, 0, 0, []),
  (29, .iconst 4, 1, 4, 0, 0, 0, []),
  (30, .iastore, 1, 0, 0, 0, 0, []),
  (31, .return_, 1, 0, 0, 0, 0, [])]
/-- BrotliWordsModel.toRing(I)V -/
def am_c189 : List (Nat × am_Row) := [(0, .iconst 0, 1, 0, 0, 0, 0, []),
  (1, .istore_n 2, 1, 0, 2, 0, 0, []),
  (2, .iload_n 2, 1, 0, 2, 0, 0, []),
  (3, .iconst 3, 1, 3, 0, 0, 0, []),
  (4, .if_icmp .ge 23, 3, 0, 27, 0, 0, []),
  (7, .aload_n 0, 1, 0, 0, 0, 0, []),
  (8, .getfield 61, 3, 0, 13, 21, 1, []),
  (11, .iload_n 2, 1, 0, 2, 0, 0, []),
  (12, .aload_n 0, 1, 0, 0, 0, 0, []),
  (13, .getfield 61, 3, 0, 13, 21, 1, []),
  (16, .iload_n 2, 1, 0, 2, 0, 0, []),
  (17, .iconst 1, 1, 1, 0, 0, 0, []),
  (18, .iadd, 1, 0, 0, 0, 0, []),
  (19, .iaload, 1, 0, 0, 0, 0, []),
  (20, .iastore, 1, 0, 0, 0, 0, []),
  (21, .iinc 2 1, 3, 1, 2, 0, 0, []),
  (24, .goto (-22), 3, 0, 2, 0, 0, []),
  (27, .aload_n 0, 1, 0, 0, 0, 0, []),
  (28, .getfield 61, 3, 0, 13, 21, 1, []),
  (31, .iconst 3, 1, 3, 0, 0, 0, []),
  (32, .iload_n 1, 1, 0, 1, 0, 0, []),
  (33, .iastore, 1, 0, 0, 0, 0, []),
  (34, .return_, 1, 0, 0, 0, 0, [])]
/-- BrotliWordsModel.howMany()I -/
def am_c190 : List (Nat × am_Row) := [(0, .iconst 1, 1, 1, 0, 0, 0, []),
  (1, .istore_n 1, 1, 0, 1, 0, 0, []),
  (2, .aload_n 0, 1, 0, 0, 0, 0, []),
  (3, .invokevirtual 217, 3, 0, 173, 1, 13, []),
  (6, .iconst 1, 1, 1, 0, 0, 0, []),
  (7, .if_icmp .ne 21, 3, 0, 28, 0, 0, []),
  (10, .aload_n 0, 1, 0, 0, 0, 0, []),
  (11, .iconst 3, 1, 3, 0, 0, 0, []),
  (12, .invokevirtual 224, 3, 0, 174, 2, 13, []),
  (15, .istore_n 2, 1, 0, 2, 0, 0, []),
  (16, .iconst 1, 1, 1, 0, 0, 0, []),
  (17, .iconst 1, 1, 1, 0, 0, 0, []),
  (18, .iload_n 2, 1, 0, 2, 0, 0, []),
  (19, .ishl, 1, 0, 0, 0, 0, []),
  (20, .iadd, 1, 0, 0, 0, 0, []),
  (21, .aload_n 0, 1, 0, 0, 0, 0, []),
  (22, .iload_n 2, 1, 0, 2, 0, 0, []),
  (23, .invokevirtual 224, 3, 0, 174, 2, 13, []),
  (26, .iadd, 1, 0, 0, 0, 0, []),
  (27, .istore_n 1, 1, 0, 1, 0, 0, []),
  (28, .iload_n 1, 1, 0, 1, 0, 0, []),
  (29, .bipush 12, 2, 12, 0, 0, 0, []),
  (31, .if_icmp .le 9, 3, 0, 40, 0, 0, []),
  (34, .aload_n 0, 1, 0, 0, 0, 0, []),
  (35, .bipush 7, 2, 7, 0, 0, 0, []),
  (37, .invokevirtual 214, 3, 0, 152, 2, 13, []),
  (40, .iload_n 1, 1, 0, 1, 0, 0, []),
  (41, .ireturn, 1, 0, 0, 0, 0, [])]
/-- BrotliWordsModel.countBase(I)I -/
def am_c191_0 : List (Nat × am_Row) := [(0, .iload_n 0, 1, 0, 0, 0, 0, []),
  (1, .tableswitch 200 0 24 #[115, 117, 119, 122, 125, 128, 131, 134, 137, 140, 143, 146, 149, 152, 156, 160, 164, 168, 172, 176, 180, 184, 188, 192, 196], 115, 0, 201, 0, 0, [(0, 116), (1, 118), (2, 120), (3, 123), (4, 126), (5, 129), (6, 132), (7, 135), (8, 138), (9, 141), (10, 144), (11, 147), (12, 150), (13, 153), (14, 157), (15, 161), (16, 165), (17, 169), (18, 173), (19, 177), (20, 181), (21, 185), (22, 189), (23, 193), (24, 197)]),
  (116, .iconst 1, 1, 1, 0, 0, 0, []),
  (117, .ireturn, 1, 0, 0, 0, 0, []),
  (118, .iconst 5, 1, 5, 0, 0, 0, []),
  (119, .ireturn, 1, 0, 0, 0, 0, []),
  (120, .bipush 9, 2, 9, 0, 0, 0, []),
  (122, .ireturn, 1, 0, 0, 0, 0, []),
  (123, .bipush 13, 2, 13, 0, 0, 0, []),
  (125, .ireturn, 1, 0, 0, 0, 0, []),
  (126, .bipush 17, 2, 17, 0, 0, 0, []),
  (128, .ireturn, 1, 0, 0, 0, 0, []),
  (129, .bipush 25, 2, 25, 0, 0, 0, []),
  (131, .ireturn, 1, 0, 0, 0, 0, []),
  (132, .bipush 33, 2, 33, 0, 0, 0, []),
  (134, .ireturn, 1, 0, 0, 0, 0, []),
  (135, .bipush 41, 2, 41, 0, 0, 0, []),
  (137, .ireturn, 1, 0, 0, 0, 0, []),
  (138, .bipush 49, 2, 49, 0, 0, 0, []),
  (140, .ireturn, 1, 0, 0, 0, 0, []),
  (141, .bipush 65, 2, 65, 0, 0, 0, []),
  (143, .ireturn, 1, 0, 0, 0, 0, []),
  (144, .bipush 81, 2, 81, 0, 0, 0, []),
  (146, .ireturn, 1, 0, 0, 0, 0, []),
  (147, .bipush 97, 2, 97, 0, 0, 0, []),
  (149, .ireturn, 1, 0, 0, 0, 0, []),
  (150, .bipush 113, 2, 113, 0, 0, 0, []),
  (152, .ireturn, 1, 0, 0, 0, 0, []),
  (153, .sipush 145, 3, 145, 0, 0, 0, []),
  (156, .ireturn, 1, 0, 0, 0, 0, []),
  (157, .sipush 177, 3, 177, 0, 0, 0, []),
  (160, .ireturn, 1, 0, 0, 0, 0, []),
  (161, .sipush 209, 3, 209, 0, 0, 0, []),
  (164, .ireturn, 1, 0, 0, 0, 0, []),
  (165, .sipush 241, 3, 241, 0, 0, 0, []),
  (168, .ireturn, 1, 0, 0, 0, 0, []),
  (169, .sipush 305, 3, 305, 0, 0, 0, []),
  (172, .ireturn, 1, 0, 0, 0, 0, []),
  (173, .sipush 369, 3, 369, 0, 0, 0, []),
  (176, .ireturn, 1, 0, 0, 0, 0, [])]
def am_c191_1 : List (Nat × am_Row) := [(177, .sipush 497, 3, 497, 0, 0, 0, []),
  (180, .ireturn, 1, 0, 0, 0, 0, []),
  (181, .sipush 753, 3, 753, 0, 0, 0, []),
  (184, .ireturn, 1, 0, 0, 0, 0, []),
  (185, .sipush 1265, 3, 1265, 0, 0, 0, []),
  (188, .ireturn, 1, 0, 0, 0, 0, []),
  (189, .sipush 2289, 3, 2289, 0, 0, 0, []),
  (192, .ireturn, 1, 0, 0, 0, 0, []),
  (193, .sipush 4337, 3, 4337, 0, 0, 0, []),
  (196, .ireturn, 1, 0, 0, 0, 0, []),
  (197, .sipush 8433, 3, 8433, 0, 0, 0, []),
  (200, .ireturn, 1, 0, 0, 0, 0, []),
  (201, .sipush 16625, 3, 16625, 0, 0, 0, []),
  (204, .ireturn, 1, 0, 0, 0, 0, [])]
def am_c191 : List (Nat × am_Row) := am_c191_0 ++ (am_c191_1)
/-- BrotliWordsModel.countBits(I)I -/
def am_c192 : List (Nat × am_Row) := [(0, .iload_n 0, 1, 0, 0, 0, 0, []),
  (1, .bipush 16, 2, 16, 0, 0, 0, []),
  (3, .if_icmp .ge 11, 3, 0, 14, 0, 0, []),
  (6, .iconst 2, 1, 2, 0, 0, 0, []),
  (7, .iload_n 0, 1, 0, 0, 0, 0, []),
  (8, .iconst 4, 1, 4, 0, 0, 0, []),
  (9, .idiv, 1, 0, 0, 0, 0, []),
  (10, .iadd, 1, 0, 0, 0, 0, []),
  (11, .goto 29, 3, 0, 40, 0, 0, []),
  (14, .iload_n 0, 1, 0, 0, 0, 0, []),
  (15, .bipush 18, 2, 18, 0, 0, 0, []),
  (17, .if_icmp .ge 8, 3, 0, 25, 0, 0, []),
  (20, .bipush 6, 2, 6, 0, 0, 0, []),
  (22, .goto 18, 3, 0, 40, 0, 0, []),
  (25, .iload_n 0, 1, 0, 0, 0, 0, []),
  (26, .bipush 25, 2, 25, 0, 0, 0, []),
  (28, .if_icmp .ge 10, 3, 0, 38, 0, 0, []),
  (31, .iload_n 0, 1, 0, 0, 0, 0, []),
  (32, .bipush 11, 2, 11, 0, 0, 0, []),
  (34, .isub, 1, 0, 0, 0, 0, []),
  (35, .goto 5, 3, 0, 40, 0, 0, []),
  (38, .bipush 24, 2, 24, 0, 0, 0, []),
  (40, .ireturn, 1, 0, 0, 0, 0, [])]
/-- BrotliWordsModel.blockCount(I)I -/
def am_c193 : List (Nat × am_Row) := [(0, .aload_n 0, 1, 0, 0, 0, 0, []),
  (1, .bipush 42, 2, 42, 0, 0, 0, []),
  (3, .bipush 26, 2, 26, 0, 0, 0, []),
  (5, .iload_n 1, 1, 0, 1, 0, 0, []),
  (6, .imul, 1, 0, 0, 0, 0, []),
  (7, .iadd, 1, 0, 0, 0, 0, []),
  (8, .bipush 26, 2, 26, 0, 0, 0, []),
  (10, .invokevirtual 254, 3, 0, 176, 3, 13, []),
  (13, .istore_n 2, 1, 0, 2, 0, 0, []),
  (14, .iload_n 2, 1, 0, 2, 0, 0, []),
  (15, .invokestatic 265, 3, 0, 191, 1, 999, []),
  (18, .aload_n 0, 1, 0, 0, 0, 0, []),
  (19, .iload_n 2, 1, 0, 2, 0, 0, []),
  (20, .invokestatic 268, 3, 0, 192, 1, 999, []),
  (23, .invokevirtual 224, 3, 0, 174, 2, 13, []),
  (26, .iadd, 1, 0, 0, 0, 0, []),
  (27, .ireturn, 1, 0, 0, 0, 0, [])]
/-- BrotliWordsModel.readKinds(I)V -/
def am_c194_0 : List (Nat × am_Row) := [(0, .aload_n 0, 1, 0, 0, 0, 0, []),
  (1, .getfield 64, 3, 0, 13, 24, 1, []),
  (4, .iload_n 1, 1, 0, 1, 0, 0, []),
  (5, .aload_n 0, 1, 0, 0, 0, 0, []),
  (6, .invokevirtual 271, 3, 0, 190, 1, 13, []),
  (9, .iastore, 1, 0, 0, 0, 0, []),
  (10, .aload_n 0, 1, 0, 0, 0, 0, []),
  (11, .iconst 2, 1, 2, 0, 0, 0, []),
  (12, .iload_n 1, 1, 0, 1, 0, 0, []),
  (13, .iadd, 1, 0, 0, 0, 0, []),
  (14, .aload_n 0, 1, 0, 0, 0, 0, []),
  (15, .getfield 64, 3, 0, 13, 24, 1, []),
  (18, .iload_n 1, 1, 0, 1, 0, 0, []),
  (19, .iaload, 1, 0, 0, 0, 0, []),
  (20, .invokevirtual 262, 3, 0, 185, 3, 13, []),
  (23, .aload_n 0, 1, 0, 0, 0, 0, []),
  (24, .getfield 67, 3, 0, 13, 25, 1, []),
  (27, .iload_n 1, 1, 0, 1, 0, 0, []),
  (28, .iconst 0, 1, 0, 0, 0, 0, []),
  (29, .iastore, 1, 0, 0, 0, 0, []),
  (30, .aload_n 0, 1, 0, 0, 0, 0, []),
  (31, .getfield 70, 3, 0, 13, 26, 1, []),
  (34, .iload_n 1, 1, 0, 1, 0, 0, []),
  (35, .iconst 1, 1, 1, 0, 0, 0, []),
  (36, .iastore, 1, 0, 0, 0, 0, []),
  (37, .aload_n 0, 1, 0, 0, 0, 0, []),
  (38, .getfield 73, 3, 0, 13, 27, 1, []),
  (41, .iload_n 1, 1, 0, 1, 0, 0, []),
  (42, .iconst 0, 1, 0, 0, 0, 0, []),
  (43, .iastore, 1, 0, 0, 0, 0, []),
  (44, .aload_n 0, 1, 0, 0, 0, 0, []),
  (45, .getfield 64, 3, 0, 13, 24, 1, []),
  (48, .iload_n 1, 1, 0, 1, 0, 0, []),
  (49, .iaload, 1, 0, 0, 0, 0, []),
  (50, .iconst 1, 1, 1, 0, 0, 0, []),
  (51, .if_icmp .le 43, 3, 0, 94, 0, 0, []),
  (54, .aload_n 0, 1, 0, 0, 0, 0, []),
  (55, .bipush 14, 2, 14, 0, 0, 0, []),
  (57, .iload_n 1, 1, 0, 1, 0, 0, []),
  (58, .imul, 1, 0, 0, 0, 0, [])]
def am_c194_1 : List (Nat × am_Row) := [(59, .aload_n 0, 1, 0, 0, 0, 0, []),
  (60, .getfield 64, 3, 0, 13, 24, 1, []),
  (63, .iload_n 1, 1, 0, 1, 0, 0, []),
  (64, .iaload, 1, 0, 0, 0, 0, []),
  (65, .iconst 2, 1, 2, 0, 0, 0, []),
  (66, .iadd, 1, 0, 0, 0, 0, []),
  (67, .invokevirtual 274, 3, 0, 178, 3, 13, []),
  (70, .aload_n 0, 1, 0, 0, 0, 0, []),
  (71, .bipush 42, 2, 42, 0, 0, 0, []),
  (73, .bipush 26, 2, 26, 0, 0, 0, []),
  (75, .iload_n 1, 1, 0, 1, 0, 0, []),
  (76, .imul, 1, 0, 0, 0, 0, []),
  (77, .iadd, 1, 0, 0, 0, 0, []),
  (78, .bipush 26, 2, 26, 0, 0, 0, []),
  (80, .invokevirtual 274, 3, 0, 178, 3, 13, []),
  (83, .aload_n 0, 1, 0, 0, 0, 0, []),
  (84, .getfield 73, 3, 0, 13, 27, 1, []),
  (87, .iload_n 1, 1, 0, 1, 0, 0, []),
  (88, .aload_n 0, 1, 0, 0, 0, 0, []),
  (89, .iload_n 1, 1, 0, 1, 0, 0, []),
  (90, .invokevirtual 277, 3, 0, 193, 2, 13, []),
  (93, .iastore, 1, 0, 0, 0, 0, []),
  (94, .return_, 1, 0, 0, 0, 0, [])]
def am_c194 : List (Nat × am_Row) := am_c194_0 ++ (am_c194_1)
/-- BrotliWordsModel.takeOne(I)V -/
def am_c195_0 : List (Nat × am_Row) := [(0, .aload_n 0, 1, 0, 0, 0, 0, []),
  (1, .getfield 64, 3, 0, 13, 24, 1, []),
  (4, .iload_n 1, 1, 0, 1, 0, 0, []),
  (5, .iaload, 1, 0, 0, 0, 0, []),
  (6, .iconst 1, 1, 1, 0, 0, 0, []),
  (7, .if_icmp .ne 4, 3, 0, 11, 0, 0, []),
  (10, .return_, 1, 0, 0, 0, 0, []),
  (11, .aload_n 0, 1, 0, 0, 0, 0, []),
  (12, .getfield 73, 3, 0, 13, 27, 1, []),
  (15, .iload_n 1, 1, 0, 1, 0, 0, []),
  (16, .iaload, 1, 0, 0, 0, 0, []),
  (17, .ifCond .ne 90, 3, 0, 107, 0, 0, []),
  (20, .aload_n 0, 1, 0, 0, 0, 0, []),
  (21, .bipush 14, 2, 14, 0, 0, 0, []),
  (23, .iload_n 1, 1, 0, 1, 0, 0, []),
  (24, .imul, 1, 0, 0, 0, 0, []),
  (25, .aload_n 0, 1, 0, 0, 0, 0, []),
  (26, .getfield 64, 3, 0, 13, 24, 1, []),
  (29, .iload_n 1, 1, 0, 1, 0, 0, []),
  (30, .iaload, 1, 0, 0, 0, 0, []),
  (31, .iconst 2, 1, 2, 0, 0, 0, []),
  (32, .iadd, 1, 0, 0, 0, 0, []),
  (33, .invokevirtual 254, 3, 0, 176, 3, 13, []),
  (36, .istore_n 2, 1, 0, 2, 0, 0, []),
  (37, .iload_n 2, 1, 0, 2, 0, 0, []),
  (38, .ifCond .ne 12, 3, 0, 50, 0, 0, []),
  (41, .aload_n 0, 1, 0, 0, 0, 0, []),
  (42, .getfield 70, 3, 0, 13, 26, 1, []),
  (45, .iload_n 1, 1, 0, 1, 0, 0, []),
  (46, .iaload, 1, 0, 0, 0, 0, []),
  (47, .goto 29, 3, 0, 76, 0, 0, []),
  (50, .iload_n 2, 1, 0, 2, 0, 0, []),
  (51, .iconst 1, 1, 1, 0, 0, 0, []),
  (52, .if_icmp .ne 21, 3, 0, 73, 0, 0, []),
  (55, .aload_n 0, 1, 0, 0, 0, 0, []),
  (56, .getfield 67, 3, 0, 13, 25, 1, []),
  (59, .iload_n 1, 1, 0, 1, 0, 0, []),
  (60, .iaload, 1, 0, 0, 0, 0, []),
  (61, .iconst 1, 1, 1, 0, 0, 0, []),
  (62, .iadd, 1, 0, 0, 0, 0, [])]
def am_c195_1 : List (Nat × am_Row) := [(63, .aload_n 0, 1, 0, 0, 0, 0, []),
  (64, .getfield 64, 3, 0, 13, 24, 1, []),
  (67, .iload_n 1, 1, 0, 1, 0, 0, []),
  (68, .iaload, 1, 0, 0, 0, 0, []),
  (69, .irem, 1, 0, 0, 0, 0, []),
  (70, .goto 6, 3, 0, 76, 0, 0, []),
  (73, .iload_n 2, 1, 0, 2, 0, 0, []),
  (74, .iconst 2, 1, 2, 0, 0, 0, []),
  (75, .isub, 1, 0, 0, 0, 0, []),
  (76, .istore_n 3, 1, 0, 3, 0, 0, []),
  (77, .aload_n 0, 1, 0, 0, 0, 0, []),
  (78, .getfield 70, 3, 0, 13, 26, 1, []),
  (81, .iload_n 1, 1, 0, 1, 0, 0, []),
  (82, .aload_n 0, 1, 0, 0, 0, 0, []),
  (83, .getfield 67, 3, 0, 13, 25, 1, []),
  (86, .iload_n 1, 1, 0, 1, 0, 0, []),
  (87, .iaload, 1, 0, 0, 0, 0, []),
  (88, .iastore, 1, 0, 0, 0, 0, []),
  (89, .aload_n 0, 1, 0, 0, 0, 0, []),
  (90, .getfield 67, 3, 0, 13, 25, 1, []),
  (93, .iload_n 1, 1, 0, 1, 0, 0, []),
  (94, .iload_n 3, 1, 0, 3, 0, 0, []),
  (95, .iastore, 1, 0, 0, 0, 0, []),
  (96, .aload_n 0, 1, 0, 0, 0, 0, []),
  (97, .getfield 73, 3, 0, 13, 27, 1, []),
  (100, .iload_n 1, 1, 0, 1, 0, 0, []),
  (101, .aload_n 0, 1, 0, 0, 0, 0, []),
  (102, .iload_n 1, 1, 0, 1, 0, 0, []),
  (103, .invokevirtual 277, 3, 0, 193, 2, 13, []),
  (106, .iastore, 1, 0, 0, 0, 0, []),
  (107, .aload_n 0, 1, 0, 0, 0, 0, []),
  (108, .getfield 73, 3, 0, 13, 27, 1, []),
  (111, .iload_n 1, 1, 0, 1, 0, 0, []),
  (112, .dup2, 1, 0, 0, 0, 0, []),
  (113, .iaload, 1, 0, 0, 0, 0, []),
  (114, .iconst 1, 1, 1, 0, 0, 0, []),
  (115, .isub, 1, 0, 0, 0, 0, []),
  (116, .iastore, 1, 0, 0, 0, 0, []),
  (117, .return_, 1, 0, 0, 0, 0, [])]
def am_c195 : List (Nat × am_Row) := am_c195_0 ++ (am_c195_1)
/-- BrotliWordsModel.readMap([III)V -/
def am_c196_0 : List (Nat × am_Row) := [(0, .aload_n 0, 1, 0, 0, 0, 0, []),
  (1, .invokevirtual 217, 3, 0, 173, 1, 13, []),
  (4, .ifCond .ne 7, 3, 0, 11, 0, 0, []),
  (7, .iconst 0, 1, 0, 0, 0, 0, []),
  (8, .goto 10, 3, 0, 18, 0, 0, []),
  (11, .aload_n 0, 1, 0, 0, 0, 0, []),
  (12, .iconst 4, 1, 4, 0, 0, 0, []),
  (13, .invokevirtual 224, 3, 0, 174, 2, 13, []),
  (16, .iconst 1, 1, 1, 0, 0, 0, []),
  (17, .iadd, 1, 0, 0, 0, 0, []),
  (18, .istore 4, 2, 0, 4, 0, 0, []),
  (20, .aload_n 0, 1, 0, 0, 0, 0, []),
  (21, .sipush 17880, 3, 17880, 0, 0, 0, []),
  (24, .iload_n 3, 1, 0, 3, 0, 0, []),
  (25, .iload 4, 2, 0, 4, 0, 0, []),
  (27, .iadd, 1, 0, 0, 0, 0, []),
  (28, .invokevirtual 274, 3, 0, 178, 3, 13, []),
  (31, .iconst 0, 1, 0, 0, 0, 0, []),
  (32, .istore 5, 2, 0, 5, 0, 0, []),
  (34, .iload 5, 2, 0, 5, 0, 0, []),
  (36, .iload_n 2, 1, 0, 2, 0, 0, []),
  (37, .if_icmp .ge 107, 3, 0, 144, 0, 0, []),
  (40, .aload_n 0, 1, 0, 0, 0, 0, []),
  (41, .sipush 17880, 3, 17880, 0, 0, 0, []),
  (44, .iload_n 3, 1, 0, 3, 0, 0, []),
  (45, .iload 4, 2, 0, 4, 0, 0, []),
  (47, .iadd, 1, 0, 0, 0, 0, []),
  (48, .invokevirtual 254, 3, 0, 176, 3, 13, []),
  (51, .istore 6, 2, 0, 6, 0, 0, []),
  (53, .iload 6, 2, 0, 6, 0, 0, []),
  (55, .ifCond .le 65, 3, 0, 120, 0, 0, []),
  (58, .iload 6, 2, 0, 6, 0, 0, []),
  (60, .iload 4, 2, 0, 4, 0, 0, []),
  (62, .if_icmp .gt 58, 3, 0, 120, 0, 0, []),
  (65, .iconst 1, 1, 1, 0, 0, 0, []),
  (66, .iload 6, 2, 0, 6, 0, 0, []),
  (68, .ishl, 1, 0, 0, 0, 0, []),
  (69, .aload_n 0, 1, 0, 0, 0, 0, []),
  (70, .iload 6, 2, 0, 6, 0, 0, []),
  (72, .invokevirtual 224, 3, 0, 174, 2, 13, [])]
def am_c196_1 : List (Nat × am_Row) := [(75, .iadd, 1, 0, 0, 0, 0, []),
  (76, .istore 7, 2, 0, 7, 0, 0, []),
  (78, .iload 7, 2, 0, 7, 0, 0, []),
  (80, .iload_n 2, 1, 0, 2, 0, 0, []),
  (81, .iload 5, 2, 0, 5, 0, 0, []),
  (83, .isub, 1, 0, 0, 0, 0, []),
  (84, .if_icmp .le 9, 3, 0, 93, 0, 0, []),
  (87, .aload_n 0, 1, 0, 0, 0, 0, []),
  (88, .bipush 15, 2, 15, 0, 0, 0, []),
  (90, .invokevirtual 214, 3, 0, 152, 2, 13, []),
  (93, .iconst 0, 1, 0, 0, 0, 0, []),
  (94, .istore 8, 2, 0, 8, 0, 0, []),
  (96, .iload 8, 2, 0, 8, 0, 0, []),
  (98, .iload 7, 2, 0, 7, 0, 0, []),
  (100, .if_icmp .ge 17, 3, 0, 117, 0, 0, []),
  (103, .aload_n 1, 1, 0, 1, 0, 0, []),
  (104, .iload 5, 2, 0, 5, 0, 0, []),
  (106, .iconst 0, 1, 0, 0, 0, 0, []),
  (107, .iastore, 1, 0, 0, 0, 0, []),
  (108, .iinc 5 1, 3, 1, 5, 0, 0, []),
  (111, .iinc 8 1, 3, 1, 8, 0, 0, []),
  (114, .goto (-18), 3, 0, 96, 0, 0, []),
  (117, .goto 24, 3, 0, 141, 0, 0, []),
  (120, .aload_n 1, 1, 0, 1, 0, 0, []),
  (121, .iload 5, 2, 0, 5, 0, 0, []),
  (123, .iload 6, 2, 0, 6, 0, 0, []),
  (125, .ifCond .ne 7, 3, 0, 132, 0, 0, []),
  (128, .iconst 0, 1, 0, 0, 0, 0, []),
  (129, .goto 8, 3, 0, 137, 0, 0, []),
  (132, .iload 6, 2, 0, 6, 0, 0, []),
  (134, .iload 4, 2, 0, 4, 0, 0, []),
  (136, .isub, 1, 0, 0, 0, 0, []),
  (137, .iastore, 1, 0, 0, 0, 0, []),
  (138, .iinc 5 1, 3, 1, 5, 0, 0, []),
  (141, .goto (-107), 3, 0, 34, 0, 0, []),
  (144, .aload_n 0, 1, 0, 0, 0, 0, []),
  (145, .invokevirtual 217, 3, 0, 173, 1, 13, []),
  (148, .iconst 1, 1, 1, 0, 0, 0, []),
  (149, .if_icmp .ne 103, 3, 0, 252, 0, 0, []),
  (152, .iconst 0, 1, 0, 0, 0, 0, [])]
def am_c196_2 : List (Nat × am_Row) := [(153, .istore 6, 2, 0, 6, 0, 0, []),
  (155, .iload 6, 2, 0, 6, 0, 0, []),
  (157, .bipush 12, 2, 12, 0, 0, 0, []),
  (159, .if_icmp .ge 18, 3, 0, 177, 0, 0, []),
  (162, .aload_n 0, 1, 0, 0, 0, 0, []),
  (163, .getfield 97, 3, 0, 13, 41, 1, []),
  (166, .iload 6, 2, 0, 6, 0, 0, []),
  (168, .iload 6, 2, 0, 6, 0, 0, []),
  (170, .iastore, 1, 0, 0, 0, 0, []),
  (171, .iinc 6 1, 3, 1, 6, 0, 0, []),
  (174, .goto (-19), 3, 0, 155, 0, 0, []),
  (177, .iconst 0, 1, 0, 0, 0, 0, []),
  (178, .istore 5, 2, 0, 5, 0, 0, []),
  (180, .iload 5, 2, 0, 5, 0, 0, []),
  (182, .iload_n 2, 1, 0, 2, 0, 0, []),
  (183, .if_icmp .ge 69, 3, 0, 252, 0, 0, []),
  (186, .aload_n 1, 1, 0, 1, 0, 0, []),
  (187, .iload 5, 2, 0, 5, 0, 0, []),
  (189, .iaload, 1, 0, 0, 0, 0, []),
  (190, .istore 6, 2, 0, 6, 0, 0, []),
  (192, .aload_n 0, 1, 0, 0, 0, 0, []),
  (193, .getfield 97, 3, 0, 13, 41, 1, []),
  (196, .iload 6, 2, 0, 6, 0, 0, []),
  (198, .iaload, 1, 0, 0, 0, 0, []),
  (199, .istore 7, 2, 0, 7, 0, 0, []),
  (201, .iload 6, 2, 0, 6, 0, 0, []),
  (203, .istore 8, 2, 0, 8, 0, 0, []),
  (205, .iload 8, 2, 0, 8, 0, 0, []),
  (207, .ifCond .le 25, 3, 0, 232, 0, 0, []),
  (210, .aload_n 0, 1, 0, 0, 0, 0, []),
  (211, .getfield 97, 3, 0, 13, 41, 1, []),
  (214, .iload 8, 2, 0, 8, 0, 0, []),
  (216, .aload_n 0, 1, 0, 0, 0, 0, []),
  (217, .getfield 97, 3, 0, 13, 41, 1, []),
  (220, .iload 8, 2, 0, 8, 0, 0, []),
  (222, .iconst 1, 1, 1, 0, 0, 0, []),
  (223, .isub, 1, 0, 0, 0, 0, []),
  (224, .iaload, 1, 0, 0, 0, 0, []),
  (225, .iastore, 1, 0, 0, 0, 0, []),
  (226, .iinc 8 (-1), 3, (-1), 8, 0, 0, [])]
def am_c196_3 : List (Nat × am_Row) := [(229, .goto (-24), 3, 0, 205, 0, 0, []),
  (232, .aload_n 0, 1, 0, 0, 0, 0, []),
  (233, .getfield 97, 3, 0, 13, 41, 1, []),
  (236, .iconst 0, 1, 0, 0, 0, 0, []),
  (237, .iload 7, 2, 0, 7, 0, 0, []),
  (239, .iastore, 1, 0, 0, 0, 0, []),
  (240, .aload_n 1, 1, 0, 1, 0, 0, []),
  (241, .iload 5, 2, 0, 5, 0, 0, []),
  (243, .iload 7, 2, 0, 7, 0, 0, []),
  (245, .iastore, 1, 0, 0, 0, 0, []),
  (246, .iinc 5 1, 3, 1, 5, 0, 0, []),
  (249, .goto (-69), 3, 0, 180, 0, 0, []),
  (252, .return_, 1, 0, 0, 0, 0, [])]
def am_c196 : List (Nat × am_Row) := am_c196_0 ++ (am_c196_1 ++ (am_c196_2 ++ (am_c196_3)))
/-- BrotliWordsModel.noMaps()V -/
def am_c197 : List (Nat × am_Row) := [(0, .iconst 0, 1, 0, 0, 0, 0, []),
  (1, .istore_n 1, 1, 0, 1, 0, 0, []),
  (2, .iload_n 1, 1, 0, 1, 0, 0, []),
  (3, .sipush 768, 3, 768, 0, 0, 0, []),
  (6, .if_icmp .ge 16, 3, 0, 22, 0, 0, []),
  (9, .aload_n 0, 1, 0, 0, 0, 0, []),
  (10, .getfield 79, 3, 0, 13, 31, 1, []),
  (13, .iload_n 1, 1, 0, 1, 0, 0, []),
  (14, .iconst 0, 1, 0, 0, 0, 0, []),
  (15, .iastore, 1, 0, 0, 0, 0, []),
  (16, .iinc 1 1, 3, 1, 1, 0, 0, []),
  (19, .goto (-17), 3, 0, 2, 0, 0, []),
  (22, .iconst 0, 1, 0, 0, 0, 0, []),
  (23, .istore_n 1, 1, 0, 1, 0, 0, []),
  (24, .iload_n 1, 1, 0, 1, 0, 0, []),
  (25, .bipush 48, 2, 48, 0, 0, 0, []),
  (27, .if_icmp .ge 16, 3, 0, 43, 0, 0, []),
  (30, .aload_n 0, 1, 0, 0, 0, 0, []),
  (31, .getfield 82, 3, 0, 13, 32, 1, []),
  (34, .iload_n 1, 1, 0, 1, 0, 0, []),
  (35, .iconst 0, 1, 0, 0, 0, 0, []),
  (36, .iastore, 1, 0, 0, 0, 0, []),
  (37, .iinc 1 1, 3, 1, 1, 0, 0, []),
  (40, .goto (-16), 3, 0, 24, 0, 0, []),
  (43, .return_, 1, 0, 0, 0, 0, [])]
/-- BrotliWordsModel.readHeads()V -/
def am_c198_0 : List (Nat × am_Row) := [(0, .aload_n 0, 1, 0, 0, 0, 0, []),
  (1, .invokevirtual 280, 3, 0, 197, 1, 13, []),
  (4, .iconst 0, 1, 0, 0, 0, 0, []),
  (5, .istore_n 1, 1, 0, 1, 0, 0, []),
  (6, .iload_n 1, 1, 0, 1, 0, 0, []),
  (7, .iconst 3, 1, 3, 0, 0, 0, []),
  (8, .if_icmp .ge 14, 3, 0, 22, 0, 0, []),
  (11, .aload_n 0, 1, 0, 0, 0, 0, []),
  (12, .iload_n 1, 1, 0, 1, 0, 0, []),
  (13, .invokevirtual 283, 3, 0, 194, 2, 13, []),
  (16, .iinc 1 1, 3, 1, 1, 0, 0, []),
  (19, .goto (-13), 3, 0, 6, 0, 0, []),
  (22, .aload_n 0, 1, 0, 0, 0, 0, []),
  (23, .aload_n 0, 1, 0, 0, 0, 0, []),
  (24, .iconst 2, 1, 2, 0, 0, 0, []),
  (25, .invokevirtual 224, 3, 0, 174, 2, 13, []),
  (28, .putfield 205, 3, 0, 13, 22, 0, []),
  (31, .aload_n 0, 1, 0, 0, 0, 0, []),
  (32, .bipush 7, 2, 7, 0, 0, 0, []),
  (34, .aload_n 0, 1, 0, 0, 0, 0, []),
  (35, .getfield 205, 3, 0, 13, 22, 0, []),
  (38, .invokevirtual 262, 3, 0, 185, 3, 13, []),
  (41, .aload_n 0, 1, 0, 0, 0, 0, []),
  (42, .aload_n 0, 1, 0, 0, 0, 0, []),
  (43, .iconst 4, 1, 4, 0, 0, 0, []),
  (44, .invokevirtual 224, 3, 0, 174, 2, 13, []),
  (47, .aload_n 0, 1, 0, 0, 0, 0, []),
  (48, .getfield 205, 3, 0, 13, 22, 0, []),
  (51, .ishl, 1, 0, 0, 0, 0, []),
  (52, .putfield 202, 3, 0, 13, 23, 0, []),
  (55, .aload_n 0, 1, 0, 0, 0, 0, []),
  (56, .bipush 8, 2, 8, 0, 0, 0, []),
  (58, .aload_n 0, 1, 0, 0, 0, 0, []),
  (59, .getfield 202, 3, 0, 13, 23, 0, []),
  (62, .invokevirtual 262, 3, 0, 185, 3, 13, []),
  (65, .iconst 0, 1, 0, 0, 0, 0, []),
  (66, .istore_n 1, 1, 0, 1, 0, 0, []),
  (67, .iload_n 1, 1, 0, 1, 0, 0, []),
  (68, .aload_n 0, 1, 0, 0, 0, 0, []),
  (69, .getfield 64, 3, 0, 13, 24, 1, [])]
def am_c198_1 : List (Nat × am_Row) := [(72, .iconst 0, 1, 0, 0, 0, 0, []),
  (73, .iaload, 1, 0, 0, 0, 0, []),
  (74, .if_icmp .ge 20, 3, 0, 94, 0, 0, []),
  (77, .aload_n 0, 1, 0, 0, 0, 0, []),
  (78, .getfield 76, 3, 0, 13, 28, 1, []),
  (81, .iload_n 1, 1, 0, 1, 0, 0, []),
  (82, .aload_n 0, 1, 0, 0, 0, 0, []),
  (83, .iconst 2, 1, 2, 0, 0, 0, []),
  (84, .invokevirtual 224, 3, 0, 174, 2, 13, []),
  (87, .iastore, 1, 0, 0, 0, 0, []),
  (88, .iinc 1 1, 3, 1, 1, 0, 0, []),
  (91, .goto (-24), 3, 0, 67, 0, 0, []),
  (94, .aload_n 0, 1, 0, 0, 0, 0, []),
  (95, .aload_n 0, 1, 0, 0, 0, 0, []),
  (96, .invokevirtual 271, 3, 0, 190, 1, 13, []),
  (99, .putfield 286, 3, 0, 13, 29, 0, []),
  (102, .aload_n 0, 1, 0, 0, 0, 0, []),
  (103, .iconst 5, 1, 5, 0, 0, 0, []),
  (104, .aload_n 0, 1, 0, 0, 0, 0, []),
  (105, .getfield 286, 3, 0, 13, 29, 0, []),
  (108, .invokevirtual 262, 3, 0, 185, 3, 13, []),
  (111, .aload_n 0, 1, 0, 0, 0, 0, []),
  (112, .getfield 286, 3, 0, 13, 29, 0, []),
  (115, .iconst 1, 1, 1, 0, 0, 0, []),
  (116, .if_icmp .le 24, 3, 0, 140, 0, 0, []),
  (119, .aload_n 0, 1, 0, 0, 0, 0, []),
  (120, .aload_n 0, 1, 0, 0, 0, 0, []),
  (121, .getfield 79, 3, 0, 13, 31, 1, []),
  (124, .bipush 64, 2, 64, 0, 0, 0, []),
  (126, .aload_n 0, 1, 0, 0, 0, 0, []),
  (127, .getfield 64, 3, 0, 13, 24, 1, []),
  (130, .iconst 0, 1, 0, 0, 0, 0, []),
  (131, .iaload, 1, 0, 0, 0, 0, []),
  (132, .imul, 1, 0, 0, 0, 0, []),
  (133, .aload_n 0, 1, 0, 0, 0, 0, []),
  (134, .getfield 286, 3, 0, 13, 29, 0, []),
  (137, .invokevirtual 289, 3, 0, 196, 4, 13, []),
  (140, .aload_n 0, 1, 0, 0, 0, 0, []),
  (141, .aload_n 0, 1, 0, 0, 0, 0, []),
  (142, .invokevirtual 271, 3, 0, 190, 1, 13, [])]
def am_c198_2 : List (Nat × am_Row) := [(145, .putfield 293, 3, 0, 13, 30, 0, []),
  (148, .aload_n 0, 1, 0, 0, 0, 0, []),
  (149, .bipush 6, 2, 6, 0, 0, 0, []),
  (151, .aload_n 0, 1, 0, 0, 0, 0, []),
  (152, .getfield 293, 3, 0, 13, 30, 0, []),
  (155, .invokevirtual 262, 3, 0, 185, 3, 13, []),
  (158, .aload_n 0, 1, 0, 0, 0, 0, []),
  (159, .getfield 293, 3, 0, 13, 30, 0, []),
  (162, .iconst 1, 1, 1, 0, 0, 0, []),
  (163, .if_icmp .le 23, 3, 0, 186, 0, 0, []),
  (166, .aload_n 0, 1, 0, 0, 0, 0, []),
  (167, .aload_n 0, 1, 0, 0, 0, 0, []),
  (168, .getfield 82, 3, 0, 13, 32, 1, []),
  (171, .iconst 4, 1, 4, 0, 0, 0, []),
  (172, .aload_n 0, 1, 0, 0, 0, 0, []),
  (173, .getfield 64, 3, 0, 13, 24, 1, []),
  (176, .iconst 2, 1, 2, 0, 0, 0, []),
  (177, .iaload, 1, 0, 0, 0, 0, []),
  (178, .imul, 1, 0, 0, 0, 0, []),
  (179, .aload_n 0, 1, 0, 0, 0, 0, []),
  (180, .getfield 293, 3, 0, 13, 30, 0, []),
  (183, .invokevirtual 289, 3, 0, 196, 4, 13, []),
  (186, .iconst 0, 1, 0, 0, 0, 0, []),
  (187, .istore_n 1, 1, 0, 1, 0, 0, []),
  (188, .iload_n 1, 1, 0, 1, 0, 0, []),
  (189, .aload_n 0, 1, 0, 0, 0, 0, []),
  (190, .getfield 286, 3, 0, 13, 29, 0, []),
  (193, .if_icmp .ge 24, 3, 0, 217, 0, 0, []),
  (196, .aload_n 0, 1, 0, 0, 0, 0, []),
  (197, .bipush 120, 2, 120, 0, 0, 0, []),
  (199, .sipush 256, 3, 256, 0, 0, 0, []),
  (202, .iload_n 1, 1, 0, 1, 0, 0, []),
  (203, .imul, 1, 0, 0, 0, 0, []),
  (204, .iadd, 1, 0, 0, 0, 0, []),
  (205, .sipush 256, 3, 256, 0, 0, 0, []),
  (208, .invokevirtual 274, 3, 0, 178, 3, 13, []),
  (211, .iinc 1 1, 3, 1, 1, 0, 0, []),
  (214, .goto (-26), 3, 0, 188, 0, 0, []),
  (217, .iconst 0, 1, 0, 0, 0, 0, []),
  (218, .istore_n 1, 1, 0, 1, 0, 0, [])]
def am_c198_3 : List (Nat × am_Row) := [(219, .iload_n 1, 1, 0, 1, 0, 0, []),
  (220, .aload_n 0, 1, 0, 0, 0, 0, []),
  (221, .getfield 64, 3, 0, 13, 24, 1, []),
  (224, .iconst 1, 1, 1, 0, 0, 0, []),
  (225, .iaload, 1, 0, 0, 0, 0, []),
  (226, .if_icmp .ge 25, 3, 0, 251, 0, 0, []),
  (229, .aload_n 0, 1, 0, 0, 0, 0, []),
  (230, .sipush 3192, 3, 3192, 0, 0, 0, []),
  (233, .sipush 704, 3, 704, 0, 0, 0, []),
  (236, .iload_n 1, 1, 0, 1, 0, 0, []),
  (237, .imul, 1, 0, 0, 0, 0, []),
  (238, .iadd, 1, 0, 0, 0, 0, []),
  (239, .sipush 704, 3, 704, 0, 0, 0, []),
  (242, .invokevirtual 274, 3, 0, 178, 3, 13, []),
  (245, .iinc 1 1, 3, 1, 1, 0, 0, []),
  (248, .goto (-29), 3, 0, 219, 0, 0, []),
  (251, .iconst 0, 1, 0, 0, 0, 0, []),
  (252, .istore_n 1, 1, 0, 1, 0, 0, []),
  (253, .iload_n 1, 1, 0, 1, 0, 0, []),
  (254, .aload_n 0, 1, 0, 0, 0, 0, []),
  (255, .getfield 293, 3, 0, 13, 30, 0, []),
  (258, .if_icmp .ge 26, 3, 0, 284, 0, 0, []),
  (261, .aload_n 0, 1, 0, 0, 0, 0, []),
  (262, .sipush 11640, 3, 11640, 0, 0, 0, []),
  (265, .sipush 520, 3, 520, 0, 0, 0, []),
  (268, .iload_n 1, 1, 0, 1, 0, 0, []),
  (269, .imul, 1, 0, 0, 0, 0, []),
  (270, .iadd, 1, 0, 0, 0, 0, []),
  (271, .aload_n 0, 1, 0, 0, 0, 0, []),
  (272, .invokevirtual 296, 3, 0, 170, 1, 13, []),
  (275, .invokevirtual 274, 3, 0, 178, 3, 13, []),
  (278, .iinc 1 1, 3, 1, 1, 0, 0, []),
  (281, .goto (-28), 3, 0, 253, 0, 0, []),
  (284, .aload_n 0, 1, 0, 0, 0, 0, []),
  (285, .invokevirtual 299, 3, 0, 199, 1, 13, []),
  (288, .return_, 1, 0, 0, 0, 0, [])]
def am_c198 : List (Nat × am_Row) := am_c198_0 ++ (am_c198_1 ++ (am_c198_2 ++ (am_c198_3)))
/-- BrotliWordsModel.keepCodes()V -/
def am_c199_0 : List (Nat × am_Row) := [(0, .aload_n 0, 1, 0, 0, 0, 0, []),
  (1, .iconst 1, 1, 1, 0, 0, 0, []),
  (2, .putfield 302, 3, 0, 13, 33, 2, []),
  (5, .aload_n 0, 1, 0, 0, 0, 0, []),
  (6, .aload_n 0, 1, 0, 0, 0, 0, []),
  (7, .getfield 286, 3, 0, 13, 29, 0, []),
  (10, .putfield 306, 3, 0, 13, 35, 0, []),
  (13, .aload_n 0, 1, 0, 0, 0, 0, []),
  (14, .aload_n 0, 1, 0, 0, 0, 0, []),
  (15, .getfield 293, 3, 0, 13, 30, 0, []),
  (18, .putfield 309, 3, 0, 13, 36, 0, []),
  (21, .aload_n 0, 1, 0, 0, 0, 0, []),
  (22, .aload_n 0, 1, 0, 0, 0, 0, []),
  (23, .invokevirtual 296, 3, 0, 170, 1, 13, []),
  (26, .putfield 312, 3, 0, 13, 37, 0, []),
  (29, .iconst 0, 1, 0, 0, 0, 0, []),
  (30, .istore_n 1, 1, 0, 1, 0, 0, []),
  (31, .iload_n 1, 1, 0, 1, 0, 0, []),
  (32, .iconst 3, 1, 3, 0, 0, 0, []),
  (33, .if_icmp .ge 21, 3, 0, 54, 0, 0, []),
  (36, .aload_n 0, 1, 0, 0, 0, 0, []),
  (37, .getfield 85, 3, 0, 13, 34, 1, []),
  (40, .iload_n 1, 1, 0, 1, 0, 0, []),
  (41, .aload_n 0, 1, 0, 0, 0, 0, []),
  (42, .getfield 64, 3, 0, 13, 24, 1, []),
  (45, .iload_n 1, 1, 0, 1, 0, 0, []),
  (46, .iaload, 1, 0, 0, 0, 0, []),
  (47, .iastore, 1, 0, 0, 0, 0, []),
  (48, .iinc 1 1, 3, 1, 1, 0, 0, []),
  (51, .goto (-20), 3, 0, 31, 0, 0, []),
  (54, .iconst 0, 1, 0, 0, 0, 0, []),
  (55, .istore_n 1, 1, 0, 1, 0, 0, []),
  (56, .iload_n 1, 1, 0, 1, 0, 0, []),
  (57, .sipush 18000, 3, 18000, 0, 0, 0, []),
  (60, .if_icmp .ge 21, 3, 0, 81, 0, 0, []),
  (63, .aload_n 0, 1, 0, 0, 0, 0, []),
  (64, .getfield 88, 3, 0, 13, 38, 1, []),
  (67, .iload_n 1, 1, 0, 1, 0, 0, []),
  (68, .aload_n 0, 1, 0, 0, 0, 0, []),
  (69, .getfield 43, 3, 0, 13, 11, 1, [])]
def am_c199_1 : List (Nat × am_Row) := [(72, .iload_n 1, 1, 0, 1, 0, 0, []),
  (73, .iaload, 1, 0, 0, 0, 0, []),
  (74, .iastore, 1, 0, 0, 0, 0, []),
  (75, .iinc 1 1, 3, 1, 1, 0, 0, []),
  (78, .goto (-22), 3, 0, 56, 0, 0, []),
  (81, .iconst 0, 1, 0, 0, 0, 0, []),
  (82, .istore_n 1, 1, 0, 1, 0, 0, []),
  (83, .iload_n 1, 1, 0, 1, 0, 0, []),
  (84, .sipush 768, 3, 768, 0, 0, 0, []),
  (87, .if_icmp .ge 21, 3, 0, 108, 0, 0, []),
  (90, .aload_n 0, 1, 0, 0, 0, 0, []),
  (91, .getfield 91, 3, 0, 13, 39, 1, []),
  (94, .iload_n 1, 1, 0, 1, 0, 0, []),
  (95, .aload_n 0, 1, 0, 0, 0, 0, []),
  (96, .getfield 79, 3, 0, 13, 31, 1, []),
  (99, .iload_n 1, 1, 0, 1, 0, 0, []),
  (100, .iaload, 1, 0, 0, 0, 0, []),
  (101, .iastore, 1, 0, 0, 0, 0, []),
  (102, .iinc 1 1, 3, 1, 1, 0, 0, []),
  (105, .goto (-22), 3, 0, 83, 0, 0, []),
  (108, .iconst 0, 1, 0, 0, 0, 0, []),
  (109, .istore_n 1, 1, 0, 1, 0, 0, []),
  (110, .iload_n 1, 1, 0, 1, 0, 0, []),
  (111, .bipush 48, 2, 48, 0, 0, 0, []),
  (113, .if_icmp .ge 21, 3, 0, 134, 0, 0, []),
  (116, .aload_n 0, 1, 0, 0, 0, 0, []),
  (117, .getfield 94, 3, 0, 13, 40, 1, []),
  (120, .iload_n 1, 1, 0, 1, 0, 0, []),
  (121, .aload_n 0, 1, 0, 0, 0, 0, []),
  (122, .getfield 82, 3, 0, 13, 32, 1, []),
  (125, .iload_n 1, 1, 0, 1, 0, 0, []),
  (126, .iaload, 1, 0, 0, 0, 0, []),
  (127, .iastore, 1, 0, 0, 0, 0, []),
  (128, .iinc 1 1, 3, 1, 1, 0, 0, []),
  (131, .goto (-21), 3, 0, 110, 0, 0, []),
  (134, .return_, 1, 0, 0, 0, 0, [])]
def am_c199 : List (Nat × am_Row) := am_c199_0 ++ (am_c199_1)
/-- BrotliWordsModel.insertBits(I)I -/
def am_c200 : List (Nat × am_Row) := [(0, .iload_n 0, 1, 0, 0, 0, 0, []),
  (1, .bipush 6, 2, 6, 0, 0, 0, []),
  (3, .if_icmp .ge 7, 3, 0, 10, 0, 0, []),
  (6, .iconst 0, 1, 0, 0, 0, 0, []),
  (7, .goto 54, 3, 0, 61, 0, 0, []),
  (10, .iload_n 0, 1, 0, 0, 0, 0, []),
  (11, .bipush 16, 2, 16, 0, 0, 0, []),
  (13, .if_icmp .ge 11, 3, 0, 24, 0, 0, []),
  (16, .iload_n 0, 1, 0, 0, 0, 0, []),
  (17, .iconst 2, 1, 2, 0, 0, 0, []),
  (18, .idiv, 1, 0, 0, 0, 0, []),
  (19, .iconst 2, 1, 2, 0, 0, 0, []),
  (20, .isub, 1, 0, 0, 0, 0, []),
  (21, .goto 40, 3, 0, 61, 0, 0, []),
  (24, .iload_n 0, 1, 0, 0, 0, 0, []),
  (25, .bipush 21, 2, 21, 0, 0, 0, []),
  (27, .if_icmp .ge 10, 3, 0, 37, 0, 0, []),
  (30, .iload_n 0, 1, 0, 0, 0, 0, []),
  (31, .bipush 10, 2, 10, 0, 0, 0, []),
  (33, .isub, 1, 0, 0, 0, 0, []),
  (34, .goto 27, 3, 0, 61, 0, 0, []),
  (37, .iload_n 0, 1, 0, 0, 0, 0, []),
  (38, .bipush 21, 2, 21, 0, 0, 0, []),
  (40, .if_icmp .ne 8, 3, 0, 48, 0, 0, []),
  (43, .bipush 12, 2, 12, 0, 0, 0, []),
  (45, .goto 16, 3, 0, 61, 0, 0, []),
  (48, .iload_n 0, 1, 0, 0, 0, 0, []),
  (49, .bipush 22, 2, 22, 0, 0, 0, []),
  (51, .if_icmp .ne 8, 3, 0, 59, 0, 0, []),
  (54, .bipush 14, 2, 14, 0, 0, 0, []),
  (56, .goto 5, 3, 0, 61, 0, 0, []),
  (59, .bipush 24, 2, 24, 0, 0, 0, []),
  (61, .ireturn, 1, 0, 0, 0, 0, [])]
/-- BrotliWordsModel.copyBits(I)I -/
def am_c201 : List (Nat × am_Row) := [(0, .iload_n 0, 1, 0, 0, 0, 0, []),
  (1, .bipush 8, 2, 8, 0, 0, 0, []),
  (3, .if_icmp .ge 7, 3, 0, 10, 0, 0, []),
  (6, .iconst 0, 1, 0, 0, 0, 0, []),
  (7, .goto 32, 3, 0, 39, 0, 0, []),
  (10, .iload_n 0, 1, 0, 0, 0, 0, []),
  (11, .bipush 18, 2, 18, 0, 0, 0, []),
  (13, .if_icmp .ge 11, 3, 0, 24, 0, 0, []),
  (16, .iload_n 0, 1, 0, 0, 0, 0, []),
  (17, .iconst 2, 1, 2, 0, 0, 0, []),
  (18, .idiv, 1, 0, 0, 0, 0, []),
  (19, .iconst 3, 1, 3, 0, 0, 0, []),
  (20, .isub, 1, 0, 0, 0, 0, []),
  (21, .goto 18, 3, 0, 39, 0, 0, []),
  (24, .iload_n 0, 1, 0, 0, 0, 0, []),
  (25, .bipush 23, 2, 23, 0, 0, 0, []),
  (27, .if_icmp .ge 10, 3, 0, 37, 0, 0, []),
  (30, .iload_n 0, 1, 0, 0, 0, 0, []),
  (31, .bipush 12, 2, 12, 0, 0, 0, []),
  (33, .isub, 1, 0, 0, 0, 0, []),
  (34, .goto 5, 3, 0, 39, 0, 0, []),
  (37, .bipush 24, 2, 24, 0, 0, 0, []),
  (39, .ireturn, 1, 0, 0, 0, 0, [])]
/-- BrotliWordsModel.insertBase(I)I -/
def am_c202 : List (Nat × am_Row) := [(0, .iconst 0, 1, 0, 0, 0, 0, []),
  (1, .istore_n 1, 1, 0, 1, 0, 0, []),
  (2, .iconst 0, 1, 0, 0, 0, 0, []),
  (3, .istore_n 2, 1, 0, 2, 0, 0, []),
  (4, .iload_n 2, 1, 0, 2, 0, 0, []),
  (5, .iload_n 0, 1, 0, 0, 0, 0, []),
  (6, .if_icmp .ge 18, 3, 0, 24, 0, 0, []),
  (9, .iload_n 1, 1, 0, 1, 0, 0, []),
  (10, .iconst 1, 1, 1, 0, 0, 0, []),
  (11, .iload_n 2, 1, 0, 2, 0, 0, []),
  (12, .invokestatic 315, 3, 0, 200, 1, 999, []),
  (15, .ishl, 1, 0, 0, 0, 0, []),
  (16, .iadd, 1, 0, 0, 0, 0, []),
  (17, .istore_n 1, 1, 0, 1, 0, 0, []),
  (18, .iinc 2 1, 3, 1, 2, 0, 0, []),
  (21, .goto (-17), 3, 0, 4, 0, 0, []),
  (24, .iload_n 1, 1, 0, 1, 0, 0, []),
  (25, .ireturn, 1, 0, 0, 0, 0, [])]
/-- BrotliWordsModel.copyBase(I)I -/
def am_c203 : List (Nat × am_Row) := [(0, .iconst 2, 1, 2, 0, 0, 0, []),
  (1, .istore_n 1, 1, 0, 1, 0, 0, []),
  (2, .iconst 0, 1, 0, 0, 0, 0, []),
  (3, .istore_n 2, 1, 0, 2, 0, 0, []),
  (4, .iload_n 2, 1, 0, 2, 0, 0, []),
  (5, .iload_n 0, 1, 0, 0, 0, 0, []),
  (6, .if_icmp .ge 18, 3, 0, 24, 0, 0, []),
  (9, .iload_n 1, 1, 0, 1, 0, 0, []),
  (10, .iconst 1, 1, 1, 0, 0, 0, []),
  (11, .iload_n 2, 1, 0, 2, 0, 0, []),
  (12, .invokestatic 318, 3, 0, 201, 1, 999, []),
  (15, .ishl, 1, 0, 0, 0, 0, []),
  (16, .iadd, 1, 0, 0, 0, 0, []),
  (17, .istore_n 1, 1, 0, 1, 0, 0, []),
  (18, .iinc 2 1, 3, 1, 2, 0, 0, []),
  (21, .goto (-17), 3, 0, 4, 0, 0, []),
  (24, .iload_n 1, 1, 0, 1, 0, 0, []),
  (25, .ireturn, 1, 0, 0, 0, 0, [])]
/-- BrotliWordsModel.insertEight(I)I -/
def am_c204 : List (Nat × am_Row) := [(0, .iload_n 0, 1, 0, 0, 0, 0, []),
  (1, .iconst 4, 1, 4, 0, 0, 0, []),
  (2, .if_icmp .ge 7, 3, 0, 9, 0, 0, []),
  (5, .iconst 0, 1, 0, 0, 0, 0, []),
  (6, .goto 44, 3, 0, 50, 0, 0, []),
  (9, .iload_n 0, 1, 0, 0, 0, 0, []),
  (10, .bipush 6, 2, 6, 0, 0, 0, []),
  (12, .if_icmp .ge 7, 3, 0, 19, 0, 0, []),
  (15, .iconst 1, 1, 1, 0, 0, 0, []),
  (16, .goto 34, 3, 0, 50, 0, 0, []),
  (19, .iload_n 0, 1, 0, 0, 0, 0, []),
  (20, .bipush 6, 2, 6, 0, 0, 0, []),
  (22, .if_icmp .ne 7, 3, 0, 29, 0, 0, []),
  (25, .iconst 0, 1, 0, 0, 0, 0, []),
  (26, .goto 24, 3, 0, 50, 0, 0, []),
  (29, .iload_n 0, 1, 0, 0, 0, 0, []),
  (30, .bipush 7, 2, 7, 0, 0, 0, []),
  (32, .if_icmp .ne 7, 3, 0, 39, 0, 0, []),
  (35, .iconst 2, 1, 2, 0, 0, 0, []),
  (36, .goto 14, 3, 0, 50, 0, 0, []),
  (39, .iload_n 0, 1, 0, 0, 0, 0, []),
  (40, .bipush 8, 2, 8, 0, 0, 0, []),
  (42, .if_icmp .ne 7, 3, 0, 49, 0, 0, []),
  (45, .iconst 1, 1, 1, 0, 0, 0, []),
  (46, .goto 4, 3, 0, 50, 0, 0, []),
  (49, .iconst 2, 1, 2, 0, 0, 0, []),
  (50, .ireturn, 1, 0, 0, 0, 0, [])]
/-- BrotliWordsModel.copyEight(I)I -/
def am_c205 : List (Nat × am_Row) := [(0, .iload_n 0, 1, 0, 0, 0, 0, []),
  (1, .ifCond .eq 19, 3, 0, 20, 0, 0, []),
  (4, .iload_n 0, 1, 0, 0, 0, 0, []),
  (5, .iconst 2, 1, 2, 0, 0, 0, []),
  (6, .if_icmp .eq 14, 3, 0, 20, 0, 0, []),
  (9, .iload_n 0, 1, 0, 0, 0, 0, []),
  (10, .iconst 4, 1, 4, 0, 0, 0, []),
  (11, .if_icmp .eq 9, 3, 0, 20, 0, 0, []),
  (14, .iload_n 0, 1, 0, 0, 0, 0, []),
  (15, .bipush 7, 2, 7, 0, 0, 0, []),
  (17, .if_icmp .ne 7, 3, 0, 24, 0, 0, []),
  (20, .iconst 0, 1, 0, 0, 0, 0, []),
  (21, .goto 29, 3, 0, 50, 0, 0, []),
  (24, .iload_n 0, 1, 0, 0, 0, 0, []),
  (25, .iconst 1, 1, 1, 0, 0, 0, []),
  (26, .if_icmp .eq 19, 3, 0, 45, 0, 0, []),
  (29, .iload_n 0, 1, 0, 0, 0, 0, []),
  (30, .iconst 3, 1, 3, 0, 0, 0, []),
  (31, .if_icmp .eq 14, 3, 0, 45, 0, 0, []),
  (34, .iload_n 0, 1, 0, 0, 0, 0, []),
  (35, .iconst 5, 1, 5, 0, 0, 0, []),
  (36, .if_icmp .eq 9, 3, 0, 45, 0, 0, []),
  (39, .iload_n 0, 1, 0, 0, 0, 0, []),
  (40, .bipush 9, 2, 9, 0, 0, 0, []),
  (42, .if_icmp .ne 7, 3, 0, 49, 0, 0, []),
  (45, .iconst 1, 1, 1, 0, 0, 0, []),
  (46, .goto 4, 3, 0, 50, 0, 0, []),
  (49, .iconst 2, 1, 2, 0, 0, 0, []),
  (50, .ireturn, 1, 0, 0, 0, 0, [])]
/-- BrotliWordsModel.isVowel(I)Z -/
def am_c206 : List (Nat × am_Row) := [(0, .iload_n 0, 1, 0, 0, 0, 0, []),
  (1, .bipush 97, 2, 97, 0, 0, 0, []),
  (3, .if_icmp .eq 27, 3, 0, 30, 0, 0, []),
  (6, .iload_n 0, 1, 0, 0, 0, 0, []),
  (7, .bipush 101, 2, 101, 0, 0, 0, []),
  (9, .if_icmp .eq 21, 3, 0, 30, 0, 0, []),
  (12, .iload_n 0, 1, 0, 0, 0, 0, []),
  (13, .bipush 105, 2, 105, 0, 0, 0, []),
  (15, .if_icmp .eq 15, 3, 0, 30, 0, 0, []),
  (18, .iload_n 0, 1, 0, 0, 0, 0, []),
  (19, .bipush 111, 2, 111, 0, 0, 0, []),
  (21, .if_icmp .eq 9, 3, 0, 30, 0, 0, []),
  (24, .iload_n 0, 1, 0, 0, 0, 0, []),
  (25, .bipush 117, 2, 117, 0, 0, 0, []),
  (27, .if_icmp .ne 7, 3, 0, 34, 0, 0, []),
  (30, .iconst 1, 1, 1, 0, 0, 0, []),
  (31, .goto 4, 3, 0, 35, 0, 0, []),
  (34, .iconst 0, 1, 0, 0, 0, 0, []),
  (35, .ireturn, 1, 0, 1, 0, 0, [])]
/-- BrotliWordsModel.isOneOf(IIIII)Z -/
def am_c207 : List (Nat × am_Row) := [(0, .iload_n 0, 1, 0, 0, 0, 0, []),
  (1, .iload_n 1, 1, 0, 1, 0, 0, []),
  (2, .if_icmp .eq 19, 3, 0, 21, 0, 0, []),
  (5, .iload_n 0, 1, 0, 0, 0, 0, []),
  (6, .iload_n 2, 1, 0, 2, 0, 0, []),
  (7, .if_icmp .eq 14, 3, 0, 21, 0, 0, []),
  (10, .iload_n 0, 1, 0, 0, 0, 0, []),
  (11, .iload_n 3, 1, 0, 3, 0, 0, []),
  (12, .if_icmp .eq 9, 3, 0, 21, 0, 0, []),
  (15, .iload_n 0, 1, 0, 0, 0, 0, []),
  (16, .iload 4, 2, 0, 4, 0, 0, []),
  (18, .if_icmp .ne 7, 3, 0, 25, 0, 0, []),
  (21, .iconst 1, 1, 1, 0, 0, 0, []),
  (22, .goto 4, 3, 0, 26, 0, 0, []),
  (25, .iconst 0, 1, 0, 0, 0, 0, []),
  (26, .ireturn, 1, 0, 1, 0, 0, [])]
/-- BrotliWordsModel.first(I)I -/
def am_c208_0 : List (Nat × am_Row) := [(0, .iload_n 0, 1, 0, 0, 0, 0, []),
  (1, .sipush 128, 3, 128, 0, 0, 0, []),
  (4, .if_icmp .lt 22, 3, 0, 26, 0, 0, []),
  (7, .iload_n 0, 1, 0, 0, 0, 0, []),
  (8, .sipush 192, 3, 192, 0, 0, 0, []),
  (11, .if_icmp .ge 9, 3, 0, 20, 0, 0, []),
  (14, .iload_n 0, 1, 0, 0, 0, 0, []),
  (15, .iconst 2, 1, 2, 0, 0, 0, []),
  (16, .irem, 1, 0, 0, 0, 0, []),
  (17, .goto 8, 3, 0, 25, 0, 0, []),
  (20, .iload_n 0, 1, 0, 0, 0, 0, []),
  (21, .iconst 2, 1, 2, 0, 0, 0, []),
  (22, .irem, 1, 0, 0, 0, 0, []),
  (23, .iconst 2, 1, 2, 0, 0, 0, []),
  (24, .iadd, 1, 0, 0, 0, 0, []),
  (25, .ireturn, 1, 0, 0, 0, 0, []),
  (26, .iload_n 0, 1, 0, 0, 0, 0, []),
  (27, .bipush 32, 2, 32, 0, 0, 0, []),
  (29, .if_icmp .lt 9, 3, 0, 38, 0, 0, []),
  (32, .iload_n 0, 1, 0, 0, 0, 0, []),
  (33, .bipush 127, 2, 127, 0, 0, 0, []),
  (35, .if_icmp .ne 27, 3, 0, 62, 0, 0, []),
  (38, .iload_n 0, 1, 0, 0, 0, 0, []),
  (39, .bipush 9, 2, 9, 0, 0, 0, []),
  (41, .if_icmp .eq 15, 3, 0, 56, 0, 0, []),
  (44, .iload_n 0, 1, 0, 0, 0, 0, []),
  (45, .bipush 10, 2, 10, 0, 0, 0, []),
  (47, .if_icmp .eq 9, 3, 0, 56, 0, 0, []),
  (50, .iload_n 0, 1, 0, 0, 0, 0, []),
  (51, .bipush 13, 2, 13, 0, 0, 0, []),
  (53, .if_icmp .ne 7, 3, 0, 60, 0, 0, []),
  (56, .iconst 4, 1, 4, 0, 0, 0, []),
  (57, .goto 4, 3, 0, 61, 0, 0, []),
  (60, .iconst 0, 1, 0, 0, 0, 0, []),
  (61, .ireturn, 1, 0, 0, 0, 0, []),
  (62, .iload_n 0, 1, 0, 0, 0, 0, []),
  (63, .i2l, 1, 0, 0, 0, 0, []),
  (64, .ldc2_w 321, 3, 48, 0, 0, 0, []),
  (67, .ldc2_w 323, 3, 57, 0, 0, 0, []),
  (70, .invokestatic 163, 3, 0, 901, 3, 0, [])]
def am_c208_1 : List (Nat × am_Row) := [(73, .ifCond .eq 6, 3, 0, 79, 0, 0, []),
  (76, .bipush 44, 2, 44, 0, 0, 0, []),
  (78, .ireturn, 1, 0, 0, 0, 0, []),
  (79, .iload_n 0, 1, 0, 0, 0, 0, []),
  (80, .i2l, 1, 0, 0, 0, 0, []),
  (81, .ldc2_w 325, 3, 65, 0, 0, 0, []),
  (84, .ldc2_w 327, 3, 90, 0, 0, 0, []),
  (87, .invokestatic 163, 3, 0, 901, 3, 0, []),
  (90, .ifCond .eq 21, 3, 0, 111, 0, 0, []),
  (93, .iload_n 0, 1, 0, 0, 0, 0, []),
  (94, .bipush 32, 2, 32, 0, 0, 0, []),
  (96, .iadd, 1, 0, 0, 0, 0, []),
  (97, .invokestatic 329, 3, 0, 206, 1, 999, []),
  (100, .ifCond .eq 8, 3, 0, 108, 0, 0, []),
  (103, .bipush 48, 2, 48, 0, 0, 0, []),
  (105, .goto 5, 3, 0, 110, 0, 0, []),
  (108, .bipush 52, 2, 52, 0, 0, 0, []),
  (110, .ireturn, 1, 0, 0, 0, 0, []),
  (111, .iload_n 0, 1, 0, 0, 0, 0, []),
  (112, .i2l, 1, 0, 0, 0, 0, []),
  (113, .ldc2_w 333, 3, 97, 0, 0, 0, []),
  (116, .ldc2_w 335, 3, 122, 0, 0, 0, []),
  (119, .invokestatic 163, 3, 0, 901, 3, 0, []),
  (122, .ifCond .eq 18, 3, 0, 140, 0, 0, []),
  (125, .iload_n 0, 1, 0, 0, 0, 0, []),
  (126, .invokestatic 329, 3, 0, 206, 1, 999, []),
  (129, .ifCond .eq 8, 3, 0, 137, 0, 0, []),
  (132, .bipush 56, 2, 56, 0, 0, 0, []),
  (134, .goto 5, 3, 0, 139, 0, 0, []),
  (137, .bipush 60, 2, 60, 0, 0, 0, []),
  (139, .ireturn, 1, 0, 0, 0, 0, []),
  (140, .iload_n 0, 1, 0, 0, 0, 0, []),
  (141, .bipush 32, 2, 32, 0, 0, 0, []),
  (143, .if_icmp .ne 6, 3, 0, 149, 0, 0, []),
  (146, .bipush 8, 2, 8, 0, 0, 0, []),
  (148, .ireturn, 1, 0, 0, 0, 0, []),
  (149, .iload_n 0, 1, 0, 0, 0, 0, []),
  (150, .bipush 34, 2, 34, 0, 0, 0, []),
  (152, .if_icmp .eq 9, 3, 0, 161, 0, 0, []),
  (155, .iload_n 0, 1, 0, 0, 0, 0, [])]
def am_c208_2 : List (Nat × am_Row) := [(156, .bipush 39, 2, 39, 0, 0, 0, []),
  (158, .if_icmp .ne 6, 3, 0, 164, 0, 0, []),
  (161, .bipush 16, 2, 16, 0, 0, 0, []),
  (163, .ireturn, 1, 0, 0, 0, 0, []),
  (164, .iload_n 0, 1, 0, 0, 0, 0, []),
  (165, .bipush 37, 2, 37, 0, 0, 0, []),
  (167, .if_icmp .ne 6, 3, 0, 173, 0, 0, []),
  (170, .bipush 20, 2, 20, 0, 0, 0, []),
  (172, .ireturn, 1, 0, 0, 0, 0, []),
  (173, .iload_n 0, 1, 0, 0, 0, 0, []),
  (174, .bipush 40, 2, 40, 0, 0, 0, []),
  (176, .bipush 60, 2, 60, 0, 0, 0, []),
  (178, .bipush 91, 2, 91, 0, 0, 0, []),
  (180, .bipush 123, 2, 123, 0, 0, 0, []),
  (182, .invokestatic 337, 3, 0, 207, 5, 999, []),
  (185, .ifCond .eq 6, 3, 0, 191, 0, 0, []),
  (188, .bipush 24, 2, 24, 0, 0, 0, []),
  (190, .ireturn, 1, 0, 0, 0, 0, []),
  (191, .iload_n 0, 1, 0, 0, 0, 0, []),
  (192, .bipush 41, 2, 41, 0, 0, 0, []),
  (194, .bipush 62, 2, 62, 0, 0, 0, []),
  (196, .bipush 93, 2, 93, 0, 0, 0, []),
  (198, .bipush 125, 2, 125, 0, 0, 0, []),
  (200, .invokestatic 337, 3, 0, 207, 5, 999, []),
  (203, .ifCond .eq 6, 3, 0, 209, 0, 0, []),
  (206, .bipush 28, 2, 28, 0, 0, 0, []),
  (208, .ireturn, 1, 0, 0, 0, 0, []),
  (209, .iload_n 0, 1, 0, 0, 0, 0, []),
  (210, .bipush 44, 2, 44, 0, 0, 0, []),
  (212, .if_icmp .eq 15, 3, 0, 227, 0, 0, []),
  (215, .iload_n 0, 1, 0, 0, 0, 0, []),
  (216, .bipush 58, 2, 58, 0, 0, 0, []),
  (218, .if_icmp .eq 9, 3, 0, 227, 0, 0, []),
  (221, .iload_n 0, 1, 0, 0, 0, 0, []),
  (222, .bipush 59, 2, 59, 0, 0, 0, []),
  (224, .if_icmp .ne 6, 3, 0, 230, 0, 0, []),
  (227, .bipush 32, 2, 32, 0, 0, 0, []),
  (229, .ireturn, 1, 0, 0, 0, 0, []),
  (230, .iload_n 0, 1, 0, 0, 0, 0, []),
  (231, .bipush 46, 2, 46, 0, 0, 0, [])]
def am_c208_3 : List (Nat × am_Row) := [(233, .if_icmp .ne 8, 3, 0, 241, 0, 0, []),
  (236, .bipush 36, 2, 36, 0, 0, 0, []),
  (238, .goto 16, 3, 0, 254, 0, 0, []),
  (241, .iload_n 0, 1, 0, 0, 0, 0, []),
  (242, .bipush 61, 2, 61, 0, 0, 0, []),
  (244, .if_icmp .ne 8, 3, 0, 252, 0, 0, []),
  (247, .bipush 40, 2, 40, 0, 0, 0, []),
  (249, .goto 5, 3, 0, 254, 0, 0, []),
  (252, .bipush 12, 2, 12, 0, 0, 0, []),
  (254, .ireturn, 1, 0, 0, 0, 0, [])]
def am_c208 : List (Nat × am_Row) := am_c208_0 ++ (am_c208_1 ++ (am_c208_2 ++ (am_c208_3)))
/-- BrotliWordsModel.second(I)I -/
def am_c209 : List (Nat × am_Row) := [(0, .iload_n 0, 1, 0, 0, 0, 0, []),
  (1, .bipush 32, 2, 32, 0, 0, 0, []),
  (3, .if_icmp .lt 17, 3, 0, 20, 0, 0, []),
  (6, .iload_n 0, 1, 0, 0, 0, 0, []),
  (7, .i2l, 1, 0, 0, 0, 0, []),
  (8, .ldc2_w 341, 3, 127, 0, 0, 0, []),
  (11, .ldc2_w 343, 3, 191, 0, 0, 0, []),
  (14, .invokestatic 163, 3, 0, 901, 3, 0, []),
  (17, .ifCond .eq 5, 3, 0, 22, 0, 0, []),
  (20, .iconst 0, 1, 0, 0, 0, 0, []),
  (21, .ireturn, 1, 0, 0, 0, 0, []),
  (22, .iload_n 0, 1, 0, 0, 0, 0, []),
  (23, .i2l, 1, 0, 0, 0, 0, []),
  (24, .ldc2_w 321, 3, 48, 0, 0, 0, []),
  (27, .ldc2_w 323, 3, 57, 0, 0, 0, []),
  (30, .invokestatic 163, 3, 0, 901, 3, 0, []),
  (33, .ifCond .ne 24, 3, 0, 57, 0, 0, []),
  (36, .iload_n 0, 1, 0, 0, 0, 0, []),
  (37, .i2l, 1, 0, 0, 0, 0, []),
  (38, .ldc2_w 325, 3, 65, 0, 0, 0, []),
  (41, .ldc2_w 327, 3, 90, 0, 0, 0, []),
  (44, .invokestatic 163, 3, 0, 901, 3, 0, []),
  (47, .ifCond .ne 10, 3, 0, 57, 0, 0, []),
  (50, .iload_n 0, 1, 0, 0, 0, 0, []),
  (51, .sipush 192, 3, 192, 0, 0, 0, []),
  (54, .if_icmp .lt 5, 3, 0, 59, 0, 0, []),
  (57, .iconst 2, 1, 2, 0, 0, 0, []),
  (58, .ireturn, 1, 0, 0, 0, 0, []),
  (59, .iload_n 0, 1, 0, 0, 0, 0, []),
  (60, .i2l, 1, 0, 0, 0, 0, []),
  (61, .ldc2_w 333, 3, 97, 0, 0, 0, []),
  (64, .ldc2_w 335, 3, 122, 0, 0, 0, []),
  (67, .invokestatic 163, 3, 0, 901, 3, 0, []),
  (70, .ifCond .eq 7, 3, 0, 77, 0, 0, []),
  (73, .iconst 3, 1, 3, 0, 0, 0, []),
  (74, .goto 4, 3, 0, 78, 0, 0, []),
  (77, .iconst 1, 1, 1, 0, 0, 0, []),
  (78, .ireturn, 1, 0, 0, 0, 0, [])]
/-- BrotliWordsModel.sizeOf(I)I -/
def am_c210 : List (Nat × am_Row) := [(0, .iload_n 0, 1, 0, 0, 0, 0, []),
  (1, .ifCond .ne 7, 3, 0, 8, 0, 0, []),
  (4, .iconst 0, 1, 0, 0, 0, 0, []),
  (5, .goto 70, 3, 0, 75, 0, 0, []),
  (8, .iload_n 0, 1, 0, 0, 0, 0, []),
  (9, .bipush 16, 2, 16, 0, 0, 0, []),
  (11, .if_icmp .ge 7, 3, 0, 18, 0, 0, []),
  (14, .iconst 1, 1, 1, 0, 0, 0, []),
  (15, .goto 60, 3, 0, 75, 0, 0, []),
  (18, .iload_n 0, 1, 0, 0, 0, 0, []),
  (19, .bipush 64, 2, 64, 0, 0, 0, []),
  (21, .if_icmp .ge 7, 3, 0, 28, 0, 0, []),
  (24, .iconst 2, 1, 2, 0, 0, 0, []),
  (25, .goto 50, 3, 0, 75, 0, 0, []),
  (28, .iload_n 0, 1, 0, 0, 0, 0, []),
  (29, .sipush 128, 3, 128, 0, 0, 0, []),
  (32, .if_icmp .ge 7, 3, 0, 39, 0, 0, []),
  (35, .iconst 3, 1, 3, 0, 0, 0, []),
  (36, .goto 39, 3, 0, 75, 0, 0, []),
  (39, .iload_n 0, 1, 0, 0, 0, 0, []),
  (40, .sipush 192, 3, 192, 0, 0, 0, []),
  (43, .if_icmp .ge 7, 3, 0, 50, 0, 0, []),
  (46, .iconst 4, 1, 4, 0, 0, 0, []),
  (47, .goto 28, 3, 0, 75, 0, 0, []),
  (50, .iload_n 0, 1, 0, 0, 0, 0, []),
  (51, .sipush 240, 3, 240, 0, 0, 0, []),
  (54, .if_icmp .ge 7, 3, 0, 61, 0, 0, []),
  (57, .iconst 5, 1, 5, 0, 0, 0, []),
  (58, .goto 17, 3, 0, 75, 0, 0, []),
  (61, .iload_n 0, 1, 0, 0, 0, 0, []),
  (62, .sipush 255, 3, 255, 0, 0, 0, []),
  (65, .if_icmp .ge 8, 3, 0, 73, 0, 0, []),
  (68, .bipush 6, 2, 6, 0, 0, 0, []),
  (70, .goto 5, 3, 0, 75, 0, 0, []),
  (73, .bipush 7, 2, 7, 0, 0, 0, []),
  (75, .ireturn, 1, 0, 0, 0, 0, [])]
/-- BrotliWordsModel.back(I)I -/
def am_c211 : List (Nat × am_Row) := [(0, .aload_n 0, 1, 0, 0, 0, 0, []),
  (1, .getfield 345, 3, 0, 13, 6, 0, []),
  (4, .iload_n 1, 1, 0, 1, 0, 0, []),
  (5, .if_icmp .lt 21, 3, 0, 26, 0, 0, []),
  (8, .aload_n 0, 1, 0, 0, 0, 0, []),
  (9, .getfield 30, 3, 0, 13, 5, 1, []),
  (12, .aload_n 0, 1, 0, 0, 0, 0, []),
  (13, .getfield 345, 3, 0, 13, 6, 0, []),
  (16, .iload_n 1, 1, 0, 1, 0, 0, []),
  (17, .isub, 1, 0, 0, 0, 0, []),
  (18, .baload, 1, 0, 0, 0, 0, []),
  (19, .sipush 255, 3, 255, 0, 0, 0, []),
  (22, .iand, 1, 0, 0, 0, 0, []),
  (23, .goto 4, 3, 0, 27, 0, 0, []),
  (26, .iconst 0, 1, 0, 0, 0, 0, []),
  (27, .ireturn, 1, 0, 0, 0, 0, [])]
/-- BrotliWordsModel.context()I -/
def am_c212 : List (Nat × am_Row) := [(0, .aload_n 0, 1, 0, 0, 0, 0, []),
  (1, .iconst 1, 1, 1, 0, 0, 0, []),
  (2, .invokevirtual 348, 3, 0, 211, 2, 13, []),
  (5, .istore_n 1, 1, 0, 1, 0, 0, []),
  (6, .aload_n 0, 1, 0, 0, 0, 0, []),
  (7, .iconst 2, 1, 2, 0, 0, 0, []),
  (8, .invokevirtual 348, 3, 0, 211, 2, 13, []),
  (11, .istore_n 2, 1, 0, 2, 0, 0, []),
  (12, .aload_n 0, 1, 0, 0, 0, 0, []),
  (13, .getfield 76, 3, 0, 13, 28, 1, []),
  (16, .aload_n 0, 1, 0, 0, 0, 0, []),
  (17, .getfield 67, 3, 0, 13, 25, 1, []),
  (20, .iconst 0, 1, 0, 0, 0, 0, []),
  (21, .iaload, 1, 0, 0, 0, 0, []),
  (22, .iaload, 1, 0, 0, 0, 0, []),
  (23, .tableswitch 44 0 2 #[25, 30, 34], 25, 0, 67, 0, 0, [(0, 48), (1, 53), (2, 57)]),
  (48, .iload_n 1, 1, 0, 1, 0, 0, []),
  (49, .bipush 63, 2, 63, 0, 0, 0, []),
  (51, .iand, 1, 0, 0, 0, 0, []),
  (52, .ireturn, 1, 0, 0, 0, 0, []),
  (53, .iload_n 1, 1, 0, 1, 0, 0, []),
  (54, .iconst 4, 1, 4, 0, 0, 0, []),
  (55, .idiv, 1, 0, 0, 0, 0, []),
  (56, .ireturn, 1, 0, 0, 0, 0, []),
  (57, .iload_n 1, 1, 0, 1, 0, 0, []),
  (58, .invokestatic 351, 3, 0, 208, 1, 999, []),
  (61, .iload_n 2, 1, 0, 2, 0, 0, []),
  (62, .invokestatic 354, 3, 0, 209, 1, 999, []),
  (65, .ior, 1, 0, 0, 0, 0, []),
  (66, .ireturn, 1, 0, 0, 0, 0, []),
  (67, .bipush 8, 2, 8, 0, 0, 0, []),
  (69, .iload_n 1, 1, 0, 1, 0, 0, []),
  (70, .invokestatic 357, 3, 0, 210, 1, 999, []),
  (73, .imul, 1, 0, 0, 0, 0, []),
  (74, .iload_n 2, 1, 0, 2, 0, 0, []),
  (75, .invokestatic 357, 3, 0, 210, 1, 999, []),
  (78, .iadd, 1, 0, 0, 0, 0, []),
  (79, .ireturn, 1, 0, 0, 0, 0, [])]
/-- BrotliWordsModel.putOut(I)V -/
def am_c213 : List (Nat × am_Row) := [(0, .aload_n 0, 1, 0, 0, 0, 0, []),
  (1, .getfield 30, 3, 0, 13, 5, 1, []),
  (4, .aload_n 0, 1, 0, 0, 0, 0, []),
  (5, .getfield 345, 3, 0, 13, 6, 0, []),
  (8, .iload_n 1, 1, 0, 1, 0, 0, []),
  (9, .i2b, 1, 0, 0, 0, 0, []),
  (10, .bastore, 1, 0, 0, 0, 0, []),
  (11, .aload_n 0, 1, 0, 0, 0, 0, []),
  (12, .dup, 1, 0, 0, 0, 0, []),
  (13, .getfield 345, 3, 0, 13, 6, 0, []),
  (16, .iconst 1, 1, 1, 0, 0, 0, []),
  (17, .iadd, 1, 0, 0, 0, 0, []),
  (18, .putfield 345, 3, 0, 13, 6, 0, []),
  (21, .return_, 1, 0, 0, 0, 0, [])]
/-- BrotliWordsModel.readLiteral()V -/
def am_c214 : List (Nat × am_Row) := [(0, .aload_n 0, 1, 0, 0, 0, 0, []),
  (1, .iconst 0, 1, 0, 0, 0, 0, []),
  (2, .invokevirtual 360, 3, 0, 195, 2, 13, []),
  (5, .aload_n 0, 1, 0, 0, 0, 0, []),
  (6, .getfield 79, 3, 0, 13, 31, 1, []),
  (9, .bipush 64, 2, 64, 0, 0, 0, []),
  (11, .aload_n 0, 1, 0, 0, 0, 0, []),
  (12, .getfield 67, 3, 0, 13, 25, 1, []),
  (15, .iconst 0, 1, 0, 0, 0, 0, []),
  (16, .iaload, 1, 0, 0, 0, 0, []),
  (17, .imul, 1, 0, 0, 0, 0, []),
  (18, .aload_n 0, 1, 0, 0, 0, 0, []),
  (19, .invokevirtual 363, 3, 0, 212, 1, 13, []),
  (22, .iadd, 1, 0, 0, 0, 0, []),
  (23, .iaload, 1, 0, 0, 0, 0, []),
  (24, .istore_n 1, 1, 0, 1, 0, 0, []),
  (25, .aload_n 0, 1, 0, 0, 0, 0, []),
  (26, .aload_n 0, 1, 0, 0, 0, 0, []),
  (27, .bipush 120, 2, 120, 0, 0, 0, []),
  (29, .sipush 256, 3, 256, 0, 0, 0, []),
  (32, .iload_n 1, 1, 0, 1, 0, 0, []),
  (33, .imul, 1, 0, 0, 0, 0, []),
  (34, .iadd, 1, 0, 0, 0, 0, []),
  (35, .sipush 256, 3, 256, 0, 0, 0, []),
  (38, .invokevirtual 254, 3, 0, 176, 3, 13, []),
  (41, .invokevirtual 366, 3, 0, 213, 2, 13, []),
  (44, .return_, 1, 0, 0, 0, 0, [])]
/-- BrotliWordsModel.distanceOf(I)I -/
def am_c215_0 : List (Nat × am_Row) := [(0, .iload_n 1, 1, 0, 1, 0, 0, []),
  (1, .iconst 4, 1, 4, 0, 0, 0, []),
  (2, .if_icmp .ge 12, 3, 0, 14, 0, 0, []),
  (5, .aload_n 0, 1, 0, 0, 0, 0, []),
  (6, .getfield 61, 3, 0, 13, 21, 1, []),
  (9, .iconst 3, 1, 3, 0, 0, 0, []),
  (10, .iload_n 1, 1, 0, 1, 0, 0, []),
  (11, .isub, 1, 0, 0, 0, 0, []),
  (12, .iaload, 1, 0, 0, 0, 0, []),
  (13, .ireturn, 1, 0, 0, 0, 0, []),
  (14, .iload_n 1, 1, 0, 1, 0, 0, []),
  (15, .bipush 16, 2, 16, 0, 0, 0, []),
  (17, .if_icmp .ge 67, 3, 0, 84, 0, 0, []),
  (20, .iload_n 1, 1, 0, 1, 0, 0, []),
  (21, .bipush 10, 2, 10, 0, 0, 0, []),
  (23, .if_icmp .ge 9, 3, 0, 32, 0, 0, []),
  (26, .iload_n 1, 1, 0, 1, 0, 0, []),
  (27, .iconst 4, 1, 4, 0, 0, 0, []),
  (28, .isub, 1, 0, 0, 0, 0, []),
  (29, .goto 7, 3, 0, 36, 0, 0, []),
  (32, .iload_n 1, 1, 0, 1, 0, 0, []),
  (33, .bipush 10, 2, 10, 0, 0, 0, []),
  (35, .isub, 1, 0, 0, 0, 0, []),
  (36, .istore_n 2, 1, 0, 2, 0, 0, []),
  (37, .iload_n 2, 1, 0, 2, 0, 0, []),
  (38, .iconst 2, 1, 2, 0, 0, 0, []),
  (39, .idiv, 1, 0, 0, 0, 0, []),
  (40, .iconst 1, 1, 1, 0, 0, 0, []),
  (41, .iadd, 1, 0, 0, 0, 0, []),
  (42, .istore_n 3, 1, 0, 3, 0, 0, []),
  (43, .iload_n 1, 1, 0, 1, 0, 0, []),
  (44, .bipush 10, 2, 10, 0, 0, 0, []),
  (46, .if_icmp .ge 12, 3, 0, 58, 0, 0, []),
  (49, .aload_n 0, 1, 0, 0, 0, 0, []),
  (50, .getfield 61, 3, 0, 13, 21, 1, []),
  (53, .iconst 3, 1, 3, 0, 0, 0, []),
  (54, .iaload, 1, 0, 0, 0, 0, []),
  (55, .goto 9, 3, 0, 64, 0, 0, []),
  (58, .aload_n 0, 1, 0, 0, 0, 0, []),
  (59, .getfield 61, 3, 0, 13, 21, 1, [])]
def am_c215_1 : List (Nat × am_Row) := [(62, .iconst 2, 1, 2, 0, 0, 0, []),
  (63, .iaload, 1, 0, 0, 0, 0, []),
  (64, .istore 4, 2, 0, 4, 0, 0, []),
  (66, .iload_n 2, 1, 0, 2, 0, 0, []),
  (67, .iconst 2, 1, 2, 0, 0, 0, []),
  (68, .irem, 1, 0, 0, 0, 0, []),
  (69, .ifCond .ne 10, 3, 0, 79, 0, 0, []),
  (72, .iload 4, 2, 0, 4, 0, 0, []),
  (74, .iload_n 3, 1, 0, 3, 0, 0, []),
  (75, .isub, 1, 0, 0, 0, 0, []),
  (76, .goto 7, 3, 0, 83, 0, 0, []),
  (79, .iload 4, 2, 0, 4, 0, 0, []),
  (81, .iload_n 3, 1, 0, 3, 0, 0, []),
  (82, .iadd, 1, 0, 0, 0, 0, []),
  (83, .ireturn, 1, 0, 0, 0, 0, []),
  (84, .iload_n 1, 1, 0, 1, 0, 0, []),
  (85, .bipush 16, 2, 16, 0, 0, 0, []),
  (87, .aload_n 0, 1, 0, 0, 0, 0, []),
  (88, .getfield 202, 3, 0, 13, 23, 0, []),
  (91, .iadd, 1, 0, 0, 0, 0, []),
  (92, .if_icmp .ge 8, 3, 0, 100, 0, 0, []),
  (95, .iload_n 1, 1, 0, 1, 0, 0, []),
  (96, .bipush 15, 2, 15, 0, 0, 0, []),
  (98, .isub, 1, 0, 0, 0, 0, []),
  (99, .ireturn, 1, 0, 0, 0, 0, []),
  (100, .iload_n 1, 1, 0, 1, 0, 0, []),
  (101, .aload_n 0, 1, 0, 0, 0, 0, []),
  (102, .getfield 202, 3, 0, 13, 23, 0, []),
  (105, .isub, 1, 0, 0, 0, 0, []),
  (106, .bipush 16, 2, 16, 0, 0, 0, []),
  (108, .isub, 1, 0, 0, 0, 0, []),
  (109, .istore_n 2, 1, 0, 2, 0, 0, []),
  (110, .iconst 1, 1, 1, 0, 0, 0, []),
  (111, .iload_n 2, 1, 0, 2, 0, 0, []),
  (112, .aload_n 0, 1, 0, 0, 0, 0, []),
  (113, .getfield 205, 3, 0, 13, 22, 0, []),
  (116, .iconst 1, 1, 1, 0, 0, 0, []),
  (117, .iadd, 1, 0, 0, 0, 0, []),
  (118, .ishr, 1, 0, 0, 0, 0, []),
  (119, .iadd, 1, 0, 0, 0, 0, [])]
def am_c215_2 : List (Nat × am_Row) := [(120, .istore_n 3, 1, 0, 3, 0, 0, []),
  (121, .aload_n 0, 1, 0, 0, 0, 0, []),
  (122, .iload_n 3, 1, 0, 3, 0, 0, []),
  (123, .invokevirtual 224, 3, 0, 174, 2, 13, []),
  (126, .istore 4, 2, 0, 4, 0, 0, []),
  (128, .iconst 2, 1, 2, 0, 0, 0, []),
  (129, .iload_n 2, 1, 0, 2, 0, 0, []),
  (130, .aload_n 0, 1, 0, 0, 0, 0, []),
  (131, .getfield 205, 3, 0, 13, 22, 0, []),
  (134, .ishr, 1, 0, 0, 0, 0, []),
  (135, .iconst 2, 1, 2, 0, 0, 0, []),
  (136, .irem, 1, 0, 0, 0, 0, []),
  (137, .iadd, 1, 0, 0, 0, 0, []),
  (138, .iload_n 3, 1, 0, 3, 0, 0, []),
  (139, .ishl, 1, 0, 0, 0, 0, []),
  (140, .iconst 4, 1, 4, 0, 0, 0, []),
  (141, .isub, 1, 0, 0, 0, 0, []),
  (142, .iload 4, 2, 0, 4, 0, 0, []),
  (144, .iadd, 1, 0, 0, 0, 0, []),
  (145, .aload_n 0, 1, 0, 0, 0, 0, []),
  (146, .getfield 205, 3, 0, 13, 22, 0, []),
  (149, .ishl, 1, 0, 0, 0, 0, []),
  (150, .iload_n 2, 1, 0, 2, 0, 0, []),
  (151, .iconst 1, 1, 1, 0, 0, 0, []),
  (152, .aload_n 0, 1, 0, 0, 0, 0, []),
  (153, .getfield 205, 3, 0, 13, 22, 0, []),
  (156, .ishl, 1, 0, 0, 0, 0, []),
  (157, .iconst 1, 1, 1, 0, 0, 0, []),
  (158, .isub, 1, 0, 0, 0, 0, []),
  (159, .iand, 1, 0, 0, 0, 0, []),
  (160, .iadd, 1, 0, 0, 0, 0, []),
  (161, .aload_n 0, 1, 0, 0, 0, 0, []),
  (162, .getfield 202, 3, 0, 13, 23, 0, []),
  (165, .iadd, 1, 0, 0, 0, 0, []),
  (166, .iconst 1, 1, 1, 0, 0, 0, []),
  (167, .iadd, 1, 0, 0, 0, 0, []),
  (168, .ireturn, 1, 0, 0, 0, 0, [])]
def am_c215 : List (Nat × am_Row) := am_c215_0 ++ (am_c215_1 ++ (am_c215_2))
/-- BrotliWordsModel.readCoded(I)V -/
def am_c216_0 : List (Nat × am_Row) := [(0, .aload_n 0, 1, 0, 0, 0, 0, []),
  (1, .invokevirtual 369, 3, 0, 198, 1, 13, []),
  (4, .aload_n 0, 1, 0, 0, 0, 0, []),
  (5, .getfield 345, 3, 0, 13, 6, 0, []),
  (8, .iload_n 1, 1, 0, 1, 0, 0, []),
  (9, .iadd, 1, 0, 0, 0, 0, []),
  (10, .istore_n 2, 1, 0, 2, 0, 0, []),
  (11, .aload_n 0, 1, 0, 0, 0, 0, []),
  (12, .getfield 345, 3, 0, 13, 6, 0, []),
  (15, .iload_n 2, 1, 0, 2, 0, 0, []),
  (16, .if_icmp .ge 175, 3, 0, 191, 0, 0, []),
  (19, .aload_n 0, 1, 0, 0, 0, 0, []),
  (20, .iconst 1, 1, 1, 0, 0, 0, []),
  (21, .invokevirtual 360, 3, 0, 195, 2, 13, []),
  (24, .aload_n 0, 1, 0, 0, 0, 0, []),
  (25, .sipush 3192, 3, 3192, 0, 0, 0, []),
  (28, .sipush 704, 3, 704, 0, 0, 0, []),
  (31, .aload_n 0, 1, 0, 0, 0, 0, []),
  (32, .getfield 67, 3, 0, 13, 25, 1, []),
  (35, .iconst 1, 1, 1, 0, 0, 0, []),
  (36, .iaload, 1, 0, 0, 0, 0, []),
  (37, .imul, 1, 0, 0, 0, 0, []),
  (38, .iadd, 1, 0, 0, 0, 0, []),
  (39, .sipush 704, 3, 704, 0, 0, 0, []),
  (42, .invokevirtual 254, 3, 0, 176, 3, 13, []),
  (45, .istore_n 3, 1, 0, 3, 0, 0, []),
  (46, .iload_n 3, 1, 0, 3, 0, 0, []),
  (47, .bipush 64, 2, 64, 0, 0, 0, []),
  (49, .idiv, 1, 0, 0, 0, 0, []),
  (50, .istore 4, 2, 0, 4, 0, 0, []),
  (52, .bipush 8, 2, 8, 0, 0, 0, []),
  (54, .iload 4, 2, 0, 4, 0, 0, []),
  (56, .invokestatic 372, 3, 0, 204, 1, 999, []),
  (59, .imul, 1, 0, 0, 0, 0, []),
  (60, .iload_n 3, 1, 0, 3, 0, 0, []),
  (61, .bipush 8, 2, 8, 0, 0, 0, []),
  (63, .idiv, 1, 0, 0, 0, 0, []),
  (64, .bipush 8, 2, 8, 0, 0, 0, []),
  (66, .irem, 1, 0, 0, 0, 0, []),
  (67, .iadd, 1, 0, 0, 0, 0, [])]
def am_c216_1 : List (Nat × am_Row) := [(68, .istore 5, 2, 0, 5, 0, 0, []),
  (70, .bipush 8, 2, 8, 0, 0, 0, []),
  (72, .iload 4, 2, 0, 4, 0, 0, []),
  (74, .invokestatic 375, 3, 0, 205, 1, 999, []),
  (77, .imul, 1, 0, 0, 0, 0, []),
  (78, .iload_n 3, 1, 0, 3, 0, 0, []),
  (79, .bipush 8, 2, 8, 0, 0, 0, []),
  (81, .irem, 1, 0, 0, 0, 0, []),
  (82, .iadd, 1, 0, 0, 0, 0, []),
  (83, .istore 6, 2, 0, 6, 0, 0, []),
  (85, .iload 5, 2, 0, 5, 0, 0, []),
  (87, .invokestatic 378, 3, 0, 202, 1, 999, []),
  (90, .aload_n 0, 1, 0, 0, 0, 0, []),
  (91, .iload 5, 2, 0, 5, 0, 0, []),
  (93, .invokestatic 315, 3, 0, 200, 1, 999, []),
  (96, .invokevirtual 224, 3, 0, 174, 2, 13, []),
  (99, .iadd, 1, 0, 0, 0, 0, []),
  (100, .istore 7, 2, 0, 7, 0, 0, []),
  (102, .iload 6, 2, 0, 6, 0, 0, []),
  (104, .invokestatic 381, 3, 0, 203, 1, 999, []),
  (107, .aload_n 0, 1, 0, 0, 0, 0, []),
  (108, .iload 6, 2, 0, 6, 0, 0, []),
  (110, .invokestatic 318, 3, 0, 201, 1, 999, []),
  (113, .invokevirtual 224, 3, 0, 174, 2, 13, []),
  (116, .iadd, 1, 0, 0, 0, 0, []),
  (117, .istore 8, 2, 0, 8, 0, 0, []),
  (119, .aload_n 0, 1, 0, 0, 0, 0, []),
  (120, .bipush 9, 2, 9, 0, 0, 0, []),
  (122, .invokevirtual 384, 3, 0, 186, 2, 13, []),
  (125, .iload 7, 2, 0, 7, 0, 0, []),
  (127, .iload_n 2, 1, 0, 2, 0, 0, []),
  (128, .aload_n 0, 1, 0, 0, 0, 0, []),
  (129, .getfield 345, 3, 0, 13, 6, 0, []),
  (132, .isub, 1, 0, 0, 0, 0, []),
  (133, .if_icmp .le 9, 3, 0, 142, 0, 0, []),
  (136, .aload_n 0, 1, 0, 0, 0, 0, []),
  (137, .bipush 8, 2, 8, 0, 0, 0, []),
  (139, .invokevirtual 214, 3, 0, 152, 2, 13, []),
  (142, .iconst 0, 1, 0, 0, 0, 0, []),
  (143, .istore 9, 2, 0, 9, 0, 0, [])]
def am_c216_2 : List (Nat × am_Row) := [(145, .iload 9, 2, 0, 9, 0, 0, []),
  (147, .iload 7, 2, 0, 7, 0, 0, []),
  (149, .if_icmp .ge 13, 3, 0, 162, 0, 0, []),
  (152, .aload_n 0, 1, 0, 0, 0, 0, []),
  (153, .invokevirtual 387, 3, 0, 214, 1, 13, []),
  (156, .iinc 9 1, 3, 1, 9, 0, 0, []),
  (159, .goto (-14), 3, 0, 145, 0, 0, []),
  (162, .aload_n 0, 1, 0, 0, 0, 0, []),
  (163, .getfield 345, 3, 0, 13, 6, 0, []),
  (166, .iload_n 2, 1, 0, 2, 0, 0, []),
  (167, .if_icmp .ge 21, 3, 0, 188, 0, 0, []),
  (170, .aload_n 0, 1, 0, 0, 0, 0, []),
  (171, .iload 4, 2, 0, 4, 0, 0, []),
  (173, .iconst 2, 1, 2, 0, 0, 0, []),
  (174, .if_icmp .ge 7, 3, 0, 181, 0, 0, []),
  (177, .iconst 1, 1, 1, 0, 0, 0, []),
  (178, .goto 4, 3, 0, 182, 0, 0, []),
  (181, .iconst 0, 1, 0, 0, 0, 0, []),
  (182, .iload 8, 2, 0, 8, 0, 0, []),
  (184, .iload_n 2, 1, 0, 2, 0, 0, []),
  (185, .invokevirtual 390, 3, 0, 217, 4, 13, []),
  (188, .goto (-177), 3, 0, 11, 0, 0, []),
  (191, .return_, 1, 0, 0, 0, 0, [])]
def am_c216 : List (Nat × am_Row) := am_c216_0 ++ (am_c216_1 ++ (am_c216_2))
end
section
/-- BrotliWordsModel.goBack(ZII)V -/
def am_c217_0 : List (Nat × am_Row) := [(0, .iconst 0, 1, 0, 0, 0, 0, []),
  (1, .istore 4, 2, 0, 4, 0, 0, []),
  (3, .iload_n 1, 1, 0, 1, 0, 0, []),
  (4, .ifCond .ne 56, 3, 0, 60, 0, 0, []),
  (7, .aload_n 0, 1, 0, 0, 0, 0, []),
  (8, .iconst 2, 1, 2, 0, 0, 0, []),
  (9, .invokevirtual 360, 3, 0, 195, 2, 13, []),
  (12, .aload_n 0, 1, 0, 0, 0, 0, []),
  (13, .getfield 82, 3, 0, 13, 32, 1, []),
  (16, .iconst 4, 1, 4, 0, 0, 0, []),
  (17, .aload_n 0, 1, 0, 0, 0, 0, []),
  (18, .getfield 67, 3, 0, 13, 25, 1, []),
  (21, .iconst 2, 1, 2, 0, 0, 0, []),
  (22, .iaload, 1, 0, 0, 0, 0, []),
  (23, .imul, 1, 0, 0, 0, 0, []),
  (24, .iload_n 2, 1, 0, 2, 0, 0, []),
  (25, .iconst 5, 1, 5, 0, 0, 0, []),
  (26, .if_icmp .le 7, 3, 0, 33, 0, 0, []),
  (29, .iconst 3, 1, 3, 0, 0, 0, []),
  (30, .goto 6, 3, 0, 36, 0, 0, []),
  (33, .iload_n 2, 1, 0, 2, 0, 0, []),
  (34, .iconst 2, 1, 2, 0, 0, 0, []),
  (35, .isub, 1, 0, 0, 0, 0, []),
  (36, .iadd, 1, 0, 0, 0, 0, []),
  (37, .iaload, 1, 0, 0, 0, 0, []),
  (38, .istore 5, 2, 0, 5, 0, 0, []),
  (40, .aload_n 0, 1, 0, 0, 0, 0, []),
  (41, .sipush 11640, 3, 11640, 0, 0, 0, []),
  (44, .sipush 520, 3, 520, 0, 0, 0, []),
  (47, .iload 5, 2, 0, 5, 0, 0, []),
  (49, .imul, 1, 0, 0, 0, 0, []),
  (50, .iadd, 1, 0, 0, 0, 0, []),
  (51, .aload_n 0, 1, 0, 0, 0, 0, []),
  (52, .invokevirtual 296, 3, 0, 170, 1, 13, []),
  (55, .invokevirtual 254, 3, 0, 176, 3, 13, []),
  (58, .istore 4, 2, 0, 4, 0, 0, []),
  (60, .aload_n 0, 1, 0, 0, 0, 0, []),
  (61, .iload 4, 2, 0, 4, 0, 0, []),
  (63, .invokevirtual 394, 3, 0, 215, 2, 13, []),
  (66, .istore 5, 2, 0, 5, 0, 0, [])]
def am_c217_1 : List (Nat × am_Row) := [(68, .iload 5, 2, 0, 5, 0, 0, []),
  (70, .ifCond .gt 9, 3, 0, 79, 0, 0, []),
  (73, .aload_n 0, 1, 0, 0, 0, 0, []),
  (74, .bipush 9, 2, 9, 0, 0, 0, []),
  (76, .invokevirtual 214, 3, 0, 152, 2, 13, []),
  (79, .aload_n 0, 1, 0, 0, 0, 0, []),
  (80, .getfield 345, 3, 0, 13, 6, 0, []),
  (83, .aload_n 0, 1, 0, 0, 0, 0, []),
  (84, .getfield 397, 3, 0, 13, 42, 0, []),
  (87, .if_icmp .ge 10, 3, 0, 97, 0, 0, []),
  (90, .aload_n 0, 1, 0, 0, 0, 0, []),
  (91, .getfield 345, 3, 0, 13, 6, 0, []),
  (94, .goto 7, 3, 0, 101, 0, 0, []),
  (97, .aload_n 0, 1, 0, 0, 0, 0, []),
  (98, .getfield 397, 3, 0, 13, 42, 0, []),
  (101, .istore 6, 2, 0, 6, 0, 0, []),
  (103, .iload 5, 2, 0, 5, 0, 0, []),
  (105, .iload 6, 2, 0, 6, 0, 0, []),
  (107, .if_icmp .le 17, 3, 0, 124, 0, 0, []),
  (110, .aload_n 0, 1, 0, 0, 0, 0, []),
  (111, .iload 5, 2, 0, 5, 0, 0, []),
  (113, .iload 6, 2, 0, 6, 0, 0, []),
  (115, .isub, 1, 0, 0, 0, 0, []),
  (116, .iconst 1, 1, 1, 0, 0, 0, []),
  (117, .isub, 1, 0, 0, 0, 0, []),
  (118, .iload_n 2, 1, 0, 2, 0, 0, []),
  (119, .iload_n 3, 1, 0, 3, 0, 0, []),
  (120, .invokevirtual 400, 3, 0, 218, 4, 13, []),
  (123, .return_, 1, 0, 0, 0, 0, []),
  (124, .iload_n 2, 1, 0, 2, 0, 0, []),
  (125, .iload_n 3, 1, 0, 3, 0, 0, []),
  (126, .aload_n 0, 1, 0, 0, 0, 0, []),
  (127, .getfield 345, 3, 0, 13, 6, 0, []),
  (130, .isub, 1, 0, 0, 0, 0, []),
  (131, .if_icmp .le 9, 3, 0, 140, 0, 0, []),
  (134, .aload_n 0, 1, 0, 0, 0, 0, []),
  (135, .bipush 8, 2, 8, 0, 0, 0, []),
  (137, .invokevirtual 214, 3, 0, 152, 2, 13, []),
  (140, .iconst 0, 1, 0, 0, 0, 0, []),
  (141, .istore 7, 2, 0, 7, 0, 0, [])]
def am_c217_2 : List (Nat × am_Row) := [(143, .iload 7, 2, 0, 7, 0, 0, []),
  (145, .iload_n 2, 1, 0, 2, 0, 0, []),
  (146, .if_icmp .ge 25, 3, 0, 171, 0, 0, []),
  (149, .aload_n 0, 1, 0, 0, 0, 0, []),
  (150, .aload_n 0, 1, 0, 0, 0, 0, []),
  (151, .getfield 30, 3, 0, 13, 5, 1, []),
  (154, .aload_n 0, 1, 0, 0, 0, 0, []),
  (155, .getfield 345, 3, 0, 13, 6, 0, []),
  (158, .iload 5, 2, 0, 5, 0, 0, []),
  (160, .isub, 1, 0, 0, 0, 0, []),
  (161, .baload, 1, 0, 0, 0, 0, []),
  (162, .invokevirtual 366, 3, 0, 213, 2, 13, []),
  (165, .iinc 7 1, 3, 1, 7, 0, 0, []),
  (168, .goto (-25), 3, 0, 143, 0, 0, []),
  (171, .aload_n 0, 1, 0, 0, 0, 0, []),
  (172, .bipush 10, 2, 10, 0, 0, 0, []),
  (174, .invokevirtual 384, 3, 0, 186, 2, 13, []),
  (177, .iload 4, 2, 0, 4, 0, 0, []),
  (179, .ifCond .eq 9, 3, 0, 188, 0, 0, []),
  (182, .aload_n 0, 1, 0, 0, 0, 0, []),
  (183, .iload 5, 2, 0, 5, 0, 0, []),
  (185, .invokevirtual 403, 3, 0, 189, 2, 13, []),
  (188, .return_, 1, 0, 0, 0, 0, [])]
def am_c217 : List (Nat × am_Row) := am_c217_0 ++ (am_c217_1 ++ (am_c217_2))
/-- BrotliWordsModel.tellWord(III)V -/
def am_c218_0 : List (Nat × am_Row) := [(0, .iload_n 2, 1, 0, 2, 0, 0, []),
  (1, .i2l, 1, 0, 0, 0, 0, []),
  (2, .ldc2_w 173, 3, 4, 0, 0, 0, []),
  (5, .ldc2_w 175, 3, 10, 0, 0, 0, []),
  (8, .invokestatic 163, 3, 0, 901, 3, 0, []),
  (11, .ifCond .ne 9, 3, 0, 20, 0, 0, []),
  (14, .aload_n 0, 1, 0, 0, 0, 0, []),
  (15, .bipush 10, 2, 10, 0, 0, 0, []),
  (17, .invokevirtual 214, 3, 0, 152, 2, 13, []),
  (20, .aload_n 0, 1, 0, 0, 0, 0, []),
  (21, .iload_n 2, 1, 0, 2, 0, 0, []),
  (22, .invokevirtual 406, 3, 0, 166, 2, 13, []),
  (25, .istore 4, 2, 0, 4, 0, 0, []),
  (27, .iload_n 1, 1, 0, 1, 0, 0, []),
  (28, .iconst 1, 1, 1, 0, 0, 0, []),
  (29, .iload 4, 2, 0, 4, 0, 0, []),
  (31, .ishl, 1, 0, 0, 0, 0, []),
  (32, .iconst 1, 1, 1, 0, 0, 0, []),
  (33, .isub, 1, 0, 0, 0, 0, []),
  (34, .iand, 1, 0, 0, 0, 0, []),
  (35, .istore 5, 2, 0, 5, 0, 0, []),
  (37, .iload 5, 2, 0, 5, 0, 0, []),
  (39, .aload_n 0, 1, 0, 0, 0, 0, []),
  (40, .getfield 36, 3, 0, 13, 8, 1, []),
  (43, .iload_n 2, 1, 0, 2, 0, 0, []),
  (44, .iaload, 1, 0, 0, 0, 0, []),
  (45, .if_icmp .lt 9, 3, 0, 54, 0, 0, []),
  (48, .aload_n 0, 1, 0, 0, 0, 0, []),
  (49, .bipush 10, 2, 10, 0, 0, 0, []),
  (51, .invokevirtual 214, 3, 0, 152, 2, 13, []),
  (54, .iload_n 1, 1, 0, 1, 0, 0, []),
  (55, .iload 4, 2, 0, 4, 0, 0, []),
  (57, .ishr, 1, 0, 0, 0, 0, []),
  (58, .bipush 23, 2, 23, 0, 0, 0, []),
  (60, .if_icmp .le 9, 3, 0, 69, 0, 0, []),
  (63, .aload_n 0, 1, 0, 0, 0, 0, []),
  (64, .bipush 11, 2, 11, 0, 0, 0, []),
  (66, .invokevirtual 214, 3, 0, 152, 2, 13, []),
  (69, .aload_n 0, 1, 0, 0, 0, 0, []),
  (70, .iload_n 2, 1, 0, 2, 0, 0, [])]
def am_c218_1 : List (Nat × am_Row) := [(71, .iload 5, 2, 0, 5, 0, 0, []),
  (73, .iload_n 1, 1, 0, 1, 0, 0, []),
  (74, .iload 4, 2, 0, 4, 0, 0, []),
  (76, .ishr, 1, 0, 0, 0, 0, []),
  (77, .invokevirtual 198, 3, 0, 168, 4, 13, []),
  (80, .aload_n 0, 1, 0, 0, 0, 0, []),
  (81, .getfield 189, 3, 0, 13, 10, 0, []),
  (84, .iload_n 3, 1, 0, 3, 0, 0, []),
  (85, .aload_n 0, 1, 0, 0, 0, 0, []),
  (86, .getfield 345, 3, 0, 13, 6, 0, []),
  (89, .isub, 1, 0, 0, 0, 0, []),
  (90, .if_icmp .le 9, 3, 0, 99, 0, 0, []),
  (93, .aload_n 0, 1, 0, 0, 0, 0, []),
  (94, .bipush 8, 2, 8, 0, 0, 0, []),
  (96, .invokevirtual 214, 3, 0, 152, 2, 13, []),
  (99, .iconst 0, 1, 0, 0, 0, 0, []),
  (100, .istore 6, 2, 0, 6, 0, 0, []),
  (102, .iload 6, 2, 0, 6, 0, 0, []),
  (104, .aload_n 0, 1, 0, 0, 0, 0, []),
  (105, .getfield 189, 3, 0, 13, 10, 0, []),
  (108, .if_icmp .ge 20, 3, 0, 128, 0, 0, []),
  (111, .aload_n 0, 1, 0, 0, 0, 0, []),
  (112, .aload_n 0, 1, 0, 0, 0, 0, []),
  (113, .getfield 40, 3, 0, 13, 9, 1, []),
  (116, .iload 6, 2, 0, 6, 0, 0, []),
  (118, .baload, 1, 0, 0, 0, 0, []),
  (119, .invokevirtual 366, 3, 0, 213, 2, 13, []),
  (122, .iinc 6 1, 3, 1, 6, 0, 0, []),
  (125, .goto (-23), 3, 0, 102, 0, 0, []),
  (128, .aload_n 0, 1, 0, 0, 0, 0, []),
  (129, .bipush 11, 2, 11, 0, 0, 0, []),
  (131, .invokevirtual 384, 3, 0, 186, 2, 13, []),
  (134, .return_, 1, 0, 0, 0, 0, [])]
def am_c218 : List (Nat × am_Row) := am_c218_0 ++ (am_c218_1)
/-- BrotliWordsModel.readSpan()V -/
def am_c219_0 : List (Nat × am_Row) := [(0, .bipush 16, 2, 16, 0, 0, 0, []),
  (2, .istore_n 1, 1, 0, 1, 0, 0, []),
  (3, .aload_n 0, 1, 0, 0, 0, 0, []),
  (4, .invokevirtual 217, 3, 0, 173, 1, 13, []),
  (7, .iconst 1, 1, 1, 0, 0, 0, []),
  (8, .if_icmp .ne 48, 3, 0, 56, 0, 0, []),
  (11, .aload_n 0, 1, 0, 0, 0, 0, []),
  (12, .iconst 3, 1, 3, 0, 0, 0, []),
  (13, .invokevirtual 224, 3, 0, 174, 2, 13, []),
  (16, .istore_n 2, 1, 0, 2, 0, 0, []),
  (17, .bipush 17, 2, 17, 0, 0, 0, []),
  (19, .iload_n 2, 1, 0, 2, 0, 0, []),
  (20, .iadd, 1, 0, 0, 0, 0, []),
  (21, .istore_n 1, 1, 0, 1, 0, 0, []),
  (22, .iload_n 2, 1, 0, 2, 0, 0, []),
  (23, .ifCond .ne 33, 3, 0, 56, 0, 0, []),
  (26, .aload_n 0, 1, 0, 0, 0, 0, []),
  (27, .iconst 3, 1, 3, 0, 0, 0, []),
  (28, .invokevirtual 224, 3, 0, 174, 2, 13, []),
  (31, .istore_n 3, 1, 0, 3, 0, 0, []),
  (32, .iload_n 3, 1, 0, 3, 0, 0, []),
  (33, .iconst 1, 1, 1, 0, 0, 0, []),
  (34, .if_icmp .ne 8, 3, 0, 42, 0, 0, []),
  (37, .aload_n 0, 1, 0, 0, 0, 0, []),
  (38, .iconst 3, 1, 3, 0, 0, 0, []),
  (39, .invokevirtual 214, 3, 0, 152, 2, 13, []),
  (42, .iload_n 3, 1, 0, 3, 0, 0, []),
  (43, .ifCond .ne 8, 3, 0, 51, 0, 0, []),
  (46, .bipush 17, 2, 17, 0, 0, 0, []),
  (48, .goto 7, 3, 0, 55, 0, 0, []),
  (51, .bipush 8, 2, 8, 0, 0, 0, []),
  (53, .iload_n 3, 1, 0, 3, 0, 0, []),
  (54, .iadd, 1, 0, 0, 0, 0, []),
  (55, .istore_n 1, 1, 0, 1, 0, 0, []),
  (56, .aload_n 0, 1, 0, 0, 0, 0, []),
  (57, .iconst 1, 1, 1, 0, 0, 0, []),
  (58, .iload_n 1, 1, 0, 1, 0, 0, []),
  (59, .ishl, 1, 0, 0, 0, 0, []),
  (60, .bipush 16, 2, 16, 0, 0, 0, []),
  (62, .isub, 1, 0, 0, 0, 0, [])]
def am_c219_1 : List (Nat × am_Row) := [(63, .putfield 397, 3, 0, 13, 42, 0, []),
  (66, .return_, 1, 0, 0, 0, 0, [])]
def am_c219 : List (Nat × am_Row) := am_c219_0 ++ (am_c219_1)
/-- BrotliWordsModel.passOver(Z)V -/
def am_c220_0 : List (Nat × am_Row) := [(0, .iload_n 1, 1, 0, 1, 0, 0, []),
  (1, .ifCond .eq 8, 3, 0, 9, 0, 0, []),
  (4, .aload_n 0, 1, 0, 0, 0, 0, []),
  (5, .iconst 4, 1, 4, 0, 0, 0, []),
  (6, .invokevirtual 214, 3, 0, 152, 2, 13, []),
  (9, .aload_n 0, 1, 0, 0, 0, 0, []),
  (10, .iconst 1, 1, 1, 0, 0, 0, []),
  (11, .iconst 0, 1, 0, 0, 0, 0, []),
  (12, .invokevirtual 409, 3, 0, 187, 3, 13, []),
  (15, .aload_n 0, 1, 0, 0, 0, 0, []),
  (16, .invokevirtual 217, 3, 0, 173, 1, 13, []),
  (19, .iconst 1, 1, 1, 0, 0, 0, []),
  (20, .if_icmp .ne 8, 3, 0, 28, 0, 0, []),
  (23, .aload_n 0, 1, 0, 0, 0, 0, []),
  (24, .iconst 4, 1, 4, 0, 0, 0, []),
  (25, .invokevirtual 214, 3, 0, 152, 2, 13, []),
  (28, .aload_n 0, 1, 0, 0, 0, 0, []),
  (29, .iconst 2, 1, 2, 0, 0, 0, []),
  (30, .invokevirtual 224, 3, 0, 174, 2, 13, []),
  (33, .istore_n 2, 1, 0, 2, 0, 0, []),
  (34, .aload_n 0, 1, 0, 0, 0, 0, []),
  (35, .bipush 8, 2, 8, 0, 0, 0, []),
  (37, .iload_n 2, 1, 0, 2, 0, 0, []),
  (38, .imul, 1, 0, 0, 0, 0, []),
  (39, .invokevirtual 224, 3, 0, 174, 2, 13, []),
  (42, .istore_n 3, 1, 0, 3, 0, 0, []),
  (43, .iload_n 2, 1, 0, 2, 0, 0, []),
  (44, .iconst 1, 1, 1, 0, 0, 0, []),
  (45, .if_icmp .le 19, 3, 0, 64, 0, 0, []),
  (48, .iload_n 3, 1, 0, 3, 0, 0, []),
  (49, .bipush 8, 2, 8, 0, 0, 0, []),
  (51, .iload_n 2, 1, 0, 2, 0, 0, []),
  (52, .iconst 1, 1, 1, 0, 0, 0, []),
  (53, .isub, 1, 0, 0, 0, 0, []),
  (54, .imul, 1, 0, 0, 0, 0, []),
  (55, .ishr, 1, 0, 0, 0, 0, []),
  (56, .ifCond .ne 8, 3, 0, 64, 0, 0, []),
  (59, .aload_n 0, 1, 0, 0, 0, 0, []),
  (60, .iconst 5, 1, 5, 0, 0, 0, []),
  (61, .invokevirtual 214, 3, 0, 152, 2, 13, [])]
def am_c220_1 : List (Nat × am_Row) := [(64, .iload_n 2, 1, 0, 2, 0, 0, []),
  (65, .ifCond .le 9, 3, 0, 74, 0, 0, []),
  (68, .iload_n 3, 1, 0, 3, 0, 0, []),
  (69, .iconst 1, 1, 1, 0, 0, 0, []),
  (70, .iadd, 1, 0, 0, 0, 0, []),
  (71, .goto 4, 3, 0, 75, 0, 0, []),
  (74, .iconst 0, 1, 0, 0, 0, 0, []),
  (75, .istore 4, 2, 0, 4, 0, 0, []),
  (77, .aload_n 0, 1, 0, 0, 0, 0, []),
  (78, .iconst 1, 1, 1, 0, 0, 0, []),
  (79, .iload 4, 2, 0, 4, 0, 0, []),
  (81, .invokevirtual 262, 3, 0, 185, 3, 13, []),
  (84, .aload_n 0, 1, 0, 0, 0, 0, []),
  (85, .invokevirtual 412, 3, 0, 175, 1, 13, []),
  (88, .iload 4, 2, 0, 4, 0, 0, []),
  (90, .aload_n 0, 1, 0, 0, 0, 0, []),
  (91, .getfield 211, 3, 0, 13, 15, 0, []),
  (94, .aload_n 0, 1, 0, 0, 0, 0, []),
  (95, .getfield 208, 3, 0, 13, 16, 0, []),
  (98, .bipush 8, 2, 8, 0, 0, 0, []),
  (100, .idiv, 1, 0, 0, 0, 0, []),
  (101, .isub, 1, 0, 0, 0, 0, []),
  (102, .if_icmp .le 19, 3, 0, 121, 0, 0, []),
  (105, .aload_n 0, 1, 0, 0, 0, 0, []),
  (106, .bipush 8, 2, 8, 0, 0, 0, []),
  (108, .aload_n 0, 1, 0, 0, 0, 0, []),
  (109, .getfield 211, 3, 0, 13, 15, 0, []),
  (112, .imul, 1, 0, 0, 0, 0, []),
  (113, .putfield 208, 3, 0, 13, 16, 0, []),
  (116, .aload_n 0, 1, 0, 0, 0, 0, []),
  (117, .iconst 1, 1, 1, 0, 0, 0, []),
  (118, .invokevirtual 214, 3, 0, 152, 2, 13, []),
  (121, .aload_n 0, 1, 0, 0, 0, 0, []),
  (122, .aload_n 0, 1, 0, 0, 0, 0, []),
  (123, .getfield 208, 3, 0, 13, 16, 0, []),
  (126, .bipush 8, 2, 8, 0, 0, 0, []),
  (128, .iload 4, 2, 0, 4, 0, 0, []),
  (130, .imul, 1, 0, 0, 0, 0, []),
  (131, .iadd, 1, 0, 0, 0, 0, []),
  (132, .putfield 208, 3, 0, 13, 16, 0, [])]
def am_c220_2 : List (Nat × am_Row) := [(135, .return_, 1, 0, 0, 0, 0, [])]
def am_c220 : List (Nat × am_Row) := am_c220_0 ++ (am_c220_1 ++ (am_c220_2))
/-- BrotliWordsModel.readLength(I)I -/
def am_c221 : List (Nat × am_Row) := [(0, .aload_n 0, 1, 0, 0, 0, 0, []),
  (1, .iconst 4, 1, 4, 0, 0, 0, []),
  (2, .iload_n 1, 1, 0, 1, 0, 0, []),
  (3, .imul, 1, 0, 0, 0, 0, []),
  (4, .invokevirtual 224, 3, 0, 174, 2, 13, []),
  (7, .istore_n 2, 1, 0, 2, 0, 0, []),
  (8, .iload_n 1, 1, 0, 1, 0, 0, []),
  (9, .iconst 4, 1, 4, 0, 0, 0, []),
  (10, .if_icmp .le 18, 3, 0, 28, 0, 0, []),
  (13, .iload_n 2, 1, 0, 2, 0, 0, []),
  (14, .iconst 4, 1, 4, 0, 0, 0, []),
  (15, .iload_n 1, 1, 0, 1, 0, 0, []),
  (16, .iconst 1, 1, 1, 0, 0, 0, []),
  (17, .isub, 1, 0, 0, 0, 0, []),
  (18, .imul, 1, 0, 0, 0, 0, []),
  (19, .ishr, 1, 0, 0, 0, 0, []),
  (20, .ifCond .ne 8, 3, 0, 28, 0, 0, []),
  (23, .aload_n 0, 1, 0, 0, 0, 0, []),
  (24, .iconst 5, 1, 5, 0, 0, 0, []),
  (25, .invokevirtual 214, 3, 0, 152, 2, 13, []),
  (28, .iload_n 2, 1, 0, 2, 0, 0, []),
  (29, .iconst 1, 1, 1, 0, 0, 0, []),
  (30, .iadd, 1, 0, 0, 0, 0, []),
  (31, .ireturn, 1, 0, 0, 0, 0, [])]
/-- BrotliWordsModel.readAll()V -/
def am_c222_0 : List (Nat × am_Row) := [(0, .aload_n 0, 1, 0, 0, 0, 0, []),
  (1, .bipush 16, 2, 16, 0, 0, 0, []),
  (3, .invokevirtual 224, 3, 0, 174, 2, 13, []),
  (6, .aload_n 0, 1, 0, 0, 0, 0, []),
  (7, .invokevirtual 186, 3, 0, 164, 1, 13, []),
  (10, .if_icmp .eq 8, 3, 0, 18, 0, 0, []),
  (13, .aload_n 0, 1, 0, 0, 0, 0, []),
  (14, .iconst 2, 1, 2, 0, 0, 0, []),
  (15, .invokevirtual 214, 3, 0, 152, 2, 13, []),
  (18, .aload_n 0, 1, 0, 0, 0, 0, []),
  (19, .invokevirtual 415, 3, 0, 219, 1, 13, []),
  (22, .iconst 0, 1, 0, 0, 0, 0, []),
  (23, .istore_n 1, 1, 0, 1, 0, 0, []),
  (24, .iload_n 1, 1, 0, 1, 0, 0, []),
  (25, .ifCond .ne 72, 3, 0, 97, 0, 0, []),
  (28, .aload_n 0, 1, 0, 0, 0, 0, []),
  (29, .invokevirtual 217, 3, 0, 173, 1, 13, []),
  (32, .iconst 1, 1, 1, 0, 0, 0, []),
  (33, .if_icmp .ne 7, 3, 0, 40, 0, 0, []),
  (36, .iconst 1, 1, 1, 0, 0, 0, []),
  (37, .goto 4, 3, 0, 41, 0, 0, []),
  (40, .iconst 0, 1, 0, 0, 0, 0, []),
  (41, .istore_n 1, 1, 0, 1, 0, 0, []),
  (42, .iload_n 1, 1, 0, 1, 0, 0, []),
  (43, .ifCond .eq 20, 3, 0, 63, 0, 0, []),
  (46, .aload_n 0, 1, 0, 0, 0, 0, []),
  (47, .invokevirtual 217, 3, 0, 173, 1, 13, []),
  (50, .iconst 1, 1, 1, 0, 0, 0, []),
  (51, .if_icmp .ne 12, 3, 0, 63, 0, 0, []),
  (54, .aload_n 0, 1, 0, 0, 0, 0, []),
  (55, .iconst 0, 1, 0, 0, 0, 0, []),
  (56, .iconst 0, 1, 0, 0, 0, 0, []),
  (57, .invokevirtual 409, 3, 0, 187, 3, 13, []),
  (60, .goto (-36), 3, 0, 24, 0, 0, []),
  (63, .aload_n 0, 1, 0, 0, 0, 0, []),
  (64, .iconst 2, 1, 2, 0, 0, 0, []),
  (65, .invokevirtual 224, 3, 0, 174, 2, 13, []),
  (68, .istore_n 2, 1, 0, 2, 0, 0, []),
  (69, .iload_n 2, 1, 0, 2, 0, 0, []),
  (70, .iconst 3, 1, 3, 0, 0, 0, [])]
def am_c222_1 : List (Nat × am_Row) := [(71, .if_icmp .ne 11, 3, 0, 82, 0, 0, []),
  (74, .aload_n 0, 1, 0, 0, 0, 0, []),
  (75, .iload_n 1, 1, 0, 1, 0, 0, []),
  (76, .invokevirtual 418, 3, 0, 220, 2, 13, []),
  (79, .goto 15, 3, 0, 94, 0, 0, []),
  (82, .aload_n 0, 1, 0, 0, 0, 0, []),
  (83, .iload_n 1, 1, 0, 1, 0, 0, []),
  (84, .aload_n 0, 1, 0, 0, 0, 0, []),
  (85, .iconst 4, 1, 4, 0, 0, 0, []),
  (86, .iload_n 2, 1, 0, 2, 0, 0, []),
  (87, .iadd, 1, 0, 0, 0, 0, []),
  (88, .invokevirtual 422, 3, 0, 221, 2, 13, []),
  (91, .invokevirtual 425, 3, 0, 223, 3, 13, []),
  (94, .goto (-70), 3, 0, 24, 0, 0, []),
  (97, .aload_n 0, 1, 0, 0, 0, 0, []),
  (98, .invokevirtual 412, 3, 0, 175, 1, 13, []),
  (101, .aload_n 0, 1, 0, 0, 0, 0, []),
  (102, .getfield 208, 3, 0, 13, 16, 0, []),
  (105, .bipush 8, 2, 8, 0, 0, 0, []),
  (107, .aload_n 0, 1, 0, 0, 0, 0, []),
  (108, .getfield 211, 3, 0, 13, 15, 0, []),
  (111, .imul, 1, 0, 0, 0, 0, []),
  (112, .if_icmp .ge 9, 3, 0, 121, 0, 0, []),
  (115, .aload_n 0, 1, 0, 0, 0, 0, []),
  (116, .bipush 16, 2, 16, 0, 0, 0, []),
  (118, .invokevirtual 214, 3, 0, 152, 2, 13, []),
  (121, .return_, 1, 0, 0, 0, 0, [])]
def am_c222 : List (Nat × am_Row) := am_c222_0 ++ (am_c222_1)
/-- BrotliWordsModel.readPart(ZI)V -/
def am_c223_0 : List (Nat × am_Row) := [(0, .aload_n 0, 1, 0, 0, 0, 0, []),
  (1, .getfield 345, 3, 0, 13, 6, 0, []),
  (4, .iload_n 2, 1, 0, 2, 0, 0, []),
  (5, .iadd, 1, 0, 0, 0, 0, []),
  (6, .sipush 3000, 3, 3000, 0, 0, 0, []),
  (9, .if_icmp .le 9, 3, 0, 18, 0, 0, []),
  (12, .aload_n 0, 1, 0, 0, 0, 0, []),
  (13, .bipush 17, 2, 17, 0, 0, 0, []),
  (15, .invokevirtual 214, 3, 0, 152, 2, 13, []),
  (18, .iload_n 1, 1, 0, 1, 0, 0, []),
  (19, .ifCond .eq 12, 3, 0, 31, 0, 0, []),
  (22, .aload_n 0, 1, 0, 0, 0, 0, []),
  (23, .iconst 3, 1, 3, 0, 0, 0, []),
  (24, .iload_n 2, 1, 0, 2, 0, 0, []),
  (25, .invokevirtual 409, 3, 0, 187, 3, 13, []),
  (28, .goto 65, 3, 0, 93, 0, 0, []),
  (31, .aload_n 0, 1, 0, 0, 0, 0, []),
  (32, .invokevirtual 217, 3, 0, 173, 1, 13, []),
  (35, .iconst 1, 1, 1, 0, 0, 0, []),
  (36, .if_icmp .ne 7, 3, 0, 43, 0, 0, []),
  (39, .iconst 1, 1, 1, 0, 0, 0, []),
  (40, .goto 4, 3, 0, 44, 0, 0, []),
  (43, .iconst 0, 1, 0, 0, 0, 0, []),
  (44, .istore_n 3, 1, 0, 3, 0, 0, []),
  (45, .aload_n 0, 1, 0, 0, 0, 0, []),
  (46, .iload_n 3, 1, 0, 3, 0, 0, []),
  (47, .ifCond .eq 7, 3, 0, 54, 0, 0, []),
  (50, .iconst 2, 1, 2, 0, 0, 0, []),
  (51, .goto 4, 3, 0, 55, 0, 0, []),
  (54, .iconst 3, 1, 3, 0, 0, 0, []),
  (55, .iload_n 2, 1, 0, 2, 0, 0, []),
  (56, .invokevirtual 409, 3, 0, 187, 3, 13, []),
  (59, .iload_n 3, 1, 0, 3, 0, 0, []),
  (60, .ifCond .eq 33, 3, 0, 93, 0, 0, []),
  (63, .aload_n 0, 1, 0, 0, 0, 0, []),
  (64, .invokevirtual 412, 3, 0, 175, 1, 13, []),
  (67, .iconst 0, 1, 0, 0, 0, 0, []),
  (68, .istore 4, 2, 0, 4, 0, 0, []),
  (70, .iload 4, 2, 0, 4, 0, 0, []),
  (72, .iload_n 2, 1, 0, 2, 0, 0, [])]
def am_c223_1 : List (Nat × am_Row) := [(73, .if_icmp .ge 19, 3, 0, 92, 0, 0, []),
  (76, .aload_n 0, 1, 0, 0, 0, 0, []),
  (77, .aload_n 0, 1, 0, 0, 0, 0, []),
  (78, .bipush 8, 2, 8, 0, 0, 0, []),
  (80, .invokevirtual 224, 3, 0, 174, 2, 13, []),
  (83, .invokevirtual 366, 3, 0, 213, 2, 13, []),
  (86, .iinc 4 1, 3, 1, 4, 0, 0, []),
  (89, .goto (-19), 3, 0, 70, 0, 0, []),
  (92, .return_, 1, 0, 0, 0, 0, []),
  (93, .aload_n 0, 1, 0, 0, 0, 0, []),
  (94, .iload_n 2, 1, 0, 2, 0, 0, []),
  (95, .invokevirtual 429, 3, 0, 216, 2, 13, []),
  (98, .return_, 1, 0, 0, 0, 0, [])]
def am_c223 : List (Nat × am_Row) := am_c223_0 ++ (am_c223_1)
/-- BrotliWordsModel.open()I -/
def am_c224_0 : List (Nat × am_Row) := [(0, .aload_n 0, 1, 0, 0, 0, 0, []),
  (1, .iconst 0, 1, 0, 0, 0, 0, []),
  (2, .putfield 1, 3, 0, 13, 0, 0, []),
  (5, .iconst 0, 1, 0, 0, 0, 0, []),
  (6, .istore_n 1, 1, 0, 1, 0, 0, []),
  (7, .iload_n 1, 1, 0, 1, 0, 0, []),
  (8, .aload_n 0, 1, 0, 0, 0, 0, []),
  (9, .getfield 158, 3, 0, 13, 3, 0, []),
  (12, .if_icmp .ge 21, 3, 0, 33, 0, 0, []),
  (15, .aload_n 0, 1, 0, 0, 0, 0, []),
  (16, .getfield 52, 3, 0, 13, 14, 1, []),
  (19, .iload_n 1, 1, 0, 1, 0, 0, []),
  (20, .aload_n 0, 1, 0, 0, 0, 0, []),
  (21, .getfield 23, 3, 0, 13, 2, 1, []),
  (24, .iload_n 1, 1, 0, 1, 0, 0, []),
  (25, .baload, 1, 0, 0, 0, 0, []),
  (26, .bastore, 1, 0, 0, 0, 0, []),
  (27, .iinc 1 1, 3, 1, 1, 0, 0, []),
  (30, .goto (-23), 3, 0, 7, 0, 0, []),
  (33, .aload_n 0, 1, 0, 0, 0, 0, []),
  (34, .aload_n 0, 1, 0, 0, 0, 0, []),
  (35, .getfield 158, 3, 0, 13, 3, 0, []),
  (38, .putfield 211, 3, 0, 13, 15, 0, []),
  (41, .aload_n 0, 1, 0, 0, 0, 0, []),
  (42, .invokevirtual 170, 3, 0, 158, 1, 13, []),
  (45, .aload_n 0, 1, 0, 0, 0, 0, []),
  (46, .iconst 0, 1, 0, 0, 0, 0, []),
  (47, .putfield 208, 3, 0, 13, 16, 0, []),
  (50, .aload_n 0, 1, 0, 0, 0, 0, []),
  (51, .iconst 0, 1, 0, 0, 0, 0, []),
  (52, .putfield 345, 3, 0, 13, 6, 0, []),
  (55, .aload_n 0, 1, 0, 0, 0, 0, []),
  (56, .iconst 0, 1, 0, 0, 0, 0, []),
  (57, .putfield 257, 3, 0, 13, 19, 0, []),
  (60, .aload_n 0, 1, 0, 0, 0, 0, []),
  (61, .iconst 0, 1, 0, 0, 0, 0, []),
  (62, .putfield 302, 3, 0, 13, 33, 2, []),
  (65, .aload_n 0, 1, 0, 0, 0, 0, []),
  (66, .invokevirtual 155, 3, 0, 188, 1, 13, []),
  (69, .iconst 0, 1, 0, 0, 0, 0, [])]
def am_c224_1 : List (Nat × am_Row) := [(70, .istore_n 1, 1, 0, 1, 0, 0, []),
  (71, .aload_n 0, 1, 0, 0, 0, 0, []),
  (72, .invokevirtual 432, 3, 0, 222, 1, 13, [(0, 83)]),
  (75, .aload_n 0, 1, 0, 0, 0, 0, []),
  (76, .getfield 345, 3, 0, 13, 6, 0, []),
  (79, .istore_n 1, 1, 0, 1, 0, 0, []),
  (80, .goto 17, 3, 0, 97, 0, 0, []),
  (83, .astore_n 2, 1, 0, 2, 0, 0, []),
  (84, .aload_n 0, 1, 0, 0, 0, 0, []),
  (85, .iconst 0, 1, 0, 0, 0, 0, []),
  (86, .putfield 345, 3, 0, 13, 6, 0, []),
  (89, .bipush (-10), 2, (-10), 0, 0, 0, []),
  (91, .aload_n 2, 1, 0, 2, 0, 0, []),
  (92, .getfield 11, 3, 0, 12, 6, 0, []),
  (95, .isub, 1, 0, 0, 0, 0, []),
  (96, .istore_n 1, 1, 0, 1, 0, 0, []),
  (97, .aload_n 0, 1, 0, 0, 0, 0, []),
  (98, .aload_n 0, 1, 0, 0, 0, 0, []),
  (99, .getfield 208, 3, 0, 13, 16, 0, []),
  (102, .putfield 435, 3, 0, 13, 20, 0, []),
  (105, .iload_n 1, 1, 0, 1, 0, 0, []),
  (106, .ireturn, 1, 0, 0, 0, 0, [])]
def am_c224 : List (Nat × am_Row) := am_c224_0 ++ (am_c224_1)
/-- BrotliWordsModel.pass()I -/
def am_c225 : List (Nat × am_Row) := [(0, .aload_n 0, 1, 0, 0, 0, 0, []),
  (1, .iconst 0, 1, 0, 0, 0, 0, []),
  (2, .putfield 1, 3, 0, 13, 0, 0, []),
  (5, .aload_n 0, 1, 0, 0, 0, 0, []),
  (6, .getfield 345, 3, 0, 13, 6, 0, []),
  (9, .sipush 2400, 3, 2400, 0, 0, 0, []),
  (12, .if_icmp .le 6, 3, 0, 18, 0, 0, []),
  (15, .bipush (-3), 2, (-3), 0, 0, 0, []),
  (17, .ireturn, 1, 0, 0, 0, 0, []),
  (18, .aload_n 0, 1, 0, 0, 0, 0, []),
  (19, .invokevirtual 170, 3, 0, 158, 1, 13, []),
  (22, .iconst 0, 1, 0, 0, 0, 0, []),
  (23, .istore_n 1, 1, 0, 1, 0, 0, []),
  (24, .iload_n 1, 1, 0, 1, 0, 0, []),
  (25, .aload_n 0, 1, 0, 0, 0, 0, []),
  (26, .getfield 345, 3, 0, 13, 6, 0, []),
  (29, .if_icmp .ge 21, 3, 0, 50, 0, 0, []),
  (32, .aload_n 0, 1, 0, 0, 0, 0, []),
  (33, .getfield 23, 3, 0, 13, 2, 1, []),
  (36, .iload_n 1, 1, 0, 1, 0, 0, []),
  (37, .aload_n 0, 1, 0, 0, 0, 0, []),
  (38, .getfield 30, 3, 0, 13, 5, 1, []),
  (41, .iload_n 1, 1, 0, 1, 0, 0, []),
  (42, .baload, 1, 0, 0, 0, 0, []),
  (43, .bastore, 1, 0, 0, 0, 0, []),
  (44, .iinc 1 1, 3, 1, 1, 0, 0, []),
  (47, .goto (-23), 3, 0, 24, 0, 0, []),
  (50, .aload_n 0, 1, 0, 0, 0, 0, []),
  (51, .aload_n 0, 1, 0, 0, 0, 0, []),
  (52, .getfield 345, 3, 0, 13, 6, 0, []),
  (55, .putfield 158, 3, 0, 13, 3, 0, []),
  (58, .aload_n 0, 1, 0, 0, 0, 0, []),
  (59, .getfield 158, 3, 0, 13, 3, 0, []),
  (62, .ireturn, 1, 0, 0, 0, 0, [])]
/-- BrotliWordsModel.out(I)I -/
def am_c226 : List (Nat × am_Row) := [(0, .aload_n 0, 1, 0, 0, 0, 0, []),
  (1, .iconst 0, 1, 0, 0, 0, 0, []),
  (2, .putfield 1, 3, 0, 13, 0, 0, []),
  (5, .iload_n 1, 1, 0, 1, 0, 0, []),
  (6, .i2l, 1, 0, 0, 0, 0, []),
  (7, .lconst 0, 1, 0, 0, 0, 0, []),
  (8, .aload_n 0, 1, 0, 0, 0, 0, []),
  (9, .getfield 345, 3, 0, 13, 6, 0, []),
  (12, .iconst 1, 1, 1, 0, 0, 0, []),
  (13, .isub, 1, 0, 0, 0, 0, []),
  (14, .i2l, 1, 0, 0, 0, 0, []),
  (15, .invokestatic 163, 3, 0, 901, 3, 0, []),
  (18, .ifCond .eq 16, 3, 0, 34, 0, 0, []),
  (21, .aload_n 0, 1, 0, 0, 0, 0, []),
  (22, .getfield 30, 3, 0, 13, 5, 1, []),
  (25, .iload_n 1, 1, 0, 1, 0, 0, []),
  (26, .baload, 1, 0, 0, 0, 0, []),
  (27, .sipush 255, 3, 255, 0, 0, 0, []),
  (30, .iand, 1, 0, 0, 0, 0, []),
  (31, .goto 4, 3, 0, 35, 0, 0, []),
  (34, .iconst (-1), 1, (-1), 0, 0, 0, []),
  (35, .ireturn, 1, 0, 0, 0, 0, [])]
/-- BrotliWordsModel.read()I -/
def am_c227 : List (Nat × am_Row) := [(0, .aload_n 0, 1, 0, 0, 0, 0, []),
  (1, .iconst 0, 1, 0, 0, 0, 0, []),
  (2, .putfield 1, 3, 0, 13, 0, 0, []),
  (5, .aload_n 0, 1, 0, 0, 0, 0, []),
  (6, .getfield 435, 3, 0, 13, 20, 0, []),
  (9, .ireturn, 1, 0, 0, 0, 0, [])]
/-- BrotliWordsModel.part(II)I -/
def am_c228 : List (Nat × am_Row) := [(0, .aload_n 0, 1, 0, 0, 0, 0, []),
  (1, .iconst 0, 1, 0, 0, 0, 0, []),
  (2, .putfield 1, 3, 0, 13, 0, 0, []),
  (5, .iload_n 1, 1, 0, 1, 0, 0, []),
  (6, .i2l, 1, 0, 0, 0, 0, []),
  (7, .lconst 0, 1, 0, 0, 0, 0, []),
  (8, .aload_n 0, 1, 0, 0, 0, 0, []),
  (9, .getfield 257, 3, 0, 13, 19, 0, []),
  (12, .bipush 60, 2, 60, 0, 0, 0, []),
  (14, .if_icmp .ge 10, 3, 0, 24, 0, 0, []),
  (17, .aload_n 0, 1, 0, 0, 0, 0, []),
  (18, .getfield 257, 3, 0, 13, 19, 0, []),
  (21, .goto 5, 3, 0, 26, 0, 0, []),
  (24, .bipush 60, 2, 60, 0, 0, 0, []),
  (26, .iconst 1, 1, 1, 0, 0, 0, []),
  (27, .isub, 1, 0, 0, 0, 0, []),
  (28, .i2l, 1, 0, 0, 0, 0, []),
  (29, .invokestatic 163, 3, 0, 901, 3, 0, []),
  (32, .ifCond .eq 29, 3, 0, 61, 0, 0, []),
  (35, .iload_n 2, 1, 0, 2, 0, 0, []),
  (36, .i2l, 1, 0, 0, 0, 0, []),
  (37, .lconst 0, 1, 0, 0, 0, 0, []),
  (38, .ldc2_w 438, 3, 11, 0, 0, 0, []),
  (41, .invokestatic 163, 3, 0, 901, 3, 0, []),
  (44, .ifCond .eq 17, 3, 0, 61, 0, 0, []),
  (47, .aload_n 0, 1, 0, 0, 0, 0, []),
  (48, .getfield 58, 3, 0, 13, 18, 1, []),
  (51, .bipush 12, 2, 12, 0, 0, 0, []),
  (53, .iload_n 1, 1, 0, 1, 0, 0, []),
  (54, .imul, 1, 0, 0, 0, 0, []),
  (55, .iload_n 2, 1, 0, 2, 0, 0, []),
  (56, .iadd, 1, 0, 0, 0, 0, []),
  (57, .iaload, 1, 0, 0, 0, 0, []),
  (58, .goto 4, 3, 0, 62, 0, 0, []),
  (61, .iconst (-1), 1, (-1), 0, 0, 0, []),
  (62, .ireturn, 1, 0, 0, 0, 0, [])]
/-- BrotliWordsModel.ring(I)I -/
def am_c229 : List (Nat × am_Row) := [(0, .aload_n 0, 1, 0, 0, 0, 0, []),
  (1, .iconst 0, 1, 0, 0, 0, 0, []),
  (2, .putfield 1, 3, 0, 13, 0, 0, []),
  (5, .iload_n 1, 1, 0, 1, 0, 0, []),
  (6, .i2l, 1, 0, 0, 0, 0, []),
  (7, .lconst 0, 1, 0, 0, 0, 0, []),
  (8, .ldc2_w 440, 3, 3, 0, 0, 0, []),
  (11, .invokestatic 163, 3, 0, 901, 3, 0, []),
  (14, .ifCond .eq 14, 3, 0, 28, 0, 0, []),
  (17, .aload_n 0, 1, 0, 0, 0, 0, []),
  (18, .getfield 61, 3, 0, 13, 21, 1, []),
  (21, .iconst 3, 1, 3, 0, 0, 0, []),
  (22, .iload_n 1, 1, 0, 1, 0, 0, []),
  (23, .isub, 1, 0, 0, 0, 0, []),
  (24, .iaload, 1, 0, 0, 0, 0, []),
  (25, .goto 4, 3, 0, 29, 0, 0, []),
  (28, .iconst (-1), 1, (-1), 0, 0, 0, []),
  (29, .ireturn, 1, 0, 0, 0, 0, [])]
/-- BrotliWordsModel.map(II)I -/
def am_c230_0 : List (Nat × am_Row) := [(0, .aload_n 0, 1, 0, 0, 0, 0, []),
  (1, .iconst 0, 1, 0, 0, 0, 0, []),
  (2, .putfield 1, 3, 0, 13, 0, 0, []),
  (5, .aload_n 0, 1, 0, 0, 0, 0, []),
  (6, .getfield 302, 3, 0, 13, 33, 2, []),
  (9, .ifCond .eq 49, 3, 0, 58, 0, 0, []),
  (12, .iload_n 1, 1, 0, 1, 0, 0, []),
  (13, .i2l, 1, 0, 0, 0, 0, []),
  (14, .lconst 0, 1, 0, 0, 0, 0, []),
  (15, .lconst 1, 1, 1, 0, 0, 0, []),
  (16, .invokestatic 163, 3, 0, 901, 3, 0, []),
  (19, .ifCond .eq 39, 3, 0, 58, 0, 0, []),
  (22, .iload_n 2, 1, 0, 2, 0, 0, []),
  (23, .i2l, 1, 0, 0, 0, 0, []),
  (24, .lconst 0, 1, 0, 0, 0, 0, []),
  (25, .iload_n 1, 1, 0, 1, 0, 0, []),
  (26, .ifCond .ne 15, 3, 0, 41, 0, 0, []),
  (29, .bipush 64, 2, 64, 0, 0, 0, []),
  (31, .aload_n 0, 1, 0, 0, 0, 0, []),
  (32, .getfield 85, 3, 0, 13, 34, 1, []),
  (35, .iconst 0, 1, 0, 0, 0, 0, []),
  (36, .iaload, 1, 0, 0, 0, 0, []),
  (37, .imul, 1, 0, 0, 0, 0, []),
  (38, .goto 11, 3, 0, 49, 0, 0, []),
  (41, .iconst 4, 1, 4, 0, 0, 0, []),
  (42, .aload_n 0, 1, 0, 0, 0, 0, []),
  (43, .getfield 85, 3, 0, 13, 34, 1, []),
  (46, .iconst 2, 1, 2, 0, 0, 0, []),
  (47, .iaload, 1, 0, 0, 0, 0, []),
  (48, .imul, 1, 0, 0, 0, 0, []),
  (49, .iconst 1, 1, 1, 0, 0, 0, []),
  (50, .isub, 1, 0, 0, 0, 0, []),
  (51, .i2l, 1, 0, 0, 0, 0, []),
  (52, .invokestatic 163, 3, 0, 901, 3, 0, []),
  (55, .ifCond .ne 5, 3, 0, 60, 0, 0, []),
  (58, .iconst (-1), 1, (-1), 0, 0, 0, []),
  (59, .ireturn, 1, 0, 0, 0, 0, []),
  (60, .iload_n 1, 1, 0, 1, 0, 0, []),
  (61, .ifCond .ne 12, 3, 0, 73, 0, 0, []),
  (64, .aload_n 0, 1, 0, 0, 0, 0, [])]
def am_c230_1 : List (Nat × am_Row) := [(65, .getfield 91, 3, 0, 13, 39, 1, []),
  (68, .iload_n 2, 1, 0, 2, 0, 0, []),
  (69, .iaload, 1, 0, 0, 0, 0, []),
  (70, .goto 9, 3, 0, 79, 0, 0, []),
  (73, .aload_n 0, 1, 0, 0, 0, 0, []),
  (74, .getfield 94, 3, 0, 13, 40, 1, []),
  (77, .iload_n 2, 1, 0, 2, 0, 0, []),
  (78, .iaload, 1, 0, 0, 0, 0, []),
  (79, .ireturn, 1, 0, 0, 0, 0, [])]
def am_c230 : List (Nat × am_Row) := am_c230_0 ++ (am_c230_1)
/-- BrotliWordsModel.length(III)I -/
def am_c231_0 : List (Nat × am_Row) := [(0, .aload_n 0, 1, 0, 0, 0, 0, []),
  (1, .iconst 0, 1, 0, 0, 0, 0, []),
  (2, .putfield 1, 3, 0, 13, 0, 0, []),
  (5, .aload_n 0, 1, 0, 0, 0, 0, []),
  (6, .getfield 302, 3, 0, 13, 33, 2, []),
  (9, .ifCond .eq 15, 3, 0, 24, 0, 0, []),
  (12, .iload_n 1, 1, 0, 1, 0, 0, []),
  (13, .i2l, 1, 0, 0, 0, 0, []),
  (14, .lconst 0, 1, 0, 0, 0, 0, []),
  (15, .ldc2_w 442, 3, 2, 0, 0, 0, []),
  (18, .invokestatic 163, 3, 0, 901, 3, 0, []),
  (21, .ifCond .ne 5, 3, 0, 26, 0, 0, []),
  (24, .iconst (-1), 1, (-1), 0, 0, 0, []),
  (25, .ireturn, 1, 0, 0, 0, 0, []),
  (26, .iload_n 1, 1, 0, 1, 0, 0, []),
  (27, .ifCond .ne 10, 3, 0, 37, 0, 0, []),
  (30, .aload_n 0, 1, 0, 0, 0, 0, []),
  (31, .getfield 306, 3, 0, 13, 35, 0, []),
  (34, .goto 21, 3, 0, 55, 0, 0, []),
  (37, .iload_n 1, 1, 0, 1, 0, 0, []),
  (38, .iconst 1, 1, 1, 0, 0, 0, []),
  (39, .if_icmp .ne 12, 3, 0, 51, 0, 0, []),
  (42, .aload_n 0, 1, 0, 0, 0, 0, []),
  (43, .getfield 85, 3, 0, 13, 34, 1, []),
  (46, .iconst 1, 1, 1, 0, 0, 0, []),
  (47, .iaload, 1, 0, 0, 0, 0, []),
  (48, .goto 7, 3, 0, 55, 0, 0, []),
  (51, .aload_n 0, 1, 0, 0, 0, 0, []),
  (52, .getfield 309, 3, 0, 13, 36, 0, []),
  (55, .istore 4, 2, 0, 4, 0, 0, []),
  (57, .iload_n 1, 1, 0, 1, 0, 0, []),
  (58, .ifCond .ne 9, 3, 0, 67, 0, 0, []),
  (61, .sipush 256, 3, 256, 0, 0, 0, []),
  (64, .goto 18, 3, 0, 82, 0, 0, []),
  (67, .iload_n 1, 1, 0, 1, 0, 0, []),
  (68, .iconst 1, 1, 1, 0, 0, 0, []),
  (69, .if_icmp .ne 9, 3, 0, 78, 0, 0, []),
  (72, .sipush 704, 3, 704, 0, 0, 0, []),
  (75, .goto 7, 3, 0, 82, 0, 0, []),
  (78, .aload_n 0, 1, 0, 0, 0, 0, [])]
def am_c231_1 : List (Nat × am_Row) := [(79, .getfield 312, 3, 0, 13, 37, 0, []),
  (82, .istore 5, 2, 0, 5, 0, 0, []),
  (84, .iload_n 2, 1, 0, 2, 0, 0, []),
  (85, .i2l, 1, 0, 0, 0, 0, []),
  (86, .lconst 0, 1, 0, 0, 0, 0, []),
  (87, .iload 4, 2, 0, 4, 0, 0, []),
  (89, .iconst 1, 1, 1, 0, 0, 0, []),
  (90, .isub, 1, 0, 0, 0, 0, []),
  (91, .i2l, 1, 0, 0, 0, 0, []),
  (92, .invokestatic 163, 3, 0, 901, 3, 0, []),
  (95, .ifCond .eq 17, 3, 0, 112, 0, 0, []),
  (98, .iload_n 3, 1, 0, 3, 0, 0, []),
  (99, .i2l, 1, 0, 0, 0, 0, []),
  (100, .lconst 0, 1, 0, 0, 0, 0, []),
  (101, .iload 5, 2, 0, 5, 0, 0, []),
  (103, .iconst 1, 1, 1, 0, 0, 0, []),
  (104, .isub, 1, 0, 0, 0, 0, []),
  (105, .i2l, 1, 0, 0, 0, 0, []),
  (106, .invokestatic 163, 3, 0, 901, 3, 0, []),
  (109, .ifCond .ne 5, 3, 0, 114, 0, 0, []),
  (112, .iconst (-1), 1, (-1), 0, 0, 0, []),
  (113, .ireturn, 1, 0, 0, 0, 0, []),
  (114, .iload_n 1, 1, 0, 1, 0, 0, []),
  (115, .ifCond .ne 14, 3, 0, 129, 0, 0, []),
  (118, .bipush 120, 2, 120, 0, 0, 0, []),
  (120, .sipush 256, 3, 256, 0, 0, 0, []),
  (123, .iload_n 2, 1, 0, 2, 0, 0, []),
  (124, .imul, 1, 0, 0, 0, 0, []),
  (125, .iadd, 1, 0, 0, 0, 0, []),
  (126, .goto 29, 3, 0, 155, 0, 0, []),
  (129, .iload_n 1, 1, 0, 1, 0, 0, []),
  (130, .iconst 1, 1, 1, 0, 0, 0, []),
  (131, .if_icmp .ne 15, 3, 0, 146, 0, 0, []),
  (134, .sipush 3192, 3, 3192, 0, 0, 0, []),
  (137, .sipush 704, 3, 704, 0, 0, 0, []),
  (140, .iload_n 2, 1, 0, 2, 0, 0, []),
  (141, .imul, 1, 0, 0, 0, 0, []),
  (142, .iadd, 1, 0, 0, 0, 0, []),
  (143, .goto 12, 3, 0, 155, 0, 0, []),
  (146, .sipush 11640, 3, 11640, 0, 0, 0, [])]
def am_c231_2 : List (Nat × am_Row) := [(149, .sipush 520, 3, 520, 0, 0, 0, []),
  (152, .iload_n 2, 1, 0, 2, 0, 0, []),
  (153, .imul, 1, 0, 0, 0, 0, []),
  (154, .iadd, 1, 0, 0, 0, 0, []),
  (155, .istore 6, 2, 0, 6, 0, 0, []),
  (157, .aload_n 0, 1, 0, 0, 0, 0, []),
  (158, .getfield 88, 3, 0, 13, 38, 1, []),
  (161, .iload 6, 2, 0, 6, 0, 0, []),
  (163, .iload_n 3, 1, 0, 3, 0, 0, []),
  (164, .iadd, 1, 0, 0, 0, 0, []),
  (165, .iaload, 1, 0, 0, 0, 0, []),
  (166, .ireturn, 1, 0, 0, 0, 0, [])]
def am_c231 : List (Nat × am_Row) := am_c231_0 ++ (am_c231_1 ++ (am_c231_2))
/-- BrotliWordsModel.command(II)I -/
def am_c232 : List (Nat × am_Row) := [(0, .aload_n 0, 1, 0, 0, 0, 0, []),
  (1, .iconst 0, 1, 0, 0, 0, 0, []),
  (2, .putfield 1, 3, 0, 13, 0, 0, []),
  (5, .iload_n 1, 1, 0, 1, 0, 0, []),
  (6, .i2l, 1, 0, 0, 0, 0, []),
  (7, .lconst 0, 1, 0, 0, 0, 0, []),
  (8, .aload_n 0, 1, 0, 0, 0, 0, []),
  (9, .getfield 444, 3, 0, 13, 63, 0, []),
  (12, .iconst 1, 1, 1, 0, 0, 0, []),
  (13, .isub, 1, 0, 0, 0, 0, []),
  (14, .i2l, 1, 0, 0, 0, 0, []),
  (15, .invokestatic 163, 3, 0, 901, 3, 0, []),
  (18, .ifCond .eq 28, 3, 0, 46, 0, 0, []),
  (21, .iload_n 2, 1, 0, 2, 0, 0, []),
  (22, .i2l, 1, 0, 0, 0, 0, []),
  (23, .lconst 0, 1, 0, 0, 0, 0, []),
  (24, .ldc2_w 440, 3, 3, 0, 0, 0, []),
  (27, .invokestatic 163, 3, 0, 901, 3, 0, []),
  (30, .ifCond .eq 16, 3, 0, 46, 0, 0, []),
  (33, .aload_n 0, 1, 0, 0, 0, 0, []),
  (34, .getfield 143, 3, 0, 13, 60, 1, []),
  (37, .iconst 4, 1, 4, 0, 0, 0, []),
  (38, .iload_n 1, 1, 0, 1, 0, 0, []),
  (39, .imul, 1, 0, 0, 0, 0, []),
  (40, .iload_n 2, 1, 0, 2, 0, 0, []),
  (41, .iadd, 1, 0, 0, 0, 0, []),
  (42, .iaload, 1, 0, 0, 0, 0, []),
  (43, .goto 4, 3, 0, 47, 0, 0, []),
  (46, .iconst (-1), 1, (-1), 0, 0, 0, []),
  (47, .ireturn, 1, 0, 0, 0, 0, [])]
/-- BrotliWordsModel.count(I)I -/
def am_c233 : List (Nat × am_Row) := [(0, .aload_n 0, 1, 0, 0, 0, 0, []),
  (1, .iconst 0, 1, 0, 0, 0, 0, []),
  (2, .putfield 1, 3, 0, 13, 0, 0, []),
  (5, .iload_n 1, 1, 0, 1, 0, 0, []),
  (6, .tableswitch 59 0 4 #[34, 39, 44, 49, 54], 34, 0, 65, 0, 0, [(0, 40), (1, 45), (2, 50), (3, 55), (4, 60)]),
  (40, .aload_n 0, 1, 0, 0, 0, 0, []),
  (41, .invokevirtual 181, 3, 0, 162, 1, 13, []),
  (44, .ireturn, 1, 0, 0, 0, 0, []),
  (45, .aload_n 0, 1, 0, 0, 0, 0, []),
  (46, .getfield 158, 3, 0, 13, 3, 0, []),
  (49, .ireturn, 1, 0, 0, 0, 0, []),
  (50, .aload_n 0, 1, 0, 0, 0, 0, []),
  (51, .getfield 345, 3, 0, 13, 6, 0, []),
  (54, .ireturn, 1, 0, 0, 0, 0, []),
  (55, .aload_n 0, 1, 0, 0, 0, 0, []),
  (56, .getfield 257, 3, 0, 13, 19, 0, []),
  (59, .ireturn, 1, 0, 0, 0, 0, []),
  (60, .aload_n 0, 1, 0, 0, 0, 0, []),
  (61, .getfield 444, 3, 0, 13, 63, 0, []),
  (64, .ireturn, 1, 0, 0, 0, 0, []),
  (65, .iconst (-1), 1, (-1), 0, 0, 0, []),
  (66, .ireturn, 1, 0, 0, 0, 0, [])]
/-- BrotliWordsModel.write(II)V -/
def am_c234_0 : List (Nat × am_Row) := [(0, .iconst 0, 1, 0, 0, 0, 0, []),
  (1, .istore_n 3, 1, 0, 3, 0, 0, []),
  (2, .iload_n 3, 1, 0, 3, 0, 0, []),
  (3, .iload_n 2, 1, 0, 2, 0, 0, []),
  (4, .if_icmp .ge 91, 3, 0, 95, 0, 0, []),
  (7, .aload_n 0, 1, 0, 0, 0, 0, []),
  (8, .getfield 447, 3, 0, 13, 43, 0, []),
  (11, .bipush 8, 2, 8, 0, 0, 0, []),
  (13, .irem, 1, 0, 0, 0, 0, []),
  (14, .ifCond .ne 23, 3, 0, 37, 0, 0, []),
  (17, .aload_n 0, 1, 0, 0, 0, 0, []),
  (18, .getfield 30, 3, 0, 13, 5, 1, []),
  (21, .aload_n 0, 1, 0, 0, 0, 0, []),
  (22, .getfield 345, 3, 0, 13, 6, 0, []),
  (25, .iconst 0, 1, 0, 0, 0, 0, []),
  (26, .bastore, 1, 0, 0, 0, 0, []),
  (27, .aload_n 0, 1, 0, 0, 0, 0, []),
  (28, .dup, 1, 0, 0, 0, 0, []),
  (29, .getfield 345, 3, 0, 13, 6, 0, []),
  (32, .iconst 1, 1, 1, 0, 0, 0, []),
  (33, .iadd, 1, 0, 0, 0, 0, []),
  (34, .putfield 345, 3, 0, 13, 6, 0, []),
  (37, .iload_n 1, 1, 0, 1, 0, 0, []),
  (38, .iload_n 3, 1, 0, 3, 0, 0, []),
  (39, .ishr, 1, 0, 0, 0, 0, []),
  (40, .iconst 1, 1, 1, 0, 0, 0, []),
  (41, .iand, 1, 0, 0, 0, 0, []),
  (42, .iconst 1, 1, 1, 0, 0, 0, []),
  (43, .if_icmp .ne 36, 3, 0, 79, 0, 0, []),
  (46, .aload_n 0, 1, 0, 0, 0, 0, []),
  (47, .getfield 30, 3, 0, 13, 5, 1, []),
  (50, .aload_n 0, 1, 0, 0, 0, 0, []),
  (51, .getfield 345, 3, 0, 13, 6, 0, []),
  (54, .iconst 1, 1, 1, 0, 0, 0, []),
  (55, .isub, 1, 0, 0, 0, 0, []),
  (56, .aload_n 0, 1, 0, 0, 0, 0, []),
  (57, .getfield 30, 3, 0, 13, 5, 1, []),
  (60, .aload_n 0, 1, 0, 0, 0, 0, []),
  (61, .getfield 345, 3, 0, 13, 6, 0, []),
  (64, .iconst 1, 1, 1, 0, 0, 0, [])]
def am_c234_1 : List (Nat × am_Row) := [(65, .isub, 1, 0, 0, 0, 0, []),
  (66, .baload, 1, 0, 0, 0, 0, []),
  (67, .iconst 1, 1, 1, 0, 0, 0, []),
  (68, .aload_n 0, 1, 0, 0, 0, 0, []),
  (69, .getfield 447, 3, 0, 13, 43, 0, []),
  (72, .bipush 8, 2, 8, 0, 0, 0, []),
  (74, .irem, 1, 0, 0, 0, 0, []),
  (75, .ishl, 1, 0, 0, 0, 0, []),
  (76, .ior, 1, 0, 0, 0, 0, []),
  (77, .i2b, 1, 0, 0, 0, 0, []),
  (78, .bastore, 1, 0, 0, 0, 0, []),
  (79, .aload_n 0, 1, 0, 0, 0, 0, []),
  (80, .dup, 1, 0, 0, 0, 0, []),
  (81, .getfield 447, 3, 0, 13, 43, 0, []),
  (84, .iconst 1, 1, 1, 0, 0, 0, []),
  (85, .iadd, 1, 0, 0, 0, 0, []),
  (86, .putfield 447, 3, 0, 13, 43, 0, []),
  (89, .iinc 3 1, 3, 1, 3, 0, 0, []),
  (92, .goto (-90), 3, 0, 2, 0, 0, []),
  (95, .return_, 1, 0, 0, 0, 0, [])]
def am_c234 : List (Nat × am_Row) := am_c234_0 ++ (am_c234_1)
/-- BrotliWordsModel.writeToByte()V -/
def am_c235 : List (Nat × am_Row) := [(0, .aload_n 0, 1, 0, 0, 0, 0, []),
  (1, .bipush 8, 2, 8, 0, 0, 0, []),
  (3, .aload_n 0, 1, 0, 0, 0, 0, []),
  (4, .getfield 345, 3, 0, 13, 6, 0, []),
  (7, .imul, 1, 0, 0, 0, 0, []),
  (8, .putfield 447, 3, 0, 13, 43, 0, []),
  (11, .return_, 1, 0, 0, 0, 0, [])]
/-- BrotliWordsModel.writeSign(II)V -/
def am_c236 : List (Nat × am_Row) := [(0, .aload_n 0, 1, 0, 0, 0, 0, []),
  (1, .getfield 49, 3, 0, 13, 13, 1, []),
  (4, .iload_n 1, 1, 0, 1, 0, 0, []),
  (5, .iaload, 1, 0, 0, 0, 0, []),
  (6, .ifCond .lt 7, 3, 0, 13, 0, 0, []),
  (9, .iconst 0, 1, 0, 0, 0, 0, []),
  (10, .goto 11, 3, 0, 21, 0, 0, []),
  (13, .aload_n 0, 1, 0, 0, 0, 0, []),
  (14, .getfield 43, 3, 0, 13, 11, 1, []),
  (17, .iload_n 1, 1, 0, 1, 0, 0, []),
  (18, .iload_n 2, 1, 0, 2, 0, 0, []),
  (19, .iadd, 1, 0, 0, 0, 0, []),
  (20, .iaload, 1, 0, 0, 0, 0, []),
  (21, .istore_n 3, 1, 0, 3, 0, 0, []),
  (22, .iload_n 3, 1, 0, 3, 0, 0, []),
  (23, .iconst 1, 1, 1, 0, 0, 0, []),
  (24, .isub, 1, 0, 0, 0, 0, []),
  (25, .istore 4, 2, 0, 4, 0, 0, []),
  (27, .iload 4, 2, 0, 4, 0, 0, []),
  (29, .ifCond .lt 27, 3, 0, 56, 0, 0, []),
  (32, .aload_n 0, 1, 0, 0, 0, 0, []),
  (33, .aload_n 0, 1, 0, 0, 0, 0, []),
  (34, .getfield 46, 3, 0, 13, 12, 1, []),
  (37, .iload_n 1, 1, 0, 1, 0, 0, []),
  (38, .iload_n 2, 1, 0, 2, 0, 0, []),
  (39, .iadd, 1, 0, 0, 0, 0, []),
  (40, .iaload, 1, 0, 0, 0, 0, []),
  (41, .iload 4, 2, 0, 4, 0, 0, []),
  (43, .ishr, 1, 0, 0, 0, 0, []),
  (44, .iconst 1, 1, 1, 0, 0, 0, []),
  (45, .iand, 1, 0, 0, 0, 0, []),
  (46, .iconst 1, 1, 1, 0, 0, 0, []),
  (47, .invokevirtual 450, 3, 0, 234, 3, 13, []),
  (50, .iinc 4 (-1), 3, (-1), 4, 0, 0, []),
  (53, .goto (-26), 3, 0, 27, 0, 0, []),
  (56, .return_, 1, 0, 0, 0, 0, [])]
/-- BrotliWordsModel.leastOpen(I)I -/
def am_c237 : List (Nat × am_Row) := [(0, .iconst (-1), 1, (-1), 0, 0, 0, []),
  (1, .istore_n 2, 1, 0, 2, 0, 0, []),
  (2, .iconst 0, 1, 0, 0, 0, 0, []),
  (3, .istore_n 3, 1, 0, 3, 0, 0, []),
  (4, .iload_n 3, 1, 0, 3, 0, 0, []),
  (5, .iload_n 1, 1, 0, 1, 0, 0, []),
  (6, .if_icmp .ge 39, 3, 0, 45, 0, 0, []),
  (9, .aload_n 0, 1, 0, 0, 0, 0, []),
  (10, .getfield 106, 3, 0, 13, 46, 1, []),
  (13, .iload_n 3, 1, 0, 3, 0, 0, []),
  (14, .baload, 1, 0, 0, 0, 0, []),
  (15, .ifCond .eq 24, 3, 0, 39, 0, 0, []),
  (18, .iload_n 2, 1, 0, 2, 0, 0, []),
  (19, .ifCond .lt 18, 3, 0, 37, 0, 0, []),
  (22, .aload_n 0, 1, 0, 0, 0, 0, []),
  (23, .getfield 100, 3, 0, 13, 44, 1, []),
  (26, .iload_n 3, 1, 0, 3, 0, 0, []),
  (27, .iaload, 1, 0, 0, 0, 0, []),
  (28, .aload_n 0, 1, 0, 0, 0, 0, []),
  (29, .getfield 100, 3, 0, 13, 44, 1, []),
  (32, .iload_n 2, 1, 0, 2, 0, 0, []),
  (33, .iaload, 1, 0, 0, 0, 0, []),
  (34, .if_icmp .ge 5, 3, 0, 39, 0, 0, []),
  (37, .iload_n 3, 1, 0, 3, 0, 0, []),
  (38, .istore_n 2, 1, 0, 2, 0, 0, []),
  (39, .iinc 3 1, 3, 1, 3, 0, 0, []),
  (42, .goto (-38), 3, 0, 4, 0, 0, []),
  (45, .iload_n 2, 1, 0, 2, 0, 0, []),
  (46, .ireturn, 1, 0, 0, 0, 0, [])]
/-- BrotliWordsModel.findLengths(III)I -/
def am_c238_0 : List (Nat × am_Row) := [(0, .aload_n 0, 1, 0, 0, 0, 0, []),
  (1, .iload_n 1, 1, 0, 1, 0, 0, []),
  (2, .iload_n 2, 1, 0, 2, 0, 0, []),
  (3, .invokevirtual 220, 3, 0, 172, 3, 13, []),
  (6, .iconst 0, 1, 0, 0, 0, 0, []),
  (7, .istore 4, 2, 0, 4, 0, 0, []),
  (9, .iconst 0, 1, 0, 0, 0, 0, []),
  (10, .istore 5, 2, 0, 5, 0, 0, []),
  (12, .iconst 0, 1, 0, 0, 0, 0, []),
  (13, .istore 6, 2, 0, 6, 0, 0, []),
  (15, .iload 6, 2, 0, 6, 0, 0, []),
  (17, .iload_n 2, 1, 0, 2, 0, 0, []),
  (18, .if_icmp .ge 26, 3, 0, 44, 0, 0, []),
  (21, .aload_n 0, 1, 0, 0, 0, 0, []),
  (22, .getfield 110, 3, 0, 13, 47, 1, []),
  (25, .iload 6, 2, 0, 6, 0, 0, []),
  (27, .iaload, 1, 0, 0, 0, 0, []),
  (28, .ifCond .le 10, 3, 0, 38, 0, 0, []),
  (31, .iinc 4 1, 3, 1, 4, 0, 0, []),
  (34, .iload 6, 2, 0, 6, 0, 0, []),
  (36, .istore 5, 2, 0, 5, 0, 0, []),
  (38, .iinc 6 1, 3, 1, 6, 0, 0, []),
  (41, .goto (-26), 3, 0, 15, 0, 0, []),
  (44, .iload 4, 2, 0, 4, 0, 0, []),
  (46, .iconst 2, 1, 2, 0, 0, 0, []),
  (47, .if_icmp .ge 14, 3, 0, 61, 0, 0, []),
  (50, .aload_n 0, 1, 0, 0, 0, 0, []),
  (51, .getfield 49, 3, 0, 13, 13, 1, []),
  (54, .iload_n 1, 1, 0, 1, 0, 0, []),
  (55, .iload 5, 2, 0, 5, 0, 0, []),
  (57, .iastore, 1, 0, 0, 0, 0, []),
  (58, .iload 4, 2, 0, 4, 0, 0, []),
  (60, .ireturn, 1, 0, 0, 0, 0, []),
  (61, .iload_n 3, 1, 0, 3, 0, 0, []),
  (62, .iconst 1, 1, 1, 0, 0, 0, []),
  (63, .iadd, 1, 0, 0, 0, 0, []),
  (64, .istore 6, 2, 0, 6, 0, 0, []),
  (66, .iload 6, 2, 0, 6, 0, 0, []),
  (68, .iload_n 3, 1, 0, 3, 0, 0, []),
  (69, .if_icmp .le 69, 3, 0, 138, 0, 0, [])]
def am_c238_1 : List (Nat × am_Row) := [(72, .aload_n 0, 1, 0, 0, 0, 0, []),
  (73, .iload_n 1, 1, 0, 1, 0, 0, []),
  (74, .iload_n 2, 1, 0, 2, 0, 0, []),
  (75, .iload 4, 2, 0, 4, 0, 0, []),
  (77, .invokevirtual 453, 3, 0, 239, 4, 13, []),
  (80, .istore 6, 2, 0, 6, 0, 0, []),
  (82, .iconst 0, 1, 0, 0, 0, 0, []),
  (83, .istore 7, 2, 0, 7, 0, 0, []),
  (85, .iload 7, 2, 0, 7, 0, 0, []),
  (87, .iload_n 2, 1, 0, 2, 0, 0, []),
  (88, .if_icmp .ge 47, 3, 0, 135, 0, 0, []),
  (91, .iload 6, 2, 0, 6, 0, 0, []),
  (93, .iload_n 3, 1, 0, 3, 0, 0, []),
  (94, .if_icmp .le 41, 3, 0, 135, 0, 0, []),
  (97, .aload_n 0, 1, 0, 0, 0, 0, []),
  (98, .getfield 110, 3, 0, 13, 47, 1, []),
  (101, .iload 7, 2, 0, 7, 0, 0, []),
  (103, .aload_n 0, 1, 0, 0, 0, 0, []),
  (104, .getfield 110, 3, 0, 13, 47, 1, []),
  (107, .iload 7, 2, 0, 7, 0, 0, []),
  (109, .iaload, 1, 0, 0, 0, 0, []),
  (110, .ifCond .le 17, 3, 0, 127, 0, 0, []),
  (113, .aload_n 0, 1, 0, 0, 0, 0, []),
  (114, .getfield 110, 3, 0, 13, 47, 1, []),
  (117, .iload 7, 2, 0, 7, 0, 0, []),
  (119, .iaload, 1, 0, 0, 0, 0, []),
  (120, .iconst 2, 1, 2, 0, 0, 0, []),
  (121, .idiv, 1, 0, 0, 0, 0, []),
  (122, .iconst 1, 1, 1, 0, 0, 0, []),
  (123, .iadd, 1, 0, 0, 0, 0, []),
  (124, .goto 4, 3, 0, 128, 0, 0, []),
  (127, .iconst 0, 1, 0, 0, 0, 0, []),
  (128, .iastore, 1, 0, 0, 0, 0, []),
  (129, .iinc 7 1, 3, 1, 7, 0, 0, []),
  (132, .goto (-47), 3, 0, 85, 0, 0, []),
  (135, .goto (-69), 3, 0, 66, 0, 0, []),
  (138, .iload 4, 2, 0, 4, 0, 0, []),
  (140, .ireturn, 1, 0, 0, 0, 0, [])]
def am_c238 : List (Nat × am_Row) := am_c238_0 ++ (am_c238_1)
/-- BrotliWordsModel.joinAll(III)I -/
def am_c239_0 : List (Nat × am_Row) := [(0, .iconst 0, 1, 0, 0, 0, 0, []),
  (1, .istore 4, 2, 0, 4, 0, 0, []),
  (3, .iconst 0, 1, 0, 0, 0, 0, []),
  (4, .istore 5, 2, 0, 5, 0, 0, []),
  (6, .iload 5, 2, 0, 5, 0, 0, []),
  (8, .iload_n 2, 1, 0, 2, 0, 0, []),
  (9, .if_icmp .ge 53, 3, 0, 62, 0, 0, []),
  (12, .aload_n 0, 1, 0, 0, 0, 0, []),
  (13, .getfield 106, 3, 0, 13, 46, 1, []),
  (16, .iload 5, 2, 0, 5, 0, 0, []),
  (18, .aload_n 0, 1, 0, 0, 0, 0, []),
  (19, .getfield 110, 3, 0, 13, 47, 1, []),
  (22, .iload 5, 2, 0, 5, 0, 0, []),
  (24, .iaload, 1, 0, 0, 0, 0, []),
  (25, .ifCond .le 7, 3, 0, 32, 0, 0, []),
  (28, .iconst 1, 1, 1, 0, 0, 0, []),
  (29, .goto 4, 3, 0, 33, 0, 0, []),
  (32, .iconst 0, 1, 0, 0, 0, 0, []),
  (33, .bastore, 1, 0, 0, 0, 0, []),
  (34, .aload_n 0, 1, 0, 0, 0, 0, []),
  (35, .getfield 100, 3, 0, 13, 44, 1, []),
  (38, .iload 5, 2, 0, 5, 0, 0, []),
  (40, .aload_n 0, 1, 0, 0, 0, 0, []),
  (41, .getfield 110, 3, 0, 13, 47, 1, []),
  (44, .iload 5, 2, 0, 5, 0, 0, []),
  (46, .iaload, 1, 0, 0, 0, 0, []),
  (47, .iastore, 1, 0, 0, 0, 0, []),
  (48, .aload_n 0, 1, 0, 0, 0, 0, []),
  (49, .getfield 103, 3, 0, 13, 45, 1, []),
  (52, .iload 5, 2, 0, 5, 0, 0, []),
  (54, .iconst (-1), 1, (-1), 0, 0, 0, []),
  (55, .iastore, 1, 0, 0, 0, 0, []),
  (56, .iinc 5 1, 3, 1, 5, 0, 0, []),
  (59, .goto (-53), 3, 0, 6, 0, 0, []),
  (62, .iload_n 2, 1, 0, 2, 0, 0, []),
  (63, .istore 4, 2, 0, 4, 0, 0, []),
  (65, .iconst 1, 1, 1, 0, 0, 0, []),
  (66, .istore 5, 2, 0, 5, 0, 0, []),
  (68, .iload 5, 2, 0, 5, 0, 0, []),
  (70, .iload_n 3, 1, 0, 3, 0, 0, [])]
def am_c239_1 : List (Nat × am_Row) := [(71, .if_icmp .ge 100, 3, 0, 171, 0, 0, []),
  (74, .aload_n 0, 1, 0, 0, 0, 0, []),
  (75, .iload 4, 2, 0, 4, 0, 0, []),
  (77, .invokevirtual 456, 3, 0, 237, 2, 13, []),
  (80, .istore 6, 2, 0, 6, 0, 0, []),
  (82, .aload_n 0, 1, 0, 0, 0, 0, []),
  (83, .getfield 106, 3, 0, 13, 46, 1, []),
  (86, .iload 6, 2, 0, 6, 0, 0, []),
  (88, .iconst 0, 1, 0, 0, 0, 0, []),
  (89, .bastore, 1, 0, 0, 0, 0, []),
  (90, .aload_n 0, 1, 0, 0, 0, 0, []),
  (91, .iload 4, 2, 0, 4, 0, 0, []),
  (93, .invokevirtual 456, 3, 0, 237, 2, 13, []),
  (96, .istore 7, 2, 0, 7, 0, 0, []),
  (98, .aload_n 0, 1, 0, 0, 0, 0, []),
  (99, .getfield 106, 3, 0, 13, 46, 1, []),
  (102, .iload 7, 2, 0, 7, 0, 0, []),
  (104, .iconst 0, 1, 0, 0, 0, 0, []),
  (105, .bastore, 1, 0, 0, 0, 0, []),
  (106, .aload_n 0, 1, 0, 0, 0, 0, []),
  (107, .getfield 100, 3, 0, 13, 44, 1, []),
  (110, .iload 4, 2, 0, 4, 0, 0, []),
  (112, .aload_n 0, 1, 0, 0, 0, 0, []),
  (113, .getfield 100, 3, 0, 13, 44, 1, []),
  (116, .iload 6, 2, 0, 6, 0, 0, []),
  (118, .iaload, 1, 0, 0, 0, 0, []),
  (119, .aload_n 0, 1, 0, 0, 0, 0, []),
  (120, .getfield 100, 3, 0, 13, 44, 1, []),
  (123, .iload 7, 2, 0, 7, 0, 0, []),
  (125, .iaload, 1, 0, 0, 0, 0, []),
  (126, .iadd, 1, 0, 0, 0, 0, []),
  (127, .iastore, 1, 0, 0, 0, 0, []),
  (128, .aload_n 0, 1, 0, 0, 0, 0, []),
  (129, .getfield 106, 3, 0, 13, 46, 1, []),
  (132, .iload 4, 2, 0, 4, 0, 0, []),
  (134, .iconst 1, 1, 1, 0, 0, 0, []),
  (135, .bastore, 1, 0, 0, 0, 0, []),
  (136, .aload_n 0, 1, 0, 0, 0, 0, []),
  (137, .getfield 103, 3, 0, 13, 45, 1, []),
  (140, .iload 4, 2, 0, 4, 0, 0, [])]
def am_c239_2 : List (Nat × am_Row) := [(142, .iconst (-1), 1, (-1), 0, 0, 0, []),
  (143, .iastore, 1, 0, 0, 0, 0, []),
  (144, .aload_n 0, 1, 0, 0, 0, 0, []),
  (145, .getfield 103, 3, 0, 13, 45, 1, []),
  (148, .iload 6, 2, 0, 6, 0, 0, []),
  (150, .iload 4, 2, 0, 4, 0, 0, []),
  (152, .iastore, 1, 0, 0, 0, 0, []),
  (153, .aload_n 0, 1, 0, 0, 0, 0, []),
  (154, .getfield 103, 3, 0, 13, 45, 1, []),
  (157, .iload 7, 2, 0, 7, 0, 0, []),
  (159, .iload 4, 2, 0, 4, 0, 0, []),
  (161, .iastore, 1, 0, 0, 0, 0, []),
  (162, .iinc 4 1, 3, 1, 4, 0, 0, []),
  (165, .iinc 5 1, 3, 1, 5, 0, 0, []),
  (168, .goto (-100), 3, 0, 68, 0, 0, []),
  (171, .iconst 0, 1, 0, 0, 0, 0, []),
  (172, .istore 5, 2, 0, 5, 0, 0, []),
  (174, .iconst 0, 1, 0, 0, 0, 0, []),
  (175, .istore 6, 2, 0, 6, 0, 0, []),
  (177, .iload 6, 2, 0, 6, 0, 0, []),
  (179, .iload_n 2, 1, 0, 2, 0, 0, []),
  (180, .if_icmp .ge 78, 3, 0, 258, 0, 0, []),
  (183, .iconst 0, 1, 0, 0, 0, 0, []),
  (184, .istore 7, 2, 0, 7, 0, 0, []),
  (186, .iload 6, 2, 0, 6, 0, 0, []),
  (188, .istore 8, 2, 0, 8, 0, 0, []),
  (190, .aload_n 0, 1, 0, 0, 0, 0, []),
  (191, .getfield 110, 3, 0, 13, 47, 1, []),
  (194, .iload 6, 2, 0, 6, 0, 0, []),
  (196, .iaload, 1, 0, 0, 0, 0, []),
  (197, .ifCond .le 28, 3, 0, 225, 0, 0, []),
  (200, .aload_n 0, 1, 0, 0, 0, 0, []),
  (201, .getfield 103, 3, 0, 13, 45, 1, []),
  (204, .iload 8, 2, 0, 8, 0, 0, []),
  (206, .iaload, 1, 0, 0, 0, 0, []),
  (207, .ifCond .lt 18, 3, 0, 225, 0, 0, []),
  (210, .iinc 7 1, 3, 1, 7, 0, 0, []),
  (213, .aload_n 0, 1, 0, 0, 0, 0, []),
  (214, .getfield 103, 3, 0, 13, 45, 1, []),
  (217, .iload 8, 2, 0, 8, 0, 0, [])]
def am_c239_3 : List (Nat × am_Row) := [(219, .iaload, 1, 0, 0, 0, 0, []),
  (220, .istore 8, 2, 0, 8, 0, 0, []),
  (222, .goto (-32), 3, 0, 190, 0, 0, []),
  (225, .aload_n 0, 1, 0, 0, 0, 0, []),
  (226, .getfield 43, 3, 0, 13, 11, 1, []),
  (229, .iload_n 1, 1, 0, 1, 0, 0, []),
  (230, .iload 6, 2, 0, 6, 0, 0, []),
  (232, .iadd, 1, 0, 0, 0, 0, []),
  (233, .iload 7, 2, 0, 7, 0, 0, []),
  (235, .iastore, 1, 0, 0, 0, 0, []),
  (236, .iload 7, 2, 0, 7, 0, 0, []),
  (238, .iload 5, 2, 0, 5, 0, 0, []),
  (240, .if_icmp .le 8, 3, 0, 248, 0, 0, []),
  (243, .iload 7, 2, 0, 7, 0, 0, []),
  (245, .goto 5, 3, 0, 250, 0, 0, []),
  (248, .iload 5, 2, 0, 5, 0, 0, []),
  (250, .istore 5, 2, 0, 5, 0, 0, []),
  (252, .iinc 6 1, 3, 1, 6, 0, 0, []),
  (255, .goto (-78), 3, 0, 177, 0, 0, []),
  (258, .iload 5, 2, 0, 5, 0, 0, []),
  (260, .ireturn, 1, 0, 0, 0, 0, [])]
def am_c239 : List (Nat × am_Row) := am_c239_0 ++ (am_c239_1 ++ (am_c239_2 ++ (am_c239_3)))
/-- BrotliWordsModel.writeFew(III)V -/
def am_c240_0 : List (Nat × am_Row) := [(0, .aload_n 0, 1, 0, 0, 0, 0, []),
  (1, .iconst 1, 1, 1, 0, 0, 0, []),
  (2, .iconst 2, 1, 2, 0, 0, 0, []),
  (3, .invokevirtual 450, 3, 0, 234, 3, 13, []),
  (6, .iload_n 3, 1, 0, 3, 0, 0, []),
  (7, .ifCond .ne 7, 3, 0, 14, 0, 0, []),
  (10, .iconst 1, 1, 1, 0, 0, 0, []),
  (11, .goto 4, 3, 0, 15, 0, 0, []),
  (14, .iload_n 3, 1, 0, 3, 0, 0, []),
  (15, .istore 4, 2, 0, 4, 0, 0, []),
  (17, .aload_n 0, 1, 0, 0, 0, 0, []),
  (18, .iload 4, 2, 0, 4, 0, 0, []),
  (20, .iconst 1, 1, 1, 0, 0, 0, []),
  (21, .isub, 1, 0, 0, 0, 0, []),
  (22, .iconst 2, 1, 2, 0, 0, 0, []),
  (23, .invokevirtual 450, 3, 0, 234, 3, 13, []),
  (26, .iconst 0, 1, 0, 0, 0, 0, []),
  (27, .istore 5, 2, 0, 5, 0, 0, []),
  (29, .iload_n 3, 1, 0, 3, 0, 0, []),
  (30, .iconst 2, 1, 2, 0, 0, 0, []),
  (31, .if_icmp .ge 19, 3, 0, 50, 0, 0, []),
  (34, .aload_n 0, 1, 0, 0, 0, 0, []),
  (35, .aload_n 0, 1, 0, 0, 0, 0, []),
  (36, .getfield 49, 3, 0, 13, 13, 1, []),
  (39, .iload_n 1, 1, 0, 1, 0, 0, []),
  (40, .iaload, 1, 0, 0, 0, 0, []),
  (41, .iload_n 2, 1, 0, 2, 0, 0, []),
  (42, .iconst 1, 1, 1, 0, 0, 0, []),
  (43, .isub, 1, 0, 0, 0, 0, []),
  (44, .invokestatic 240, 3, 0, 177, 1, 999, []),
  (47, .invokevirtual 450, 3, 0, 234, 3, 13, []),
  (50, .iconst 1, 1, 1, 0, 0, 0, []),
  (51, .istore 6, 2, 0, 6, 0, 0, []),
  (53, .iload 6, 2, 0, 6, 0, 0, []),
  (55, .iconst 3, 1, 3, 0, 0, 0, []),
  (56, .if_icmp .gt 59, 3, 0, 115, 0, 0, []),
  (59, .iload_n 3, 1, 0, 3, 0, 0, []),
  (60, .iconst 1, 1, 1, 0, 0, 0, []),
  (61, .if_icmp .le 54, 3, 0, 115, 0, 0, []),
  (64, .iconst 0, 1, 0, 0, 0, 0, [])]
def am_c240_1 : List (Nat × am_Row) := [(65, .istore 7, 2, 0, 7, 0, 0, []),
  (67, .iload 7, 2, 0, 7, 0, 0, []),
  (69, .iload_n 2, 1, 0, 2, 0, 0, []),
  (70, .if_icmp .ge 39, 3, 0, 109, 0, 0, []),
  (73, .aload_n 0, 1, 0, 0, 0, 0, []),
  (74, .getfield 43, 3, 0, 13, 11, 1, []),
  (77, .iload_n 1, 1, 0, 1, 0, 0, []),
  (78, .iload 7, 2, 0, 7, 0, 0, []),
  (80, .iadd, 1, 0, 0, 0, 0, []),
  (81, .iaload, 1, 0, 0, 0, 0, []),
  (82, .iload 6, 2, 0, 6, 0, 0, []),
  (84, .if_icmp .ne 19, 3, 0, 103, 0, 0, []),
  (87, .aload_n 0, 1, 0, 0, 0, 0, []),
  (88, .iload 7, 2, 0, 7, 0, 0, []),
  (90, .iload_n 2, 1, 0, 2, 0, 0, []),
  (91, .iconst 1, 1, 1, 0, 0, 0, []),
  (92, .isub, 1, 0, 0, 0, 0, []),
  (93, .invokestatic 240, 3, 0, 177, 1, 999, []),
  (96, .invokevirtual 450, 3, 0, 234, 3, 13, []),
  (99, .iload 6, 2, 0, 6, 0, 0, []),
  (101, .istore 5, 2, 0, 5, 0, 0, []),
  (103, .iinc 7 1, 3, 1, 7, 0, 0, []),
  (106, .goto (-39), 3, 0, 67, 0, 0, []),
  (109, .iinc 6 1, 3, 1, 6, 0, 0, []),
  (112, .goto (-59), 3, 0, 53, 0, 0, []),
  (115, .iload 4, 2, 0, 4, 0, 0, []),
  (117, .iconst 4, 1, 4, 0, 0, 0, []),
  (118, .if_icmp .ne 19, 3, 0, 137, 0, 0, []),
  (121, .aload_n 0, 1, 0, 0, 0, 0, []),
  (122, .iload 5, 2, 0, 5, 0, 0, []),
  (124, .iconst 3, 1, 3, 0, 0, 0, []),
  (125, .if_icmp .ne 7, 3, 0, 132, 0, 0, []),
  (128, .iconst 1, 1, 1, 0, 0, 0, []),
  (129, .goto 4, 3, 0, 133, 0, 0, []),
  (132, .iconst 0, 1, 0, 0, 0, 0, []),
  (133, .iconst 1, 1, 1, 0, 0, 0, []),
  (134, .invokevirtual 450, 3, 0, 234, 3, 13, []),
  (137, .return_, 1, 0, 0, 0, 0, [])]
def am_c240 : List (Nat × am_Row) := am_c240_0 ++ (am_c240_1)
/-- BrotliWordsModel.putMark(II)V -/
def am_c241 : List (Nat × am_Row) := [(0, .aload_n 0, 1, 0, 0, 0, 0, []),
  (1, .getfield 113, 3, 0, 13, 48, 1, []),
  (4, .aload_n 0, 1, 0, 0, 0, 0, []),
  (5, .getfield 459, 3, 0, 13, 50, 0, []),
  (8, .iload_n 1, 1, 0, 1, 0, 0, []),
  (9, .iastore, 1, 0, 0, 0, 0, []),
  (10, .aload_n 0, 1, 0, 0, 0, 0, []),
  (11, .getfield 116, 3, 0, 13, 49, 1, []),
  (14, .aload_n 0, 1, 0, 0, 0, 0, []),
  (15, .getfield 459, 3, 0, 13, 50, 0, []),
  (18, .iload_n 2, 1, 0, 2, 0, 0, []),
  (19, .iastore, 1, 0, 0, 0, 0, []),
  (20, .aload_n 0, 1, 0, 0, 0, 0, []),
  (21, .dup, 1, 0, 0, 0, 0, []),
  (22, .getfield 459, 3, 0, 13, 50, 0, []),
  (25, .iconst 1, 1, 1, 0, 0, 0, []),
  (26, .iadd, 1, 0, 0, 0, 0, []),
  (27, .putfield 459, 3, 0, 13, 50, 0, []),
  (30, .return_, 1, 0, 0, 0, 0, [])]
/-- BrotliWordsModel.findMarks(II)V -/
def am_c242_0 : List (Nat × am_Row) := [(0, .iconst 0, 1, 0, 0, 0, 0, []),
  (1, .istore_n 3, 1, 0, 3, 0, 0, []),
  (2, .iconst 0, 1, 0, 0, 0, 0, []),
  (3, .istore 4, 2, 0, 4, 0, 0, []),
  (5, .iload 4, 2, 0, 4, 0, 0, []),
  (7, .iload_n 2, 1, 0, 2, 0, 0, []),
  (8, .if_icmp .ge 30, 3, 0, 38, 0, 0, []),
  (11, .aload_n 0, 1, 0, 0, 0, 0, []),
  (12, .getfield 43, 3, 0, 13, 11, 1, []),
  (15, .iload_n 1, 1, 0, 1, 0, 0, []),
  (16, .iload 4, 2, 0, 4, 0, 0, []),
  (18, .iadd, 1, 0, 0, 0, 0, []),
  (19, .iaload, 1, 0, 0, 0, 0, []),
  (20, .ifCond .le 10, 3, 0, 30, 0, 0, []),
  (23, .iload 4, 2, 0, 4, 0, 0, []),
  (25, .iconst 1, 1, 1, 0, 0, 0, []),
  (26, .iadd, 1, 0, 0, 0, 0, []),
  (27, .goto 4, 3, 0, 31, 0, 0, []),
  (30, .iload_n 3, 1, 0, 3, 0, 0, []),
  (31, .istore_n 3, 1, 0, 3, 0, 0, []),
  (32, .iinc 4 1, 3, 1, 4, 0, 0, []),
  (35, .goto (-30), 3, 0, 5, 0, 0, []),
  (38, .aload_n 0, 1, 0, 0, 0, 0, []),
  (39, .iconst 0, 1, 0, 0, 0, 0, []),
  (40, .putfield 459, 3, 0, 13, 50, 0, []),
  (43, .iconst 0, 1, 0, 0, 0, 0, []),
  (44, .istore 4, 2, 0, 4, 0, 0, []),
  (46, .iload 4, 2, 0, 4, 0, 0, []),
  (48, .iload_n 3, 1, 0, 3, 0, 0, []),
  (49, .if_icmp .ge 119, 3, 0, 168, 0, 0, []),
  (52, .iconst 0, 1, 0, 0, 0, 0, []),
  (53, .istore 5, 2, 0, 5, 0, 0, []),
  (55, .iload 4, 2, 0, 4, 0, 0, []),
  (57, .iload 5, 2, 0, 5, 0, 0, []),
  (59, .iadd, 1, 0, 0, 0, 0, []),
  (60, .iload_n 3, 1, 0, 3, 0, 0, []),
  (61, .if_icmp .ge 24, 3, 0, 85, 0, 0, []),
  (64, .aload_n 0, 1, 0, 0, 0, 0, []),
  (65, .getfield 43, 3, 0, 13, 11, 1, []),
  (68, .iload_n 1, 1, 0, 1, 0, 0, [])]
def am_c242_1 : List (Nat × am_Row) := [(69, .iload 4, 2, 0, 4, 0, 0, []),
  (71, .iadd, 1, 0, 0, 0, 0, []),
  (72, .iload 5, 2, 0, 5, 0, 0, []),
  (74, .iadd, 1, 0, 0, 0, 0, []),
  (75, .iaload, 1, 0, 0, 0, 0, []),
  (76, .ifCond .ne 9, 3, 0, 85, 0, 0, []),
  (79, .iinc 5 1, 3, 1, 5, 0, 0, []),
  (82, .goto (-27), 3, 0, 55, 0, 0, []),
  (85, .iload 5, 2, 0, 5, 0, 0, []),
  (87, .iconst 3, 1, 3, 0, 0, 0, []),
  (88, .if_icmp .lt 60, 3, 0, 148, 0, 0, []),
  (91, .aload_n 0, 1, 0, 0, 0, 0, []),
  (92, .getfield 459, 3, 0, 13, 50, 0, []),
  (95, .ifCond .eq 19, 3, 0, 114, 0, 0, []),
  (98, .aload_n 0, 1, 0, 0, 0, 0, []),
  (99, .getfield 113, 3, 0, 13, 48, 1, []),
  (102, .aload_n 0, 1, 0, 0, 0, 0, []),
  (103, .getfield 459, 3, 0, 13, 50, 0, []),
  (106, .iconst 1, 1, 1, 0, 0, 0, []),
  (107, .isub, 1, 0, 0, 0, 0, []),
  (108, .iaload, 1, 0, 0, 0, 0, []),
  (109, .bipush 17, 2, 17, 0, 0, 0, []),
  (111, .if_icmp .eq 37, 3, 0, 148, 0, 0, []),
  (114, .iload 5, 2, 0, 5, 0, 0, []),
  (116, .bipush 10, 2, 10, 0, 0, 0, []),
  (118, .if_icmp .ge 8, 3, 0, 126, 0, 0, []),
  (121, .iload 5, 2, 0, 5, 0, 0, []),
  (123, .goto 5, 3, 0, 128, 0, 0, []),
  (126, .bipush 10, 2, 10, 0, 0, 0, []),
  (128, .istore 6, 2, 0, 6, 0, 0, []),
  (130, .aload_n 0, 1, 0, 0, 0, 0, []),
  (131, .bipush 17, 2, 17, 0, 0, 0, []),
  (133, .iload 6, 2, 0, 6, 0, 0, []),
  (135, .invokevirtual 462, 3, 0, 241, 3, 13, []),
  (138, .iload 4, 2, 0, 4, 0, 0, []),
  (140, .iload 6, 2, 0, 6, 0, 0, []),
  (142, .iadd, 1, 0, 0, 0, 0, []),
  (143, .istore 4, 2, 0, 4, 0, 0, []),
  (145, .goto 20, 3, 0, 165, 0, 0, []),
  (148, .aload_n 0, 1, 0, 0, 0, 0, [])]
def am_c242_2 : List (Nat × am_Row) := [(149, .aload_n 0, 1, 0, 0, 0, 0, []),
  (150, .getfield 43, 3, 0, 13, 11, 1, []),
  (153, .iload_n 1, 1, 0, 1, 0, 0, []),
  (154, .iload 4, 2, 0, 4, 0, 0, []),
  (156, .iadd, 1, 0, 0, 0, 0, []),
  (157, .iaload, 1, 0, 0, 0, 0, []),
  (158, .iconst 0, 1, 0, 0, 0, 0, []),
  (159, .invokevirtual 462, 3, 0, 241, 3, 13, []),
  (162, .iinc 4 1, 3, 1, 4, 0, 0, []),
  (165, .goto (-119), 3, 0, 46, 0, 0, []),
  (168, .return_, 1, 0, 0, 0, 0, [])]
def am_c242 : List (Nat × am_Row) := am_c242_0 ++ (am_c242_1 ++ (am_c242_2))
/-- BrotliWordsModel.writeMarkLength(I)V -/
def am_c243 : List (Nat × am_Row) := [(0, .iload_n 1, 1, 0, 1, 0, 0, []),
  (1, .tableswitch 81 0 4 #[35, 71, 62, 44, 53], 35, 0, 82, 0, 0, [(0, 36), (1, 72), (2, 63), (3, 45), (4, 54)]),
  (36, .aload_n 0, 1, 0, 0, 0, 0, []),
  (37, .iconst 0, 1, 0, 0, 0, 0, []),
  (38, .iconst 2, 1, 2, 0, 0, 0, []),
  (39, .invokevirtual 450, 3, 0, 234, 3, 13, []),
  (42, .goto 47, 3, 0, 89, 0, 0, []),
  (45, .aload_n 0, 1, 0, 0, 0, 0, []),
  (46, .iconst 2, 1, 2, 0, 0, 0, []),
  (47, .iconst 2, 1, 2, 0, 0, 0, []),
  (48, .invokevirtual 450, 3, 0, 234, 3, 13, []),
  (51, .goto 38, 3, 0, 89, 0, 0, []),
  (54, .aload_n 0, 1, 0, 0, 0, 0, []),
  (55, .iconst 1, 1, 1, 0, 0, 0, []),
  (56, .iconst 2, 1, 2, 0, 0, 0, []),
  (57, .invokevirtual 450, 3, 0, 234, 3, 13, []),
  (60, .goto 29, 3, 0, 89, 0, 0, []),
  (63, .aload_n 0, 1, 0, 0, 0, 0, []),
  (64, .iconst 3, 1, 3, 0, 0, 0, []),
  (65, .iconst 3, 1, 3, 0, 0, 0, []),
  (66, .invokevirtual 450, 3, 0, 234, 3, 13, []),
  (69, .goto 20, 3, 0, 89, 0, 0, []),
  (72, .aload_n 0, 1, 0, 0, 0, 0, []),
  (73, .bipush 7, 2, 7, 0, 0, 0, []),
  (75, .iconst 4, 1, 4, 0, 0, 0, []),
  (76, .invokevirtual 450, 3, 0, 234, 3, 13, []),
  (79, .goto 10, 3, 0, 89, 0, 0, []),
  (82, .aload_n 0, 1, 0, 0, 0, 0, []),
  (83, .bipush 15, 2, 15, 0, 0, 0, []),
  (85, .iconst 4, 1, 4, 0, 0, 0, []),
  (86, .invokevirtual 450, 3, 0, 234, 3, 13, []),
  (89, .return_, 1, 0, 0, 0, 0, [])]
/-- BrotliWordsModel.writeCode(II)V -/
def am_c244_0 : List (Nat × am_Row) := [(0, .aload_n 0, 1, 0, 0, 0, 0, []),
  (1, .iload_n 1, 1, 0, 1, 0, 0, []),
  (2, .iload_n 2, 1, 0, 2, 0, 0, []),
  (3, .bipush 15, 2, 15, 0, 0, 0, []),
  (5, .invokevirtual 465, 3, 0, 238, 4, 13, []),
  (8, .istore_n 3, 1, 0, 3, 0, 0, []),
  (9, .aload_n 0, 1, 0, 0, 0, 0, []),
  (10, .iload_n 1, 1, 0, 1, 0, 0, []),
  (11, .iload_n 2, 1, 0, 2, 0, 0, []),
  (12, .invokevirtual 237, 3, 0, 171, 3, 13, []),
  (15, .iload_n 3, 1, 0, 3, 0, 0, []),
  (16, .iconst 4, 1, 4, 0, 0, 0, []),
  (17, .if_icmp .gt 11, 3, 0, 28, 0, 0, []),
  (20, .aload_n 0, 1, 0, 0, 0, 0, []),
  (21, .iload_n 1, 1, 0, 1, 0, 0, []),
  (22, .iload_n 2, 1, 0, 2, 0, 0, []),
  (23, .iload_n 3, 1, 0, 3, 0, 0, []),
  (24, .invokevirtual 468, 3, 0, 240, 4, 13, []),
  (27, .return_, 1, 0, 0, 0, 0, []),
  (28, .aload_n 0, 1, 0, 0, 0, 0, []),
  (29, .iconst 0, 1, 0, 0, 0, 0, []),
  (30, .iconst 2, 1, 2, 0, 0, 0, []),
  (31, .invokevirtual 450, 3, 0, 234, 3, 13, []),
  (34, .aload_n 0, 1, 0, 0, 0, 0, []),
  (35, .iload_n 1, 1, 0, 1, 0, 0, []),
  (36, .iload_n 2, 1, 0, 2, 0, 0, []),
  (37, .invokevirtual 471, 3, 0, 242, 3, 13, []),
  (40, .iconst 0, 1, 0, 0, 0, 0, []),
  (41, .istore 4, 2, 0, 4, 0, 0, []),
  (43, .iload 4, 2, 0, 4, 0, 0, []),
  (45, .bipush 18, 2, 18, 0, 0, 0, []),
  (47, .if_icmp .ge 17, 3, 0, 64, 0, 0, []),
  (50, .aload_n 0, 1, 0, 0, 0, 0, []),
  (51, .getfield 110, 3, 0, 13, 47, 1, []),
  (54, .iload 4, 2, 0, 4, 0, 0, []),
  (56, .iconst 0, 1, 0, 0, 0, 0, []),
  (57, .iastore, 1, 0, 0, 0, 0, []),
  (58, .iinc 4 1, 3, 1, 4, 0, 0, []),
  (61, .goto (-18), 3, 0, 43, 0, 0, []),
  (64, .iconst 0, 1, 0, 0, 0, 0, [])]
def am_c244_1 : List (Nat × am_Row) := [(65, .istore 4, 2, 0, 4, 0, 0, []),
  (67, .iload 4, 2, 0, 4, 0, 0, []),
  (69, .aload_n 0, 1, 0, 0, 0, 0, []),
  (70, .getfield 459, 3, 0, 13, 50, 0, []),
  (73, .if_icmp .ge 25, 3, 0, 98, 0, 0, []),
  (76, .aload_n 0, 1, 0, 0, 0, 0, []),
  (77, .getfield 110, 3, 0, 13, 47, 1, []),
  (80, .aload_n 0, 1, 0, 0, 0, 0, []),
  (81, .getfield 113, 3, 0, 13, 48, 1, []),
  (84, .iload 4, 2, 0, 4, 0, 0, []),
  (86, .iaload, 1, 0, 0, 0, 0, []),
  (87, .dup2, 1, 0, 0, 0, 0, []),
  (88, .iaload, 1, 0, 0, 0, 0, []),
  (89, .iconst 1, 1, 1, 0, 0, 0, []),
  (90, .iadd, 1, 0, 0, 0, 0, []),
  (91, .iastore, 1, 0, 0, 0, 0, []),
  (92, .iinc 4 1, 3, 1, 4, 0, 0, []),
  (95, .goto (-28), 3, 0, 67, 0, 0, []),
  (98, .aload_n 0, 1, 0, 0, 0, 0, []),
  (99, .sipush 17910, 3, 17910, 0, 0, 0, []),
  (102, .bipush 18, 2, 18, 0, 0, 0, []),
  (104, .iconst 5, 1, 5, 0, 0, 0, []),
  (105, .invokevirtual 465, 3, 0, 238, 4, 13, []),
  (108, .istore 4, 2, 0, 4, 0, 0, []),
  (110, .iload 4, 2, 0, 4, 0, 0, []),
  (112, .iconst 1, 1, 1, 0, 0, 0, []),
  (113, .if_icmp .ne 21, 3, 0, 134, 0, 0, []),
  (116, .aload_n 0, 1, 0, 0, 0, 0, []),
  (117, .getfield 43, 3, 0, 13, 11, 1, []),
  (120, .sipush 17910, 3, 17910, 0, 0, 0, []),
  (123, .aload_n 0, 1, 0, 0, 0, 0, []),
  (124, .getfield 49, 3, 0, 13, 13, 1, []),
  (127, .sipush 17910, 3, 17910, 0, 0, 0, []),
  (130, .iaload, 1, 0, 0, 0, 0, []),
  (131, .iadd, 1, 0, 0, 0, 0, []),
  (132, .iconst 1, 1, 1, 0, 0, 0, []),
  (133, .iastore, 1, 0, 0, 0, 0, []),
  (134, .aload_n 0, 1, 0, 0, 0, 0, []),
  (135, .sipush 17910, 3, 17910, 0, 0, 0, []),
  (138, .bipush 18, 2, 18, 0, 0, 0, [])]
def am_c244_2 : List (Nat × am_Row) := [(140, .invokevirtual 237, 3, 0, 171, 3, 13, []),
  (143, .iconst 0, 1, 0, 0, 0, 0, []),
  (144, .istore 5, 2, 0, 5, 0, 0, []),
  (146, .iconst 0, 1, 0, 0, 0, 0, []),
  (147, .istore 6, 2, 0, 6, 0, 0, []),
  (149, .iload 6, 2, 0, 6, 0, 0, []),
  (151, .bipush 18, 2, 18, 0, 0, 0, []),
  (153, .if_icmp .ge 57, 3, 0, 210, 0, 0, []),
  (156, .iload 5, 2, 0, 5, 0, 0, []),
  (158, .bipush 32, 2, 32, 0, 0, 0, []),
  (160, .if_icmp .ge 50, 3, 0, 210, 0, 0, []),
  (163, .aload_n 0, 1, 0, 0, 0, 0, []),
  (164, .getfield 43, 3, 0, 13, 11, 1, []),
  (167, .sipush 17910, 3, 17910, 0, 0, 0, []),
  (170, .iload 6, 2, 0, 6, 0, 0, []),
  (172, .invokestatic 250, 3, 0, 181, 1, 999, []),
  (175, .iadd, 1, 0, 0, 0, 0, []),
  (176, .iaload, 1, 0, 0, 0, 0, []),
  (177, .istore 7, 2, 0, 7, 0, 0, []),
  (179, .aload_n 0, 1, 0, 0, 0, 0, []),
  (180, .iload 7, 2, 0, 7, 0, 0, []),
  (182, .invokevirtual 474, 3, 0, 243, 2, 13, []),
  (185, .iload 5, 2, 0, 5, 0, 0, []),
  (187, .iload 7, 2, 0, 7, 0, 0, []),
  (189, .ifCond .le 11, 3, 0, 200, 0, 0, []),
  (192, .bipush 32, 2, 32, 0, 0, 0, []),
  (194, .iload 7, 2, 0, 7, 0, 0, []),
  (196, .ishr, 1, 0, 0, 0, 0, []),
  (197, .goto 4, 3, 0, 201, 0, 0, []),
  (200, .iconst 0, 1, 0, 0, 0, 0, []),
  (201, .iadd, 1, 0, 0, 0, 0, []),
  (202, .istore 5, 2, 0, 5, 0, 0, []),
  (204, .iinc 6 1, 3, 1, 6, 0, 0, []),
  (207, .goto (-58), 3, 0, 149, 0, 0, []),
  (210, .iconst 0, 1, 0, 0, 0, 0, []),
  (211, .istore 6, 2, 0, 6, 0, 0, []),
  (213, .iload 6, 2, 0, 6, 0, 0, []),
  (215, .aload_n 0, 1, 0, 0, 0, 0, []),
  (216, .getfield 459, 3, 0, 13, 50, 0, []),
  (219, .if_icmp .ge 49, 3, 0, 268, 0, 0, [])]
def am_c244_3 : List (Nat × am_Row) := [(222, .aload_n 0, 1, 0, 0, 0, 0, []),
  (223, .sipush 17910, 3, 17910, 0, 0, 0, []),
  (226, .aload_n 0, 1, 0, 0, 0, 0, []),
  (227, .getfield 113, 3, 0, 13, 48, 1, []),
  (230, .iload 6, 2, 0, 6, 0, 0, []),
  (232, .iaload, 1, 0, 0, 0, 0, []),
  (233, .invokevirtual 477, 3, 0, 236, 3, 13, []),
  (236, .aload_n 0, 1, 0, 0, 0, 0, []),
  (237, .getfield 113, 3, 0, 13, 48, 1, []),
  (240, .iload 6, 2, 0, 6, 0, 0, []),
  (242, .iaload, 1, 0, 0, 0, 0, []),
  (243, .bipush 17, 2, 17, 0, 0, 0, []),
  (245, .if_icmp .ne 17, 3, 0, 262, 0, 0, []),
  (248, .aload_n 0, 1, 0, 0, 0, 0, []),
  (249, .aload_n 0, 1, 0, 0, 0, 0, []),
  (250, .getfield 116, 3, 0, 13, 49, 1, []),
  (253, .iload 6, 2, 0, 6, 0, 0, []),
  (255, .iaload, 1, 0, 0, 0, 0, []),
  (256, .iconst 3, 1, 3, 0, 0, 0, []),
  (257, .isub, 1, 0, 0, 0, 0, []),
  (258, .iconst 3, 1, 3, 0, 0, 0, []),
  (259, .invokevirtual 450, 3, 0, 234, 3, 13, []),
  (262, .iinc 6 1, 3, 1, 6, 0, 0, []),
  (265, .goto (-52), 3, 0, 213, 0, 0, []),
  (268, .return_, 1, 0, 0, 0, 0, [])]
def am_c244 : List (Nat × am_Row) := am_c244_0 ++ (am_c244_1 ++ (am_c244_2 ++ (am_c244_3)))
/-- BrotliWordsModel.findCopy(I)V -/
def am_c245_0 : List (Nat × am_Row) := [(0, .aload_n 0, 1, 0, 0, 0, 0, []),
  (1, .getfield 119, 3, 0, 13, 51, 1, []),
  (4, .iload_n 1, 1, 0, 1, 0, 0, []),
  (5, .iconst 0, 1, 0, 0, 0, 0, []),
  (6, .iastore, 1, 0, 0, 0, 0, []),
  (7, .iconst 1, 1, 1, 0, 0, 0, []),
  (8, .istore_n 2, 1, 0, 2, 0, 0, []),
  (9, .iload_n 2, 1, 0, 2, 0, 0, []),
  (10, .iload_n 1, 1, 0, 1, 0, 0, []),
  (11, .if_icmp .gt 96, 3, 0, 107, 0, 0, []),
  (14, .aload_n 0, 1, 0, 0, 0, 0, []),
  (15, .getfield 119, 3, 0, 13, 51, 1, []),
  (18, .iload_n 1, 1, 0, 1, 0, 0, []),
  (19, .iaload, 1, 0, 0, 0, 0, []),
  (20, .sipush 200, 3, 200, 0, 0, 0, []),
  (23, .if_icmp .ge 84, 3, 0, 107, 0, 0, []),
  (26, .iconst 0, 1, 0, 0, 0, 0, []),
  (27, .istore_n 3, 1, 0, 3, 0, 0, []),
  (28, .iload_n 3, 1, 0, 3, 0, 0, []),
  (29, .sipush 200, 3, 200, 0, 0, 0, []),
  (32, .if_icmp .ge 40, 3, 0, 72, 0, 0, []),
  (35, .iload_n 1, 1, 0, 1, 0, 0, []),
  (36, .iload_n 3, 1, 0, 3, 0, 0, []),
  (37, .iadd, 1, 0, 0, 0, 0, []),
  (38, .aload_n 0, 1, 0, 0, 0, 0, []),
  (39, .getfield 480, 3, 0, 13, 59, 0, []),
  (42, .if_icmp .ge 30, 3, 0, 72, 0, 0, []),
  (45, .aload_n 0, 1, 0, 0, 0, 0, []),
  (46, .getfield 52, 3, 0, 13, 14, 1, []),
  (49, .iload_n 1, 1, 0, 1, 0, 0, []),
  (50, .iload_n 3, 1, 0, 3, 0, 0, []),
  (51, .iadd, 1, 0, 0, 0, 0, []),
  (52, .baload, 1, 0, 0, 0, 0, []),
  (53, .aload_n 0, 1, 0, 0, 0, 0, []),
  (54, .getfield 52, 3, 0, 13, 14, 1, []),
  (57, .iload_n 1, 1, 0, 1, 0, 0, []),
  (58, .iload_n 3, 1, 0, 3, 0, 0, []),
  (59, .iadd, 1, 0, 0, 0, 0, []),
  (60, .iload_n 2, 1, 0, 2, 0, 0, []),
  (61, .isub, 1, 0, 0, 0, 0, [])]
def am_c245_1 : List (Nat × am_Row) := [(62, .baload, 1, 0, 0, 0, 0, []),
  (63, .if_icmp .ne 9, 3, 0, 72, 0, 0, []),
  (66, .iinc 3 1, 3, 1, 3, 0, 0, []),
  (69, .goto (-41), 3, 0, 28, 0, 0, []),
  (72, .iload_n 3, 1, 0, 3, 0, 0, []),
  (73, .iconst 4, 1, 4, 0, 0, 0, []),
  (74, .if_icmp .lt 27, 3, 0, 101, 0, 0, []),
  (77, .iload_n 3, 1, 0, 3, 0, 0, []),
  (78, .aload_n 0, 1, 0, 0, 0, 0, []),
  (79, .getfield 119, 3, 0, 13, 51, 1, []),
  (82, .iload_n 1, 1, 0, 1, 0, 0, []),
  (83, .iaload, 1, 0, 0, 0, 0, []),
  (84, .if_icmp .le 17, 3, 0, 101, 0, 0, []),
  (87, .aload_n 0, 1, 0, 0, 0, 0, []),
  (88, .getfield 119, 3, 0, 13, 51, 1, []),
  (91, .iload_n 1, 1, 0, 1, 0, 0, []),
  (92, .iload_n 3, 1, 0, 3, 0, 0, []),
  (93, .iastore, 1, 0, 0, 0, 0, []),
  (94, .aload_n 0, 1, 0, 0, 0, 0, []),
  (95, .getfield 122, 3, 0, 13, 52, 1, []),
  (98, .iload_n 1, 1, 0, 1, 0, 0, []),
  (99, .iload_n 2, 1, 0, 2, 0, 0, []),
  (100, .iastore, 1, 0, 0, 0, 0, []),
  (101, .iinc 2 1, 3, 1, 2, 0, 0, []),
  (104, .goto (-95), 3, 0, 9, 0, 0, []),
  (107, .return_, 1, 0, 0, 0, 0, [])]
def am_c245 : List (Nat × am_Row) := am_c245_0 ++ (am_c245_1)
/-- BrotliWordsModel.findWord(I)V -/
def am_c246_0 : List (Nat × am_Row) := [(0, .aload_n 0, 1, 0, 0, 0, 0, []),
  (1, .getfield 125, 3, 0, 13, 53, 1, []),
  (4, .iload_n 1, 1, 0, 1, 0, 0, []),
  (5, .iconst 0, 1, 0, 0, 0, 0, []),
  (6, .iastore, 1, 0, 0, 0, 0, []),
  (7, .iconst 4, 1, 4, 0, 0, 0, []),
  (8, .istore_n 2, 1, 0, 2, 0, 0, []),
  (9, .iload_n 2, 1, 0, 2, 0, 0, []),
  (10, .bipush 10, 2, 10, 0, 0, 0, []),
  (12, .if_icmp .gt 178, 3, 0, 190, 0, 0, []),
  (15, .iconst 0, 1, 0, 0, 0, 0, []),
  (16, .istore_n 3, 1, 0, 3, 0, 0, []),
  (17, .iload_n 3, 1, 0, 3, 0, 0, []),
  (18, .aload_n 0, 1, 0, 0, 0, 0, []),
  (19, .getfield 36, 3, 0, 13, 8, 1, []),
  (22, .iload_n 2, 1, 0, 2, 0, 0, []),
  (23, .iaload, 1, 0, 0, 0, 0, []),
  (24, .if_icmp .ge 160, 3, 0, 184, 0, 0, []),
  (27, .iconst 0, 1, 0, 0, 0, 0, []),
  (28, .istore 4, 2, 0, 4, 0, 0, []),
  (30, .iload 4, 2, 0, 4, 0, 0, []),
  (32, .bipush 24, 2, 24, 0, 0, 0, []),
  (34, .if_icmp .ge 144, 3, 0, 178, 0, 0, []),
  (37, .aload_n 0, 1, 0, 0, 0, 0, []),
  (38, .iload_n 2, 1, 0, 2, 0, 0, []),
  (39, .iload_n 3, 1, 0, 3, 0, 0, []),
  (40, .iload 4, 2, 0, 4, 0, 0, []),
  (42, .invokevirtual 198, 3, 0, 168, 4, 13, []),
  (45, .aload_n 0, 1, 0, 0, 0, 0, []),
  (46, .getfield 189, 3, 0, 13, 10, 0, []),
  (49, .iconst 4, 1, 4, 0, 0, 0, []),
  (50, .if_icmp .lt 33, 3, 0, 83, 0, 0, []),
  (53, .aload_n 0, 1, 0, 0, 0, 0, []),
  (54, .getfield 189, 3, 0, 13, 10, 0, []),
  (57, .aload_n 0, 1, 0, 0, 0, 0, []),
  (58, .getfield 125, 3, 0, 13, 53, 1, []),
  (61, .iload_n 1, 1, 0, 1, 0, 0, []),
  (62, .iaload, 1, 0, 0, 0, 0, []),
  (63, .if_icmp .le 20, 3, 0, 83, 0, 0, []),
  (66, .iload_n 1, 1, 0, 1, 0, 0, [])]
def am_c246_1 : List (Nat × am_Row) := [(67, .aload_n 0, 1, 0, 0, 0, 0, []),
  (68, .getfield 189, 3, 0, 13, 10, 0, []),
  (71, .iadd, 1, 0, 0, 0, 0, []),
  (72, .aload_n 0, 1, 0, 0, 0, 0, []),
  (73, .getfield 480, 3, 0, 13, 59, 0, []),
  (76, .if_icmp .gt 7, 3, 0, 83, 0, 0, []),
  (79, .iconst 1, 1, 1, 0, 0, 0, []),
  (80, .goto 4, 3, 0, 84, 0, 0, []),
  (83, .iconst 0, 1, 0, 0, 0, 0, []),
  (84, .istore 5, 2, 0, 5, 0, 0, []),
  (86, .iconst 0, 1, 0, 0, 0, 0, []),
  (87, .istore 6, 2, 0, 6, 0, 0, []),
  (89, .iload 6, 2, 0, 6, 0, 0, []),
  (91, .aload_n 0, 1, 0, 0, 0, 0, []),
  (92, .getfield 189, 3, 0, 13, 10, 0, []),
  (95, .if_icmp .ge 40, 3, 0, 135, 0, 0, []),
  (98, .iload 5, 2, 0, 5, 0, 0, []),
  (100, .ifCond .eq 35, 3, 0, 135, 0, 0, []),
  (103, .aload_n 0, 1, 0, 0, 0, 0, []),
  (104, .getfield 40, 3, 0, 13, 9, 1, []),
  (107, .iload 6, 2, 0, 6, 0, 0, []),
  (109, .baload, 1, 0, 0, 0, 0, []),
  (110, .aload_n 0, 1, 0, 0, 0, 0, []),
  (111, .getfield 52, 3, 0, 13, 14, 1, []),
  (114, .iload_n 1, 1, 0, 1, 0, 0, []),
  (115, .iload 6, 2, 0, 6, 0, 0, []),
  (117, .iadd, 1, 0, 0, 0, 0, []),
  (118, .baload, 1, 0, 0, 0, 0, []),
  (119, .if_icmp .ne 7, 3, 0, 126, 0, 0, []),
  (122, .iconst 1, 1, 1, 0, 0, 0, []),
  (123, .goto 4, 3, 0, 127, 0, 0, []),
  (126, .iconst 0, 1, 0, 0, 0, 0, []),
  (127, .istore 5, 2, 0, 5, 0, 0, []),
  (129, .iinc 6 1, 3, 1, 6, 0, 0, []),
  (132, .goto (-43), 3, 0, 89, 0, 0, []),
  (135, .iload 5, 2, 0, 5, 0, 0, []),
  (137, .ifCond .eq 35, 3, 0, 172, 0, 0, []),
  (140, .aload_n 0, 1, 0, 0, 0, 0, []),
  (141, .getfield 125, 3, 0, 13, 53, 1, []),
  (144, .iload_n 1, 1, 0, 1, 0, 0, [])]
def am_c246_2 : List (Nat × am_Row) := [(145, .aload_n 0, 1, 0, 0, 0, 0, []),
  (146, .getfield 189, 3, 0, 13, 10, 0, []),
  (149, .iastore, 1, 0, 0, 0, 0, []),
  (150, .aload_n 0, 1, 0, 0, 0, 0, []),
  (151, .getfield 128, 3, 0, 13, 54, 1, []),
  (154, .iload_n 1, 1, 0, 1, 0, 0, []),
  (155, .iload_n 2, 1, 0, 2, 0, 0, []),
  (156, .iastore, 1, 0, 0, 0, 0, []),
  (157, .aload_n 0, 1, 0, 0, 0, 0, []),
  (158, .getfield 131, 3, 0, 13, 55, 1, []),
  (161, .iload_n 1, 1, 0, 1, 0, 0, []),
  (162, .iload_n 3, 1, 0, 3, 0, 0, []),
  (163, .iastore, 1, 0, 0, 0, 0, []),
  (164, .aload_n 0, 1, 0, 0, 0, 0, []),
  (165, .getfield 134, 3, 0, 13, 56, 1, []),
  (168, .iload_n 1, 1, 0, 1, 0, 0, []),
  (169, .iload 4, 2, 0, 4, 0, 0, []),
  (171, .iastore, 1, 0, 0, 0, 0, []),
  (172, .iinc 4 1, 3, 1, 4, 0, 0, []),
  (175, .goto (-145), 3, 0, 30, 0, 0, []),
  (178, .iinc 3 1, 3, 1, 3, 0, 0, []),
  (181, .goto (-164), 3, 0, 17, 0, 0, []),
  (184, .iinc 2 1, 3, 1, 2, 0, 0, []),
  (187, .goto (-178), 3, 0, 9, 0, 0, []),
  (190, .return_, 1, 0, 0, 0, 0, [])]
def am_c246 : List (Nat × am_Row) := am_c246_0 ++ (am_c246_1 ++ (am_c246_2))
/-- BrotliWordsModel.madeBy(I)I -/
def am_c247 : List (Nat × am_Row) := [(0, .aload_n 0, 1, 0, 0, 0, 0, []),
  (1, .getfield 137, 3, 0, 13, 57, 1, []),
  (4, .iload_n 1, 1, 0, 1, 0, 0, []),
  (5, .iaload, 1, 0, 0, 0, 0, []),
  (6, .iconst 1, 1, 1, 0, 0, 0, []),
  (7, .if_icmp .ne 12, 3, 0, 19, 0, 0, []),
  (10, .aload_n 0, 1, 0, 0, 0, 0, []),
  (11, .getfield 119, 3, 0, 13, 51, 1, []),
  (14, .iload_n 1, 1, 0, 1, 0, 0, []),
  (15, .iaload, 1, 0, 0, 0, 0, []),
  (16, .goto 23, 3, 0, 39, 0, 0, []),
  (19, .aload_n 0, 1, 0, 0, 0, 0, []),
  (20, .getfield 137, 3, 0, 13, 57, 1, []),
  (23, .iload_n 1, 1, 0, 1, 0, 0, []),
  (24, .iaload, 1, 0, 0, 0, 0, []),
  (25, .iconst 2, 1, 2, 0, 0, 0, []),
  (26, .if_icmp .ne 12, 3, 0, 38, 0, 0, []),
  (29, .aload_n 0, 1, 0, 0, 0, 0, []),
  (30, .getfield 125, 3, 0, 13, 53, 1, []),
  (33, .iload_n 1, 1, 0, 1, 0, 0, []),
  (34, .iaload, 1, 0, 0, 0, 0, []),
  (35, .goto 4, 3, 0, 39, 0, 0, []),
  (38, .iconst 1, 1, 1, 0, 0, 0, []),
  (39, .ireturn, 1, 0, 0, 0, 0, [])]
/-- BrotliWordsModel.findWays(I)V -/
def am_c248_0 : List (Nat × am_Row) := [(0, .aload_n 0, 1, 0, 0, 0, 0, []),
  (1, .getfield 140, 3, 0, 13, 58, 1, []),
  (4, .aload_n 0, 1, 0, 0, 0, 0, []),
  (5, .getfield 480, 3, 0, 13, 59, 0, []),
  (8, .iconst 0, 1, 0, 0, 0, 0, []),
  (9, .iastore, 1, 0, 0, 0, 0, []),
  (10, .aload_n 0, 1, 0, 0, 0, 0, []),
  (11, .getfield 480, 3, 0, 13, 59, 0, []),
  (14, .iconst 1, 1, 1, 0, 0, 0, []),
  (15, .isub, 1, 0, 0, 0, 0, []),
  (16, .istore_n 2, 1, 0, 2, 0, 0, []),
  (17, .iload_n 2, 1, 0, 2, 0, 0, []),
  (18, .ifCond .lt 207, 3, 0, 225, 0, 0, []),
  (21, .aload_n 0, 1, 0, 0, 0, 0, []),
  (22, .iload_n 2, 1, 0, 2, 0, 0, []),
  (23, .invokevirtual 483, 3, 0, 245, 2, 13, []),
  (26, .aload_n 0, 1, 0, 0, 0, 0, []),
  (27, .iload_n 2, 1, 0, 2, 0, 0, []),
  (28, .invokevirtual 486, 3, 0, 246, 2, 13, []),
  (31, .aload_n 0, 1, 0, 0, 0, 0, []),
  (32, .getfield 119, 3, 0, 13, 51, 1, []),
  (35, .iload_n 2, 1, 0, 2, 0, 0, []),
  (36, .iaload, 1, 0, 0, 0, 0, []),
  (37, .istore_n 3, 1, 0, 3, 0, 0, []),
  (38, .aload_n 0, 1, 0, 0, 0, 0, []),
  (39, .getfield 125, 3, 0, 13, 53, 1, []),
  (42, .iload_n 2, 1, 0, 2, 0, 0, []),
  (43, .iaload, 1, 0, 0, 0, 0, []),
  (44, .istore 4, 2, 0, 4, 0, 0, []),
  (46, .iload_n 1, 1, 0, 1, 0, 0, []),
  (47, .iconst 1, 1, 1, 0, 0, 0, []),
  (48, .if_icmp .ne 36, 3, 0, 84, 0, 0, []),
  (51, .aload_n 0, 1, 0, 0, 0, 0, []),
  (52, .getfield 137, 3, 0, 13, 57, 1, []),
  (55, .iload_n 2, 1, 0, 2, 0, 0, []),
  (56, .iload_n 3, 1, 0, 3, 0, 0, []),
  (57, .ifCond .ne 12, 3, 0, 69, 0, 0, []),
  (60, .iload 4, 2, 0, 4, 0, 0, []),
  (62, .ifCond .ne 7, 3, 0, 69, 0, 0, []),
  (65, .iconst 0, 1, 0, 0, 0, 0, [])]
def am_c248_1 : List (Nat × am_Row) := [(66, .goto 14, 3, 0, 80, 0, 0, []),
  (69, .iload_n 3, 1, 0, 3, 0, 0, []),
  (70, .iload 4, 2, 0, 4, 0, 0, []),
  (72, .if_icmp .lt 7, 3, 0, 79, 0, 0, []),
  (75, .iconst 1, 1, 1, 0, 0, 0, []),
  (76, .goto 4, 3, 0, 80, 0, 0, []),
  (79, .iconst 2, 1, 2, 0, 0, 0, []),
  (80, .iastore, 1, 0, 0, 0, 0, []),
  (81, .goto 138, 3, 0, 219, 0, 0, []),
  (84, .iload_n 3, 1, 0, 3, 0, 0, []),
  (85, .ifCond .le 17, 3, 0, 102, 0, 0, []),
  (88, .bipush 24, 2, 24, 0, 0, 0, []),
  (90, .aload_n 0, 1, 0, 0, 0, 0, []),
  (91, .getfield 140, 3, 0, 13, 58, 1, []),
  (94, .iload_n 2, 1, 0, 2, 0, 0, []),
  (95, .iload_n 3, 1, 0, 3, 0, 0, []),
  (96, .iadd, 1, 0, 0, 0, 0, []),
  (97, .iaload, 1, 0, 0, 0, 0, []),
  (98, .iadd, 1, 0, 0, 0, 0, []),
  (99, .goto 6, 3, 0, 105, 0, 0, []),
  (102, .ldc_w 489, 3, 1000000, 0, 0, 0, []),
  (105, .istore 5, 2, 0, 5, 0, 0, []),
  (107, .iload 4, 2, 0, 4, 0, 0, []),
  (109, .ifCond .le 18, 3, 0, 127, 0, 0, []),
  (112, .bipush 24, 2, 24, 0, 0, 0, []),
  (114, .aload_n 0, 1, 0, 0, 0, 0, []),
  (115, .getfield 140, 3, 0, 13, 58, 1, []),
  (118, .iload_n 2, 1, 0, 2, 0, 0, []),
  (119, .iload 4, 2, 0, 4, 0, 0, []),
  (121, .iadd, 1, 0, 0, 0, 0, []),
  (122, .iaload, 1, 0, 0, 0, 0, []),
  (123, .iadd, 1, 0, 0, 0, 0, []),
  (124, .goto 6, 3, 0, 130, 0, 0, []),
  (127, .ldc_w 489, 3, 1000000, 0, 0, 0, []),
  (130, .istore 6, 2, 0, 6, 0, 0, []),
  (132, .bipush 9, 2, 9, 0, 0, 0, []),
  (134, .aload_n 0, 1, 0, 0, 0, 0, []),
  (135, .getfield 140, 3, 0, 13, 58, 1, []),
  (138, .iload_n 2, 1, 0, 2, 0, 0, []),
  (139, .iconst 1, 1, 1, 0, 0, 0, [])]
def am_c248_2 : List (Nat × am_Row) := [(140, .iadd, 1, 0, 0, 0, 0, []),
  (141, .iaload, 1, 0, 0, 0, 0, []),
  (142, .iadd, 1, 0, 0, 0, 0, []),
  (143, .istore 7, 2, 0, 7, 0, 0, []),
  (145, .aload_n 0, 1, 0, 0, 0, 0, []),
  (146, .getfield 137, 3, 0, 13, 57, 1, []),
  (149, .iload_n 2, 1, 0, 2, 0, 0, []),
  (150, .iload 5, 2, 0, 5, 0, 0, []),
  (152, .iload 6, 2, 0, 6, 0, 0, []),
  (154, .if_icmp .gt 14, 3, 0, 168, 0, 0, []),
  (157, .iload 5, 2, 0, 5, 0, 0, []),
  (159, .iload 7, 2, 0, 7, 0, 0, []),
  (161, .if_icmp .gt 7, 3, 0, 168, 0, 0, []),
  (164, .iconst 1, 1, 1, 0, 0, 0, []),
  (165, .goto 15, 3, 0, 180, 0, 0, []),
  (168, .iload 6, 2, 0, 6, 0, 0, []),
  (170, .iload 7, 2, 0, 7, 0, 0, []),
  (172, .if_icmp .gt 7, 3, 0, 179, 0, 0, []),
  (175, .iconst 2, 1, 2, 0, 0, 0, []),
  (176, .goto 4, 3, 0, 180, 0, 0, []),
  (179, .iconst 0, 1, 0, 0, 0, 0, []),
  (180, .iastore, 1, 0, 0, 0, 0, []),
  (181, .aload_n 0, 1, 0, 0, 0, 0, []),
  (182, .getfield 140, 3, 0, 13, 58, 1, []),
  (185, .iload_n 2, 1, 0, 2, 0, 0, []),
  (186, .aload_n 0, 1, 0, 0, 0, 0, []),
  (187, .getfield 137, 3, 0, 13, 57, 1, []),
  (190, .iload_n 2, 1, 0, 2, 0, 0, []),
  (191, .iaload, 1, 0, 0, 0, 0, []),
  (192, .iconst 1, 1, 1, 0, 0, 0, []),
  (193, .if_icmp .ne 8, 3, 0, 201, 0, 0, []),
  (196, .iload 5, 2, 0, 5, 0, 0, []),
  (198, .goto 20, 3, 0, 218, 0, 0, []),
  (201, .aload_n 0, 1, 0, 0, 0, 0, []),
  (202, .getfield 137, 3, 0, 13, 57, 1, []),
  (205, .iload_n 2, 1, 0, 2, 0, 0, []),
  (206, .iaload, 1, 0, 0, 0, 0, []),
  (207, .iconst 2, 1, 2, 0, 0, 0, []),
  (208, .if_icmp .ne 8, 3, 0, 216, 0, 0, []),
  (211, .iload 6, 2, 0, 6, 0, 0, [])]
def am_c248_3 : List (Nat × am_Row) := [(213, .goto 5, 3, 0, 218, 0, 0, []),
  (216, .iload 7, 2, 0, 7, 0, 0, []),
  (218, .iastore, 1, 0, 0, 0, 0, []),
  (219, .iinc 2 (-1), 3, (-1), 2, 0, 0, []),
  (222, .goto (-205), 3, 0, 17, 0, 0, []),
  (225, .return_, 1, 0, 0, 0, 0, [])]
def am_c248 : List (Nat × am_Row) := am_c248_0 ++ (am_c248_1 ++ (am_c248_2 ++ (am_c248_3)))
/-- BrotliWordsModel.codeOf(IZ)I -/
def am_c249 : List (Nat × am_Row) := [(0, .iconst 0, 1, 0, 0, 0, 0, []),
  (1, .istore_n 2, 1, 0, 2, 0, 0, []),
  (2, .iload_n 2, 1, 0, 2, 0, 0, []),
  (3, .bipush 23, 2, 23, 0, 0, 0, []),
  (5, .if_icmp .ge 32, 3, 0, 37, 0, 0, []),
  (8, .iload_n 1, 1, 0, 1, 0, 0, []),
  (9, .ifCond .eq 12, 3, 0, 21, 0, 0, []),
  (12, .iload_n 2, 1, 0, 2, 0, 0, []),
  (13, .iconst 1, 1, 1, 0, 0, 0, []),
  (14, .iadd, 1, 0, 0, 0, 0, []),
  (15, .invokestatic 378, 3, 0, 202, 1, 999, []),
  (18, .goto 9, 3, 0, 27, 0, 0, []),
  (21, .iload_n 2, 1, 0, 2, 0, 0, []),
  (22, .iconst 1, 1, 1, 0, 0, 0, []),
  (23, .iadd, 1, 0, 0, 0, 0, []),
  (24, .invokestatic 381, 3, 0, 203, 1, 999, []),
  (27, .iload_n 0, 1, 0, 0, 0, 0, []),
  (28, .if_icmp .gt 9, 3, 0, 37, 0, 0, []),
  (31, .iinc 2 1, 3, 1, 2, 0, 0, []),
  (34, .goto (-32), 3, 0, 2, 0, 0, []),
  (37, .iload_n 2, 1, 0, 2, 0, 0, []),
  (38, .ireturn, 1, 0, 0, 0, 0, [])]
/-- BrotliWordsModel.cellOf(II)I -/
def am_c250 : List (Nat × am_Row) := [(0, .iconst 2, 1, 2, 0, 0, 0, []),
  (1, .istore_n 2, 1, 0, 2, 0, 0, []),
  (2, .iload_n 2, 1, 0, 2, 0, 0, []),
  (3, .invokestatic 372, 3, 0, 204, 1, 999, []),
  (6, .iload_n 0, 1, 0, 0, 0, 0, []),
  (7, .if_icmp .ne 11, 3, 0, 18, 0, 0, []),
  (10, .iload_n 2, 1, 0, 2, 0, 0, []),
  (11, .invokestatic 375, 3, 0, 205, 1, 999, []),
  (14, .iload_n 1, 1, 0, 1, 0, 0, []),
  (15, .if_icmp .eq 9, 3, 0, 24, 0, 0, []),
  (18, .iinc 2 1, 3, 1, 2, 0, 0, []),
  (21, .goto (-19), 3, 0, 2, 0, 0, []),
  (24, .iload_n 2, 1, 0, 2, 0, 0, []),
  (25, .ireturn, 1, 0, 0, 0, 0, [])]
/-- BrotliWordsModel.signOf(I)I -/
def am_c251_0 : List (Nat × am_Row) := [(0, .iconst 0, 1, 0, 0, 0, 0, []),
  (1, .istore_n 2, 1, 0, 2, 0, 0, []),
  (2, .iload_n 2, 1, 0, 2, 0, 0, []),
  (3, .iconst 4, 1, 4, 0, 0, 0, []),
  (4, .if_icmp .ge 23, 3, 0, 27, 0, 0, []),
  (7, .aload_n 0, 1, 0, 0, 0, 0, []),
  (8, .getfield 152, 3, 0, 13, 64, 1, []),
  (11, .iconst 3, 1, 3, 0, 0, 0, []),
  (12, .iload_n 2, 1, 0, 2, 0, 0, []),
  (13, .isub, 1, 0, 0, 0, 0, []),
  (14, .iaload, 1, 0, 0, 0, 0, []),
  (15, .iload_n 1, 1, 0, 1, 0, 0, []),
  (16, .if_icmp .ne 5, 3, 0, 21, 0, 0, []),
  (19, .iload_n 2, 1, 0, 2, 0, 0, []),
  (20, .ireturn, 1, 0, 0, 0, 0, []),
  (21, .iinc 2 1, 3, 1, 2, 0, 0, []),
  (24, .goto (-22), 3, 0, 2, 0, 0, []),
  (27, .iconst 1, 1, 1, 0, 0, 0, []),
  (28, .istore_n 2, 1, 0, 2, 0, 0, []),
  (29, .iconst 4, 1, 4, 0, 0, 0, []),
  (30, .iload_n 2, 1, 0, 2, 0, 0, []),
  (31, .ishl, 1, 0, 0, 0, 0, []),
  (32, .iload_n 1, 1, 0, 1, 0, 0, []),
  (33, .iconst 3, 1, 3, 0, 0, 0, []),
  (34, .iadd, 1, 0, 0, 0, 0, []),
  (35, .if_icmp .gt 9, 3, 0, 44, 0, 0, []),
  (38, .iinc 2 1, 3, 1, 2, 0, 0, []),
  (41, .goto (-12), 3, 0, 29, 0, 0, []),
  (44, .bipush 16, 2, 16, 0, 0, 0, []),
  (46, .iconst 2, 1, 2, 0, 0, 0, []),
  (47, .iload_n 2, 1, 0, 2, 0, 0, []),
  (48, .iconst 1, 1, 1, 0, 0, 0, []),
  (49, .isub, 1, 0, 0, 0, 0, []),
  (50, .imul, 1, 0, 0, 0, 0, []),
  (51, .iadd, 1, 0, 0, 0, 0, []),
  (52, .iload_n 1, 1, 0, 1, 0, 0, []),
  (53, .iconst 3, 1, 3, 0, 0, 0, []),
  (54, .iadd, 1, 0, 0, 0, 0, []),
  (55, .iload_n 2, 1, 0, 2, 0, 0, []),
  (56, .ishr, 1, 0, 0, 0, 0, [])]
def am_c251_1 : List (Nat × am_Row) := [(57, .iconst 1, 1, 1, 0, 0, 0, []),
  (58, .iand, 1, 0, 0, 0, 0, []),
  (59, .iadd, 1, 0, 0, 0, 0, []),
  (60, .ireturn, 1, 0, 0, 0, 0, [])]
def am_c251 : List (Nat × am_Row) := am_c251_0 ++ (am_c251_1)
/-- BrotliWordsModel.addCommand(IIIZZ)V -/
def am_c252_0 : List (Nat × am_Row) := [(0, .iload 4, 2, 0, 4, 0, 0, []),
  (2, .ifCond .eq 7, 3, 0, 9, 0, 0, []),
  (5, .iconst (-1), 1, (-1), 0, 0, 0, []),
  (6, .goto 8, 3, 0, 14, 0, 0, []),
  (9, .aload_n 0, 1, 0, 0, 0, 0, []),
  (10, .iload_n 3, 1, 0, 3, 0, 0, []),
  (11, .invokevirtual 490, 3, 0, 251, 2, 13, []),
  (14, .istore 6, 2, 0, 6, 0, 0, []),
  (16, .iload_n 1, 1, 0, 1, 0, 0, []),
  (17, .iconst 1, 1, 1, 0, 0, 0, []),
  (18, .invokestatic 493, 3, 0, 249, 2, 999, []),
  (21, .istore 7, 2, 0, 7, 0, 0, []),
  (23, .iload_n 2, 1, 0, 2, 0, 0, []),
  (24, .iconst 0, 1, 0, 0, 0, 0, []),
  (25, .invokestatic 493, 3, 0, 249, 2, 999, []),
  (28, .istore 8, 2, 0, 8, 0, 0, []),
  (30, .iload 6, 2, 0, 6, 0, 0, []),
  (32, .ifCond .ne 25, 3, 0, 57, 0, 0, []),
  (35, .iload 7, 2, 0, 7, 0, 0, []),
  (37, .bipush 8, 2, 8, 0, 0, 0, []),
  (39, .if_icmp .ge 18, 3, 0, 57, 0, 0, []),
  (42, .iload 8, 2, 0, 8, 0, 0, []),
  (44, .bipush 16, 2, 16, 0, 0, 0, []),
  (46, .if_icmp .ge 11, 3, 0, 57, 0, 0, []),
  (49, .iload 8, 2, 0, 8, 0, 0, []),
  (51, .bipush 8, 2, 8, 0, 0, 0, []),
  (53, .idiv, 1, 0, 0, 0, 0, []),
  (54, .goto 16, 3, 0, 70, 0, 0, []),
  (57, .iload 7, 2, 0, 7, 0, 0, []),
  (59, .bipush 8, 2, 8, 0, 0, 0, []),
  (61, .idiv, 1, 0, 0, 0, 0, []),
  (62, .iload 8, 2, 0, 8, 0, 0, []),
  (64, .bipush 8, 2, 8, 0, 0, 0, []),
  (66, .idiv, 1, 0, 0, 0, 0, []),
  (67, .invokestatic 497, 3, 0, 250, 2, 999, []),
  (70, .istore 9, 2, 0, 9, 0, 0, []),
  (72, .aload_n 0, 1, 0, 0, 0, 0, []),
  (73, .getfield 143, 3, 0, 13, 60, 1, []),
  (76, .iconst 4, 1, 4, 0, 0, 0, []),
  (77, .aload_n 0, 1, 0, 0, 0, 0, [])]
def am_c252_1 : List (Nat × am_Row) := [(78, .getfield 444, 3, 0, 13, 63, 0, []),
  (81, .imul, 1, 0, 0, 0, 0, []),
  (82, .iload_n 1, 1, 0, 1, 0, 0, []),
  (83, .iastore, 1, 0, 0, 0, 0, []),
  (84, .aload_n 0, 1, 0, 0, 0, 0, []),
  (85, .getfield 143, 3, 0, 13, 60, 1, []),
  (88, .iconst 4, 1, 4, 0, 0, 0, []),
  (89, .aload_n 0, 1, 0, 0, 0, 0, []),
  (90, .getfield 444, 3, 0, 13, 63, 0, []),
  (93, .imul, 1, 0, 0, 0, 0, []),
  (94, .iconst 1, 1, 1, 0, 0, 0, []),
  (95, .iadd, 1, 0, 0, 0, 0, []),
  (96, .iload 4, 2, 0, 4, 0, 0, []),
  (98, .ifCond .eq 7, 3, 0, 105, 0, 0, []),
  (101, .iconst 0, 1, 0, 0, 0, 0, []),
  (102, .goto 4, 3, 0, 106, 0, 0, []),
  (105, .iload_n 2, 1, 0, 2, 0, 0, []),
  (106, .iastore, 1, 0, 0, 0, 0, []),
  (107, .aload_n 0, 1, 0, 0, 0, 0, []),
  (108, .getfield 143, 3, 0, 13, 60, 1, []),
  (111, .iconst 4, 1, 4, 0, 0, 0, []),
  (112, .aload_n 0, 1, 0, 0, 0, 0, []),
  (113, .getfield 444, 3, 0, 13, 63, 0, []),
  (116, .imul, 1, 0, 0, 0, 0, []),
  (117, .iconst 2, 1, 2, 0, 0, 0, []),
  (118, .iadd, 1, 0, 0, 0, 0, []),
  (119, .iload 4, 2, 0, 4, 0, 0, []),
  (121, .ifCond .eq 7, 3, 0, 128, 0, 0, []),
  (124, .iconst 0, 1, 0, 0, 0, 0, []),
  (125, .goto 4, 3, 0, 129, 0, 0, []),
  (128, .iload_n 3, 1, 0, 3, 0, 0, []),
  (129, .iastore, 1, 0, 0, 0, 0, []),
  (130, .aload_n 0, 1, 0, 0, 0, 0, []),
  (131, .getfield 143, 3, 0, 13, 60, 1, []),
  (134, .iconst 4, 1, 4, 0, 0, 0, []),
  (135, .aload_n 0, 1, 0, 0, 0, 0, []),
  (136, .getfield 444, 3, 0, 13, 63, 0, []),
  (139, .imul, 1, 0, 0, 0, 0, []),
  (140, .iconst 3, 1, 3, 0, 0, 0, []),
  (141, .iadd, 1, 0, 0, 0, 0, [])]
def am_c252_2 : List (Nat × am_Row) := [(142, .bipush 64, 2, 64, 0, 0, 0, []),
  (144, .iload 9, 2, 0, 9, 0, 0, []),
  (146, .imul, 1, 0, 0, 0, 0, []),
  (147, .bipush 8, 2, 8, 0, 0, 0, []),
  (149, .iload 7, 2, 0, 7, 0, 0, []),
  (151, .bipush 8, 2, 8, 0, 0, 0, []),
  (153, .irem, 1, 0, 0, 0, 0, []),
  (154, .imul, 1, 0, 0, 0, 0, []),
  (155, .iadd, 1, 0, 0, 0, 0, []),
  (156, .iload 8, 2, 0, 8, 0, 0, []),
  (158, .bipush 8, 2, 8, 0, 0, 0, []),
  (160, .irem, 1, 0, 0, 0, 0, []),
  (161, .iadd, 1, 0, 0, 0, 0, []),
  (162, .iastore, 1, 0, 0, 0, 0, []),
  (163, .aload_n 0, 1, 0, 0, 0, 0, []),
  (164, .getfield 146, 3, 0, 13, 61, 1, []),
  (167, .aload_n 0, 1, 0, 0, 0, 0, []),
  (168, .getfield 444, 3, 0, 13, 63, 0, []),
  (171, .iload 9, 2, 0, 9, 0, 0, []),
  (173, .iconst 2, 1, 2, 0, 0, 0, []),
  (174, .if_icmp .ge 7, 3, 0, 181, 0, 0, []),
  (177, .iconst (-1), 1, (-1), 0, 0, 0, []),
  (178, .goto 5, 3, 0, 183, 0, 0, []),
  (181, .iload 6, 2, 0, 6, 0, 0, []),
  (183, .iastore, 1, 0, 0, 0, 0, []),
  (184, .aload_n 0, 1, 0, 0, 0, 0, []),
  (185, .getfield 149, 3, 0, 13, 62, 1, []),
  (188, .aload_n 0, 1, 0, 0, 0, 0, []),
  (189, .getfield 444, 3, 0, 13, 63, 0, []),
  (192, .iload_n 2, 1, 0, 2, 0, 0, []),
  (193, .iastore, 1, 0, 0, 0, 0, []),
  (194, .aload_n 0, 1, 0, 0, 0, 0, []),
  (195, .dup, 1, 0, 0, 0, 0, []),
  (196, .getfield 444, 3, 0, 13, 63, 0, []),
  (199, .iconst 1, 1, 1, 0, 0, 0, []),
  (200, .iadd, 1, 0, 0, 0, 0, []),
  (201, .putfield 444, 3, 0, 13, 63, 0, []),
  (204, .iload 5, 2, 0, 5, 0, 0, []),
  (206, .ifCond .eq 46, 3, 0, 252, 0, 0, []),
  (209, .iload 6, 2, 0, 6, 0, 0, [])]
def am_c252_3 : List (Nat × am_Row) := [(211, .ifCond .eq 41, 3, 0, 252, 0, 0, []),
  (214, .iconst 0, 1, 0, 0, 0, 0, []),
  (215, .istore 10, 2, 0, 10, 0, 0, []),
  (217, .iload 10, 2, 0, 10, 0, 0, []),
  (219, .iconst 3, 1, 3, 0, 0, 0, []),
  (220, .if_icmp .ge 25, 3, 0, 245, 0, 0, []),
  (223, .aload_n 0, 1, 0, 0, 0, 0, []),
  (224, .getfield 152, 3, 0, 13, 64, 1, []),
  (227, .iload 10, 2, 0, 10, 0, 0, []),
  (229, .aload_n 0, 1, 0, 0, 0, 0, []),
  (230, .getfield 152, 3, 0, 13, 64, 1, []),
  (233, .iload 10, 2, 0, 10, 0, 0, []),
  (235, .iconst 1, 1, 1, 0, 0, 0, []),
  (236, .iadd, 1, 0, 0, 0, 0, []),
  (237, .iaload, 1, 0, 0, 0, 0, []),
  (238, .iastore, 1, 0, 0, 0, 0, []),
  (239, .iinc 10 1, 3, 1, 10, 0, 0, []),
  (242, .goto (-25), 3, 0, 217, 0, 0, []),
  (245, .aload_n 0, 1, 0, 0, 0, 0, []),
  (246, .getfield 152, 3, 0, 13, 64, 1, []),
  (249, .iconst 3, 1, 3, 0, 0, 0, []),
  (250, .iload_n 3, 1, 0, 3, 0, 0, []),
  (251, .iastore, 1, 0, 0, 0, 0, []),
  (252, .return_, 1, 0, 0, 0, 0, [])]
def am_c252 : List (Nat × am_Row) := am_c252_0 ++ (am_c252_1 ++ (am_c252_2 ++ (am_c252_3)))
/-- BrotliWordsModel.findCommands()V -/
def am_c253_0 : List (Nat × am_Row) := [(0, .aload_n 0, 1, 0, 0, 0, 0, []),
  (1, .iconst 0, 1, 0, 0, 0, 0, []),
  (2, .putfield 444, 3, 0, 13, 63, 0, []),
  (5, .aload_n 0, 1, 0, 0, 0, 0, []),
  (6, .getfield 152, 3, 0, 13, 64, 1, []),
  (9, .iconst 0, 1, 0, 0, 0, 0, []),
  (10, .bipush 16, 2, 16, 0, 0, 0, []),
  (12, .iastore, 1, 0, 0, 0, 0, []),
  (13, .aload_n 0, 1, 0, 0, 0, 0, []),
  (14, .getfield 152, 3, 0, 13, 64, 1, []),
  (17, .iconst 1, 1, 1, 0, 0, 0, []),
  (18, .bipush 15, 2, 15, 0, 0, 0, []),
  (20, .iastore, 1, 0, 0, 0, 0, []),
  (21, .aload_n 0, 1, 0, 0, 0, 0, []),
  (22, .getfield 152, 3, 0, 13, 64, 1, []),
  (25, .iconst 2, 1, 2, 0, 0, 0, []),
  (26, .bipush 11, 2, 11, 0, 0, 0, []),
  (28, .iastore, 1, 0, 0, 0, 0, []),
  (29, .aload_n 0, 1, 0, 0, 0, 0, []),
  (30, .getfield 152, 3, 0, 13, 64, 1, []),
  (33, .iconst 3, 1, 3, 0, 0, 0, []),
  (34, .iconst 4, 1, 4, 0, 0, 0, []),
  (35, .iastore, 1, 0, 0, 0, 0, []),
  (36, .iconst 0, 1, 0, 0, 0, 0, []),
  (37, .istore_n 1, 1, 0, 1, 0, 0, []),
  (38, .iconst 0, 1, 0, 0, 0, 0, []),
  (39, .istore_n 2, 1, 0, 2, 0, 0, []),
  (40, .iload_n 2, 1, 0, 2, 0, 0, []),
  (41, .aload_n 0, 1, 0, 0, 0, 0, []),
  (42, .getfield 480, 3, 0, 13, 59, 0, []),
  (45, .if_icmp .ge 129, 3, 0, 174, 0, 0, []),
  (48, .aload_n 0, 1, 0, 0, 0, 0, []),
  (49, .iload_n 2, 1, 0, 2, 0, 0, []),
  (50, .invokevirtual 500, 3, 0, 247, 2, 13, []),
  (53, .istore_n 3, 1, 0, 3, 0, 0, []),
  (54, .aload_n 0, 1, 0, 0, 0, 0, []),
  (55, .getfield 137, 3, 0, 13, 57, 1, []),
  (58, .iload_n 2, 1, 0, 2, 0, 0, []),
  (59, .iaload, 1, 0, 0, 0, 0, []),
  (60, .iconst 1, 1, 1, 0, 0, 0, [])]
def am_c253_1 : List (Nat × am_Row) := [(61, .if_icmp .ne 27, 3, 0, 88, 0, 0, []),
  (64, .aload_n 0, 1, 0, 0, 0, 0, []),
  (65, .iload_n 2, 1, 0, 2, 0, 0, []),
  (66, .iload_n 1, 1, 0, 1, 0, 0, []),
  (67, .isub, 1, 0, 0, 0, 0, []),
  (68, .aload_n 0, 1, 0, 0, 0, 0, []),
  (69, .getfield 119, 3, 0, 13, 51, 1, []),
  (72, .iload_n 2, 1, 0, 2, 0, 0, []),
  (73, .iaload, 1, 0, 0, 0, 0, []),
  (74, .aload_n 0, 1, 0, 0, 0, 0, []),
  (75, .getfield 122, 3, 0, 13, 52, 1, []),
  (78, .iload_n 2, 1, 0, 2, 0, 0, []),
  (79, .iaload, 1, 0, 0, 0, 0, []),
  (80, .iconst 0, 1, 0, 0, 0, 0, []),
  (81, .iconst 1, 1, 1, 0, 0, 0, []),
  (82, .invokevirtual 503, 3, 0, 252, 6, 13, []),
  (85, .goto 60, 3, 0, 145, 0, 0, []),
  (88, .aload_n 0, 1, 0, 0, 0, 0, []),
  (89, .getfield 137, 3, 0, 13, 57, 1, []),
  (92, .iload_n 2, 1, 0, 2, 0, 0, []),
  (93, .iaload, 1, 0, 0, 0, 0, []),
  (94, .iconst 2, 1, 2, 0, 0, 0, []),
  (95, .if_icmp .ne 50, 3, 0, 145, 0, 0, []),
  (98, .aload_n 0, 1, 0, 0, 0, 0, []),
  (99, .getfield 134, 3, 0, 13, 56, 1, []),
  (102, .iload_n 2, 1, 0, 2, 0, 0, []),
  (103, .iaload, 1, 0, 0, 0, 0, []),
  (104, .aload_n 0, 1, 0, 0, 0, 0, []),
  (105, .aload_n 0, 1, 0, 0, 0, 0, []),
  (106, .getfield 128, 3, 0, 13, 54, 1, []),
  (109, .iload_n 2, 1, 0, 2, 0, 0, []),
  (110, .iaload, 1, 0, 0, 0, 0, []),
  (111, .invokevirtual 406, 3, 0, 166, 2, 13, []),
  (114, .ishl, 1, 0, 0, 0, 0, []),
  (115, .aload_n 0, 1, 0, 0, 0, 0, []),
  (116, .getfield 131, 3, 0, 13, 55, 1, []),
  (119, .iload_n 2, 1, 0, 2, 0, 0, []),
  (120, .iaload, 1, 0, 0, 0, 0, []),
  (121, .iadd, 1, 0, 0, 0, 0, []),
  (122, .istore 4, 2, 0, 4, 0, 0, [])]
def am_c253_2 : List (Nat × am_Row) := [(124, .aload_n 0, 1, 0, 0, 0, 0, []),
  (125, .iload_n 2, 1, 0, 2, 0, 0, []),
  (126, .iload_n 1, 1, 0, 1, 0, 0, []),
  (127, .isub, 1, 0, 0, 0, 0, []),
  (128, .aload_n 0, 1, 0, 0, 0, 0, []),
  (129, .getfield 128, 3, 0, 13, 54, 1, []),
  (132, .iload_n 2, 1, 0, 2, 0, 0, []),
  (133, .iaload, 1, 0, 0, 0, 0, []),
  (134, .iload_n 2, 1, 0, 2, 0, 0, []),
  (135, .iconst 1, 1, 1, 0, 0, 0, []),
  (136, .iadd, 1, 0, 0, 0, 0, []),
  (137, .iload 4, 2, 0, 4, 0, 0, []),
  (139, .iadd, 1, 0, 0, 0, 0, []),
  (140, .iconst 0, 1, 0, 0, 0, 0, []),
  (141, .iconst 0, 1, 0, 0, 0, 0, []),
  (142, .invokevirtual 503, 3, 0, 252, 6, 13, []),
  (145, .iload_n 2, 1, 0, 2, 0, 0, []),
  (146, .iload_n 3, 1, 0, 3, 0, 0, []),
  (147, .iadd, 1, 0, 0, 0, 0, []),
  (148, .istore_n 2, 1, 0, 2, 0, 0, []),
  (149, .iload_n 3, 1, 0, 3, 0, 0, []),
  (150, .iconst 1, 1, 1, 0, 0, 0, []),
  (151, .if_icmp .ne 18, 3, 0, 169, 0, 0, []),
  (154, .aload_n 0, 1, 0, 0, 0, 0, []),
  (155, .getfield 137, 3, 0, 13, 57, 1, []),
  (158, .iload_n 2, 1, 0, 2, 0, 0, []),
  (159, .iconst 1, 1, 1, 0, 0, 0, []),
  (160, .isub, 1, 0, 0, 0, 0, []),
  (161, .iaload, 1, 0, 0, 0, 0, []),
  (162, .ifCond .ne 7, 3, 0, 169, 0, 0, []),
  (165, .iload_n 1, 1, 0, 1, 0, 0, []),
  (166, .goto 4, 3, 0, 170, 0, 0, []),
  (169, .iload_n 2, 1, 0, 2, 0, 0, []),
  (170, .istore_n 1, 1, 0, 1, 0, 0, []),
  (171, .goto (-131), 3, 0, 40, 0, 0, []),
  (174, .iload_n 1, 1, 0, 1, 0, 0, []),
  (175, .aload_n 0, 1, 0, 0, 0, 0, []),
  (176, .getfield 480, 3, 0, 13, 59, 0, []),
  (179, .if_icmp .ge 17, 3, 0, 196, 0, 0, []),
  (182, .aload_n 0, 1, 0, 0, 0, 0, [])]
def am_c253_3 : List (Nat × am_Row) := [(183, .aload_n 0, 1, 0, 0, 0, 0, []),
  (184, .getfield 480, 3, 0, 13, 59, 0, []),
  (187, .iload_n 1, 1, 0, 1, 0, 0, []),
  (188, .isub, 1, 0, 0, 0, 0, []),
  (189, .iconst 2, 1, 2, 0, 0, 0, []),
  (190, .iconst 0, 1, 0, 0, 0, 0, []),
  (191, .iconst 1, 1, 1, 0, 0, 0, []),
  (192, .iconst 0, 1, 0, 0, 0, 0, []),
  (193, .invokevirtual 503, 3, 0, 252, 6, 13, []),
  (196, .return_, 1, 0, 0, 0, 0, [])]
def am_c253 : List (Nat × am_Row) := am_c253_0 ++ (am_c253_1 ++ (am_c253_2 ++ (am_c253_3)))
/-- BrotliWordsModel.countSigns()V -/
def am_c254 : List (Nat × am_Row) := [(0, .iconst 0, 1, 0, 0, 0, 0, []),
  (1, .istore_n 1, 1, 0, 1, 0, 0, []),
  (2, .iload_n 1, 1, 0, 1, 0, 0, []),
  (3, .sipush 1024, 3, 1024, 0, 0, 0, []),
  (6, .if_icmp .ge 16, 3, 0, 22, 0, 0, []),
  (9, .aload_n 0, 1, 0, 0, 0, 0, []),
  (10, .getfield 110, 3, 0, 13, 47, 1, []),
  (13, .iload_n 1, 1, 0, 1, 0, 0, []),
  (14, .iconst 0, 1, 0, 0, 0, 0, []),
  (15, .iastore, 1, 0, 0, 0, 0, []),
  (16, .iinc 1 1, 3, 1, 1, 0, 0, []),
  (19, .goto (-17), 3, 0, 2, 0, 0, []),
  (22, .return_, 1, 0, 0, 0, 0, [])]
/-- BrotliWordsModel.writeCodes()V -/
def am_c255_0 : List (Nat × am_Row) := [(0, .aload_n 0, 1, 0, 0, 0, 0, []),
  (1, .invokevirtual 507, 3, 0, 254, 1, 13, []),
  (4, .iconst 0, 1, 0, 0, 0, 0, []),
  (5, .istore_n 1, 1, 0, 1, 0, 0, []),
  (6, .iload_n 1, 1, 0, 1, 0, 0, []),
  (7, .aload_n 0, 1, 0, 0, 0, 0, []),
  (8, .getfield 480, 3, 0, 13, 59, 0, []),
  (11, .if_icmp .ge 42, 3, 0, 53, 0, 0, []),
  (14, .aload_n 0, 1, 0, 0, 0, 0, []),
  (15, .getfield 137, 3, 0, 13, 57, 1, []),
  (18, .iload_n 1, 1, 0, 1, 0, 0, []),
  (19, .iaload, 1, 0, 0, 0, 0, []),
  (20, .ifCond .ne 22, 3, 0, 42, 0, 0, []),
  (23, .aload_n 0, 1, 0, 0, 0, 0, []),
  (24, .getfield 110, 3, 0, 13, 47, 1, []),
  (27, .aload_n 0, 1, 0, 0, 0, 0, []),
  (28, .getfield 52, 3, 0, 13, 14, 1, []),
  (31, .iload_n 1, 1, 0, 1, 0, 0, []),
  (32, .baload, 1, 0, 0, 0, 0, []),
  (33, .sipush 255, 3, 255, 0, 0, 0, []),
  (36, .iand, 1, 0, 0, 0, 0, []),
  (37, .dup2, 1, 0, 0, 0, 0, []),
  (38, .iaload, 1, 0, 0, 0, 0, []),
  (39, .iconst 1, 1, 1, 0, 0, 0, []),
  (40, .iadd, 1, 0, 0, 0, 0, []),
  (41, .iastore, 1, 0, 0, 0, 0, []),
  (42, .iload_n 1, 1, 0, 1, 0, 0, []),
  (43, .aload_n 0, 1, 0, 0, 0, 0, []),
  (44, .iload_n 1, 1, 0, 1, 0, 0, []),
  (45, .invokevirtual 500, 3, 0, 247, 2, 13, []),
  (48, .iadd, 1, 0, 0, 0, 0, []),
  (49, .istore_n 1, 1, 0, 1, 0, 0, []),
  (50, .goto (-44), 3, 0, 6, 0, 0, []),
  (53, .aload_n 0, 1, 0, 0, 0, 0, []),
  (54, .bipush 120, 2, 120, 0, 0, 0, []),
  (56, .sipush 256, 3, 256, 0, 0, 0, []),
  (59, .invokevirtual 510, 3, 0, 244, 3, 13, []),
  (62, .aload_n 0, 1, 0, 0, 0, 0, []),
  (63, .invokevirtual 507, 3, 0, 254, 1, 13, []),
  (66, .iconst 0, 1, 0, 0, 0, 0, [])]
def am_c255_1 : List (Nat × am_Row) := [(67, .istore_n 1, 1, 0, 1, 0, 0, []),
  (68, .iload_n 1, 1, 0, 1, 0, 0, []),
  (69, .aload_n 0, 1, 0, 0, 0, 0, []),
  (70, .getfield 444, 3, 0, 13, 63, 0, []),
  (73, .if_icmp .ge 28, 3, 0, 101, 0, 0, []),
  (76, .aload_n 0, 1, 0, 0, 0, 0, []),
  (77, .getfield 110, 3, 0, 13, 47, 1, []),
  (80, .aload_n 0, 1, 0, 0, 0, 0, []),
  (81, .getfield 143, 3, 0, 13, 60, 1, []),
  (84, .iconst 4, 1, 4, 0, 0, 0, []),
  (85, .iload_n 1, 1, 0, 1, 0, 0, []),
  (86, .imul, 1, 0, 0, 0, 0, []),
  (87, .iconst 3, 1, 3, 0, 0, 0, []),
  (88, .iadd, 1, 0, 0, 0, 0, []),
  (89, .iaload, 1, 0, 0, 0, 0, []),
  (90, .dup2, 1, 0, 0, 0, 0, []),
  (91, .iaload, 1, 0, 0, 0, 0, []),
  (92, .iconst 1, 1, 1, 0, 0, 0, []),
  (93, .iadd, 1, 0, 0, 0, 0, []),
  (94, .iastore, 1, 0, 0, 0, 0, []),
  (95, .iinc 1 1, 3, 1, 1, 0, 0, []),
  (98, .goto (-30), 3, 0, 68, 0, 0, []),
  (101, .aload_n 0, 1, 0, 0, 0, 0, []),
  (102, .sipush 3192, 3, 3192, 0, 0, 0, []),
  (105, .sipush 704, 3, 704, 0, 0, 0, []),
  (108, .invokevirtual 510, 3, 0, 244, 3, 13, []),
  (111, .aload_n 0, 1, 0, 0, 0, 0, []),
  (112, .invokevirtual 507, 3, 0, 254, 1, 13, []),
  (115, .iconst 0, 1, 0, 0, 0, 0, []),
  (116, .istore_n 1, 1, 0, 1, 0, 0, []),
  (117, .iload_n 1, 1, 0, 1, 0, 0, []),
  (118, .aload_n 0, 1, 0, 0, 0, 0, []),
  (119, .getfield 444, 3, 0, 13, 63, 0, []),
  (122, .if_icmp .ge 33, 3, 0, 155, 0, 0, []),
  (125, .aload_n 0, 1, 0, 0, 0, 0, []),
  (126, .getfield 146, 3, 0, 13, 61, 1, []),
  (129, .iload_n 1, 1, 0, 1, 0, 0, []),
  (130, .iaload, 1, 0, 0, 0, 0, []),
  (131, .ifCond .lt 18, 3, 0, 149, 0, 0, []),
  (134, .aload_n 0, 1, 0, 0, 0, 0, [])]
def am_c255_2 : List (Nat × am_Row) := [(135, .getfield 110, 3, 0, 13, 47, 1, []),
  (138, .aload_n 0, 1, 0, 0, 0, 0, []),
  (139, .getfield 146, 3, 0, 13, 61, 1, []),
  (142, .iload_n 1, 1, 0, 1, 0, 0, []),
  (143, .iaload, 1, 0, 0, 0, 0, []),
  (144, .dup2, 1, 0, 0, 0, 0, []),
  (145, .iaload, 1, 0, 0, 0, 0, []),
  (146, .iconst 1, 1, 1, 0, 0, 0, []),
  (147, .iadd, 1, 0, 0, 0, 0, []),
  (148, .iastore, 1, 0, 0, 0, 0, []),
  (149, .iinc 1 1, 3, 1, 1, 0, 0, []),
  (152, .goto (-35), 3, 0, 117, 0, 0, []),
  (155, .aload_n 0, 1, 0, 0, 0, 0, []),
  (156, .sipush 11640, 3, 11640, 0, 0, 0, []),
  (159, .bipush 64, 2, 64, 0, 0, 0, []),
  (161, .invokevirtual 510, 3, 0, 244, 3, 13, []),
  (164, .return_, 1, 0, 0, 0, 0, [])]
def am_c255 : List (Nat × am_Row) := am_c255_0 ++ (am_c255_1 ++ (am_c255_2))
/-- BrotliWordsModel.writeCommands()V -/
def am_c256_0 : List (Nat × am_Row) := [(0, .iconst 0, 1, 0, 0, 0, 0, []),
  (1, .istore_n 1, 1, 0, 1, 0, 0, []),
  (2, .iconst 0, 1, 0, 0, 0, 0, []),
  (3, .istore_n 2, 1, 0, 2, 0, 0, []),
  (4, .iload_n 2, 1, 0, 2, 0, 0, []),
  (5, .aload_n 0, 1, 0, 0, 0, 0, []),
  (6, .getfield 444, 3, 0, 13, 63, 0, []),
  (9, .if_icmp .ge 210, 3, 0, 219, 0, 0, []),
  (12, .aload_n 0, 1, 0, 0, 0, 0, []),
  (13, .getfield 143, 3, 0, 13, 60, 1, []),
  (16, .iconst 4, 1, 4, 0, 0, 0, []),
  (17, .iload_n 2, 1, 0, 2, 0, 0, []),
  (18, .imul, 1, 0, 0, 0, 0, []),
  (19, .iaload, 1, 0, 0, 0, 0, []),
  (20, .istore_n 3, 1, 0, 3, 0, 0, []),
  (21, .iload_n 3, 1, 0, 3, 0, 0, []),
  (22, .iconst 1, 1, 1, 0, 0, 0, []),
  (23, .invokestatic 493, 3, 0, 249, 2, 999, []),
  (26, .istore 4, 2, 0, 4, 0, 0, []),
  (28, .aload_n 0, 1, 0, 0, 0, 0, []),
  (29, .getfield 149, 3, 0, 13, 62, 1, []),
  (32, .iload_n 2, 1, 0, 2, 0, 0, []),
  (33, .iaload, 1, 0, 0, 0, 0, []),
  (34, .iconst 0, 1, 0, 0, 0, 0, []),
  (35, .invokestatic 493, 3, 0, 249, 2, 999, []),
  (38, .istore 5, 2, 0, 5, 0, 0, []),
  (40, .aload_n 0, 1, 0, 0, 0, 0, []),
  (41, .sipush 3192, 3, 3192, 0, 0, 0, []),
  (44, .aload_n 0, 1, 0, 0, 0, 0, []),
  (45, .getfield 143, 3, 0, 13, 60, 1, []),
  (48, .iconst 4, 1, 4, 0, 0, 0, []),
  (49, .iload_n 2, 1, 0, 2, 0, 0, []),
  (50, .imul, 1, 0, 0, 0, 0, []),
  (51, .iconst 3, 1, 3, 0, 0, 0, []),
  (52, .iadd, 1, 0, 0, 0, 0, []),
  (53, .iaload, 1, 0, 0, 0, 0, []),
  (54, .invokevirtual 477, 3, 0, 236, 3, 13, []),
  (57, .aload_n 0, 1, 0, 0, 0, 0, []),
  (58, .iload_n 3, 1, 0, 3, 0, 0, []),
  (59, .iload 4, 2, 0, 4, 0, 0, [])]
def am_c256_1 : List (Nat × am_Row) := [(61, .invokestatic 378, 3, 0, 202, 1, 999, []),
  (64, .isub, 1, 0, 0, 0, 0, []),
  (65, .iload 4, 2, 0, 4, 0, 0, []),
  (67, .invokestatic 315, 3, 0, 200, 1, 999, []),
  (70, .invokevirtual 450, 3, 0, 234, 3, 13, []),
  (73, .aload_n 0, 1, 0, 0, 0, 0, []),
  (74, .aload_n 0, 1, 0, 0, 0, 0, []),
  (75, .getfield 149, 3, 0, 13, 62, 1, []),
  (78, .iload_n 2, 1, 0, 2, 0, 0, []),
  (79, .iaload, 1, 0, 0, 0, 0, []),
  (80, .iload 5, 2, 0, 5, 0, 0, []),
  (82, .invokestatic 381, 3, 0, 203, 1, 999, []),
  (85, .isub, 1, 0, 0, 0, 0, []),
  (86, .iload 5, 2, 0, 5, 0, 0, []),
  (88, .invokestatic 318, 3, 0, 201, 1, 999, []),
  (91, .invokevirtual 450, 3, 0, 234, 3, 13, []),
  (94, .iconst 0, 1, 0, 0, 0, 0, []),
  (95, .istore 6, 2, 0, 6, 0, 0, []),
  (97, .iload 6, 2, 0, 6, 0, 0, []),
  (99, .iload_n 3, 1, 0, 3, 0, 0, []),
  (100, .if_icmp .ge 28, 3, 0, 128, 0, 0, []),
  (103, .aload_n 0, 1, 0, 0, 0, 0, []),
  (104, .bipush 120, 2, 120, 0, 0, 0, []),
  (106, .aload_n 0, 1, 0, 0, 0, 0, []),
  (107, .getfield 52, 3, 0, 13, 14, 1, []),
  (110, .iload_n 1, 1, 0, 1, 0, 0, []),
  (111, .baload, 1, 0, 0, 0, 0, []),
  (112, .sipush 255, 3, 255, 0, 0, 0, []),
  (115, .iand, 1, 0, 0, 0, 0, []),
  (116, .invokevirtual 477, 3, 0, 236, 3, 13, []),
  (119, .iinc 1 1, 3, 1, 1, 0, 0, []),
  (122, .iinc 6 1, 3, 1, 6, 0, 0, []),
  (125, .goto (-28), 3, 0, 97, 0, 0, []),
  (128, .aload_n 0, 1, 0, 0, 0, 0, []),
  (129, .getfield 146, 3, 0, 13, 61, 1, []),
  (132, .iload_n 2, 1, 0, 2, 0, 0, []),
  (133, .iaload, 1, 0, 0, 0, 0, []),
  (134, .istore 6, 2, 0, 6, 0, 0, []),
  (136, .iload 6, 2, 0, 6, 0, 0, []),
  (138, .ifCond .lt 55, 3, 0, 193, 0, 0, [])]
def am_c256_2 : List (Nat × am_Row) := [(141, .aload_n 0, 1, 0, 0, 0, 0, []),
  (142, .sipush 11640, 3, 11640, 0, 0, 0, []),
  (145, .iload 6, 2, 0, 6, 0, 0, []),
  (147, .invokevirtual 477, 3, 0, 236, 3, 13, []),
  (150, .iload 6, 2, 0, 6, 0, 0, []),
  (152, .bipush 15, 2, 15, 0, 0, 0, []),
  (154, .if_icmp .le 39, 3, 0, 193, 0, 0, []),
  (157, .iconst 1, 1, 1, 0, 0, 0, []),
  (158, .iload 6, 2, 0, 6, 0, 0, []),
  (160, .bipush 16, 2, 16, 0, 0, 0, []),
  (162, .isub, 1, 0, 0, 0, 0, []),
  (163, .iconst 2, 1, 2, 0, 0, 0, []),
  (164, .idiv, 1, 0, 0, 0, 0, []),
  (165, .iadd, 1, 0, 0, 0, 0, []),
  (166, .istore 7, 2, 0, 7, 0, 0, []),
  (168, .aload_n 0, 1, 0, 0, 0, 0, []),
  (169, .aload_n 0, 1, 0, 0, 0, 0, []),
  (170, .getfield 143, 3, 0, 13, 60, 1, []),
  (173, .iconst 4, 1, 4, 0, 0, 0, []),
  (174, .iload_n 2, 1, 0, 2, 0, 0, []),
  (175, .imul, 1, 0, 0, 0, 0, []),
  (176, .iconst 2, 1, 2, 0, 0, 0, []),
  (177, .iadd, 1, 0, 0, 0, 0, []),
  (178, .iaload, 1, 0, 0, 0, 0, []),
  (179, .iconst 3, 1, 3, 0, 0, 0, []),
  (180, .iadd, 1, 0, 0, 0, 0, []),
  (181, .iconst 1, 1, 1, 0, 0, 0, []),
  (182, .iload 7, 2, 0, 7, 0, 0, []),
  (184, .ishl, 1, 0, 0, 0, 0, []),
  (185, .iconst 1, 1, 1, 0, 0, 0, []),
  (186, .isub, 1, 0, 0, 0, 0, []),
  (187, .iand, 1, 0, 0, 0, 0, []),
  (188, .iload 7, 2, 0, 7, 0, 0, []),
  (190, .invokevirtual 450, 3, 0, 234, 3, 13, []),
  (193, .iload_n 1, 1, 0, 1, 0, 0, []),
  (194, .aload_n 0, 1, 0, 0, 0, 0, []),
  (195, .getfield 480, 3, 0, 13, 59, 0, []),
  (198, .if_icmp .ge 13, 3, 0, 211, 0, 0, []),
  (201, .iload_n 1, 1, 0, 1, 0, 0, []),
  (202, .aload_n 0, 1, 0, 0, 0, 0, [])]
def am_c256_3 : List (Nat × am_Row) := [(203, .iload_n 1, 1, 0, 1, 0, 0, []),
  (204, .invokevirtual 500, 3, 0, 247, 2, 13, []),
  (207, .iadd, 1, 0, 0, 0, 0, []),
  (208, .goto 4, 3, 0, 212, 0, 0, []),
  (211, .iload_n 1, 1, 0, 1, 0, 0, []),
  (212, .istore_n 1, 1, 0, 1, 0, 0, []),
  (213, .iinc 2 1, 3, 1, 2, 0, 0, []),
  (216, .goto (-212), 3, 0, 4, 0, 0, []),
  (219, .return_, 1, 0, 0, 0, 0, [])]
def am_c256 : List (Nat × am_Row) := am_c256_0 ++ (am_c256_1 ++ (am_c256_2 ++ (am_c256_3)))
/-- BrotliWordsModel.packRaw()V -/
def am_c257_0 : List (Nat × am_Row) := [(0, .aload_n 0, 1, 0, 0, 0, 0, []),
  (1, .getfield 480, 3, 0, 13, 59, 0, []),
  (4, .ifCond .le 69, 3, 0, 73, 0, 0, []),
  (7, .aload_n 0, 1, 0, 0, 0, 0, []),
  (8, .iconst 0, 1, 0, 0, 0, 0, []),
  (9, .iconst 1, 1, 1, 0, 0, 0, []),
  (10, .invokevirtual 450, 3, 0, 234, 3, 13, []),
  (13, .aload_n 0, 1, 0, 0, 0, 0, []),
  (14, .iconst 0, 1, 0, 0, 0, 0, []),
  (15, .iconst 2, 1, 2, 0, 0, 0, []),
  (16, .invokevirtual 450, 3, 0, 234, 3, 13, []),
  (19, .aload_n 0, 1, 0, 0, 0, 0, []),
  (20, .aload_n 0, 1, 0, 0, 0, 0, []),
  (21, .getfield 480, 3, 0, 13, 59, 0, []),
  (24, .iconst 1, 1, 1, 0, 0, 0, []),
  (25, .isub, 1, 0, 0, 0, 0, []),
  (26, .bipush 16, 2, 16, 0, 0, 0, []),
  (28, .invokevirtual 450, 3, 0, 234, 3, 13, []),
  (31, .aload_n 0, 1, 0, 0, 0, 0, []),
  (32, .iconst 1, 1, 1, 0, 0, 0, []),
  (33, .iconst 1, 1, 1, 0, 0, 0, []),
  (34, .invokevirtual 450, 3, 0, 234, 3, 13, []),
  (37, .aload_n 0, 1, 0, 0, 0, 0, []),
  (38, .invokevirtual 513, 3, 0, 235, 1, 13, []),
  (41, .iconst 0, 1, 0, 0, 0, 0, []),
  (42, .istore_n 1, 1, 0, 1, 0, 0, []),
  (43, .iload_n 1, 1, 0, 1, 0, 0, []),
  (44, .aload_n 0, 1, 0, 0, 0, 0, []),
  (45, .getfield 480, 3, 0, 13, 59, 0, []),
  (48, .if_icmp .ge 25, 3, 0, 73, 0, 0, []),
  (51, .aload_n 0, 1, 0, 0, 0, 0, []),
  (52, .aload_n 0, 1, 0, 0, 0, 0, []),
  (53, .getfield 52, 3, 0, 13, 14, 1, []),
  (56, .iload_n 1, 1, 0, 1, 0, 0, []),
  (57, .baload, 1, 0, 0, 0, 0, []),
  (58, .sipush 255, 3, 255, 0, 0, 0, []),
  (61, .iand, 1, 0, 0, 0, 0, []),
  (62, .bipush 8, 2, 8, 0, 0, 0, []),
  (64, .invokevirtual 450, 3, 0, 234, 3, 13, []),
  (67, .iinc 1 1, 3, 1, 1, 0, 0, [])]
def am_c257_1 : List (Nat × am_Row) := [(70, .goto (-27), 3, 0, 43, 0, 0, []),
  (73, .aload_n 0, 1, 0, 0, 0, 0, []),
  (74, .iconst 3, 1, 3, 0, 0, 0, []),
  (75, .iconst 2, 1, 2, 0, 0, 0, []),
  (76, .invokevirtual 450, 3, 0, 234, 3, 13, []),
  (79, .return_, 1, 0, 0, 0, 0, [])]
def am_c257 : List (Nat × am_Row) := am_c257_0 ++ (am_c257_1)
/-- BrotliWordsModel.packCoded(I)V -/
def am_c258_0 : List (Nat × am_Row) := [(0, .aload_n 0, 1, 0, 0, 0, 0, []),
  (1, .getfield 480, 3, 0, 13, 59, 0, []),
  (4, .ifCond .ne 10, 3, 0, 14, 0, 0, []),
  (7, .aload_n 0, 1, 0, 0, 0, 0, []),
  (8, .iconst 3, 1, 3, 0, 0, 0, []),
  (9, .iconst 2, 1, 2, 0, 0, 0, []),
  (10, .invokevirtual 450, 3, 0, 234, 3, 13, []),
  (13, .return_, 1, 0, 0, 0, 0, []),
  (14, .aload_n 0, 1, 0, 0, 0, 0, []),
  (15, .iload_n 1, 1, 0, 1, 0, 0, []),
  (16, .invokevirtual 516, 3, 0, 248, 2, 13, []),
  (19, .aload_n 0, 1, 0, 0, 0, 0, []),
  (20, .invokevirtual 519, 3, 0, 253, 1, 13, []),
  (23, .aload_n 0, 1, 0, 0, 0, 0, []),
  (24, .iconst 1, 1, 1, 0, 0, 0, []),
  (25, .iconst 1, 1, 1, 0, 0, 0, []),
  (26, .invokevirtual 450, 3, 0, 234, 3, 13, []),
  (29, .aload_n 0, 1, 0, 0, 0, 0, []),
  (30, .iconst 0, 1, 0, 0, 0, 0, []),
  (31, .iconst 1, 1, 1, 0, 0, 0, []),
  (32, .invokevirtual 450, 3, 0, 234, 3, 13, []),
  (35, .aload_n 0, 1, 0, 0, 0, 0, []),
  (36, .iconst 0, 1, 0, 0, 0, 0, []),
  (37, .iconst 2, 1, 2, 0, 0, 0, []),
  (38, .invokevirtual 450, 3, 0, 234, 3, 13, []),
  (41, .aload_n 0, 1, 0, 0, 0, 0, []),
  (42, .aload_n 0, 1, 0, 0, 0, 0, []),
  (43, .getfield 480, 3, 0, 13, 59, 0, []),
  (46, .iconst 1, 1, 1, 0, 0, 0, []),
  (47, .isub, 1, 0, 0, 0, 0, []),
  (48, .bipush 16, 2, 16, 0, 0, 0, []),
  (50, .invokevirtual 450, 3, 0, 234, 3, 13, []),
  (53, .aload_n 0, 1, 0, 0, 0, 0, []),
  (54, .iconst 0, 1, 0, 0, 0, 0, []),
  (55, .iconst 3, 1, 3, 0, 0, 0, []),
  (56, .invokevirtual 450, 3, 0, 234, 3, 13, []),
  (59, .aload_n 0, 1, 0, 0, 0, 0, []),
  (60, .iconst 0, 1, 0, 0, 0, 0, []),
  (61, .iconst 2, 1, 2, 0, 0, 0, []),
  (62, .invokevirtual 450, 3, 0, 234, 3, 13, [])]
def am_c258_1 : List (Nat × am_Row) := [(65, .aload_n 0, 1, 0, 0, 0, 0, []),
  (66, .iconst 0, 1, 0, 0, 0, 0, []),
  (67, .iconst 4, 1, 4, 0, 0, 0, []),
  (68, .invokevirtual 450, 3, 0, 234, 3, 13, []),
  (71, .aload_n 0, 1, 0, 0, 0, 0, []),
  (72, .iconst 0, 1, 0, 0, 0, 0, []),
  (73, .iconst 2, 1, 2, 0, 0, 0, []),
  (74, .invokevirtual 450, 3, 0, 234, 3, 13, []),
  (77, .aload_n 0, 1, 0, 0, 0, 0, []),
  (78, .iconst 0, 1, 0, 0, 0, 0, []),
  (79, .iconst 2, 1, 2, 0, 0, 0, []),
  (80, .invokevirtual 450, 3, 0, 234, 3, 13, []),
  (83, .aload_n 0, 1, 0, 0, 0, 0, []),
  (84, .invokevirtual 522, 3, 0, 255, 1, 13, []),
  (87, .aload_n 0, 1, 0, 0, 0, 0, []),
  (88, .invokevirtual 525, 3, 0, 256, 1, 13, []),
  (91, .return_, 1, 0, 0, 0, 0, [])]
def am_c258 : List (Nat × am_Row) := am_c258_0 ++ (am_c258_1)
/-- BrotliWordsModel.pack(I)I -/
def am_c259_0 : List (Nat × am_Row) := [(0, .aload_n 0, 1, 0, 0, 0, 0, []),
  (1, .iconst 0, 1, 0, 0, 0, 0, []),
  (2, .putfield 1, 3, 0, 13, 0, 0, []),
  (5, .iload_n 1, 1, 0, 1, 0, 0, []),
  (6, .i2l, 1, 0, 0, 0, 0, []),
  (7, .lconst 0, 1, 0, 0, 0, 0, []),
  (8, .ldc2_w 442, 3, 2, 0, 0, 0, []),
  (11, .invokestatic 163, 3, 0, 901, 3, 0, []),
  (14, .ifCond .eq 13, 3, 0, 27, 0, 0, []),
  (17, .aload_n 0, 1, 0, 0, 0, 0, []),
  (18, .getfield 158, 3, 0, 13, 3, 0, []),
  (21, .sipush 2000, 3, 2000, 0, 0, 0, []),
  (24, .if_icmp .le 5, 3, 0, 29, 0, 0, []),
  (27, .iconst (-1), 1, (-1), 0, 0, 0, []),
  (28, .ireturn, 1, 0, 0, 0, 0, []),
  (29, .iconst 0, 1, 0, 0, 0, 0, []),
  (30, .istore_n 2, 1, 0, 2, 0, 0, []),
  (31, .iload_n 2, 1, 0, 2, 0, 0, []),
  (32, .aload_n 0, 1, 0, 0, 0, 0, []),
  (33, .getfield 158, 3, 0, 13, 3, 0, []),
  (36, .if_icmp .ge 21, 3, 0, 57, 0, 0, []),
  (39, .aload_n 0, 1, 0, 0, 0, 0, []),
  (40, .getfield 52, 3, 0, 13, 14, 1, []),
  (43, .iload_n 2, 1, 0, 2, 0, 0, []),
  (44, .aload_n 0, 1, 0, 0, 0, 0, []),
  (45, .getfield 23, 3, 0, 13, 2, 1, []),
  (48, .iload_n 2, 1, 0, 2, 0, 0, []),
  (49, .baload, 1, 0, 0, 0, 0, []),
  (50, .bastore, 1, 0, 0, 0, 0, []),
  (51, .iinc 2 1, 3, 1, 2, 0, 0, []),
  (54, .goto (-23), 3, 0, 31, 0, 0, []),
  (57, .aload_n 0, 1, 0, 0, 0, 0, []),
  (58, .aload_n 0, 1, 0, 0, 0, 0, []),
  (59, .getfield 158, 3, 0, 13, 3, 0, []),
  (62, .putfield 480, 3, 0, 13, 59, 0, []),
  (65, .aload_n 0, 1, 0, 0, 0, 0, []),
  (66, .invokevirtual 170, 3, 0, 158, 1, 13, []),
  (69, .aload_n 0, 1, 0, 0, 0, 0, []),
  (70, .iconst 0, 1, 0, 0, 0, 0, []),
  (71, .putfield 345, 3, 0, 13, 6, 0, [])]
def am_c259_1 : List (Nat × am_Row) := [(74, .aload_n 0, 1, 0, 0, 0, 0, []),
  (75, .iconst 0, 1, 0, 0, 0, 0, []),
  (76, .putfield 447, 3, 0, 13, 43, 0, []),
  (79, .aload_n 0, 1, 0, 0, 0, 0, []),
  (80, .iconst 0, 1, 0, 0, 0, 0, []),
  (81, .putfield 444, 3, 0, 13, 63, 0, []),
  (84, .aload_n 0, 1, 0, 0, 0, 0, []),
  (85, .aload_n 0, 1, 0, 0, 0, 0, []),
  (86, .invokevirtual 186, 3, 0, 164, 1, 13, []),
  (89, .bipush 16, 2, 16, 0, 0, 0, []),
  (91, .invokevirtual 450, 3, 0, 234, 3, 13, []),
  (94, .aload_n 0, 1, 0, 0, 0, 0, []),
  (95, .iconst 0, 1, 0, 0, 0, 0, []),
  (96, .iconst 1, 1, 1, 0, 0, 0, []),
  (97, .invokevirtual 450, 3, 0, 234, 3, 13, []),
  (100, .iload_n 1, 1, 0, 1, 0, 0, []),
  (101, .ifCond .ne 10, 3, 0, 111, 0, 0, []),
  (104, .aload_n 0, 1, 0, 0, 0, 0, []),
  (105, .invokevirtual 528, 3, 0, 257, 1, 13, []),
  (108, .goto 8, 3, 0, 116, 0, 0, []),
  (111, .aload_n 0, 1, 0, 0, 0, 0, []),
  (112, .iload_n 1, 1, 0, 1, 0, 0, []),
  (113, .invokevirtual 531, 3, 0, 258, 2, 13, []),
  (116, .aload_n 0, 1, 0, 0, 0, 0, []),
  (117, .getfield 345, 3, 0, 13, 6, 0, []),
  (120, .ireturn, 1, 0, 0, 0, 0, [])]
def am_c259 : List (Nat × am_Row) := am_c259_0 ++ (am_c259_1)
/-- java/util/Arrays.fill([II)V -/
def am_c260 : List (Nat × am_Row) := [(0, .iconst 0, 1, 0, 0, 0, 0, []),
  (1, .istore_n 2, 1, 0, 2, 0, 0, []),
  (2, .aload_n 0, 1, 0, 0, 0, 0, []),
  (3, .arraylength, 1, 0, 0, 0, 0, []),
  (4, .istore_n 3, 1, 0, 3, 0, 0, []),
  (5, .iload_n 2, 1, 0, 2, 0, 0, []),
  (6, .iload_n 3, 1, 0, 3, 0, 0, []),
  (7, .if_icmp .ge 13, 3, 0, 20, 0, 0, []),
  (10, .aload_n 0, 1, 0, 0, 0, 0, []),
  (11, .iload_n 2, 1, 0, 2, 0, 0, []),
  (12, .iload_n 1, 1, 0, 1, 0, 0, []),
  (13, .iastore, 1, 0, 0, 0, 0, []),
  (14, .iinc 2 1, 3, 1, 2, 0, 0, []),
  (17, .goto (-12), 3, 0, 5, 0, 0, []),
  (20, .return_, 1, 0, 0, 0, 0, [])]
/-- java/lang/RuntimeException.<init>(Ljava/lang/String;Ljava/lang/Throwable;ZZ)V -/
def am_c261 : List (Nat × am_Row) := [(0, .aload_n 0, 1, 0, 0, 0, 0, []),
  (1, .aload_n 1, 1, 0, 1, 0, 0, []),
  (2, .aload_n 2, 1, 0, 2, 0, 0, []),
  (3, .iload_n 3, 1, 0, 3, 0, 0, []),
  (4, .iload 4, 2, 0, 4, 0, 0, []),
  (6, .invokespecial 16, 3, 0, 262, 5, 12, []),
  (9, .return_, 1, 0, 0, 0, 0, [])]
/-- java/lang/Exception.<init>(Ljava/lang/String;Ljava/lang/Throwable;ZZ)V -/
def am_c262 : List (Nat × am_Row) := [(0, .aload_n 0, 1, 0, 0, 0, 0, []),
  (1, .aload_n 1, 1, 0, 1, 0, 0, []),
  (2, .aload_n 2, 1, 0, 2, 0, 0, []),
  (3, .iload_n 3, 1, 0, 3, 0, 0, []),
  (4, .iload 4, 2, 0, 4, 0, 0, []),
  (6, .invokespecial 16, 3, 0, 263, 5, 12, []),
  (9, .return_, 1, 0, 0, 0, 0, [])]
/-- java/lang/Throwable.<init>(Ljava/lang/String;Ljava/lang/Throwable;ZZ)V -/
def am_c263 : List (Nat × am_Row) := [(0, .aload_n 0, 1, 0, 0, 0, 0, []),
  (1, .invokespecial 1, 3, 0, 900, 1, 0, []),
  (4, .aload_n 0, 1, 0, 0, 0, 0, []),
  (5, .aload_n 0, 1, 0, 0, 0, 0, []),
  (6, .putfield 7, 3, 0, 12, 0, 1, []),
  (9, .aload_n 0, 1, 0, 0, 0, 0, []),
  (10, .getstatic 13, 3, 0, 220, 0, 0, []),
  (13, .putfield 17, 3, 0, 12, 1, 1, []),
  (16, .aload_n 0, 1, 0, 0, 0, 0, []),
  (17, .getstatic 20, 3, 0, 221, 0, 0, []),
  (20, .putfield 24, 3, 0, 12, 2, 1, []),
  (23, .iload 4, 2, 0, 4, 0, 0, []),
  (25, .ifCond .eq 11, 3, 0, 36, 0, 0, []),
  (28, .aload_n 0, 1, 0, 0, 0, 0, []),
  (29, .invokevirtual 27, 3, 0, 999, 1, 12, []),
  (32, .pop, 1, 0, 0, 0, 0, []),
  (33, .goto 8, 3, 0, 41, 0, 0, []),
  (36, .aload_n 0, 1, 0, 0, 0, 0, []),
  (37, .aconst_null, 1, 0, 0, 0, 0, []),
  (38, .putfield 17, 3, 0, 12, 1, 1, []),
  (41, .aload_n 0, 1, 0, 0, 0, 0, []),
  (42, .aload_n 1, 1, 0, 1, 0, 0, []),
  (43, .putfield 31, 3, 0, 12, 3, 1, []),
  (46, .aload_n 0, 1, 0, 0, 0, 0, []),
  (47, .aload_n 2, 1, 0, 2, 0, 0, []),
  (48, .putfield 7, 3, 0, 12, 0, 1, []),
  (51, .iload_n 3, 1, 0, 3, 0, 0, []),
  (52, .ifCond .ne 8, 3, 0, 60, 0, 0, []),
  (55, .aload_n 0, 1, 0, 0, 0, 0, []),
  (56, .aconst_null, 1, 0, 0, 0, 0, []),
  (57, .putfield 24, 3, 0, 12, 2, 1, []),
  (60, .return_, 1, 0, 0, 0, 0, [])]
/-- BrotliWordsLaw.law([I)Z -/
def am_c264_0 : List (Nat × am_Row) := [(0, .new 7, 3, 0, 11, 5, 0, []),
  (3, .dup, 1, 0, 0, 0, 0, []),
  (4, .invokespecial 9, 3, 0, 120, 1, 11, []),
  (7, .astore_n 1, 1, 0, 1, 0, 0, []),
  (8, .new 10, 3, 0, 13, 65, 0, []),
  (11, .dup, 1, 0, 0, 0, 0, []),
  (12, .invokespecial 12, 3, 0, 153, 1, 13, []),
  (15, .astore_n 2, 1, 0, 2, 0, 0, []),
  (16, .iconst 0, 1, 0, 0, 0, 0, []),
  (17, .istore_n 3, 1, 0, 3, 0, 0, []),
  (18, .iload_n 3, 1, 0, 3, 0, 0, []),
  (19, .aload_n 0, 1, 0, 0, 0, 0, []),
  (20, .arraylength, 1, 0, 0, 0, 0, []),
  (21, .bipush 6, 2, 6, 0, 0, 0, []),
  (23, .isub, 1, 0, 0, 0, 0, []),
  (24, .if_icmp .gt 640, 3, 0, 664, 0, 0, []),
  (27, .aload_n 0, 1, 0, 0, 0, 0, []),
  (28, .iload_n 3, 1, 0, 3, 0, 0, []),
  (29, .iaload, 1, 0, 0, 0, 0, []),
  (30, .bipush 31, 2, 31, 0, 0, 0, []),
  (32, .iand, 1, 0, 0, 0, 0, []),
  (33, .tableswitch 625 0 19 #[95, 158, 181, 214, 247, 260, 273, 286, 299, 352, 375, 388, 401, 424, 437, 470, 493, 526, 569, 602], 95, 0, 658, 0, 0, [(0, 128), (1, 191), (2, 214), (3, 247), (4, 280), (5, 293), (6, 306), (7, 319), (8, 332), (9, 385), (10, 408), (11, 421), (12, 434), (13, 457), (14, 470), (15, 503), (16, 526), (17, 559), (18, 602), (19, 635)]),
  (128, .aload_n 1, 1, 0, 1, 0, 0, []),
  (129, .aload_n 0, 1, 0, 0, 0, 0, []),
  (130, .iload_n 3, 1, 0, 3, 0, 0, []),
  (131, .iconst 1, 1, 1, 0, 0, 0, []),
  (132, .iadd, 1, 0, 0, 0, 0, []),
  (133, .iaload, 1, 0, 0, 0, 0, []),
  (134, .aload_n 0, 1, 0, 0, 0, 0, []),
  (135, .iload_n 3, 1, 0, 3, 0, 0, []),
  (136, .iconst 2, 1, 2, 0, 0, 0, []),
  (137, .iadd, 1, 0, 0, 0, 0, []),
  (138, .iaload, 1, 0, 0, 0, 0, []),
  (139, .aload_n 0, 1, 0, 0, 0, 0, []),
  (140, .iload_n 3, 1, 0, 3, 0, 0, []),
  (141, .iconst 3, 1, 3, 0, 0, 0, []),
  (142, .iadd, 1, 0, 0, 0, 0, []),
  (143, .iaload, 1, 0, 0, 0, 0, []),
  (144, .aload_n 0, 1, 0, 0, 0, 0, []),
  (145, .iload_n 3, 1, 0, 3, 0, 0, [])]
def am_c264_1 : List (Nat × am_Row) := [(146, .iconst 4, 1, 4, 0, 0, 0, []),
  (147, .iadd, 1, 0, 0, 0, 0, []),
  (148, .iaload, 1, 0, 0, 0, 0, []),
  (149, .aload_n 0, 1, 0, 0, 0, 0, []),
  (150, .iload_n 3, 1, 0, 3, 0, 0, []),
  (151, .iconst 5, 1, 5, 0, 0, 0, []),
  (152, .iadd, 1, 0, 0, 0, 0, []),
  (153, .iaload, 1, 0, 0, 0, 0, []),
  (154, .invokevirtual 13, 3, 0, 121, 6, 11, []),
  (157, .aload_n 2, 1, 0, 2, 0, 0, []),
  (158, .aload_n 0, 1, 0, 0, 0, 0, []),
  (159, .iload_n 3, 1, 0, 3, 0, 0, []),
  (160, .iconst 1, 1, 1, 0, 0, 0, []),
  (161, .iadd, 1, 0, 0, 0, 0, []),
  (162, .iaload, 1, 0, 0, 0, 0, []),
  (163, .aload_n 0, 1, 0, 0, 0, 0, []),
  (164, .iload_n 3, 1, 0, 3, 0, 0, []),
  (165, .iconst 2, 1, 2, 0, 0, 0, []),
  (166, .iadd, 1, 0, 0, 0, 0, []),
  (167, .iaload, 1, 0, 0, 0, 0, []),
  (168, .aload_n 0, 1, 0, 0, 0, 0, []),
  (169, .iload_n 3, 1, 0, 3, 0, 0, []),
  (170, .iconst 3, 1, 3, 0, 0, 0, []),
  (171, .iadd, 1, 0, 0, 0, 0, []),
  (172, .iaload, 1, 0, 0, 0, 0, []),
  (173, .aload_n 0, 1, 0, 0, 0, 0, []),
  (174, .iload_n 3, 1, 0, 3, 0, 0, []),
  (175, .iconst 4, 1, 4, 0, 0, 0, []),
  (176, .iadd, 1, 0, 0, 0, 0, []),
  (177, .iaload, 1, 0, 0, 0, 0, []),
  (178, .aload_n 0, 1, 0, 0, 0, 0, []),
  (179, .iload_n 3, 1, 0, 3, 0, 0, []),
  (180, .iconst 5, 1, 5, 0, 0, 0, []),
  (181, .iadd, 1, 0, 0, 0, 0, []),
  (182, .iaload, 1, 0, 0, 0, 0, []),
  (183, .invokevirtual 17, 3, 0, 154, 6, 13, []),
  (186, .if_icmp .eq 472, 3, 0, 658, 0, 0, []),
  (189, .iconst 0, 1, 0, 0, 0, 0, []),
  (190, .ireturn, 1, 0, 1, 0, 0, []),
  (191, .aload_n 1, 1, 0, 1, 0, 0, [])]
def am_c264_2 : List (Nat × am_Row) := [(192, .aload_n 0, 1, 0, 0, 0, 0, []),
  (193, .iload_n 3, 1, 0, 3, 0, 0, []),
  (194, .iconst 1, 1, 1, 0, 0, 0, []),
  (195, .iadd, 1, 0, 0, 0, 0, []),
  (196, .iaload, 1, 0, 0, 0, 0, []),
  (197, .invokevirtual 18, 3, 0, 122, 2, 11, []),
  (200, .aload_n 2, 1, 0, 2, 0, 0, []),
  (201, .aload_n 0, 1, 0, 0, 0, 0, []),
  (202, .iload_n 3, 1, 0, 3, 0, 0, []),
  (203, .iconst 1, 1, 1, 0, 0, 0, []),
  (204, .iadd, 1, 0, 0, 0, 0, []),
  (205, .iaload, 1, 0, 0, 0, 0, []),
  (206, .invokevirtual 22, 3, 0, 155, 2, 13, []),
  (209, .if_icmp .eq 449, 3, 0, 658, 0, 0, []),
  (212, .iconst 0, 1, 0, 0, 0, 0, []),
  (213, .ireturn, 1, 0, 1, 0, 0, []),
  (214, .aload_n 1, 1, 0, 1, 0, 0, []),
  (215, .aload_n 0, 1, 0, 0, 0, 0, []),
  (216, .iload_n 3, 1, 0, 3, 0, 0, []),
  (217, .iconst 1, 1, 1, 0, 0, 0, []),
  (218, .iadd, 1, 0, 0, 0, 0, []),
  (219, .iaload, 1, 0, 0, 0, 0, []),
  (220, .aload_n 0, 1, 0, 0, 0, 0, []),
  (221, .iload_n 3, 1, 0, 3, 0, 0, []),
  (222, .iconst 2, 1, 2, 0, 0, 0, []),
  (223, .iadd, 1, 0, 0, 0, 0, []),
  (224, .iaload, 1, 0, 0, 0, 0, []),
  (225, .invokevirtual 23, 3, 0, 123, 3, 11, []),
  (228, .aload_n 2, 1, 0, 2, 0, 0, []),
  (229, .aload_n 0, 1, 0, 0, 0, 0, []),
  (230, .iload_n 3, 1, 0, 3, 0, 0, []),
  (231, .iconst 1, 1, 1, 0, 0, 0, []),
  (232, .iadd, 1, 0, 0, 0, 0, []),
  (233, .iaload, 1, 0, 0, 0, 0, []),
  (234, .aload_n 0, 1, 0, 0, 0, 0, []),
  (235, .iload_n 3, 1, 0, 3, 0, 0, []),
  (236, .iconst 2, 1, 2, 0, 0, 0, []),
  (237, .iadd, 1, 0, 0, 0, 0, []),
  (238, .iaload, 1, 0, 0, 0, 0, []),
  (239, .invokevirtual 27, 3, 0, 156, 3, 13, [])]
def am_c264_3 : List (Nat × am_Row) := [(242, .if_icmp .eq 416, 3, 0, 658, 0, 0, []),
  (245, .iconst 0, 1, 0, 0, 0, 0, []),
  (246, .ireturn, 1, 0, 1, 0, 0, []),
  (247, .aload_n 1, 1, 0, 1, 0, 0, []),
  (248, .aload_n 0, 1, 0, 0, 0, 0, []),
  (249, .iload_n 3, 1, 0, 3, 0, 0, []),
  (250, .iconst 1, 1, 1, 0, 0, 0, []),
  (251, .iadd, 1, 0, 0, 0, 0, []),
  (252, .iaload, 1, 0, 0, 0, 0, []),
  (253, .aload_n 0, 1, 0, 0, 0, 0, []),
  (254, .iload_n 3, 1, 0, 3, 0, 0, []),
  (255, .iconst 2, 1, 2, 0, 0, 0, []),
  (256, .iadd, 1, 0, 0, 0, 0, []),
  (257, .iaload, 1, 0, 0, 0, 0, []),
  (258, .invokevirtual 28, 3, 0, 124, 3, 11, []),
  (261, .aload_n 2, 1, 0, 2, 0, 0, []),
  (262, .aload_n 0, 1, 0, 0, 0, 0, []),
  (263, .iload_n 3, 1, 0, 3, 0, 0, []),
  (264, .iconst 1, 1, 1, 0, 0, 0, []),
  (265, .iadd, 1, 0, 0, 0, 0, []),
  (266, .iaload, 1, 0, 0, 0, 0, []),
  (267, .aload_n 0, 1, 0, 0, 0, 0, []),
  (268, .iload_n 3, 1, 0, 3, 0, 0, []),
  (269, .iconst 2, 1, 2, 0, 0, 0, []),
  (270, .iadd, 1, 0, 0, 0, 0, []),
  (271, .iaload, 1, 0, 0, 0, 0, []),
  (272, .invokevirtual 31, 3, 0, 157, 3, 13, []),
  (275, .if_icmp .eq 383, 3, 0, 658, 0, 0, []),
  (278, .iconst 0, 1, 0, 0, 0, 0, []),
  (279, .ireturn, 1, 0, 1, 0, 0, []),
  (280, .aload_n 1, 1, 0, 1, 0, 0, []),
  (281, .invokevirtual 32, 3, 0, 125, 1, 11, []),
  (284, .aload_n 2, 1, 0, 2, 0, 0, []),
  (285, .invokevirtual 36, 3, 0, 159, 1, 13, []),
  (288, .if_icmp .eq 370, 3, 0, 658, 0, 0, []),
  (291, .iconst 0, 1, 0, 0, 0, 0, []),
  (292, .ireturn, 1, 0, 1, 0, 0, []),
  (293, .aload_n 1, 1, 0, 1, 0, 0, []),
  (294, .invokevirtual 37, 3, 0, 126, 1, 11, []),
  (297, .aload_n 2, 1, 0, 2, 0, 0, [])]
def am_c264_4 : List (Nat × am_Row) := [(298, .invokevirtual 40, 3, 0, 161, 1, 13, []),
  (301, .if_icmp .eq 357, 3, 0, 658, 0, 0, []),
  (304, .iconst 0, 1, 0, 0, 0, 0, []),
  (305, .ireturn, 1, 0, 1, 0, 0, []),
  (306, .aload_n 1, 1, 0, 1, 0, 0, []),
  (307, .invokevirtual 41, 3, 0, 127, 1, 11, []),
  (310, .aload_n 2, 1, 0, 2, 0, 0, []),
  (311, .invokevirtual 44, 3, 0, 163, 1, 13, []),
  (314, .if_icmp .eq 344, 3, 0, 658, 0, 0, []),
  (317, .iconst 0, 1, 0, 0, 0, 0, []),
  (318, .ireturn, 1, 0, 1, 0, 0, []),
  (319, .aload_n 1, 1, 0, 1, 0, 0, []),
  (320, .invokevirtual 45, 3, 0, 128, 1, 11, []),
  (323, .aload_n 2, 1, 0, 2, 0, 0, []),
  (324, .invokevirtual 48, 3, 0, 165, 1, 13, []),
  (327, .if_icmp .eq 331, 3, 0, 658, 0, 0, []),
  (330, .iconst 0, 1, 0, 0, 0, 0, []),
  (331, .ireturn, 1, 0, 1, 0, 0, []),
  (332, .aload_n 1, 1, 0, 1, 0, 0, []),
  (333, .aload_n 0, 1, 0, 0, 0, 0, []),
  (334, .iload_n 3, 1, 0, 3, 0, 0, []),
  (335, .iconst 1, 1, 1, 0, 0, 0, []),
  (336, .iadd, 1, 0, 0, 0, 0, []),
  (337, .iaload, 1, 0, 0, 0, 0, []),
  (338, .aload_n 0, 1, 0, 0, 0, 0, []),
  (339, .iload_n 3, 1, 0, 3, 0, 0, []),
  (340, .iconst 2, 1, 2, 0, 0, 0, []),
  (341, .iadd, 1, 0, 0, 0, 0, []),
  (342, .iaload, 1, 0, 0, 0, 0, []),
  (343, .aload_n 0, 1, 0, 0, 0, 0, []),
  (344, .iload_n 3, 1, 0, 3, 0, 0, []),
  (345, .iconst 3, 1, 3, 0, 0, 0, []),
  (346, .iadd, 1, 0, 0, 0, 0, []),
  (347, .iaload, 1, 0, 0, 0, 0, []),
  (348, .aload_n 0, 1, 0, 0, 0, 0, []),
  (349, .iload_n 3, 1, 0, 3, 0, 0, []),
  (350, .iconst 4, 1, 4, 0, 0, 0, []),
  (351, .iadd, 1, 0, 0, 0, 0, []),
  (352, .iaload, 1, 0, 0, 0, 0, []),
  (353, .invokevirtual 49, 3, 0, 129, 5, 11, [])]
def am_c264_5 : List (Nat × am_Row) := [(356, .aload_n 2, 1, 0, 2, 0, 0, []),
  (357, .aload_n 0, 1, 0, 0, 0, 0, []),
  (358, .iload_n 3, 1, 0, 3, 0, 0, []),
  (359, .iconst 1, 1, 1, 0, 0, 0, []),
  (360, .iadd, 1, 0, 0, 0, 0, []),
  (361, .iaload, 1, 0, 0, 0, 0, []),
  (362, .aload_n 0, 1, 0, 0, 0, 0, []),
  (363, .iload_n 3, 1, 0, 3, 0, 0, []),
  (364, .iconst 2, 1, 2, 0, 0, 0, []),
  (365, .iadd, 1, 0, 0, 0, 0, []),
  (366, .iaload, 1, 0, 0, 0, 0, []),
  (367, .aload_n 0, 1, 0, 0, 0, 0, []),
  (368, .iload_n 3, 1, 0, 3, 0, 0, []),
  (369, .iconst 3, 1, 3, 0, 0, 0, []),
  (370, .iadd, 1, 0, 0, 0, 0, []),
  (371, .iaload, 1, 0, 0, 0, 0, []),
  (372, .aload_n 0, 1, 0, 0, 0, 0, []),
  (373, .iload_n 3, 1, 0, 3, 0, 0, []),
  (374, .iconst 4, 1, 4, 0, 0, 0, []),
  (375, .iadd, 1, 0, 0, 0, 0, []),
  (376, .iaload, 1, 0, 0, 0, 0, []),
  (377, .invokevirtual 53, 3, 0, 169, 5, 13, []),
  (380, .if_icmp .eq 278, 3, 0, 658, 0, 0, []),
  (383, .iconst 0, 1, 0, 0, 0, 0, []),
  (384, .ireturn, 1, 0, 1, 0, 0, []),
  (385, .aload_n 1, 1, 0, 1, 0, 0, []),
  (386, .aload_n 0, 1, 0, 0, 0, 0, []),
  (387, .iload_n 3, 1, 0, 3, 0, 0, []),
  (388, .iconst 1, 1, 1, 0, 0, 0, []),
  (389, .iadd, 1, 0, 0, 0, 0, []),
  (390, .iaload, 1, 0, 0, 0, 0, []),
  (391, .invokevirtual 54, 3, 0, 130, 2, 11, []),
  (394, .aload_n 2, 1, 0, 2, 0, 0, []),
  (395, .aload_n 0, 1, 0, 0, 0, 0, []),
  (396, .iload_n 3, 1, 0, 3, 0, 0, []),
  (397, .iconst 1, 1, 1, 0, 0, 0, []),
  (398, .iadd, 1, 0, 0, 0, 0, []),
  (399, .iaload, 1, 0, 0, 0, 0, []),
  (400, .invokevirtual 57, 3, 0, 259, 2, 13, []),
  (403, .if_icmp .eq 255, 3, 0, 658, 0, 0, [])]
def am_c264_6 : List (Nat × am_Row) := [(406, .iconst 0, 1, 0, 0, 0, 0, []),
  (407, .ireturn, 1, 0, 1, 0, 0, []),
  (408, .aload_n 1, 1, 0, 1, 0, 0, []),
  (409, .invokevirtual 58, 3, 0, 131, 1, 11, []),
  (412, .aload_n 2, 1, 0, 2, 0, 0, []),
  (413, .invokevirtual 61, 3, 0, 224, 1, 13, []),
  (416, .if_icmp .eq 242, 3, 0, 658, 0, 0, []),
  (419, .iconst 0, 1, 0, 0, 0, 0, []),
  (420, .ireturn, 1, 0, 1, 0, 0, []),
  (421, .aload_n 1, 1, 0, 1, 0, 0, []),
  (422, .invokevirtual 62, 3, 0, 132, 1, 11, []),
  (425, .aload_n 2, 1, 0, 2, 0, 0, []),
  (426, .invokevirtual 65, 3, 0, 225, 1, 13, []),
  (429, .if_icmp .eq 229, 3, 0, 658, 0, 0, []),
  (432, .iconst 0, 1, 0, 0, 0, 0, []),
  (433, .ireturn, 1, 0, 1, 0, 0, []),
  (434, .aload_n 1, 1, 0, 1, 0, 0, []),
  (435, .aload_n 0, 1, 0, 0, 0, 0, []),
  (436, .iload_n 3, 1, 0, 3, 0, 0, []),
  (437, .iconst 1, 1, 1, 0, 0, 0, []),
  (438, .iadd, 1, 0, 0, 0, 0, []),
  (439, .iaload, 1, 0, 0, 0, 0, []),
  (440, .invokevirtual 66, 3, 0, 133, 2, 11, []),
  (443, .aload_n 2, 1, 0, 2, 0, 0, []),
  (444, .aload_n 0, 1, 0, 0, 0, 0, []),
  (445, .iload_n 3, 1, 0, 3, 0, 0, []),
  (446, .iconst 1, 1, 1, 0, 0, 0, []),
  (447, .iadd, 1, 0, 0, 0, 0, []),
  (448, .iaload, 1, 0, 0, 0, 0, []),
  (449, .invokevirtual 69, 3, 0, 226, 2, 13, []),
  (452, .if_icmp .eq 206, 3, 0, 658, 0, 0, []),
  (455, .iconst 0, 1, 0, 0, 0, 0, []),
  (456, .ireturn, 1, 0, 1, 0, 0, []),
  (457, .aload_n 1, 1, 0, 1, 0, 0, []),
  (458, .invokevirtual 70, 3, 0, 134, 1, 11, []),
  (461, .aload_n 2, 1, 0, 2, 0, 0, []),
  (462, .invokevirtual 73, 3, 0, 227, 1, 13, []),
  (465, .if_icmp .eq 193, 3, 0, 658, 0, 0, []),
  (468, .iconst 0, 1, 0, 0, 0, 0, []),
  (469, .ireturn, 1, 0, 1, 0, 0, [])]
def am_c264_7 : List (Nat × am_Row) := [(470, .aload_n 1, 1, 0, 1, 0, 0, []),
  (471, .aload_n 0, 1, 0, 0, 0, 0, []),
  (472, .iload_n 3, 1, 0, 3, 0, 0, []),
  (473, .iconst 1, 1, 1, 0, 0, 0, []),
  (474, .iadd, 1, 0, 0, 0, 0, []),
  (475, .iaload, 1, 0, 0, 0, 0, []),
  (476, .aload_n 0, 1, 0, 0, 0, 0, []),
  (477, .iload_n 3, 1, 0, 3, 0, 0, []),
  (478, .iconst 2, 1, 2, 0, 0, 0, []),
  (479, .iadd, 1, 0, 0, 0, 0, []),
  (480, .iaload, 1, 0, 0, 0, 0, []),
  (481, .invokevirtual 74, 3, 0, 135, 3, 11, []),
  (484, .aload_n 2, 1, 0, 2, 0, 0, []),
  (485, .aload_n 0, 1, 0, 0, 0, 0, []),
  (486, .iload_n 3, 1, 0, 3, 0, 0, []),
  (487, .iconst 1, 1, 1, 0, 0, 0, []),
  (488, .iadd, 1, 0, 0, 0, 0, []),
  (489, .iaload, 1, 0, 0, 0, 0, []),
  (490, .aload_n 0, 1, 0, 0, 0, 0, []),
  (491, .iload_n 3, 1, 0, 3, 0, 0, []),
  (492, .iconst 2, 1, 2, 0, 0, 0, []),
  (493, .iadd, 1, 0, 0, 0, 0, []),
  (494, .iaload, 1, 0, 0, 0, 0, []),
  (495, .invokevirtual 77, 3, 0, 228, 3, 13, []),
  (498, .if_icmp .eq 160, 3, 0, 658, 0, 0, []),
  (501, .iconst 0, 1, 0, 0, 0, 0, []),
  (502, .ireturn, 1, 0, 1, 0, 0, []),
  (503, .aload_n 1, 1, 0, 1, 0, 0, []),
  (504, .aload_n 0, 1, 0, 0, 0, 0, []),
  (505, .iload_n 3, 1, 0, 3, 0, 0, []),
  (506, .iconst 1, 1, 1, 0, 0, 0, []),
  (507, .iadd, 1, 0, 0, 0, 0, []),
  (508, .iaload, 1, 0, 0, 0, 0, []),
  (509, .invokevirtual 78, 3, 0, 136, 2, 11, []),
  (512, .aload_n 2, 1, 0, 2, 0, 0, []),
  (513, .aload_n 0, 1, 0, 0, 0, 0, []),
  (514, .iload_n 3, 1, 0, 3, 0, 0, []),
  (515, .iconst 1, 1, 1, 0, 0, 0, []),
  (516, .iadd, 1, 0, 0, 0, 0, []),
  (517, .iaload, 1, 0, 0, 0, 0, [])]
def am_c264_8 : List (Nat × am_Row) := [(518, .invokevirtual 81, 3, 0, 229, 2, 13, []),
  (521, .if_icmp .eq 137, 3, 0, 658, 0, 0, []),
  (524, .iconst 0, 1, 0, 0, 0, 0, []),
  (525, .ireturn, 1, 0, 1, 0, 0, []),
  (526, .aload_n 1, 1, 0, 1, 0, 0, []),
  (527, .aload_n 0, 1, 0, 0, 0, 0, []),
  (528, .iload_n 3, 1, 0, 3, 0, 0, []),
  (529, .iconst 1, 1, 1, 0, 0, 0, []),
  (530, .iadd, 1, 0, 0, 0, 0, []),
  (531, .iaload, 1, 0, 0, 0, 0, []),
  (532, .aload_n 0, 1, 0, 0, 0, 0, []),
  (533, .iload_n 3, 1, 0, 3, 0, 0, []),
  (534, .iconst 2, 1, 2, 0, 0, 0, []),
  (535, .iadd, 1, 0, 0, 0, 0, []),
  (536, .iaload, 1, 0, 0, 0, 0, []),
  (537, .invokevirtual 82, 3, 0, 137, 3, 11, []),
  (540, .aload_n 2, 1, 0, 2, 0, 0, []),
  (541, .aload_n 0, 1, 0, 0, 0, 0, []),
  (542, .iload_n 3, 1, 0, 3, 0, 0, []),
  (543, .iconst 1, 1, 1, 0, 0, 0, []),
  (544, .iadd, 1, 0, 0, 0, 0, []),
  (545, .iaload, 1, 0, 0, 0, 0, []),
  (546, .aload_n 0, 1, 0, 0, 0, 0, []),
  (547, .iload_n 3, 1, 0, 3, 0, 0, []),
  (548, .iconst 2, 1, 2, 0, 0, 0, []),
  (549, .iadd, 1, 0, 0, 0, 0, []),
  (550, .iaload, 1, 0, 0, 0, 0, []),
  (551, .invokevirtual 85, 3, 0, 230, 3, 13, []),
  (554, .if_icmp .eq 104, 3, 0, 658, 0, 0, []),
  (557, .iconst 0, 1, 0, 0, 0, 0, []),
  (558, .ireturn, 1, 0, 1, 0, 0, []),
  (559, .aload_n 1, 1, 0, 1, 0, 0, []),
  (560, .aload_n 0, 1, 0, 0, 0, 0, []),
  (561, .iload_n 3, 1, 0, 3, 0, 0, []),
  (562, .iconst 1, 1, 1, 0, 0, 0, []),
  (563, .iadd, 1, 0, 0, 0, 0, []),
  (564, .iaload, 1, 0, 0, 0, 0, []),
  (565, .aload_n 0, 1, 0, 0, 0, 0, []),
  (566, .iload_n 3, 1, 0, 3, 0, 0, []),
  (567, .iconst 2, 1, 2, 0, 0, 0, [])]
def am_c264_9 : List (Nat × am_Row) := [(568, .iadd, 1, 0, 0, 0, 0, []),
  (569, .iaload, 1, 0, 0, 0, 0, []),
  (570, .aload_n 0, 1, 0, 0, 0, 0, []),
  (571, .iload_n 3, 1, 0, 3, 0, 0, []),
  (572, .iconst 3, 1, 3, 0, 0, 0, []),
  (573, .iadd, 1, 0, 0, 0, 0, []),
  (574, .iaload, 1, 0, 0, 0, 0, []),
  (575, .invokevirtual 86, 3, 0, 138, 4, 11, []),
  (578, .aload_n 2, 1, 0, 2, 0, 0, []),
  (579, .aload_n 0, 1, 0, 0, 0, 0, []),
  (580, .iload_n 3, 1, 0, 3, 0, 0, []),
  (581, .iconst 1, 1, 1, 0, 0, 0, []),
  (582, .iadd, 1, 0, 0, 0, 0, []),
  (583, .iaload, 1, 0, 0, 0, 0, []),
  (584, .aload_n 0, 1, 0, 0, 0, 0, []),
  (585, .iload_n 3, 1, 0, 3, 0, 0, []),
  (586, .iconst 2, 1, 2, 0, 0, 0, []),
  (587, .iadd, 1, 0, 0, 0, 0, []),
  (588, .iaload, 1, 0, 0, 0, 0, []),
  (589, .aload_n 0, 1, 0, 0, 0, 0, []),
  (590, .iload_n 3, 1, 0, 3, 0, 0, []),
  (591, .iconst 3, 1, 3, 0, 0, 0, []),
  (592, .iadd, 1, 0, 0, 0, 0, []),
  (593, .iaload, 1, 0, 0, 0, 0, []),
  (594, .invokevirtual 90, 3, 0, 231, 4, 13, []),
  (597, .if_icmp .eq 61, 3, 0, 658, 0, 0, []),
  (600, .iconst 0, 1, 0, 0, 0, 0, []),
  (601, .ireturn, 1, 0, 1, 0, 0, []),
  (602, .aload_n 1, 1, 0, 1, 0, 0, []),
  (603, .aload_n 0, 1, 0, 0, 0, 0, []),
  (604, .iload_n 3, 1, 0, 3, 0, 0, []),
  (605, .iconst 1, 1, 1, 0, 0, 0, []),
  (606, .iadd, 1, 0, 0, 0, 0, []),
  (607, .iaload, 1, 0, 0, 0, 0, []),
  (608, .aload_n 0, 1, 0, 0, 0, 0, []),
  (609, .iload_n 3, 1, 0, 3, 0, 0, []),
  (610, .iconst 2, 1, 2, 0, 0, 0, []),
  (611, .iadd, 1, 0, 0, 0, 0, []),
  (612, .iaload, 1, 0, 0, 0, 0, []),
  (613, .invokevirtual 91, 3, 0, 139, 3, 11, [])]
def am_c264_10 : List (Nat × am_Row) := [(616, .aload_n 2, 1, 0, 2, 0, 0, []),
  (617, .aload_n 0, 1, 0, 0, 0, 0, []),
  (618, .iload_n 3, 1, 0, 3, 0, 0, []),
  (619, .iconst 1, 1, 1, 0, 0, 0, []),
  (620, .iadd, 1, 0, 0, 0, 0, []),
  (621, .iaload, 1, 0, 0, 0, 0, []),
  (622, .aload_n 0, 1, 0, 0, 0, 0, []),
  (623, .iload_n 3, 1, 0, 3, 0, 0, []),
  (624, .iconst 2, 1, 2, 0, 0, 0, []),
  (625, .iadd, 1, 0, 0, 0, 0, []),
  (626, .iaload, 1, 0, 0, 0, 0, []),
  (627, .invokevirtual 94, 3, 0, 232, 3, 13, []),
  (630, .if_icmp .eq 28, 3, 0, 658, 0, 0, []),
  (633, .iconst 0, 1, 0, 0, 0, 0, []),
  (634, .ireturn, 1, 0, 1, 0, 0, []),
  (635, .aload_n 1, 1, 0, 1, 0, 0, []),
  (636, .aload_n 0, 1, 0, 0, 0, 0, []),
  (637, .iload_n 3, 1, 0, 3, 0, 0, []),
  (638, .iconst 1, 1, 1, 0, 0, 0, []),
  (639, .iadd, 1, 0, 0, 0, 0, []),
  (640, .iaload, 1, 0, 0, 0, 0, []),
  (641, .invokevirtual 95, 3, 0, 140, 2, 11, []),
  (644, .aload_n 2, 1, 0, 2, 0, 0, []),
  (645, .aload_n 0, 1, 0, 0, 0, 0, []),
  (646, .iload_n 3, 1, 0, 3, 0, 0, []),
  (647, .iconst 1, 1, 1, 0, 0, 0, []),
  (648, .iadd, 1, 0, 0, 0, 0, []),
  (649, .iaload, 1, 0, 0, 0, 0, []),
  (650, .invokevirtual 98, 3, 0, 233, 2, 13, []),
  (653, .if_icmp .eq 5, 3, 0, 658, 0, 0, []),
  (656, .iconst 0, 1, 0, 0, 0, 0, []),
  (657, .ireturn, 1, 0, 1, 0, 0, []),
  (658, .iinc 3 6, 3, 6, 3, 0, 0, []),
  (661, .goto (-643), 3, 0, 18, 0, 0, []),
  (664, .iconst 1, 1, 1, 0, 0, 0, []),
  (665, .ireturn, 1, 0, 1, 0, 0, [])]
def am_c264 : List (Nat × am_Row) := am_c264_0 ++ (am_c264_1 ++ (am_c264_2 ++ (am_c264_3 ++ (am_c264_4 ++ (am_c264_5 ++ (am_c264_6 ++ (am_c264_7 ++ (am_c264_8 ++ (am_c264_9 ++ (am_c264_10))))))))))
end
section
def am_law : Nat := 264
def am_code (y : Nat) : List (Nat × am_Row) := bif Nat.blt y 132 then (bif Nat.blt y 66 then (bif Nat.blt y 33 then (bif Nat.blt y 16 then (bif Nat.blt y 8 then (bif Nat.blt y 4 then (bif Nat.blt y 2 then (bif Nat.blt y 1 then (bif Nat.beq y 0 then am_c0 else []) else (bif Nat.beq y 1 then am_c1 else [])) else (bif Nat.blt y 3 then (bif Nat.beq y 2 then am_c2 else []) else (bif Nat.beq y 3 then am_c3 else []))) else (bif Nat.blt y 6 then (bif Nat.blt y 5 then (bif Nat.beq y 4 then am_c4 else []) else (bif Nat.beq y 5 then am_c5 else [])) else (bif Nat.blt y 7 then (bif Nat.beq y 6 then am_c6 else []) else (bif Nat.beq y 7 then am_c7 else [])))) else (bif Nat.blt y 12 then (bif Nat.blt y 10 then (bif Nat.blt y 9 then (bif Nat.beq y 8 then am_c8 else []) else (bif Nat.beq y 9 then am_c9 else [])) else (bif Nat.blt y 11 then (bif Nat.beq y 10 then am_c10 else []) else (bif Nat.beq y 11 then am_c11 else []))) else (bif Nat.blt y 14 then (bif Nat.blt y 13 then (bif Nat.beq y 12 then am_c12 else []) else (bif Nat.beq y 13 then am_c13 else [])) else (bif Nat.blt y 15 then (bif Nat.beq y 14 then am_c14 else []) else (bif Nat.beq y 15 then am_c15 else []))))) else (bif Nat.blt y 24 then (bif Nat.blt y 20 then (bif Nat.blt y 18 then (bif Nat.blt y 17 then (bif Nat.beq y 16 then am_c16 else []) else (bif Nat.beq y 17 then am_c17 else [])) else (bif Nat.blt y 19 then (bif Nat.beq y 18 then am_c18 else []) else (bif Nat.beq y 19 then am_c19 else []))) else (bif Nat.blt y 22 then (bif Nat.blt y 21 then (bif Nat.beq y 20 then am_c20 else []) else (bif Nat.beq y 21 then am_c21 else [])) else (bif Nat.blt y 23 then (bif Nat.beq y 22 then am_c22 else []) else (bif Nat.beq y 23 then am_c23 else [])))) else (bif Nat.blt y 28 then (bif Nat.blt y 26 then (bif Nat.blt y 25 then (bif Nat.beq y 24 then am_c24 else []) else (bif Nat.beq y 25 then am_c25 else [])) else (bif Nat.blt y 27 then (bif Nat.beq y 26 then am_c26 else []) else (bif Nat.beq y 27 then am_c27 else []))) else (bif Nat.blt y 30 then (bif Nat.blt y 29 then (bif Nat.beq y 28 then am_c28 else []) else (bif Nat.beq y 29 then am_c29 else [])) else (bif Nat.blt y 31 then (bif Nat.beq y 30 then am_c30 else []) else (bif Nat.blt y 32 then (bif Nat.beq y 31 then am_c31 else []) else (bif Nat.beq y 32 then am_c32 else []))))))) else (bif Nat.blt y 49 then (bif Nat.blt y 41 then (bif Nat.blt y 37 then (bif Nat.blt y 35 then (bif Nat.blt y 34 then (bif Nat.beq y 33 then am_c33 else []) else (bif Nat.beq y 34 then am_c34 else [])) else (bif Nat.blt y 36 then (bif Nat.beq y 35 then am_c35 else []) else (bif Nat.beq y 36 then am_c36 else []))) else (bif Nat.blt y 39 then (bif Nat.blt y 38 then (bif Nat.beq y 37 then am_c37 else []) else (bif Nat.beq y 38 then am_c38 else [])) else (bif Nat.blt y 40 then (bif Nat.beq y 39 then am_c39 else []) else (bif Nat.beq y 40 then am_c40 else [])))) else (bif Nat.blt y 45 then (bif Nat.blt y 43 then (bif Nat.blt y 42 then (bif Nat.beq y 41 then am_c41 else []) else (bif Nat.beq y 42 then am_c42 else [])) else (bif Nat.blt y 44 then (bif Nat.beq y 43 then am_c43 else []) else (bif Nat.beq y 44 then am_c44 else []))) else (bif Nat.blt y 47 then (bif Nat.blt y 46 then (bif Nat.beq y 45 then am_c45 else []) else (bif Nat.beq y 46 then am_c46 else [])) else (bif Nat.blt y 48 then (bif Nat.beq y 47 then am_c47 else []) else (bif Nat.beq y 48 then am_c48 else []))))) else (bif Nat.blt y 57 then (bif Nat.blt y 53 then (bif Nat.blt y 51 then (bif Nat.blt y 50 then (bif Nat.beq y 49 then am_c49 else []) else (bif Nat.beq y 50 then am_c50 else [])) else (bif Nat.blt y 52 then (bif Nat.beq y 51 then am_c51 else []) else (bif Nat.beq y 52 then am_c52 else []))) else (bif Nat.blt y 55 then (bif Nat.blt y 54 then (bif Nat.beq y 53 then am_c53 else []) else (bif Nat.beq y 54 then am_c54 else [])) else (bif Nat.blt y 56 then (bif Nat.beq y 55 then am_c55 else []) else (bif Nat.beq y 56 then am_c56 else [])))) else (bif Nat.blt y 61 then (bif Nat.blt y 59 then (bif Nat.blt y 58 then (bif Nat.beq y 57 then am_c57 else []) else (bif Nat.beq y 58 then am_c58 else [])) else (bif Nat.blt y 60 then (bif Nat.beq y 59 then am_c59 else []) else (bif Nat.beq y 60 then am_c60 else []))) else (bif Nat.blt y 63 then (bif Nat.blt y 62 then (bif Nat.beq y 61 then am_c61 else []) else (bif Nat.beq y 62 then am_c62 else [])) else (bif Nat.blt y 64 then (bif Nat.beq y 63 then am_c63 else []) else (bif Nat.blt y 65 then (bif Nat.beq y 64 then am_c64 else []) else (bif Nat.beq y 65 then am_c65 else [])))))))) else (bif Nat.blt y 99 then (bif Nat.blt y 82 then (bif Nat.blt y 74 then (bif Nat.blt y 70 then (bif Nat.blt y 68 then (bif Nat.blt y 67 then (bif Nat.beq y 66 then am_c66 else []) else (bif Nat.beq y 67 then am_c67 else [])) else (bif Nat.blt y 69 then (bif Nat.beq y 68 then am_c68 else []) else (bif Nat.beq y 69 then am_c69 else []))) else (bif Nat.blt y 72 then (bif Nat.blt y 71 then (bif Nat.beq y 70 then am_c70 else []) else (bif Nat.beq y 71 then am_c71 else [])) else (bif Nat.blt y 73 then (bif Nat.beq y 72 then am_c72 else []) else (bif Nat.beq y 73 then am_c73 else [])))) else (bif Nat.blt y 78 then (bif Nat.blt y 76 then (bif Nat.blt y 75 then (bif Nat.beq y 74 then am_c74 else []) else (bif Nat.beq y 75 then am_c75 else [])) else (bif Nat.blt y 77 then (bif Nat.beq y 76 then am_c76 else []) else (bif Nat.beq y 77 then am_c77 else []))) else (bif Nat.blt y 80 then (bif Nat.blt y 79 then (bif Nat.beq y 78 then am_c78 else []) else (bif Nat.beq y 79 then am_c79 else [])) else (bif Nat.blt y 81 then (bif Nat.beq y 80 then am_c80 else []) else (bif Nat.beq y 81 then am_c81 else []))))) else (bif Nat.blt y 90 then (bif Nat.blt y 86 then (bif Nat.blt y 84 then (bif Nat.blt y 83 then (bif Nat.beq y 82 then am_c82 else []) else (bif Nat.beq y 83 then am_c83 else [])) else (bif Nat.blt y 85 then (bif Nat.beq y 84 then am_c84 else []) else (bif Nat.beq y 85 then am_c85 else []))) else (bif Nat.blt y 88 then (bif Nat.blt y 87 then (bif Nat.beq y 86 then am_c86 else []) else (bif Nat.beq y 87 then am_c87 else [])) else (bif Nat.blt y 89 then (bif Nat.beq y 88 then am_c88 else []) else (bif Nat.beq y 89 then am_c89 else [])))) else (bif Nat.blt y 94 then (bif Nat.blt y 92 then (bif Nat.blt y 91 then (bif Nat.beq y 90 then am_c90 else []) else (bif Nat.beq y 91 then am_c91 else [])) else (bif Nat.blt y 93 then (bif Nat.beq y 92 then am_c92 else []) else (bif Nat.beq y 93 then am_c93 else []))) else (bif Nat.blt y 96 then (bif Nat.blt y 95 then (bif Nat.beq y 94 then am_c94 else []) else (bif Nat.beq y 95 then am_c95 else [])) else (bif Nat.blt y 97 then (bif Nat.beq y 96 then am_c96 else []) else (bif Nat.blt y 98 then (bif Nat.beq y 97 then am_c97 else []) else (bif Nat.beq y 98 then am_c98 else []))))))) else (bif Nat.blt y 115 then (bif Nat.blt y 107 then (bif Nat.blt y 103 then (bif Nat.blt y 101 then (bif Nat.blt y 100 then (bif Nat.beq y 99 then am_c99 else []) else (bif Nat.beq y 100 then am_c100 else [])) else (bif Nat.blt y 102 then (bif Nat.beq y 101 then am_c101 else []) else (bif Nat.beq y 102 then am_c102 else []))) else (bif Nat.blt y 105 then (bif Nat.blt y 104 then (bif Nat.beq y 103 then am_c103 else []) else (bif Nat.beq y 104 then am_c104 else [])) else (bif Nat.blt y 106 then (bif Nat.beq y 105 then am_c105 else []) else (bif Nat.beq y 106 then am_c106 else [])))) else (bif Nat.blt y 111 then (bif Nat.blt y 109 then (bif Nat.blt y 108 then (bif Nat.beq y 107 then am_c107 else []) else (bif Nat.beq y 108 then am_c108 else [])) else (bif Nat.blt y 110 then (bif Nat.beq y 109 then am_c109 else []) else (bif Nat.beq y 110 then am_c110 else []))) else (bif Nat.blt y 113 then (bif Nat.blt y 112 then (bif Nat.beq y 111 then am_c111 else []) else (bif Nat.beq y 112 then am_c112 else [])) else (bif Nat.blt y 114 then (bif Nat.beq y 113 then am_c113 else []) else (bif Nat.beq y 114 then am_c114 else []))))) else (bif Nat.blt y 123 then (bif Nat.blt y 119 then (bif Nat.blt y 117 then (bif Nat.blt y 116 then (bif Nat.beq y 115 then am_c115 else []) else (bif Nat.beq y 116 then am_c116 else [])) else (bif Nat.blt y 118 then (bif Nat.beq y 117 then am_c117 else []) else (bif Nat.beq y 118 then am_c118 else []))) else (bif Nat.blt y 121 then (bif Nat.blt y 120 then (bif Nat.beq y 119 then am_c119 else []) else (bif Nat.beq y 120 then am_c120 else [])) else (bif Nat.blt y 122 then (bif Nat.beq y 121 then am_c121 else []) else (bif Nat.beq y 122 then am_c122 else [])))) else (bif Nat.blt y 127 then (bif Nat.blt y 125 then (bif Nat.blt y 124 then (bif Nat.beq y 123 then am_c123 else []) else (bif Nat.beq y 124 then am_c124 else [])) else (bif Nat.blt y 126 then (bif Nat.beq y 125 then am_c125 else []) else (bif Nat.beq y 126 then am_c126 else []))) else (bif Nat.blt y 129 then (bif Nat.blt y 128 then (bif Nat.beq y 127 then am_c127 else []) else (bif Nat.beq y 128 then am_c128 else [])) else (bif Nat.blt y 130 then (bif Nat.beq y 129 then am_c129 else []) else (bif Nat.blt y 131 then (bif Nat.beq y 130 then am_c130 else []) else (bif Nat.beq y 131 then am_c131 else []))))))))) else (bif Nat.blt y 198 then (bif Nat.blt y 165 then (bif Nat.blt y 148 then (bif Nat.blt y 140 then (bif Nat.blt y 136 then (bif Nat.blt y 134 then (bif Nat.blt y 133 then (bif Nat.beq y 132 then am_c132 else []) else (bif Nat.beq y 133 then am_c133 else [])) else (bif Nat.blt y 135 then (bif Nat.beq y 134 then am_c134 else []) else (bif Nat.beq y 135 then am_c135 else []))) else (bif Nat.blt y 138 then (bif Nat.blt y 137 then (bif Nat.beq y 136 then am_c136 else []) else (bif Nat.beq y 137 then am_c137 else [])) else (bif Nat.blt y 139 then (bif Nat.beq y 138 then am_c138 else []) else (bif Nat.beq y 139 then am_c139 else [])))) else (bif Nat.blt y 144 then (bif Nat.blt y 142 then (bif Nat.blt y 141 then (bif Nat.beq y 140 then am_c140 else []) else (bif Nat.beq y 141 then am_c141 else [])) else (bif Nat.blt y 143 then (bif Nat.beq y 142 then am_c142 else []) else (bif Nat.beq y 143 then am_c143 else []))) else (bif Nat.blt y 146 then (bif Nat.blt y 145 then (bif Nat.beq y 144 then am_c144 else []) else (bif Nat.beq y 145 then am_c145 else [])) else (bif Nat.blt y 147 then (bif Nat.beq y 146 then am_c146 else []) else (bif Nat.beq y 147 then am_c147 else []))))) else (bif Nat.blt y 156 then (bif Nat.blt y 152 then (bif Nat.blt y 150 then (bif Nat.blt y 149 then (bif Nat.beq y 148 then am_c148 else []) else (bif Nat.beq y 149 then am_c149 else [])) else (bif Nat.blt y 151 then (bif Nat.beq y 150 then am_c150 else []) else (bif Nat.beq y 151 then am_c151 else []))) else (bif Nat.blt y 154 then (bif Nat.blt y 153 then (bif Nat.beq y 152 then am_c152 else []) else (bif Nat.beq y 153 then am_c153 else [])) else (bif Nat.blt y 155 then (bif Nat.beq y 154 then am_c154 else []) else (bif Nat.beq y 155 then am_c155 else [])))) else (bif Nat.blt y 160 then (bif Nat.blt y 158 then (bif Nat.blt y 157 then (bif Nat.beq y 156 then am_c156 else []) else (bif Nat.beq y 157 then am_c157 else [])) else (bif Nat.blt y 159 then (bif Nat.beq y 158 then am_c158 else []) else (bif Nat.beq y 159 then am_c159 else []))) else (bif Nat.blt y 162 then (bif Nat.blt y 161 then (bif Nat.beq y 160 then am_c160 else []) else (bif Nat.beq y 161 then am_c161 else [])) else (bif Nat.blt y 163 then (bif Nat.beq y 162 then am_c162 else []) else (bif Nat.blt y 164 then (bif Nat.beq y 163 then am_c163 else []) else (bif Nat.beq y 164 then am_c164 else []))))))) else (bif Nat.blt y 181 then (bif Nat.blt y 173 then (bif Nat.blt y 169 then (bif Nat.blt y 167 then (bif Nat.blt y 166 then (bif Nat.beq y 165 then am_c165 else []) else (bif Nat.beq y 166 then am_c166 else [])) else (bif Nat.blt y 168 then (bif Nat.beq y 167 then am_c167 else []) else (bif Nat.beq y 168 then am_c168 else []))) else (bif Nat.blt y 171 then (bif Nat.blt y 170 then (bif Nat.beq y 169 then am_c169 else []) else (bif Nat.beq y 170 then am_c170 else [])) else (bif Nat.blt y 172 then (bif Nat.beq y 171 then am_c171 else []) else (bif Nat.beq y 172 then am_c172 else [])))) else (bif Nat.blt y 177 then (bif Nat.blt y 175 then (bif Nat.blt y 174 then (bif Nat.beq y 173 then am_c173 else []) else (bif Nat.beq y 174 then am_c174 else [])) else (bif Nat.blt y 176 then (bif Nat.beq y 175 then am_c175 else []) else (bif Nat.beq y 176 then am_c176 else []))) else (bif Nat.blt y 179 then (bif Nat.blt y 178 then (bif Nat.beq y 177 then am_c177 else []) else (bif Nat.beq y 178 then am_c178 else [])) else (bif Nat.blt y 180 then (bif Nat.beq y 179 then am_c179 else []) else (bif Nat.beq y 180 then am_c180 else []))))) else (bif Nat.blt y 189 then (bif Nat.blt y 185 then (bif Nat.blt y 183 then (bif Nat.blt y 182 then (bif Nat.beq y 181 then am_c181 else []) else (bif Nat.beq y 182 then am_c182 else [])) else (bif Nat.blt y 184 then (bif Nat.beq y 183 then am_c183 else []) else (bif Nat.beq y 184 then am_c184 else []))) else (bif Nat.blt y 187 then (bif Nat.blt y 186 then (bif Nat.beq y 185 then am_c185 else []) else (bif Nat.beq y 186 then am_c186 else [])) else (bif Nat.blt y 188 then (bif Nat.beq y 187 then am_c187 else []) else (bif Nat.beq y 188 then am_c188 else [])))) else (bif Nat.blt y 193 then (bif Nat.blt y 191 then (bif Nat.blt y 190 then (bif Nat.beq y 189 then am_c189 else []) else (bif Nat.beq y 190 then am_c190 else [])) else (bif Nat.blt y 192 then (bif Nat.beq y 191 then am_c191 else []) else (bif Nat.beq y 192 then am_c192 else []))) else (bif Nat.blt y 195 then (bif Nat.blt y 194 then (bif Nat.beq y 193 then am_c193 else []) else (bif Nat.beq y 194 then am_c194 else [])) else (bif Nat.blt y 196 then (bif Nat.beq y 195 then am_c195 else []) else (bif Nat.blt y 197 then (bif Nat.beq y 196 then am_c196 else []) else (bif Nat.beq y 197 then am_c197 else [])))))))) else (bif Nat.blt y 231 then (bif Nat.blt y 214 then (bif Nat.blt y 206 then (bif Nat.blt y 202 then (bif Nat.blt y 200 then (bif Nat.blt y 199 then (bif Nat.beq y 198 then am_c198 else []) else (bif Nat.beq y 199 then am_c199 else [])) else (bif Nat.blt y 201 then (bif Nat.beq y 200 then am_c200 else []) else (bif Nat.beq y 201 then am_c201 else []))) else (bif Nat.blt y 204 then (bif Nat.blt y 203 then (bif Nat.beq y 202 then am_c202 else []) else (bif Nat.beq y 203 then am_c203 else [])) else (bif Nat.blt y 205 then (bif Nat.beq y 204 then am_c204 else []) else (bif Nat.beq y 205 then am_c205 else [])))) else (bif Nat.blt y 210 then (bif Nat.blt y 208 then (bif Nat.blt y 207 then (bif Nat.beq y 206 then am_c206 else []) else (bif Nat.beq y 207 then am_c207 else [])) else (bif Nat.blt y 209 then (bif Nat.beq y 208 then am_c208 else []) else (bif Nat.beq y 209 then am_c209 else []))) else (bif Nat.blt y 212 then (bif Nat.blt y 211 then (bif Nat.beq y 210 then am_c210 else []) else (bif Nat.beq y 211 then am_c211 else [])) else (bif Nat.blt y 213 then (bif Nat.beq y 212 then am_c212 else []) else (bif Nat.beq y 213 then am_c213 else []))))) else (bif Nat.blt y 222 then (bif Nat.blt y 218 then (bif Nat.blt y 216 then (bif Nat.blt y 215 then (bif Nat.beq y 214 then am_c214 else []) else (bif Nat.beq y 215 then am_c215 else [])) else (bif Nat.blt y 217 then (bif Nat.beq y 216 then am_c216 else []) else (bif Nat.beq y 217 then am_c217 else []))) else (bif Nat.blt y 220 then (bif Nat.blt y 219 then (bif Nat.beq y 218 then am_c218 else []) else (bif Nat.beq y 219 then am_c219 else [])) else (bif Nat.blt y 221 then (bif Nat.beq y 220 then am_c220 else []) else (bif Nat.beq y 221 then am_c221 else [])))) else (bif Nat.blt y 226 then (bif Nat.blt y 224 then (bif Nat.blt y 223 then (bif Nat.beq y 222 then am_c222 else []) else (bif Nat.beq y 223 then am_c223 else [])) else (bif Nat.blt y 225 then (bif Nat.beq y 224 then am_c224 else []) else (bif Nat.beq y 225 then am_c225 else []))) else (bif Nat.blt y 228 then (bif Nat.blt y 227 then (bif Nat.beq y 226 then am_c226 else []) else (bif Nat.beq y 227 then am_c227 else [])) else (bif Nat.blt y 229 then (bif Nat.beq y 228 then am_c228 else []) else (bif Nat.blt y 230 then (bif Nat.beq y 229 then am_c229 else []) else (bif Nat.beq y 230 then am_c230 else []))))))) else (bif Nat.blt y 248 then (bif Nat.blt y 239 then (bif Nat.blt y 235 then (bif Nat.blt y 233 then (bif Nat.blt y 232 then (bif Nat.beq y 231 then am_c231 else []) else (bif Nat.beq y 232 then am_c232 else [])) else (bif Nat.blt y 234 then (bif Nat.beq y 233 then am_c233 else []) else (bif Nat.beq y 234 then am_c234 else []))) else (bif Nat.blt y 237 then (bif Nat.blt y 236 then (bif Nat.beq y 235 then am_c235 else []) else (bif Nat.beq y 236 then am_c236 else [])) else (bif Nat.blt y 238 then (bif Nat.beq y 237 then am_c237 else []) else (bif Nat.beq y 238 then am_c238 else [])))) else (bif Nat.blt y 243 then (bif Nat.blt y 241 then (bif Nat.blt y 240 then (bif Nat.beq y 239 then am_c239 else []) else (bif Nat.beq y 240 then am_c240 else [])) else (bif Nat.blt y 242 then (bif Nat.beq y 241 then am_c241 else []) else (bif Nat.beq y 242 then am_c242 else []))) else (bif Nat.blt y 245 then (bif Nat.blt y 244 then (bif Nat.beq y 243 then am_c243 else []) else (bif Nat.beq y 244 then am_c244 else [])) else (bif Nat.blt y 246 then (bif Nat.beq y 245 then am_c245 else []) else (bif Nat.blt y 247 then (bif Nat.beq y 246 then am_c246 else []) else (bif Nat.beq y 247 then am_c247 else [])))))) else (bif Nat.blt y 256 then (bif Nat.blt y 252 then (bif Nat.blt y 250 then (bif Nat.blt y 249 then (bif Nat.beq y 248 then am_c248 else []) else (bif Nat.beq y 249 then am_c249 else [])) else (bif Nat.blt y 251 then (bif Nat.beq y 250 then am_c250 else []) else (bif Nat.beq y 251 then am_c251 else []))) else (bif Nat.blt y 254 then (bif Nat.blt y 253 then (bif Nat.beq y 252 then am_c252 else []) else (bif Nat.beq y 253 then am_c253 else [])) else (bif Nat.blt y 255 then (bif Nat.beq y 254 then am_c254 else []) else (bif Nat.beq y 255 then am_c255 else [])))) else (bif Nat.blt y 260 then (bif Nat.blt y 258 then (bif Nat.blt y 257 then (bif Nat.beq y 256 then am_c256 else []) else (bif Nat.beq y 257 then am_c257 else [])) else (bif Nat.blt y 259 then (bif Nat.beq y 258 then am_c258 else []) else (bif Nat.beq y 259 then am_c259 else []))) else (bif Nat.blt y 262 then (bif Nat.blt y 261 then (bif Nat.beq y 260 then am_c260 else []) else (bif Nat.beq y 261 then am_c261 else [])) else (bif Nat.blt y 263 then (bif Nat.beq y 262 then am_c262 else []) else (bif Nat.blt y 264 then (bif Nat.beq y 263 then am_c263 else []) else (bif Nat.beq y 264 then am_c264 else [])))))))))
def am_md_0 : List (MethodName × Nat × Option FieldType × Nat × Nat × Nat × List (Nat × Nat × Nat × Nat)) := [(⟨"BrotliWords$BitReader", "<init>", "(LBrotliWords$Bytes;)V"⟩, 2, none, 0, 1, 20, []), (⟨"BrotliWords$BitReader", "start", "()V"⟩, 1, none, 0, 0, 0, []), (⟨"BrotliWords$BitReader", "fine", "()Z"⟩, 1, (some .boolean), 0, 0, 0, []), (⟨"BrotliWords$BitReader", "broken", "(I)V"⟩, 2, none, 0, 0, 0, []), (⟨"BrotliWords$BitReader", "number", "(I)I"⟩, 4, (some .int), 0, 0, 0, []), (⟨"BrotliWords$BitReader", "signOf", "(LBrotliWords$Code;)I"⟩, 5, (some .int), 0, 0, 0, []), (⟨"BrotliWords$BitReader", "toWholeByte", "()V"⟩, 1, none, 0, 1, 23, []), (⟨"BrotliWords$BitReader", "passOver", "(I)V"⟩, 2, none, 0, 0, 0, []), (⟨"BrotliWords$BitReader", "copyTo", "(LBrotliWords$Bytes;I)V"⟩, 5, none, 0, 1, 21, []), (⟨"BrotliWords$Blocks", "<init>", "()V"⟩, 1, none, 1, 2, 42, []), (⟨"BrotliWords$Blocks", "start", "(I)V"⟩, 2, none, 1, 0, 0, []), (⟨"BrotliWords$Blocks", "readCount", "(LBrotliWords$BitReader;)V"⟩, 3, none, 1, 1, 24, []), (⟨"BrotliWords$Blocks", "takeOne", "(LBrotliWords$BitReader;)V"⟩, 2, none, 1, 2, 46, []), (⟨"BrotliWords$Blocks", "changeTo", "(I)V"⟩, 3, none, 1, 1, 21, []), (⟨"BrotliWords$Bytes", "<init>", "(I)V"⟩, 2, none, 2, 1, 21, []), (⟨"BrotliWords$Bytes", "at", "(I)I"⟩, 2, (some .int), 2, 0, 0, []), (⟨"BrotliWords$Bytes", "cut", "(I)V"⟩, 2, none, 2, 1, 21, []), (⟨"BrotliWords$Bytes", "add", "(I)V"⟩, 2, none, 2, 0, 0, []), (⟨"BrotliWords$Bytes", "addNumber", "(I)V"⟩, 2, none, 2, 1, 21, []), (⟨"BrotliWords$Bytes", "addBits", "(II)V"⟩, 5, none, 2, 0, 0, []), (⟨"BrotliWords$Bytes", "fillByte", "()V"⟩, 1, none, 2, 0, 0, []), (⟨"BrotliWords$Code", "<init>", "(I)V"⟩, 2, none, 3, 1, 21, []), (⟨"BrotliWords$Code", "setLone", "(I)V"⟩, 2, none, 3, 1, 23, []), (⟨"BrotliWords$Code", "build", "([II)V"⟩, 7, none, 3, 1, 23, []), (⟨"BrotliWords$Code", "lengthOf", "(I)I"⟩, 5, (some .int), 3, 0, 0, []), (⟨"BrotliWords$CodeReader", "<init>", "(LBrotliWords$BitReader;)V"⟩, 2, none, 4, 2, 42, []), (⟨"BrotliWords$CodeReader", "tell", "(LBrotliWords$Code;I)V"⟩, 4, none, 4, 4, 96, []), (⟨"BrotliWords$CodeReader", "readShort", "(LBrotliWords$Code;I)V"⟩, 7, none, 4, 2, 49, []), (⟨"BrotliWords$CodeReader", "isNew", "(II)Z"⟩, 5, (some .boolean), 4, 0, 0, []), (⟨"BrotliWords$CodeReader", "shortLength", "(IIZ)I"⟩, 3, (some .int), 4, 1, 21, []), (⟨"BrotliWords$CodeReader", "readMarks", "(I)V"⟩, 6, none, 4, 3, 71, []), (⟨"BrotliWords$CodeReader", "markLength", "()I"⟩, 1, (some .int), 4, 1, 23, []), (⟨"BrotliWords$CodeReader", "buildMarks", "(I)V"⟩, 3, none, 4, 2, 49, []), (⟨"BrotliWords$CodeReader", "readLengths", "(I)V"⟩, 8, none, 4, 2, 45, []), (⟨"BrotliWords$CodeReader", "come", "(III)V"⟩, 5, none, 4, 1, 21, []), (⟨"BrotliWords$CodeWriter", "<init>", "(I)V"⟩, 3, none, 5, 1, 21, []), (⟨"BrotliWords$CodeWriter", "start", "()V"⟩, 1, none, 5, 1, 23, []), (⟨"BrotliWords$CodeWriter", "note", "(I)V"⟩, 2, none, 5, 0, 0, []), (⟨"BrotliWords$CodeWriter", "write", "(LBrotliWords$Bytes;I)V"⟩, 3, none, 5, 1, 24, []), (⟨"BrotliWords$CodeWriter", "tell", "(LBrotliWords$Bytes;LBrotliWords$CodeWriter;)V"⟩, 4, none, 5, 3, 69, []), (⟨"BrotliWords$CodeWriter", "settle", "(I)V"⟩, 4, none, 5, 2, 46, []), (⟨"BrotliWords$CodeWriter", "comesLater", "(II)Z"⟩, 3, (some .boolean), 5, 0, 0, []), (⟨"BrotliWords$CodeWriter", "sortOrder", "()V"⟩, 4, none, 5, 1, 22, []), (⟨"BrotliWords$CodeWriter", "joinAll", "()V"⟩, 7, none, 5, 0, 0, []), (⟨"BrotliWords$CodeWriter", "depthOfAll", "()I"⟩, 3, (some .int), 5, 1, 21, []), (⟨"BrotliWords$CodeWriter", "makeCodes", "()V"⟩, 4, none, 5, 1, 23, []), (⟨"BrotliWords$CodeWriter", "turned", "(II)I"⟩, 4, (some .int), 5, 0, 0, []), (⟨"BrotliWords$CodeWriter", "tellShort", "(LBrotliWords$Bytes;)V"⟩, 6, none, 5, 1, 24, []), (⟨"BrotliWords$CodeWriter", "listMarks", "()V"⟩, 7, none, 5, 1, 23, []), (⟨"BrotliWords$CodeWriter", "zerosFrom", "(I)I"⟩, 4, (some .int), 5, 0, 0, []), (⟨"BrotliWords$CodeWriter", "tellAsMarks", "(LBrotliWords$Bytes;)V"⟩, 6, none, 5, 1, 24, []), (⟨"BrotliWords$Finder", "<init>", "(LBrotliWords$Bytes;LBrotliWords$Words;)V"⟩, 3, none, 6, 1, 20, []), (⟨"BrotliWords$Finder", "start", "()V"⟩, 6, none, 6, 1, 27, []), (⟨"BrotliWords$Finder", "look", "(I)V"⟩, 3, none, 6, 3, 81, []), (⟨"BrotliWords$Finder", "pairHash", "(II)I"⟩, 2, (some .int), 6, 0, 0, []), (⟨"BrotliWords$Finder", "hash", "(I)I"⟩, 3, (some .int), 6, 1, 21, []), (⟨"BrotliWords$Finder", "findCopy", "(I)V"⟩, 8, none, 6, 2, 43, []), (⟨"BrotliWords$Finder", "sameBytes", "(III)I"⟩, 6, (some .int), 6, 0, 0, []), (⟨"BrotliWords$Finder", "findWord", "(IIZ)V"⟩, 9, none, 6, 2, 53, []), (⟨"BrotliWords$Finder", "isCore", "(III)Z"⟩, 7, (some .boolean), 6, 1, 27, [])]
def am_md_1 : List (MethodName × Nat × Option FieldType × Nat × Nat × Nat × List (Nat × Nat × Nat × Nat)) := [(⟨"BrotliWords$Finder", "offerBehind", "(III)V"⟩, 4, none, 6, 1, 26, []), (⟨"BrotliWords$Finder", "offer", "(IIII)V"⟩, 7, none, 6, 0, 0, []), (⟨"BrotliWords$Layout", "<init>", "()V"⟩, 2, none, 7, 2, 42, []), (⟨"BrotliWords$Layout", "mapOf", "(I)[I"⟩, 2, (some (.array .int)), 7, 0, 0, []), (⟨"BrotliWords$Layout", "mapSize", "(I)I"⟩, 2, (some .int), 7, 0, 0, []), (⟨"BrotliWords$Layout", "codesOf", "(I)I"⟩, 2, (some .int), 7, 0, 0, []), (⟨"BrotliWords$Layout", "signsOf", "(I)I"⟩, 2, (some .int), 7, 0, 0, []), (⟨"BrotliWords$Layout", "code", "(II)LBrotliWords$Code;"⟩, 4, (some (.object "BrotliWords$Code")), 7, 1, 21, []), (⟨"BrotliWords$Opener", "<init>", "(LBrotliWords$Bytes;LBrotliWords$Bytes;LBrotliWords$Words;)V"⟩, 5, none, 8, 3, 63, []), (⟨"BrotliWords$Opener", "openAll", "()I"⟩, 3, (some .int), 8, 6, 144, []), (⟨"BrotliWords$Opener", "begin", "()V"⟩, 1, none, 8, 2, 42, []), (⟨"BrotliWords$Opener", "finish", "()I"⟩, 1, (some .int), 8, 2, 43, []), (⟨"BrotliWords$Opener", "readSpan", "()V"⟩, 3, none, 8, 2, 51, []), (⟨"BrotliWords$Opener", "shortSpan", "(I)I"⟩, 2, (some .int), 8, 1, 21, []), (⟨"BrotliWords$Opener", "readPart", "()I"⟩, 5, (some .int), 8, 3, 68, []), (⟨"BrotliWords$Opener", "readSize", "(I)I"⟩, 3, (some .int), 8, 1, 23, []), (⟨"BrotliWords$Opener", "passOver", "(Z)V"⟩, 4, none, 8, 2, 45, []), (⟨"BrotliWords$Opener", "addPart", "(II)V"⟩, 4, none, 8, 1, 22, []), (⟨"BrotliWords$Opener", "note", "(II)V"⟩, 3, none, 8, 0, 0, []), (⟨"BrotliWords$Opener", "noteOneMore", "(I)V"⟩, 2, none, 8, 0, 0, []), (⟨"BrotliWords$Opener", "readHowMany", "()I"⟩, 3, (some .int), 8, 1, 23, []), (⟨"BrotliWords$Opener", "readKinds", "(I)V"⟩, 4, none, 8, 5, 119, []), (⟨"BrotliWords$Opener", "readForm", "()V"⟩, 2, none, 8, 1, 23, []), (⟨"BrotliWords$Opener", "readTrees", "(I)V"⟩, 6, none, 8, 5, 119, []), (⟨"BrotliWords$Opener", "fillMap", "([III)V"⟩, 7, none, 8, 1, 24, []), (⟨"BrotliWords$Opener", "undoFront", "([II)V"⟩, 7, none, 8, 1, 21, []), (⟨"BrotliWords$Opener", "readCodes", "()V"⟩, 4, none, 8, 5, 119, []), (⟨"BrotliWords$Opener", "makeCommand", "()V"⟩, 10, none, 8, 4, 91, []), (⟨"BrotliWords$Opener", "makeLiteral", "()V"⟩, 5, none, 8, 3, 67, []), (⟨"BrotliWords$Opener", "readDistanceSign", "(I)I"⟩, 4, (some .int), 8, 3, 67, []), (⟨"BrotliWords$Opener", "readDistance", "(I)I"⟩, 6, (some .int), 8, 1, 23, []), (⟨"BrotliWords$Opener", "makeCopy", "(III)V"⟩, 5, none, 8, 1, 21, []), (⟨"BrotliWords$Opener", "makeWord", "(II)V"⟩, 8, none, 8, 3, 62, []), (⟨"BrotliWords$Packer", "<init>", "(LBrotliWords$Bytes;LBrotliWords$Bytes;LBrotliWords$Words;)V"⟩, 4, none, 9, 2, 43, []), (⟨"BrotliWords$Packer", "packAll", "(I)V"⟩, 3, none, 9, 5, 126, []), (⟨"BrotliWords$Packer", "writeRaw", "(I)V"⟩, 3, none, 9, 1, 24, []), (⟨"BrotliWords$Packer", "choose", "(II)V"⟩, 4, none, 9, 4, 103, []), (⟨"BrotliWords$Packer", "longest", "(I)I"⟩, 4, (some .int), 9, 0, 0, []), (⟨"BrotliWords$Packer", "takeCheapest", "(I)V"⟩, 4, none, 9, 0, 0, []), (⟨"BrotliWords$Packer", "makesAt", "(I)I"⟩, 2, (some .int), 9, 0, 0, []), (⟨"BrotliWords$Packer", "listCommands", "(I)V"⟩, 4, none, 9, 4, 95, []), (⟨"BrotliWords$Packer", "addWord", "(II)V"⟩, 7, none, 9, 3, 69, []), (⟨"BrotliWords$Packer", "addCommand", "(IIII)V"⟩, 6, none, 9, 2, 44, []), (⟨"BrotliWords$Packer", "distanceSign", "(I)I"⟩, 3, (some .int), 9, 1, 22, []), (⟨"BrotliWords$Packer", "codeOf", "([II)I"⟩, 4, (some .int), 9, 0, 0, []), (⟨"BrotliWords$Packer", "commandSign", "(III)I"⟩, 5, (some .int), 9, 0, 0, []), (⟨"BrotliWords$Packer", "tellPart", "(I)V"⟩, 5, none, 9, 4, 92, []), (⟨"BrotliWords$Packer", "writeCommands", "()V"⟩, 6, none, 9, 2, 46, []), (⟨"BrotliWords$Words", "<init>", "()V"⟩, 1, none, 10, 1, 20, []), (⟨"BrotliWords$Words", "manyOf", "(I)I"⟩, 2, (some .int), 10, 0, 0, []), (⟨"BrotliWords$Words", "all", "()I"⟩, 3, (some .int), 10, 0, 0, []), (⟨"BrotliWords$Words", "forget", "()V"⟩, 1, none, 10, 1, 23, []), (⟨"BrotliWords$Words", "add", "(LBrotliWords$Bytes;)V"⟩, 6, none, 10, 1, 21, []), (⟨"BrotliWords$Words", "bitsFor", "(I)I"⟩, 4, (some .int), 10, 1, 21, []), (⟨"BrotliWords$Words", "digestOfAll", "()I"⟩, 5, (some .int), 10, 1, 27, []), (⟨"BrotliWords$Words", "coreSize", "(II)I"⟩, 2, (some .int), 10, 0, 0, []), (⟨"BrotliWords$Words", "coreByte", "(IIII)I"⟩, 8, (some .int), 10, 0, 0, []), (⟨"BrotliWords$Words", "aroundSize", "(I)I"⟩, 1, (some .int), 10, 1, 21, []), (⟨"BrotliWords$Words", "changedSize", "(II)I"⟩, 2, (some .int), 10, 2, 41, []), (⟨"BrotliWords$Words", "changedByte", "(IIII)I"⟩, 9, (some .int), 10, 1, 27, [])]
def am_md_2 : List (MethodName × Nat × Option FieldType × Nat × Nat × Nat × List (Nat × Nat × Nat × Nat)) := [(⟨"BrotliWords", "<init>", "()V"⟩, 1, none, 11, 4, 87, []), (⟨"BrotliWords", "feed", "(IIIII)I"⟩, 6, (some .int), 11, 2, 42, []), (⟨"BrotliWords", "end", "(I)I"⟩, 2, (some .int), 11, 2, 42, []), (⟨"BrotliWords", "bits", "(II)I"⟩, 3, (some .int), 11, 1, 24, []), (⟨"BrotliWords", "spoil", "(II)I"⟩, 3, (some .int), 11, 2, 42, []), (⟨"BrotliWords", "wipe", "()I"⟩, 2, (some .int), 11, 2, 42, []), (⟨"BrotliWords", "word", "()I"⟩, 2, (some .int), 11, 2, 46, []), (⟨"BrotliWords", "clear", "()I"⟩, 2, (some .int), 11, 2, 43, []), (⟨"BrotliWords", "digest", "()I"⟩, 1, (some .int), 11, 2, 51, []), (⟨"BrotliWords", "changed", "(IIII)I"⟩, 6, (some .int), 11, 3, 62, []), (⟨"BrotliWords", "pack", "(I)I"⟩, 2, (some .int), 11, 6, 148, []), (⟨"BrotliWords", "open", "()I"⟩, 2, (some .int), 11, 7, 166, []), (⟨"BrotliWords", "pass", "()I"⟩, 2, (some .int), 11, 2, 42, []), (⟨"BrotliWords", "out", "(I)I"⟩, 2, (some .int), 11, 1, 21, []), (⟨"BrotliWords", "read", "()I"⟩, 1, (some .int), 11, 0, 0, []), (⟨"BrotliWords", "part", "(II)I"⟩, 3, (some .int), 11, 1, 21, []), (⟨"BrotliWords", "ring", "(I)I"⟩, 2, (some .int), 11, 0, 0, []), (⟨"BrotliWords", "map", "(II)I"⟩, 3, (some .int), 11, 1, 21, []), (⟨"BrotliWords", "length", "(III)I"⟩, 4, (some .int), 11, 2, 44, []), (⟨"BrotliWords", "command", "(II)I"⟩, 3, (some .int), 11, 0, 0, []), (⟨"BrotliWords", "count", "(I)I"⟩, 2, (some .int), 11, 1, 22, []), (⟨"BrotliWords", "bitsIn", "(I)I"⟩, 3, (some .int), 11, 0, 0, []), (⟨"BrotliWords", "startRing", "([I)V"⟩, 1, none, 11, 0, 0, []), (⟨"BrotliWords", "comeToRing", "([II)V"⟩, 2, none, 11, 0, 0, []), (⟨"BrotliWords", "context", "(III)I"⟩, 3, (some .int), 11, 2, 40, []), (⟨"BrotliWords", "firstOf", "(I)I"⟩, 1, (some .int), 11, 1, 20, []), (⟨"BrotliWords", "isVowel", "(I)Z"⟩, 1, (some .boolean), 11, 0, 0, []), (⟨"BrotliWords", "firstOfSign", "(I)I"⟩, 1, (some .int), 11, 0, 0, []), (⟨"BrotliWords", "secondOf", "(I)I"⟩, 1, (some .int), 11, 0, 0, []), (⟨"BrotliWords", "sizeOf", "(I)I"⟩, 1, (some .int), 11, 0, 0, []), (⟨"BrotliWordsModel$Stop", "<init>", "()V"⟩, 1, none, 12, 4, 92, []), (⟨"BrotliWordsModel", "in", "(JJJ)Z"⟩, 6, (some .boolean), 13, 0, 0, []), (⟨"BrotliWordsModel", "fail", "(I)V"⟩, 2, none, 13, 0, 0, []), (⟨"BrotliWordsModel", "<init>", "()V"⟩, 1, none, 13, 5, 112, []), (⟨"BrotliWordsModel", "feed", "(IIIII)I"⟩, 8, (some .int), 13, 0, 0, []), (⟨"BrotliWordsModel", "end", "(I)I"⟩, 2, (some .int), 13, 1, 25, []), (⟨"BrotliWordsModel", "bits", "(II)I"⟩, 6, (some .int), 13, 1, 25, []), (⟨"BrotliWordsModel", "spoil", "(II)I"⟩, 3, (some .int), 13, 1, 25, []), (⟨"BrotliWordsModel", "emptyTape", "()V"⟩, 1, none, 13, 0, 0, []), (⟨"BrotliWordsModel", "wipe", "()I"⟩, 2, (some .int), 13, 1, 20, []), (⟨"BrotliWordsModel", "wordAt", "(II)I"⟩, 3, (some .int), 13, 0, 0, []), (⟨"BrotliWordsModel", "word", "()I"⟩, 3, (some .int), 13, 1, 25, []), (⟨"BrotliWordsModel", "allWords", "()I"⟩, 3, (some .int), 13, 0, 0, []), (⟨"BrotliWordsModel", "clear", "()I"⟩, 3, (some .int), 13, 1, 22, []), (⟨"BrotliWordsModel", "digestNow", "()I"⟩, 5, (some .int), 13, 1, 22, []), (⟨"BrotliWordsModel", "digest", "()I"⟩, 1, (some .int), 13, 2, 46, []), (⟨"BrotliWordsModel", "bitsOf", "(I)I"⟩, 3, (some .int), 13, 0, 0, []), (⟨"BrotliWordsModel", "putChanged", "(I)V"⟩, 2, none, 13, 0, 0, []), (⟨"BrotliWordsModel", "change", "(III)V"⟩, 11, none, 13, 1, 22, []), (⟨"BrotliWordsModel", "changed", "(IIII)I"⟩, 5, (some .int), 13, 2, 52, []), (⟨"BrotliWordsModel", "distanceSigns", "()I"⟩, 1, (some .int), 13, 0, 0, []), (⟨"BrotliWordsModel", "layCodes", "(II)V"⟩, 6, none, 13, 0, 0, []), (⟨"BrotliWordsModel", "noLengths", "(II)V"⟩, 4, none, 13, 0, 0, []), (⟨"BrotliWordsModel", "bit", "()I"⟩, 2, (some .int), 13, 1, 21, []), (⟨"BrotliWordsModel", "number", "(I)I"⟩, 4, (some .int), 13, 2, 42, []), (⟨"BrotliWordsModel", "toByte", "()V"⟩, 2, none, 13, 2, 42, []), (⟨"BrotliWordsModel", "sign", "(II)I"⟩, 6, (some .int), 13, 2, 42, []), (⟨"BrotliWordsModel", "widthOf", "(I)I"⟩, 2, (some .int), 13, 0, 0, []), (⟨"BrotliWordsModel", "readCode", "(II)V"⟩, 4, none, 13, 4, 98, []), (⟨"BrotliWordsModel", "readFew", "(II)V"⟩, 7, none, 13, 3, 65, [])]
def am_md_3 : List (MethodName × Nat × Option FieldType × Nat × Nat × Nat × List (Nat × Nat × Nat × Nat)) := [(⟨"BrotliWordsModel", "fewLength", "(III)I"⟩, 3, (some .int), 13, 0, 0, []), (⟨"BrotliWordsModel", "markAt", "(I)I"⟩, 1, (some .int), 13, 0, 0, []), (⟨"BrotliWordsModel", "markLength", "()I"⟩, 3, (some .int), 13, 2, 42, []), (⟨"BrotliWordsModel", "readMarks", "(I)V"⟩, 7, none, 13, 3, 64, []), (⟨"BrotliWordsModel", "readLengths", "(II)V"⟩, 12, none, 13, 3, 67, []), (⟨"BrotliWordsModel", "tell", "(II)V"⟩, 3, none, 13, 1, 25, []), (⟨"BrotliWordsModel", "tellMore", "(I)V"⟩, 2, none, 13, 1, 25, []), (⟨"BrotliWordsModel", "newPart", "(II)V"⟩, 4, none, 13, 2, 47, []), (⟨"BrotliWordsModel", "ringAtFirst", "()V"⟩, 1, none, 13, 0, 0, []), (⟨"BrotliWordsModel", "toRing", "(I)V"⟩, 3, none, 13, 0, 0, []), (⟨"BrotliWordsModel", "howMany", "()I"⟩, 3, (some .int), 13, 3, 65, []), (⟨"BrotliWordsModel", "countBase", "(I)I"⟩, 1, (some .int), 13, 0, 0, []), (⟨"BrotliWordsModel", "countBits", "(I)I"⟩, 1, (some .int), 13, 0, 0, []), (⟨"BrotliWordsModel", "blockCount", "(I)I"⟩, 3, (some .int), 13, 3, 67, []), (⟨"BrotliWordsModel", "readKinds", "(I)V"⟩, 2, none, 13, 5, 121, []), (⟨"BrotliWordsModel", "takeOne", "(I)V"⟩, 4, none, 13, 4, 89, []), (⟨"BrotliWordsModel", "readMap", "([III)V"⟩, 9, none, 13, 5, 121, []), (⟨"BrotliWordsModel", "noMaps", "()V"⟩, 2, none, 13, 0, 0, []), (⟨"BrotliWordsModel", "readHeads", "()V"⟩, 2, none, 13, 6, 149, []), (⟨"BrotliWordsModel", "keepCodes", "()V"⟩, 2, none, 13, 1, 20, []), (⟨"BrotliWordsModel", "insertBits", "(I)I"⟩, 1, (some .int), 13, 0, 0, []), (⟨"BrotliWordsModel", "copyBits", "(I)I"⟩, 1, (some .int), 13, 0, 0, []), (⟨"BrotliWordsModel", "insertBase", "(I)I"⟩, 3, (some .int), 13, 1, 20, []), (⟨"BrotliWordsModel", "copyBase", "(I)I"⟩, 3, (some .int), 13, 1, 20, []), (⟨"BrotliWordsModel", "insertEight", "(I)I"⟩, 1, (some .int), 13, 0, 0, []), (⟨"BrotliWordsModel", "copyEight", "(I)I"⟩, 1, (some .int), 13, 0, 0, []), (⟨"BrotliWordsModel", "isVowel", "(I)Z"⟩, 1, (some .boolean), 13, 0, 0, []), (⟨"BrotliWordsModel", "isOneOf", "(IIIII)Z"⟩, 5, (some .boolean), 13, 0, 0, []), (⟨"BrotliWordsModel", "first", "(I)I"⟩, 1, (some .int), 13, 1, 25, []), (⟨"BrotliWordsModel", "second", "(I)I"⟩, 1, (some .int), 13, 1, 25, []), (⟨"BrotliWordsModel", "sizeOf", "(I)I"⟩, 1, (some .int), 13, 0, 0, []), (⟨"BrotliWordsModel", "back", "(I)I"⟩, 2, (some .int), 13, 0, 0, []), (⟨"BrotliWordsModel", "context", "()I"⟩, 3, (some .int), 13, 2, 45, []), (⟨"BrotliWordsModel", "putOut", "(I)V"⟩, 2, none, 13, 0, 0, []), (⟨"BrotliWordsModel", "readLiteral", "()V"⟩, 2, none, 13, 5, 112, []), (⟨"BrotliWordsModel", "distanceOf", "(I)I"⟩, 5, (some .int), 13, 3, 65, []), (⟨"BrotliWordsModel", "readCoded", "(I)V"⟩, 10, none, 13, 7, 170, []), (⟨"BrotliWordsModel", "goBack", "(ZII)V"⟩, 8, none, 13, 5, 112, []), (⟨"BrotliWordsModel", "tellWord", "(III)V"⟩, 7, none, 13, 2, 52, []), (⟨"BrotliWordsModel", "readSpan", "()V"⟩, 4, none, 13, 3, 65, []), (⟨"BrotliWordsModel", "passOver", "(Z)V"⟩, 5, none, 13, 3, 70, []), (⟨"BrotliWordsModel", "readLength", "(I)I"⟩, 3, (some .int), 13, 3, 65, []), (⟨"BrotliWordsModel", "readAll", "()V"⟩, 3, none, 13, 9, 223, []), (⟨"BrotliWordsModel", "readPart", "(ZI)V"⟩, 5, none, 13, 8, 199, []), (⟨"BrotliWordsModel", "open", "()I"⟩, 3, (some .int), 13, 10, 245, [(71, 80, 83, 12)]), (⟨"BrotliWordsModel", "pass", "()I"⟩, 2, (some .int), 13, 1, 20, []), (⟨"BrotliWordsModel", "out", "(I)I"⟩, 2, (some .int), 13, 1, 25, []), (⟨"BrotliWordsModel", "read", "()I"⟩, 1, (some .int), 13, 0, 0, []), (⟨"BrotliWordsModel", "part", "(II)I"⟩, 3, (some .int), 13, 1, 25, []), (⟨"BrotliWordsModel", "ring", "(I)I"⟩, 2, (some .int), 13, 1, 25, []), (⟨"BrotliWordsModel", "map", "(II)I"⟩, 3, (some .int), 13, 1, 25, []), (⟨"BrotliWordsModel", "length", "(III)I"⟩, 7, (some .int), 13, 1, 25, []), (⟨"BrotliWordsModel", "command", "(II)I"⟩, 3, (some .int), 13, 1, 25, []), (⟨"BrotliWordsModel", "count", "(I)I"⟩, 2, (some .int), 13, 1, 22, []), (⟨"BrotliWordsModel", "write", "(II)V"⟩, 4, none, 13, 0, 0, []), (⟨"BrotliWordsModel", "writeToByte", "()V"⟩, 1, none, 13, 0, 0, []), (⟨"BrotliWordsModel", "writeSign", "(II)V"⟩, 5, none, 13, 1, 23, []), (⟨"BrotliWordsModel", "leastOpen", "(I)I"⟩, 4, (some .int), 13, 0, 0, []), (⟨"BrotliWordsModel", "findLengths", "(III)I"⟩, 8, (some .int), 13, 2, 51, []), (⟨"BrotliWordsModel", "joinAll", "(III)I"⟩, 9, (some .int), 13, 1, 23, [])]
def am_md_4 : List (MethodName × Nat × Option FieldType × Nat × Nat × Nat × List (Nat × Nat × Nat × Nat)) := [(⟨"BrotliWordsModel", "writeFew", "(III)V"⟩, 8, none, 13, 1, 23, []), (⟨"BrotliWordsModel", "putMark", "(II)V"⟩, 3, none, 13, 0, 0, []), (⟨"BrotliWordsModel", "findMarks", "(II)V"⟩, 7, none, 13, 1, 22, []), (⟨"BrotliWordsModel", "writeMarkLength", "(I)V"⟩, 2, none, 13, 1, 23, []), (⟨"BrotliWordsModel", "writeCode", "(II)V"⟩, 8, none, 13, 3, 78, []), (⟨"BrotliWordsModel", "findCopy", "(I)V"⟩, 4, none, 13, 0, 0, []), (⟨"BrotliWordsModel", "findWord", "(I)V"⟩, 7, none, 13, 2, 52, []), (⟨"BrotliWordsModel", "madeBy", "(I)I"⟩, 2, (some .int), 13, 0, 0, []), (⟨"BrotliWordsModel", "findWays", "(I)V"⟩, 8, none, 13, 3, 78, []), (⟨"BrotliWordsModel", "codeOf", "(IZ)I"⟩, 3, (some .int), 13, 2, 42, []), (⟨"BrotliWordsModel", "cellOf", "(II)I"⟩, 3, (some .int), 13, 1, 20, []), (⟨"BrotliWordsModel", "signOf", "(I)I"⟩, 3, (some .int), 13, 0, 0, []), (⟨"BrotliWordsModel", "addCommand", "(IIIZZ)V"⟩, 11, none, 13, 3, 64, []), (⟨"BrotliWordsModel", "findCommands", "()V"⟩, 5, none, 13, 4, 94, []), (⟨"BrotliWordsModel", "countSigns", "()V"⟩, 2, none, 13, 0, 0, []), (⟨"BrotliWordsModel", "writeCodes", "()V"⟩, 2, none, 13, 4, 105, []), (⟨"BrotliWordsModel", "writeCommands", "()V"⟩, 8, none, 13, 3, 64, []), (⟨"BrotliWordsModel", "packRaw", "()V"⟩, 2, none, 13, 1, 23, []), (⟨"BrotliWordsModel", "packCoded", "(I)V"⟩, 2, none, 13, 5, 126, []), (⟨"BrotliWordsModel", "pack", "(I)I"⟩, 3, (some .int), 13, 6, 147, []), (⟨"java/util/Arrays", "fill", "([II)V"⟩, 4, none, 16, 0, 0, []), (⟨"java/lang/RuntimeException", "<init>", "(Ljava/lang/String;Ljava/lang/Throwable;ZZ)V"⟩, 5, none, 19, 3, 68, []), (⟨"java/lang/Exception", "<init>", "(Ljava/lang/String;Ljava/lang/Throwable;ZZ)V"⟩, 5, none, 18, 2, 44, []), (⟨"java/lang/Throwable", "<init>", "(Ljava/lang/String;Ljava/lang/Throwable;ZZ)V"⟩, 5, none, 17, 1, 20, []), (⟨"BrotliWordsLaw", "law", "([I)Z"⟩, 4, (some .boolean), 14, 11, 267, [])]
def am_md : List (MethodName × Nat × Option FieldType × Nat × Nat × Nat × List (Nat × Nat × Nat × Nat)) := am_md_0 ++ (am_md_1 ++ (am_md_2 ++ (am_md_3 ++ (am_md_4))))
def am_ml (y : Nat) : Nat := bif Nat.blt y 132 then (bif Nat.blt y 66 then (bif Nat.blt y 33 then (bif Nat.blt y 16 then (bif Nat.blt y 8 then (bif Nat.blt y 4 then (bif Nat.blt y 2 then (bif Nat.blt y 1 then (2) else (1)) else (bif Nat.blt y 3 then (1) else (2))) else (bif Nat.blt y 6 then (bif Nat.blt y 5 then (4) else (5)) else (bif Nat.blt y 7 then (1) else (2)))) else (bif Nat.blt y 12 then (bif Nat.blt y 10 then (bif Nat.blt y 9 then (5) else (1)) else (bif Nat.blt y 11 then (2) else (3))) else (bif Nat.blt y 14 then (bif Nat.blt y 13 then (2) else (3)) else (bif Nat.blt y 15 then (2) else (2))))) else (bif Nat.blt y 24 then (bif Nat.blt y 20 then (bif Nat.blt y 18 then (bif Nat.blt y 17 then (2) else (2)) else (bif Nat.blt y 19 then (2) else (5))) else (bif Nat.blt y 22 then (bif Nat.blt y 21 then (1) else (2)) else (bif Nat.blt y 23 then (2) else (7)))) else (bif Nat.blt y 28 then (bif Nat.blt y 26 then (bif Nat.blt y 25 then (5) else (2)) else (bif Nat.blt y 27 then (4) else (7))) else (bif Nat.blt y 30 then (bif Nat.blt y 29 then (5) else (3)) else (bif Nat.blt y 31 then (6) else (bif Nat.blt y 32 then (1) else (3))))))) else (bif Nat.blt y 49 then (bif Nat.blt y 41 then (bif Nat.blt y 37 then (bif Nat.blt y 35 then (bif Nat.blt y 34 then (8) else (5)) else (bif Nat.blt y 36 then (3) else (1))) else (bif Nat.blt y 39 then (bif Nat.blt y 38 then (2) else (3)) else (bif Nat.blt y 40 then (4) else (4)))) else (bif Nat.blt y 45 then (bif Nat.blt y 43 then (bif Nat.blt y 42 then (3) else (4)) else (bif Nat.blt y 44 then (7) else (3))) else (bif Nat.blt y 47 then (bif Nat.blt y 46 then (4) else (4)) else (bif Nat.blt y 48 then (6) else (7))))) else (bif Nat.blt y 57 then (bif Nat.blt y 53 then (bif Nat.blt y 51 then (bif Nat.blt y 50 then (4) else (6)) else (bif Nat.blt y 52 then (3) else (6))) else (bif Nat.blt y 55 then (bif Nat.blt y 54 then (3) else (2)) else (bif Nat.blt y 56 then (3) else (8)))) else (bif Nat.blt y 61 then (bif Nat.blt y 59 then (bif Nat.blt y 58 then (6) else (9)) else (bif Nat.blt y 60 then (7) else (4))) else (bif Nat.blt y 63 then (bif Nat.blt y 62 then (7) else (2)) else (bif Nat.blt y 64 then (2) else (bif Nat.blt y 65 then (2) else (2)))))))) else (bif Nat.blt y 99 then (bif Nat.blt y 82 then (bif Nat.blt y 74 then (bif Nat.blt y 70 then (bif Nat.blt y 68 then (bif Nat.blt y 67 then (2) else (4)) else (bif Nat.blt y 69 then (5) else (3))) else (bif Nat.blt y 72 then (bif Nat.blt y 71 then (1) else (1)) else (bif Nat.blt y 73 then (3) else (2)))) else (bif Nat.blt y 78 then (bif Nat.blt y 76 then (bif Nat.blt y 75 then (5) else (3)) else (bif Nat.blt y 77 then (4) else (4))) else (bif Nat.blt y 80 then (bif Nat.blt y 79 then (3) else (2)) else (bif Nat.blt y 81 then (3) else (4))))) else (bif Nat.blt y 90 then (bif Nat.blt y 86 then (bif Nat.blt y 84 then (bif Nat.blt y 83 then (2) else (6)) else (bif Nat.blt y 85 then (7) else (7))) else (bif Nat.blt y 88 then (bif Nat.blt y 87 then (4) else (10)) else (bif Nat.blt y 89 then (5) else (4)))) else (bif Nat.blt y 94 then (bif Nat.blt y 92 then (bif Nat.blt y 91 then (6) else (5)) else (bif Nat.blt y 93 then (8) else (4))) else (bif Nat.blt y 96 then (bif Nat.blt y 95 then (3) else (3)) else (bif Nat.blt y 97 then (4) else (bif Nat.blt y 98 then (4) else (4))))))) else (bif Nat.blt y 115 then (bif Nat.blt y 107 then (bif Nat.blt y 103 then (bif Nat.blt y 101 then (bif Nat.blt y 100 then (2) else (4)) else (bif Nat.blt y 102 then (7) else (6))) else (bif Nat.blt y 105 then (bif Nat.blt y 104 then (3) else (4)) else (bif Nat.blt y 106 then (5) else (5)))) else (bif Nat.blt y 111 then (bif Nat.blt y 109 then (bif Nat.blt y 108 then (6) else (1)) else (bif Nat.blt y 110 then (2) else (3))) else (bif Nat.blt y 113 then (bif Nat.blt y 112 then (1) else (6)) else (bif Nat.blt y 114 then (4) else (5))))) else (bif Nat.blt y 123 then (bif Nat.blt y 119 then (bif Nat.blt y 117 then (bif Nat.blt y 116 then (2) else (8)) else (bif Nat.blt y 118 then (1) else (2))) else (bif Nat.blt y 121 then (bif Nat.blt y 120 then (9) else (1)) else (bif Nat.blt y 122 then (6) else (2)))) else (bif Nat.blt y 127 then (bif Nat.blt y 125 then (bif Nat.blt y 124 then (3) else (3)) else (bif Nat.blt y 126 then (2) else (2))) else (bif Nat.blt y 129 then (bif Nat.blt y 128 then (2) else (1)) else (bif Nat.blt y 130 then (6) else (bif Nat.blt y 131 then (2) else (2))))))))) else (bif Nat.blt y 198 then (bif Nat.blt y 165 then (bif Nat.blt y 148 then (bif Nat.blt y 140 then (bif Nat.blt y 136 then (bif Nat.blt y 134 then (bif Nat.blt y 133 then (2) else (2)) else (bif Nat.blt y 135 then (1) else (3))) else (bif Nat.blt y 138 then (bif Nat.blt y 137 then (2) else (3)) else (bif Nat.blt y 139 then (4) else (3)))) else (bif Nat.blt y 144 then (bif Nat.blt y 142 then (bif Nat.blt y 141 then (2) else (3)) else (bif Nat.blt y 143 then (1) else (2))) else (bif Nat.blt y 146 then (bif Nat.blt y 145 then (3) else (1)) else (bif Nat.blt y 147 then (1) else (1))))) else (bif Nat.blt y 156 then (bif Nat.blt y 152 then (bif Nat.blt y 150 then (bif Nat.blt y 149 then (1) else (1)) else (bif Nat.blt y 151 then (1) else (6))) else (bif Nat.blt y 154 then (bif Nat.blt y 153 then (2) else (1)) else (bif Nat.blt y 155 then (8) else (2)))) else (bif Nat.blt y 160 then (bif Nat.blt y 158 then (bif Nat.blt y 157 then (6) else (3)) else (bif Nat.blt y 159 then (1) else (2))) else (bif Nat.blt y 162 then (bif Nat.blt y 161 then (3) else (3)) else (bif Nat.blt y 163 then (3) else (bif Nat.blt y 164 then (3) else (5))))))) else (bif Nat.blt y 181 then (bif Nat.blt y 173 then (bif Nat.blt y 169 then (bif Nat.blt y 167 then (bif Nat.blt y 166 then (1) else (3)) else (bif Nat.blt y 168 then (2) else (11))) else (bif Nat.blt y 171 then (bif Nat.blt y 170 then (5) else (1)) else (bif Nat.blt y 172 then (6) else (4)))) else (bif Nat.blt y 177 then (bif Nat.blt y 175 then (bif Nat.blt y 174 then (2) else (4)) else (bif Nat.blt y 176 then (2) else (6))) else (bif Nat.blt y 179 then (bif Nat.blt y 178 then (2) else (4)) else (bif Nat.blt y 180 then (7) else (3))))) else (bif Nat.blt y 189 then (bif Nat.blt y 185 then (bif Nat.blt y 183 then (bif Nat.blt y 182 then (1) else (3)) else (bif Nat.blt y 184 then (7) else (12))) else (bif Nat.blt y 187 then (bif Nat.blt y 186 then (3) else (2)) else (bif Nat.blt y 188 then (4) else (1)))) else (bif Nat.blt y 193 then (bif Nat.blt y 191 then (bif Nat.blt y 190 then (3) else (3)) else (bif Nat.blt y 192 then (1) else (1))) else (bif Nat.blt y 195 then (bif Nat.blt y 194 then (3) else (2)) else (bif Nat.blt y 196 then (4) else (bif Nat.blt y 197 then (9) else (2)))))))) else (bif Nat.blt y 231 then (bif Nat.blt y 214 then (bif Nat.blt y 206 then (bif Nat.blt y 202 then (bif Nat.blt y 200 then (bif Nat.blt y 199 then (2) else (2)) else (bif Nat.blt y 201 then (1) else (1))) else (bif Nat.blt y 204 then (bif Nat.blt y 203 then (3) else (3)) else (bif Nat.blt y 205 then (1) else (1)))) else (bif Nat.blt y 210 then (bif Nat.blt y 208 then (bif Nat.blt y 207 then (1) else (5)) else (bif Nat.blt y 209 then (1) else (1))) else (bif Nat.blt y 212 then (bif Nat.blt y 211 then (1) else (2)) else (bif Nat.blt y 213 then (3) else (2))))) else (bif Nat.blt y 222 then (bif Nat.blt y 218 then (bif Nat.blt y 216 then (bif Nat.blt y 215 then (2) else (5)) else (bif Nat.blt y 217 then (10) else (8))) else (bif Nat.blt y 220 then (bif Nat.blt y 219 then (7) else (4)) else (bif Nat.blt y 221 then (5) else (3)))) else (bif Nat.blt y 226 then (bif Nat.blt y 224 then (bif Nat.blt y 223 then (3) else (5)) else (bif Nat.blt y 225 then (3) else (2))) else (bif Nat.blt y 228 then (bif Nat.blt y 227 then (2) else (1)) else (bif Nat.blt y 229 then (3) else (bif Nat.blt y 230 then (2) else (3))))))) else (bif Nat.blt y 248 then (bif Nat.blt y 239 then (bif Nat.blt y 235 then (bif Nat.blt y 233 then (bif Nat.blt y 232 then (7) else (3)) else (bif Nat.blt y 234 then (2) else (4))) else (bif Nat.blt y 237 then (bif Nat.blt y 236 then (1) else (5)) else (bif Nat.blt y 238 then (4) else (8)))) else (bif Nat.blt y 243 then (bif Nat.blt y 241 then (bif Nat.blt y 240 then (9) else (8)) else (bif Nat.blt y 242 then (3) else (7))) else (bif Nat.blt y 245 then (bif Nat.blt y 244 then (2) else (8)) else (bif Nat.blt y 246 then (4) else (bif Nat.blt y 247 then (7) else (2)))))) else (bif Nat.blt y 256 then (bif Nat.blt y 252 then (bif Nat.blt y 250 then (bif Nat.blt y 249 then (8) else (3)) else (bif Nat.blt y 251 then (3) else (3))) else (bif Nat.blt y 254 then (bif Nat.blt y 253 then (11) else (5)) else (bif Nat.blt y 255 then (2) else (2)))) else (bif Nat.blt y 260 then (bif Nat.blt y 258 then (bif Nat.blt y 257 then (8) else (2)) else (bif Nat.blt y 259 then (2) else (3))) else (bif Nat.blt y 262 then (bif Nat.blt y 261 then (4) else (5)) else (bif Nat.blt y 263 then (5) else (bif Nat.blt y 264 then (5) else (4)))))))))
def am_mp_0 : List (Nat × Nat × Nat × Nat × Nat) := [(2, 280, 137, 279, 0), (0, 914, 137, 912, 913), (0, 937, 137, 935, 936), (0, 929, 137, 927, 928), (0, 924, 137, 922, 923), (0, 1039, 137, 1037, 1038), (0, 957, 137, 955, 956), (0, 963, 137, 961, 962), (0, 971, 137, 969, 970), (2, 335, 139, 334, 0), (0, 986, 139, 984, 985), (0, 1047, 139, 1045, 1046), (0, 1107, 139, 1105, 1106), (0, 1111, 139, 1110, 51), (2, 161, 131, 160, 0), (0, 624, 131, 622, 623), (0, 605, 131, 603, 604), (0, 597, 131, 595, 596), (0, 593, 131, 591, 592), (0, 616, 131, 614, 615), (0, 898, 131, 896, 897), (2, 218, 136, 217, 0), (0, 1007, 136, 1005, 1006), (0, 1016, 136, 1014, 1015), (0, 1211, 136, 1209, 1210), (2, 303, 138, 302, 0), (0, 990, 138, 988, 989), (0, 996, 138, 995, 38), (0, 1002, 138, 1001, 39), (1, 1011, 138, 1010, 0), (0, 1021, 138, 1020, 40), (0, 1025, 138, 1024, 41), (0, 1030, 138, 1029, 42), (0, 1034, 138, 1033, 43), (0, 1043, 138, 1042, 44), (2, 426, 141, 425, 0), (0, 813, 141, 811, 812), (0, 818, 141, 816, 817), (0, 880, 141, 878, 879), (0, 823, 141, 821, 822), (0, 827, 141, 826, 16), (0, 835, 141, 834, 18), (0, 831, 141, 830, 17), (0, 839, 141, 838, 19), (0, 843, 141, 842, 20), (0, 847, 141, 846, 21), (1, 850, 141, 849, 0), (0, 854, 141, 853, 22), (0, 860, 141, 859, 23), (0, 864, 141, 863, 24), (0, 870, 141, 869, 25), (2, 467, 142, 466, 0), (0, 708, 142, 706, 707), (0, 719, 142, 717, 718), (1, 715, 142, 714, 0), (0, 723, 142, 722, 1), (0, 728, 142, 727, 2), (0, 732, 142, 731, 3), (0, 736, 142, 735, 4), (0, 741, 142, 740, 5)]
def am_mp_1 : List (Nat × Nat × Nat × Nat × Nat) := [(0, 749, 142, 748, 7), (0, 745, 142, 744, 6), (2, 211, 135, 210, 0), (0, 1065, 135, 1063, 1064), (0, 1069, 135, 1067, 1068), (0, 1089, 135, 1087, 1088), (0, 1099, 135, 1097, 1098), (0, 1093, 135, 1091, 1092), (2, 205, 134, 204, 0), (0, 906, 134, 904, 905), (0, 910, 134, 909, 28), (0, 1172, 134, 1171, 58), (0, 920, 134, 919, 29), (0, 933, 134, 932, 30), (0, 941, 134, 940, 31), (0, 967, 134, 966, 35), (0, 953, 134, 952, 34), (0, 945, 134, 944, 32), (0, 949, 134, 948, 33), (0, 1123, 134, 1122, 52), (0, 982, 134, 981, 37), (0, 978, 134, 977, 36), (0, 1057, 134, 1056, 45), (0, 1061, 134, 1060, 46), (0, 1075, 134, 1074, 47), (0, 1081, 134, 1080, 48), (0, 1085, 134, 1084, 49), (0, 1103, 134, 1102, 50), (0, 1127, 134, 1126, 53), (0, 1151, 134, 1150, 54), (0, 1155, 134, 1154, 55), (0, 1159, 134, 1158, 56), (0, 1164, 134, 1163, 57), (2, 420, 140, 419, 0), (0, 696, 140, 694, 695), (0, 893, 140, 892, 27), (0, 704, 140, 703, 0), (0, 753, 140, 752, 8), (0, 762, 140, 761, 10), (0, 757, 140, 756, 9), (0, 766, 140, 765, 11), (0, 801, 140, 800, 14), (0, 773, 140, 772, 12), (0, 777, 140, 776, 13), (1, 785, 140, 784, 0), (1, 790, 140, 789, 0), (0, 809, 140, 808, 15), (0, 884, 140, 883, 26), (2, 191, 133, 190, 0), (0, 636, 133, 634, 635), (0, 650, 133, 648, 649), (0, 654, 133, 652, 653), (0, 640, 133, 638, 639), (0, 805, 133, 803, 804), (0, 665, 133, 663, 664), (1, 680, 133, 679, 0), (0, 670, 133, 668, 669), (1, 683, 133, 682, 0), (1, 677, 133, 676, 0), (0, 688, 133, 686, 687)]
def am_mp_2 : List (Nat × Nat × Nat × Nat × Nat) := [(2, 153, 130, 152, 0), (0, 589, 130, 587, 588), (0, 601, 130, 599, 600), (0, 612, 130, 610, 611), (0, 620, 130, 618, 619), (0, 628, 130, 626, 627), (0, 632, 130, 630, 631), (0, 646, 130, 644, 645), (0, 661, 130, 659, 660), (0, 674, 130, 672, 673), (0, 692, 130, 690, 691), (0, 902, 130, 900, 901), (0, 1176, 130, 1174, 1175), (0, 1181, 130, 1179, 1180), (0, 1185, 130, 1183, 1184), (0, 1189, 130, 1187, 1188), (0, 1194, 130, 1192, 1193), (0, 1198, 130, 1196, 1197), (0, 1204, 130, 1202, 1203), (0, 1215, 130, 1213, 1214), (0, 1219, 130, 1217, 1218), (1, 780, 130, 779, 0), (1, 769, 130, 768, 0), (1, 797, 130, 796, 0), (1, 1131, 130, 1130, 0), (1, 1134, 130, 1133, 0), (1, 1137, 130, 1136, 0), (1, 1140, 130, 1139, 0), (1, 1143, 130, 1142, 0), (1, 1146, 130, 1145, 0), (2, 1267, 147, 1266, 0), (1, 1505, 143, 1504, 0), (0, 1583, 143, 1582, 70), (2, 1224, 143, 1223, 0), (0, 1497, 143, 1495, 1496), (0, 1501, 143, 1499, 1500), (0, 1509, 143, 1507, 1508), (0, 1514, 143, 1512, 1513), (0, 1523, 143, 1522, 61), (0, 1519, 143, 1517, 1518), (0, 1533, 143, 1532, 62), (0, 1527, 143, 1525, 1526), (0, 1541, 143, 1540, 63), (0, 1537, 143, 1535, 1536), (0, 1549, 143, 1548, 64), (0, 1545, 143, 1543, 1544), (0, 1777, 143, 1776, 104), (0, 1563, 143, 1562, 66), (0, 1559, 143, 1558, 65), (0, 1554, 143, 1552, 1553), (0, 1696, 143, 1695, 94), (0, 1669, 143, 1668, 89), (0, 1644, 143, 1643, 85), (0, 1579, 143, 1578, 69), (0, 1575, 143, 1574, 68), (0, 1604, 143, 1603, 75), (0, 1678, 143, 1677, 91), (1, 1651, 143, 1650, 0), (0, 1640, 143, 1639, 84), (0, 1648, 143, 1647, 86)]
def am_mp_3 : List (Nat × Nat × Nat × Nat × Nat) := [(1, 1654, 143, 1653, 0), (1, 1665, 143, 1664, 0), (0, 1662, 143, 1661, 88), (0, 1658, 143, 1657, 87), (0, 1673, 143, 1672, 90), (0, 1595, 143, 1594, 73), (0, 1726, 143, 1725, 97), (0, 1591, 143, 1590, 72), (0, 1296, 143, 1295, 60), (0, 1781, 143, 1780, 105), (0, 1636, 143, 1635, 83), (1, 1685, 143, 1684, 0), (1, 1688, 143, 1687, 0), (0, 1682, 143, 1681, 92), (0, 1632, 143, 1631, 82), (0, 1704, 143, 1703, 96), (0, 1692, 143, 1691, 93), (0, 1628, 143, 1627, 81), (0, 1624, 143, 1623, 80), (0, 1700, 143, 1699, 95), (1, 1716, 143, 1715, 0), (1, 1722, 143, 1721, 0), (1, 1713, 143, 1712, 0), (1, 1719, 143, 1718, 0), (1, 1707, 143, 1706, 0), (1, 1710, 143, 1709, 0), (1, 1748, 143, 1747, 0), (1, 1753, 143, 1752, 0), (1, 1741, 143, 1740, 0), (1, 1756, 143, 1755, 0), (1, 1761, 143, 1760, 0), (0, 1738, 143, 1737, 100), (0, 1734, 143, 1733, 99), (0, 1616, 143, 1615, 78), (0, 1730, 143, 1729, 98), (0, 1769, 143, 1768, 102), (0, 1620, 143, 1619, 79), (0, 1765, 143, 1764, 101), (0, 1773, 143, 1772, 103), (0, 1587, 143, 1586, 71), (0, 1600, 143, 1599, 74), (0, 1608, 143, 1607, 76), (0, 1571, 143, 1570, 67), (0, 1612, 143, 1611, 77), (0, 1567, 143, 1565, 1566), (0, 1785, 143, 1783, 1784), (0, 1789, 143, 1787, 1788), (0, 1793, 143, 1791, 1792), (0, 1797, 143, 1795, 1796), (0, 1802, 143, 1800, 1801), (0, 1807, 143, 1805, 1806), (0, 1811, 143, 1809, 1810), (0, 1816, 143, 1814, 1815), (0, 1820, 143, 1818, 1819), (0, 1828, 143, 1827, 106), (0, 1836, 143, 1835, 108), (0, 1919, 143, 1918, 127), (0, 1899, 143, 1898, 122), (0, 1891, 143, 1890, 120), (0, 1895, 143, 1894, 121)]
def am_mp_4 : List (Nat × Nat × Nat × Nat × Nat) := [(0, 1903, 143, 1902, 123), (0, 1911, 143, 1910, 125), (0, 1907, 143, 1906, 124), (0, 1915, 143, 1914, 126), (0, 1887, 143, 1886, 119), (0, 1848, 143, 1847, 111), (0, 1852, 143, 1851, 112), (0, 1861, 143, 1860, 114), (0, 1844, 143, 1843, 110), (1, 1872, 143, 1871, 0), (1, 1875, 143, 1874, 0), (0, 1869, 143, 1868, 116), (0, 1865, 143, 1864, 115), (0, 1857, 143, 1856, 113), (0, 1883, 143, 1882, 118), (0, 1879, 143, 1878, 117), (0, 1923, 143, 1922, 128), (0, 1832, 143, 1831, 107), (0, 1840, 143, 1839, 109), (0, 1824, 143, 1822, 1823), (1, 657, 148, 656, 0), (2, 1270, 146, 1269, 0), (2, 1273, 145, 1272, 0), (2, 1276, 144, 1275, 0), (3, 0, 0, 0, 0)]
def am_mp : List (Nat × Nat × Nat × Nat × Nat) := am_mp_0 ++ (am_mp_1 ++ (am_mp_2 ++ (am_mp_3 ++ (am_mp_4))))
end
section
/-! the heap behind the two constructors -/
def am_h0 : am_H := ((0, fun _ => (0, 0), fun _ _ => 0, fun _ _ => 0, 0, fun _ => 0), fun _ _ _ => 0, fun _ _ _ => none)
def am_h1 : am_H := am_mk am_h0 11 5
def am_okv : am_R → Bool
  | some (.inl none, _) => true
  | _ => false
def am_r1 : am_R := am_run am_ak (fun _ _ => 0) (fun _ => 0) am_code am_ml 4000 120 0 (am_ent 1 [av_r 11 0]) [] am_h1
def am_h2 : am_H := (am_r1.getD (.inl none, am_h1)).2
def am_h3 : am_H := am_mk am_h2 13 65
def am_r2 : am_R := am_run am_ak (fun _ _ => 0) (fun _ => 0) am_code am_ml 4000 153 0 (am_ent 1 [av_r 13 0]) [] am_h3
def am_h4 : am_H := (am_r2.getD (.inl none, am_h3)).2
theorem am_r1_ok : am_okv am_r1 = true := by decide +kernel
theorem am_r2_ok : am_okv am_r2 = true := by decide +kernel
/-- the lengths of the rows -/
def am_LN (t i : Nat) : Nat := bif Nat.blt t 64 then (bif Nat.blt t 42 then (bif Nat.blt t 31 then (bif Nat.blt t 25 then (bif Nat.blt t 22 then (bif Nat.blt t 21 then (bif Nat.beq t 20 then (bif Nat.blt i 1 then (bif Nat.beq i 0 then 2400 else 0) else (bif Nat.beq i 1 then 4096 else 0)) else 0) else (bif Nat.beq t 21 then (16) else 0)) else (bif Nat.blt t 23 then (bif Nat.beq t 22 then (bif Nat.blt i 72 then (bif Nat.beq (i % 3) 0 then 256 else bif Nat.beq (i % 3) 1 then 704 else 520) else bif Nat.beq i 72 then 28 else bif Nat.beq i 73 then 18 else bif Nat.beq (i % 2) 0 then 14 else 26) else 0) else (bif Nat.blt t 24 then (bif Nat.beq t 23 then (704) else 0) else (bif Nat.beq t 24 then (18) else 0)))) else (bif Nat.blt t 28 then (bif Nat.blt t 26 then (bif Nat.beq t 25 then (4) else 0) else (bif Nat.blt t 27 then (bif Nat.beq t 26 then (bif Nat.blt i 2 then (bif Nat.blt i 1 then (bif Nat.beq i 0 then 256 else 0) else (bif Nat.beq i 1 then 704 else 0)) else (bif Nat.blt i 3 then (bif Nat.beq i 2 then 64 else 0) else (bif Nat.beq i 3 then 18 else 0))) else 0) else (bif Nat.beq t 27 then (bif Nat.blt i 2 then (bif Nat.blt i 1 then (bif Nat.beq i 0 then 256 else 0) else (bif Nat.beq i 1 then 704 else 0)) else (bif Nat.blt i 3 then (bif Nat.beq i 2 then 64 else 0) else (bif Nat.beq i 3 then 18 else 0))) else 0))) else (bif Nat.blt t 29 then (bif Nat.beq t 28 then (bif Nat.blt i 2 then (bif Nat.blt i 1 then (bif Nat.beq i 0 then 256 else 0) else (bif Nat.beq i 1 then 704 else 0)) else (bif Nat.blt i 3 then (bif Nat.beq i 2 then 64 else 0) else (bif Nat.beq i 3 then 18 else 0))) else 0) else (bif Nat.blt t 30 then (bif Nat.beq t 29 then (bif Nat.blt i 2 then (bif Nat.blt i 1 then (bif Nat.beq i 0 then 256 else 0) else (bif Nat.beq i 1 then 704 else 0)) else (bif Nat.blt i 3 then (bif Nat.beq i 2 then 64 else 0) else (bif Nat.beq i 3 then 18 else 0))) else 0) else (bif Nat.beq t 30 then (bif Nat.blt i 2 then (bif Nat.blt i 1 then (bif Nat.beq i 0 then 256 else 0) else (bif Nat.beq i 1 then 704 else 0)) else (bif Nat.blt i 3 then (bif Nat.beq i 2 then 64 else 0) else (bif Nat.beq i 3 then 18 else 0))) else 0))))) else (bif Nat.blt t 36 then (bif Nat.blt t 33 then (bif Nat.blt t 32 then (bif Nat.beq t 31 then (bif Nat.blt i 2 then (bif Nat.blt i 1 then (bif Nat.beq i 0 then 256 else 0) else (bif Nat.beq i 1 then 704 else 0)) else (bif Nat.blt i 3 then (bif Nat.beq i 2 then 64 else 0) else (bif Nat.beq i 3 then 18 else 0))) else 0) else (bif Nat.beq t 32 then (bif Nat.blt i 2 then (bif Nat.blt i 1 then (bif Nat.beq i 0 then 512 else 0) else (bif Nat.beq i 1 then 1408 else 0)) else (bif Nat.blt i 3 then (bif Nat.beq i 2 then 128 else 0) else (bif Nat.beq i 3 then 36 else 0))) else 0)) else (bif Nat.blt t 34 then (bif Nat.beq t 33 then (bif Nat.blt i 2 then (bif Nat.blt i 1 then (bif Nat.beq i 0 then 512 else 0) else (bif Nat.beq i 1 then 1408 else 0)) else (bif Nat.blt i 3 then (bif Nat.beq i 2 then 128 else 0) else (bif Nat.beq i 3 then 36 else 0))) else 0) else (bif Nat.blt t 35 then (bif Nat.beq t 34 then (bif Nat.blt i 2 then (bif Nat.blt i 1 then (bif Nat.beq i 0 then 512 else 0) else (bif Nat.beq i 1 then 1408 else 0)) else (bif Nat.blt i 3 then (bif Nat.beq i 2 then 128 else 0) else (bif Nat.beq i 3 then 36 else 0))) else 0) else (bif Nat.beq t 35 then (2000) else 0)))) else (bif Nat.blt t 39 then (bif Nat.blt t 37 then (bif Nat.beq t 36 then (2000) else 0) else (bif Nat.blt t 38 then (bif Nat.beq t 37 then (2000) else 0) else (bif Nat.beq t 38 then (2000) else 0))) else (bif Nat.blt t 40 then (bif Nat.beq t 39 then (1024) else 0) else (bif Nat.blt t 41 then (bif Nat.beq t 40 then (2000) else 0) else (bif Nat.beq t 41 then (256) else 0)))))) else (bif Nat.blt t 53 then (bif Nat.blt t 47 then (bif Nat.blt t 44 then (bif Nat.blt t 43 then (bif Nat.beq t 42 then (1344) else 0) else (bif Nat.beq t 43 then (3) else 0)) else (bif Nat.blt t 45 then (bif Nat.beq t 44 then (2) else 0) else (bif Nat.blt t 46 then (bif Nat.beq t 45 then (12) else 0) else (bif Nat.beq t 46 then (768) else 0)))) else (bif Nat.blt t 50 then (bif Nat.blt t 48 then (bif Nat.beq t 47 then (48) else 0) else (bif Nat.blt t 49 then (bif Nat.beq t 48 then (12) else 0) else (bif Nat.beq t 49 then (12) else 0))) else (bif Nat.blt t 51 then (bif Nat.beq t 50 then (12) else 0) else (bif Nat.blt t 52 then (bif Nat.beq t 51 then (4) else 0) else (bif Nat.beq t 52 then (720) else 0))))) else (bif Nat.blt t 58 then (bif Nat.blt t 55 then (bif Nat.blt t 54 then (bif Nat.beq t 53 then (12) else 0) else (bif Nat.beq t 54 then (3) else 0)) else (bif Nat.blt t 56 then (bif Nat.beq t 55 then (501) else 0) else (bif Nat.blt t 57 then (bif Nat.beq t 56 then (501) else 0) else (bif Nat.beq t 57 then (501) else 0)))) else (bif Nat.blt t 61 then (bif Nat.blt t 59 then (bif Nat.beq t 58 then (501) else 0) else (bif Nat.blt t 60 then (bif Nat.beq t 59 then (501) else 0) else (bif Nat.beq t 60 then (501) else 0))) else (bif Nat.blt t 62 then (bif Nat.beq t 61 then (2000) else 0) else (bif Nat.blt t 63 then (bif Nat.beq t 62 then (2001) else 0) else (bif Nat.beq t 63 then (4) else 0))))))) else (bif Nat.blt t 86 then (bif Nat.blt t 75 then (bif Nat.blt t 69 then (bif Nat.blt t 66 then (bif Nat.blt t 65 then (bif Nat.beq t 64 then (2240) else 0) else (bif Nat.beq t 65 then (11) else 0)) else (bif Nat.blt t 67 then (bif Nat.beq t 66 then (2440) else 0) else (bif Nat.blt t 68 then (bif Nat.beq t 67 then (9000) else 0) else (bif Nat.beq t 68 then (2240) else 0)))) else (bif Nat.blt t 72 then (bif Nat.blt t 70 then (bif Nat.beq t 69 then (11) else 0) else (bif Nat.blt t 71 then (bif Nat.beq t 70 then (20) else 0) else (bif Nat.beq t 71 then (18000) else 0))) else (bif Nat.blt t 73 then (bif Nat.beq t 72 then (18000) else 0) else (bif Nat.blt t 74 then (bif Nat.beq t 73 then (18000) else 0) else (bif Nat.beq t 74 then (2440) else 0))))) else (bif Nat.blt t 80 then (bif Nat.blt t 77 then (bif Nat.blt t 76 then (bif Nat.beq t 75 then (4) else 0) else (bif Nat.beq t 76 then (720) else 0)) else (bif Nat.blt t 78 then (bif Nat.beq t 77 then (4) else 0) else (bif Nat.blt t 79 then (bif Nat.beq t 78 then (3) else 0) else (bif Nat.beq t 79 then (3) else 0)))) else (bif Nat.blt t 83 then (bif Nat.blt t 81 then (bif Nat.beq t 80 then (3) else 0) else (bif Nat.blt t 82 then (bif Nat.beq t 81 then (3) else 0) else (bif Nat.beq t 82 then (12) else 0))) else (bif Nat.blt t 84 then (bif Nat.beq t 83 then (768) else 0) else (bif Nat.blt t 85 then (bif Nat.beq t 84 then (48) else 0) else (bif Nat.beq t 85 then (3) else 0)))))) else (bif Nat.blt t 97 then (bif Nat.blt t 91 then (bif Nat.blt t 88 then (bif Nat.blt t 87 then (bif Nat.beq t 86 then (18000) else 0) else (bif Nat.beq t 87 then (768) else 0)) else (bif Nat.blt t 89 then (bif Nat.beq t 88 then (48) else 0) else (bif Nat.blt t 90 then (bif Nat.beq t 89 then (12) else 0) else (bif Nat.beq t 90 then (1500) else 0)))) else (bif Nat.blt t 94 then (bif Nat.blt t 92 then (bif Nat.beq t 91 then (1500) else 0) else (bif Nat.blt t 93 then (bif Nat.beq t 92 then (1500) else 0) else (bif Nat.beq t 93 then (1024) else 0))) else (bif Nat.blt t 95 then (bif Nat.beq t 94 then (1024) else 0) else (bif Nat.blt t 96 then (bif Nat.beq t 95 then (1024) else 0) else (bif Nat.beq t 96 then (2001) else 0))))) else (bif Nat.blt t 102 then (bif Nat.blt t 99 then (bif Nat.blt t 98 then (bif Nat.beq t 97 then (2001) else 0) else (bif Nat.beq t 98 then (2001) else 0)) else (bif Nat.blt t 100 then (bif Nat.beq t 99 then (2001) else 0) else (bif Nat.blt t 101 then (bif Nat.beq t 100 then (2001) else 0) else (bif Nat.beq t 101 then (2001) else 0)))) else (bif Nat.blt t 105 then (bif Nat.blt t 103 then (bif Nat.beq t 102 then (2001) else 0) else (bif Nat.blt t 104 then (bif Nat.beq t 103 then (2001) else 0) else (bif Nat.beq t 104 then (8100) else 0))) else (bif Nat.blt t 106 then (bif Nat.beq t 105 then (2100) else 0) else (bif Nat.blt t 107 then (bif Nat.beq t 106 then (2100) else 0) else (bif Nat.beq t 107 then (4) else 0)))))))
/-- the references; b: told and coming have changed places -/
def am_RB (b : Bool) (t i j : Nat) : Option (Nat × Nat) := bif Nat.blt t 9 then (bif Nat.blt t 4 then (bif Nat.blt t 2 then (bif Nat.blt t 1 then (bif Nat.beq t 0 then (bif Nat.beq j 0 then some (2, 0) else none) else none) else (bif Nat.beq t 1 then (bif Nat.blt j 1 then (bif Nat.beq j 0 then some (3, 74 + 2 * i) else none) else (bif Nat.beq j 1 then some (3, 75 + 2 * i) else none)) else none)) else (bif Nat.blt t 3 then (bif Nat.beq t 2 then (bif Nat.beq j 0 then some (20, i) else none) else none) else (bif Nat.beq t 3 then (bif Nat.blt j 1 then (bif Nat.beq j 0 then some (22, i) else none) else (bif Nat.beq j 1 then some (21, i) else none)) else none))) else (bif Nat.blt t 6 then (bif Nat.blt t 5 then (bif Nat.beq t 4 then (bif Nat.blt j 2 then (bif Nat.blt j 1 then (bif Nat.beq j 0 then some (0, 0) else none) else (bif Nat.beq j 1 then some (23, 0) else none)) else (bif Nat.blt j 3 then (bif Nat.beq j 2 then some (24, 0) else none) else (bif Nat.blt j 4 then (bif Nat.beq j 3 then some (25, 0) else none) else (bif Nat.beq j 4 then some (3, 73) else none)))) else none) else (bif Nat.beq t 5 then (bif Nat.blt j 4 then (bif Nat.blt j 2 then (bif Nat.blt j 1 then (bif Nat.beq j 0 then some (26, i) else none) else (bif Nat.beq j 1 then some (27, i) else none)) else (bif Nat.blt j 3 then (bif Nat.beq j 2 then some (28, i) else none) else (bif Nat.beq j 3 then some (29, i) else none))) else (bif Nat.blt j 6 then (bif Nat.blt j 5 then (bif Nat.beq j 4 then some (30, i) else none) else (bif Nat.beq j 5 then some (31, i) else none)) else (bif Nat.blt j 7 then (bif Nat.beq j 6 then some (32, i) else none) else (bif Nat.blt j 8 then (bif Nat.beq j 7 then some (33, i) else none) else (bif Nat.beq j 8 then some (34, i) else none))))) else none)) else (bif Nat.blt t 7 then (bif Nat.beq t 6 then (bif Nat.blt j 5 then (bif Nat.blt j 2 then (bif Nat.blt j 1 then (bif Nat.beq j 0 then some (35, 0) else none) else (bif Nat.beq j 1 then some (36, 0) else none)) else (bif Nat.blt j 3 then (bif Nat.beq j 2 then some (37, 0) else none) else (bif Nat.blt j 4 then (bif Nat.beq j 3 then some (38, 0) else none) else (bif Nat.beq j 4 then some (2, 0) else none)))) else (bif Nat.blt j 7 then (bif Nat.blt j 6 then (bif Nat.beq j 5 then some (10, 0) else none) else (bif Nat.beq j 6 then some (39, 0) else none)) else (bif Nat.blt j 8 then (bif Nat.beq j 7 then some (40, 0) else none) else (bif Nat.blt j 9 then (bif Nat.beq j 8 then some (41, 0) else none) else (bif Nat.beq j 9 then some (42, 0) else none))))) else none) else (bif Nat.blt t 8 then (bif Nat.beq t 7 then (bif Nat.blt j 4 then (bif Nat.blt j 2 then (bif Nat.blt j 1 then (bif Nat.beq j 0 then some (43, i) else none) else (bif Nat.beq j 1 then some (44, i) else none)) else (bif Nat.blt j 3 then (bif Nat.beq j 2 then some (45, i) else none) else (bif Nat.beq j 3 then some (46, i) else none))) else (bif Nat.blt j 6 then (bif Nat.blt j 5 then (bif Nat.beq j 4 then some (47, i) else none) else (bif Nat.beq j 5 then some (48, i) else none)) else (bif Nat.blt j 7 then (bif Nat.beq j 6 then some (49, i) else none) else (bif Nat.beq j 7 then some (50, i) else none)))) else none) else (bif Nat.beq t 8 then (bif Nat.blt j 7 then (bif Nat.blt j 2 then (bif Nat.blt j 1 then (bif Nat.beq j 0 then some (0, 0) else none) else (bif Nat.beq j 1 then some (51, 0) else none)) else (bif Nat.blt j 4 then (bif Nat.beq j 2 then some (52, 0) else none) else (bif Nat.blt j 6 then (bif Nat.beq j 4 then some (7, bif b then 1 else 0) else none) else (bif Nat.beq j 6 then some (7, bif b then 0 else 1) else none)))) else (bif Nat.blt j 10 then (bif Nat.blt j 8 then (bif Nat.beq j 7 then some (2, 1) else none) else (bif Nat.blt j 9 then (bif Nat.beq j 8 then some (10, 0) else none) else (bif Nat.beq j 9 then some (4, 0) else none))) else (bif Nat.blt j 11 then (bif Nat.beq j 10 then some (3, 72) else none) else (bif Nat.blt j 12 then (bif Nat.beq j 11 then some (53, 0) else none) else (bif Nat.beq j 12 then some (54, 0) else none))))) else none))))) else (bif Nat.blt t 13 then (bif Nat.blt t 11 then (bif Nat.blt t 10 then (bif Nat.beq t 9 then (bif Nat.blt j 9 then (bif Nat.blt j 5 then (bif Nat.blt j 2 then (bif Nat.blt j 1 then (bif Nat.beq j 0 then some (55, 0) else none) else (bif Nat.beq j 1 then some (56, 0) else none)) else (bif Nat.blt j 3 then (bif Nat.beq j 2 then some (57, 0) else none) else (bif Nat.beq j 3 then some (58, 0) else none))) else (bif Nat.blt j 7 then (bif Nat.blt j 6 then (bif Nat.beq j 5 then some (59, 0) else none) else (bif Nat.beq j 6 then some (60, 0) else none)) else (bif Nat.blt j 8 then (bif Nat.beq j 7 then some (61, 0) else none) else (bif Nat.beq j 8 then some (62, 0) else none)))) else (bif Nat.blt j 13 then (bif Nat.blt j 11 then (bif Nat.blt j 10 then (bif Nat.beq j 9 then some (63, 0) else none) else (bif Nat.beq j 10 then some (2, 0) else none)) else (bif Nat.blt j 12 then (bif Nat.beq j 11 then some (2, 1) else none) else (bif Nat.beq j 12 then some (10, 0) else none))) else (bif Nat.blt j 15 then (bif Nat.blt j 14 then (bif Nat.beq j 13 then some (6, 0) else none) else (bif Nat.beq j 14 then some (5, 0) else none)) else (bif Nat.blt j 16 then (bif Nat.beq j 15 then some (5, 1) else none) else (bif Nat.blt j 17 then (bif Nat.beq j 16 then some (5, 2) else none) else (bif Nat.beq j 17 then some (5, 3) else none)))))) else none) else (bif Nat.beq t 10 then (bif Nat.blt j 1 then (bif Nat.beq j 0 then some (64, 0) else none) else (bif Nat.beq j 1 then some (65, 0) else none)) else none)) else (bif Nat.blt t 12 then (bif Nat.beq t 11 then (bif Nat.blt j 2 then (bif Nat.blt j 1 then (bif Nat.beq j 0 then some (2, 0) else none) else (bif Nat.beq j 1 then some (2, 1) else none)) else (bif Nat.blt j 3 then (bif Nat.beq j 2 then some (10, 0) else none) else (bif Nat.blt j 4 then (bif Nat.beq j 3 then some (8, 0) else none) else (bif Nat.beq j 4 then some (9, 0) else none)))) else none) else (bif Nat.beq t 12 then (none) else none))) else (bif Nat.blt t 49 then (bif Nat.blt t 48 then (bif Nat.beq t 13 then (bif Nat.blt j 38 then (bif Nat.blt j 17 then (bif Nat.blt j 9 then (bif Nat.blt j 5 then (bif Nat.blt j 2 then (bif Nat.beq j 1 then some (12, 0) else none) else (bif Nat.beq j 2 then some (66, 0) else none)) else (bif Nat.blt j 7 then (bif Nat.beq j 5 then some (67, 0) else none) else (bif Nat.blt j 8 then (bif Nat.beq j 7 then some (68, 0) else none) else (bif Nat.beq j 8 then some (69, 0) else none)))) else (bif Nat.blt j 12 then (bif Nat.blt j 11 then (bif Nat.beq j 9 then some (70, 0) else none) else (bif Nat.beq j 11 then some (71, 0) else none)) else (bif Nat.blt j 13 then (bif Nat.beq j 12 then some (72, 0) else none) else (bif Nat.blt j 14 then (bif Nat.beq j 13 then some (73, 0) else none) else (bif Nat.beq j 14 then some (74, 0) else none))))) else (bif Nat.blt j 26 then (bif Nat.blt j 21 then (bif Nat.blt j 18 then (bif Nat.beq j 17 then some (75, 0) else none) else (bif Nat.beq j 18 then some (76, 0) else none)) else (bif Nat.blt j 24 then (bif Nat.beq j 21 then some (77, 0) else none) else (bif Nat.blt j 25 then (bif Nat.beq j 24 then some (78, 0) else none) else (bif Nat.beq j 25 then some (79, 0) else none)))) else (bif Nat.blt j 31 then (bif Nat.blt j 27 then (bif Nat.beq j 26 then some (80, 0) else none) else (bif Nat.blt j 28 then (bif Nat.beq j 27 then some (81, 0) else none) else (bif Nat.beq j 28 then some (82, 0) else none))) else (bif Nat.blt j 32 then (bif Nat.beq j 31 then some (83, 0) else none) else (bif Nat.blt j 34 then (bif Nat.beq j 32 then some (84, 0) else none) else (bif Nat.beq j 34 then some (85, 0) else none)))))) else (bif Nat.blt j 52 then (bif Nat.blt j 45 then (bif Nat.blt j 40 then (bif Nat.blt j 39 then (bif Nat.beq j 38 then some (86, 0) else none) else (bif Nat.beq j 39 then some (87, 0) else none)) else (bif Nat.blt j 41 then (bif Nat.beq j 40 then some (88, 0) else none) else (bif Nat.blt j 44 then (bif Nat.beq j 41 then some (89, 0) else none) else (bif Nat.beq j 44 then some (90, 0) else none)))) else (bif Nat.blt j 48 then (bif Nat.blt j 46 then (bif Nat.beq j 45 then some (91, 0) else none) else (bif Nat.blt j 47 then (bif Nat.beq j 46 then some (92, 0) else none) else (bif Nat.beq j 47 then some (93, 0) else none))) else (bif Nat.blt j 49 then (bif Nat.beq j 48 then some (94, 0) else none) else (bif Nat.blt j 51 then (bif Nat.beq j 49 then some (95, 0) else none) else (bif Nat.beq j 51 then some (96, 0) else none))))) else (bif Nat.blt j 57 then (bif Nat.blt j 54 then (bif Nat.blt j 53 then (bif Nat.beq j 52 then some (97, 0) else none) else (bif Nat.beq j 53 then some (98, 0) else none)) else (bif Nat.blt j 55 then (bif Nat.beq j 54 then some (99, 0) else none) else (bif Nat.blt j 56 then (bif Nat.beq j 55 then some (100, 0) else none) else (bif Nat.beq j 56 then some (101, 0) else none)))) else (bif Nat.blt j 61 then (bif Nat.blt j 58 then (bif Nat.beq j 57 then some (102, 0) else none) else (bif Nat.blt j 60 then (bif Nat.beq j 58 then some (103, 0) else none) else (bif Nat.beq j 60 then some (104, 0) else none))) else (bif Nat.blt j 62 then (bif Nat.beq j 61 then some (105, 0) else none) else (bif Nat.blt j 64 then (bif Nat.beq j 62 then some (106, 0) else none) else (bif Nat.beq j 64 then some (107, 0) else none))))))) else none) else (bif Nat.beq t 48 then (bif Nat.blt j 12 then some (3, 36 * i + 3 * j) else none) else none)) else (bif Nat.blt t 50 then (bif Nat.beq t 49 then (bif Nat.blt j 12 then some (3, 36 * i + 3 * j + 1) else none) else none) else (bif Nat.blt t 54 then (bif Nat.beq t 50 then (bif Nat.blt j 12 then some (3, 36 * i + 3 * j + 2) else none) else none) else (bif Nat.beq t 54 then (bif Nat.blt j 3 then some (1, j) else none) else none)))))
def am_B0 : am_B := (382, ah_al am_h4, ah_ad am_h4, am_LN, 207954, am_h4.1.2.2.2.2.2)
/-- the states behind the constructors -/
def am_S (ι : Nat → Nat → Nat → Int32) (b : Bool) : am_H := (am_B0, ι, am_RB b)
def am_chkh (k : Nat) : Bool := match ah_al am_h4 k with
  | (t, i) => (bif Nat.blt t 16 then true else Nat.beq (ah_ln am_h4 t i) (am_LN t i)) && (List.range (bif Nat.blt t 16 then am_nf t else bif Nat.blt (am_ak t) 3 then 0 else am_LN t i)).all (fun j => decide (ah_R am_h4 t i j = am_RB false t i j))
theorem am_h4_n : ah_n am_h4 = 382 ∧ ah_sl am_h4 = 207954 := by decide +kernel
theorem am_h4_ok : (List.range 382).all am_chkh = true := by decide +kernel
theorem am_h4_wf : (List.range 382).all (fun k => match ah_al am_h4 k with
  | (t, i) => (List.range 66).all (fun j => match am_RB false t i j with
    | none => true
    | some r => decide (ah_ad am_h4 r.1 r.2 < 382 ∧ ah_al am_h4 (ah_ad am_h4 r.1 r.2) = r ∧ r.1 < 200))) = true := by decide +kernel
/-- what the constructors left in numbers, where it matters -/
theorem am_h4_I : ((List.range 11).all (fun j => ah_I am_h4 65 0 j == 0 && ah_I am_h4 69 0 j == 0) && (List.range 65).all (fun j => ah_I am_h4 13 0 j == (bif Nat.beq j 4 then -1 else 0)) && (List.range 3).all (fun j => ah_I am_h4 2 0 j == 0 && ah_I am_h4 2 1 j == 0)
  && ah_I am_h4 51 0 0 == 4 && ah_I am_h4 51 0 1 == 11 && ah_I am_h4 51 0 2 == 15 && ah_I am_h4 51 0 3 == 16 && ah_I am_h4 77 0 0 == 16 && ah_I am_h4 77 0 1 == 15 && ah_I am_h4 77 0 2 == 11 && ah_I am_h4 77 0 3 == 4
  && (List.range 16).all (fun j => ah_I am_h4 8 0 j == 0) && (List.range 18).all (fun j => ah_I am_h4 9 0 j == 0) && (List.range 4).all (fun j => ah_I am_h4 0 0 j == 0) && (List.range 12).all (fun j => ah_I am_h4 6 0 j == 0) && (List.range 3).all (fun i => (List.range 6).all (fun j => ah_I am_h4 1 i j == 0)) && (List.range 80).all (fun i => ah_I am_h4 3 i 2 == 0)) = true := by decide +kernel
end
section
def am_T : List Cond := lw_tbl.filter goodWord
theorem am_T_of {w : Cond} {k : Nat} (h : lw_tbl[k]? = some w) (hg : goodWord w = true) : w ∈ am_T := List.mem_filter.mpr ⟨List.mem_of_getElem? h, hg⟩
def am_tys : List (Nat → FieldType) := [tyX0, tyX1, tyX2, tyX3, tyX4, tyX5, tyX6, tyX7, tyX8, tyX9, tyX10, tyX11, tyX12, tyX13]
def am_ty (t : Nat) : Nat → FieldType := am_tys.getD t (fun _ => .int)
def am_host (k : Nat) : String := bif Nat.beq k 1 then "BrotliWords" else "BrotliWordsModel"
def am_fchk (q : Nat × Nat × Nat × Nat × Nat × Nat × Nat) : Bool := match q with
  | (o, idx, t, sl, k, h, pos) => match vwCl[t]? with
    | none => false
    | some (_, T, N) => Nat.blt t 14 && Nat.blt sl N && Nat.beq k (am_fk t sl) && (bif Nat.beq h 0 then decide (lw_tbl[pos]? = some (.fieldLink (am_ow o) idx (T sl).1 (T sl).2.1 (T sl).2.2.1)) else decide (lw_tbl[pos]? = some (.fieldLinkNest (am_ow o) idx (T sl).1 (T sl).2.1 (T sl).2.2.1 (am_host h))))
theorem am_ft_ok0 : am_ft_0.all am_fchk = true := by decide +kernel
theorem am_ft_ok1 : am_ft_1.all am_fchk = true := by decide +kernel
theorem am_ft_ok2 : am_ft_2.all am_fchk = true := by decide +kernel
theorem am_ft_ok3 : am_ft_3.all am_fchk = true := by decide +kernel
def am_nm (y : Nat) : MethodName := ((am_md[y]?).map (fun q => q.1)).getD ⟨"", "", ""⟩
def am_mchk (q : Nat × Nat × Nat × Nat × Nat × Nat × Nat × Nat) : Bool := match q with
  | (o, idx, a, _, _, _, h, pos) =>
    let nm := bif Nat.beq a 900 then Lib.objectInit else bif Nat.beq a 901 then ⟨"BrotliWordsModel", "in", "(JJJ)Z"⟩ else bif Nat.beq a 902 then Lib.Math.max.name else bif Nat.beq a 903 then Lib.Math.min.name else am_nm a
    bif Nat.beq h 0 then decide (lw_tbl[pos]? = some (.methodLink (am_ow o) idx nm)) else decide (lw_tbl[pos]? = some (.methodLinkNest (am_ow o) idx nm (am_host h)))
theorem am_mt_ok0 : am_mt_0.all am_mchk = true := by decide +kernel
theorem am_mt_ok1 : am_mt_1.all am_mchk = true := by decide +kernel
theorem am_mt_ok2 : am_mt_2.all am_mchk = true := by decide +kernel
theorem am_mt_ok3 : am_mt_3.all am_mchk = true := by decide +kernel
theorem am_mt_ok4 : am_mt_4.all am_mchk = true := by decide +kernel
theorem am_mt_ok5 : am_mt_5.all am_mchk = true := by decide +kernel
theorem am_kt_ok : am_kt.all (fun q => decide (lw_tbl[q.2.2.2]? = some (.constant (am_ow q.1) q.2.1 q.2.2.1))) = true := by decide +kernel
theorem am_lt_ok : am_lt.all (fun q => decide (lw_tbl[q.2.2.2]? = some (.constantLong (am_ow q.1) q.2.1 q.2.2.1.toInt64))) = true := by decide +kernel
theorem am_nt_ok : am_nt.all (fun q => Nat.blt q.2.2.1 14 && decide (lw_tbl[q.2.2.2]? = some (.classLink (am_ow q.1) q.2.1 (am_ow q.2.2.1)))) = true := by decide +kernel
theorem am_at_ok : am_at.all (fun q => (Nat.beq q.2.2.1 3 || Nat.beq q.2.2.1 4) && decide (lw_tbl[q.2.2.2]? = some (.classLink (am_ow q.1) q.2.1 (am_ow (bif Nat.beq q.2.2.1 3 then 3 else 1))))) = true := by decide +kernel
def am_xd (a : Nat) : String × String × String := bif Nat.blt a 220 then ("BrotliWords", am_xn.getD (a - 200) "", "[I") else bif Nat.beq a 220 then ("java/lang/Throwable", "UNASSIGNED_STACK", "[Ljava/lang/StackTraceElement;") else ("java/lang/Throwable", "SUPPRESSED_SENTINEL", "Ljava/util/List;")
theorem am_st_ok : am_st.all (fun q => (Nat.blt 199 q.2.2.1 && (Nat.blt q.2.2.1 211 || Nat.beq q.2.2.1 220 || Nat.beq q.2.2.1 221)) && (bif Nat.beq q.2.2.2.1 0 then decide (lw_tbl[q.2.2.2.2]? = some (.fieldLink (am_ow q.1) q.2.1 (am_xd q.2.2.1).1 (am_xd q.2.2.1).2.1 (am_xd q.2.2.1).2.2)) else decide (lw_tbl[q.2.2.2.2]? = some (.fieldLinkNest (am_ow q.1) q.2.1 (am_xd q.2.2.1).1 (am_xd q.2.2.1).2.1 (am_xd q.2.2.1).2.2 (am_host q.2.2.2.1))))) = true := by decide +kernel
end
section
/-- the words of the types whose objects are made -/
def am_clchk (t : Nat) : Bool := match vwCl[t]?, am_wp[t]?, am_ip[t]? with
  | some (C, T, N), some ps, some ip => Nat.beq N ps.length && ((u_ws C T N).zip ps).all (fun q => decide (lw_tbl[q.2]? = some q.1) && goodWord q.1) && decide (C = am_ow t) && Nat.beq N (am_nf t) && decide (lw_tbl[ip.1]? = some (Cond.instantiable C N)) && decide (lw_tbl[ip.2]? = some (Cond.initialized C)) && (List.range N).all (fun j => match am_ty t j with
    | .int => Nat.beq (am_fk t j) 0
    | .boolean => Nat.beq (am_fk t j) 2
    | .object _ => Nat.beq (am_fk t j) 1
    | .array _ => Nat.beq (am_fk t j) 1
    | _ => false)
  | _, _, _ => false
theorem am_cl_ok : (List.range 14).all am_clchk = true := by decide +kernel
/-- a method's code, out of its word -/
def am_cw (y : Nat) : Option Cond := (am_mp[y]?).bind (fun q => lw_tbl[q.2.1]?)
def am_by (y : Nat) : ByteArray := bif Nat.beq y am_law then code else (match am_cw y with
  | some (.code _ b _ _) => b
  | some (.codeWith _ b _ _ _) => b
  | _ => ByteArray.empty)
/-- a method's own words: kind 0 called on an object, 1 without, 2 a constructor, 3 the law -/
def am_mdchk (y : Nat) : Bool := match am_md[y]?, am_mp[y]? with
  | some (nm, mx, rt, o, _, _, hd), some (k, p1, p2, p3, p4) => decide (nm.cls = am_ow o) && plainName nm.cls && Nat.beq mx (am_ml y) && decide (nm.cls ≠ "java/lang/invoke/MethodHandle") && decide (nm.cls ≠ "java/lang/invoke/VarHandle") && (bif Nat.beq k 3 then Nat.beq y am_law else
    !Nat.beq y am_law && (match lw_tbl[p1]? with
      | some (.code n2 _ m2 r2) => decide (n2 = nm) && Nat.beq m2 mx && decide (r2 = rt) && hd.isEmpty
      | some (.codeWith n2 _ m2 r2 h2) => decide (n2 = nm) && Nat.beq m2 mx && decide (r2 = rt) && decide (h2 = hd) && Nat.beq k 0
      | _ => false) && decide (lw_tbl[p2]? = some (.initialized nm.cls)) && (bif Nat.beq k 1 then decide (lw_tbl[p3]? = some (.static nm)) else bif Nat.beq k 2 then decide (lw_tbl[p3]? = some (.instanceMethod nm)) && decide (nm.name = "<init>") && decide (rt = none) else decide (lw_tbl[p3]? = some (.instanceMethod nm)) && decide (lw_tbl[p4]? = some (.selects nm.cls nm nm)) && Nat.blt o 14 && decide (nm.name ≠ "<init>")))
  | _, _ => false
theorem am_md_ok0 : (List.range 70).all am_mdchk = true := by decide +kernel
theorem am_md_ok1 : (List.range 70).all (fun y => am_mdchk (y + 70)) = true := by decide +kernel
theorem am_md_ok2 : (List.range 70).all (fun y => am_mdchk (y + 140)) = true := by decide +kernel
theorem am_md_ok3 : (List.range 55).all (fun y => am_mdchk (y + 210)) = true := by decide +kernel
def am_argc (y : Nat) : Nat := ((parseMethodDescriptor (am_nm y).desc).map (fun d => d.parameters.length)).getD 99
def am_mk_ (y : Nat) : Nat := ((am_mp[y]?).map (fun q => q.1)).getD 9
def am_fr (y : Nat) : Nat := ((am_md[y]?).map (fun q => q.2.2.2.2.1)).getD 99
def am_lc (y : Nat) : Nat := ((am_md[y]?).map (fun q => q.2.2.2.2.2.1)).getD 9999
/-- a call's row: o owner, k entry, v 0 virtual, 1 static, 2 special -/
def am_cachk (o k v a b c fr lc : Nat) : Bool := am_mt.any (fun q => Nat.beq q.1 o && Nat.beq q.2.1 k && Nat.beq q.2.2.1 a && Nat.beq q.2.2.2.1 b && Nat.beq q.2.2.2.2.1 c && Nat.beq q.2.2.2.2.2.1 v) && Nat.blt a am_law && (parseMethodDescriptor (am_nm a).desc).isSome && Nat.beq (am_mk_ a) v && (bif Nat.beq v 1 then Nat.beq c 999 && Nat.beq b (am_argc a) else Nat.blt c 14 && Nat.beq b (am_argc a + 1)) && (bif Nat.beq v 0 then decide (am_ow c = (am_nm a).cls) else true) && Nat.ble b (am_ml a) && Nat.ble (am_fr a + 1) fr && Nat.ble (8 + (am_ml a + 11) + am_lc a) lc
def am_tbchk (pc : Nat) (lo : Int) : List Int → List (Int32 × Nat) → Bool
  | [], [] => true
  | o :: os, q :: qs => decide (q.1.toInt = lo) && decide ((pc : Int) + o = (q.2 : Int)) && am_tbchk pc (lo + 1) os qs
  | _, _ => false
def am_lkchk (pc : Nat) : List (Int × Int) → List (Int32 × Nat) → Bool
  | [], [] => true
  | o :: os, q :: qs => decide (q.1.toInt = o.1) && decide ((pc : Int) + o.2 = (q.2 : Int)) && am_lkchk pc os qs
  | _, _ => false
def am_hdchk (pc : Nat) (hd : List (Nat × Nat × Nat × Nat)) (tb : List (Int32 × Nat)) : Bool := match hd, tb with
  | [], [] => true
  | [h], [] => !(decide (h.1 ≤ pc) && decide (pc < h.2.1))
  | [h], [z] => decide (h.1 ≤ pc) && decide (pc < h.2.1) && Nat.beq z.2 h.2.2.1 && Nat.beq h.2.2.2 12
  | _, _ => false
/-- a row against the method that it stands in: o owner, rt what is answered, fr, lc its room, ini: a constructor -/
def am_rchk (o : Nat) (rt : Option FieldType) (fr lc : Nat) (ini : Bool) (hd : List (Nat × Nat × Nat × Nat)) (pc : Nat) : am_Row → Bool
  | (i, len, w, a, b, c, tb) => match i with
    | .iconst n => Nat.beq len 1 && decide (Int32.ofInt n = w)
    | .bipush n => Nat.beq len 2 && decide ((Int8.ofInt n).toInt32 = w)
    | .sipush n => Nat.beq len 3 && decide ((Int16.ofInt n).toInt32 = w)
    | .ldc k => Nat.beq len 2 && am_kt.any (fun q => Nat.beq q.1 o && Nat.beq q.2.1 k && decide (q.2.2.1 = w))
    | .ldc_w k => Nat.beq len 3 && am_kt.any (fun q => Nat.beq q.1 o && Nat.beq q.2.1 k && decide (q.2.2.1 = w))
    | .lconst n => Nat.beq len 1 && decide (Int64.ofNat n.val = w.toInt64)
    | .ldc2_w k => Nat.beq len 3 && am_lt.any (fun q => Nat.beq q.1 o && Nat.beq q.2.1 k && decide (q.2.2.1 = w))
    | .aconst_null => Nat.beq len 1
    | .iload_n k => Nat.beq len 1 && Nat.beq a k.val
    | .iload k => Nat.beq len 2 && Nat.beq a k
    | .aload_n k => Nat.beq len 1 && Nat.beq a k.val
    | .aload k => Nat.beq len 2 && Nat.beq a k
    | .istore_n k => Nat.beq len 1 && Nat.beq a k.val
    | .istore k => Nat.beq len 2 && Nat.beq a k
    | .astore_n k => Nat.beq len 1 && Nat.beq a k.val
    | .astore k => Nat.beq len 2 && Nat.beq a k
    | .iinc k n => Nat.beq len 3 && Nat.beq a k && decide (Int32.ofInt n = w)
    | .iadd => Nat.beq len 1
    | .isub => Nat.beq len 1
    | .imul => Nat.beq len 1
    | .iand => Nat.beq len 1
    | .ior => Nat.beq len 1
    | .ixor => Nat.beq len 1
    | .ishl => Nat.beq len 1
    | .ishr => Nat.beq len 1
    | .iushr => Nat.beq len 1
    | .idiv => Nat.beq len 1
    | .irem => Nat.beq len 1
    | .ineg => Nat.beq len 1
    | .i2l => Nat.beq len 1
    | .i2b => Nat.beq len 1
    | .dup => Nat.beq len 1
    | .dup2 => Nat.beq len 1
    | .dup_x1 => Nat.beq len 1
    | .goto off => Nat.beq len 3 && decide ((pc : Int) + off = (a : Int))
    | .if_icmp _ off => Nat.beq len 3 && decide ((pc : Int) + off = (a : Int))
    | .ifCond _ off => Nat.beq len 3 && decide ((pc : Int) + off = (a : Int))
    | .tableswitch d lo hi offs => decide ((pc : Int) + d = (a : Int)) && am_tbchk pc lo offs.toList tb && decide (lo + (offs.toList.length : Int) = hi + 1)
    | .lookupswitch d ps => decide ((pc : Int) + d = (a : Int)) && am_lkchk pc ps.toList tb && (ps.toList.zip (ps.toList.drop 1)).all (fun (a, next) => a.1 < next.1)
    | .iaload => Nat.beq len 1
    | .baload => Nat.beq len 1
    | .aaload => Nat.beq len 1
    | .iastore => Nat.beq len 1
    | .bastore => Nat.beq len 1
    | .aastore => Nat.beq len 1
    | .arraylength => Nat.beq len 1
    | .getfield k => Nat.beq len 3 && am_ft.any (fun q => Nat.beq q.1 o && Nat.beq q.2.1 k && Nat.beq q.2.2.1 a && Nat.beq q.2.2.2.1 b && Nat.beq q.2.2.2.2.1 c)
    | .putfield k => Nat.beq len 3 && am_ft.any (fun q => Nat.beq q.1 o && Nat.beq q.2.1 k && Nat.beq q.2.2.1 a && Nat.beq q.2.2.2.1 b && Nat.beq q.2.2.2.2.1 c && (match vwCl[a]? with
      | none => false
      | some (_, T, _) => bif (T b).2.2.2 then ini && decide ((T b).1 = am_ow o) && Nat.beq q.2.2.2.2.2.1 0 else true))
    | .getstatic k => Nat.beq len 3 && am_st.any (fun q => Nat.beq q.1 o && Nat.beq q.2.1 k && Nat.beq q.2.2.1 a)
    | .new k => Nat.beq len 3 && Nat.beq b (am_nf a) && am_nt.any (fun q => Nat.beq q.1 o && Nat.beq q.2.1 k && Nat.beq q.2.2.1 a)
    | .newarray ty => Nat.beq len 2 && Nat.blt 15 a && Nat.blt a 200 && (match ty with
      | .int => Nat.beq (am_ak a) 0
      | .byte => Nat.beq (am_ak a) 1
      | .boolean => Nat.beq (am_ak a) 2
      | _ => false)
    | .anewarray k => Nat.beq len 3 && Nat.blt 15 a && Nat.blt a 200 && am_at.any (fun q => Nat.beq q.1 o && Nat.beq q.2.1 k && Nat.beq q.2.2.1 (am_ak a))
    | .invokestatic k => Nat.beq len 3 && am_hdchk pc hd tb && (bif Nat.beq a 901 then am_mt.any (fun q => Nat.beq q.1 o && Nat.beq q.2.1 k && Nat.beq q.2.2.1 901 && Nat.beq q.2.2.2.2.2.1 1) && Nat.ble 1 fr && Nat.ble 25 lc else bif Nat.beq a 902 || Nat.beq a 903 then am_mt.any (fun q => Nat.beq q.1 o && Nat.beq q.2.1 k && Nat.beq q.2.2.1 a && Nat.beq q.2.2.2.2.2.1 1 && Nat.beq q.2.2.2.2.2.2.1 0) && Nat.ble 1 fr && Nat.ble 21 lc else am_cachk o k 1 a b c fr lc)
    | .invokevirtual k => Nat.beq len 3 && am_hdchk pc hd tb && (Nat.beq a 999 || am_cachk o k 0 a b c fr lc)
    | .invokespecial k => Nat.beq len 3 && am_hdchk pc hd tb && (bif Nat.beq a 900 then am_mt.any (fun q => Nat.beq q.1 o && Nat.beq q.2.1 k && Nat.beq q.2.2.1 900 && Nat.beq q.2.2.2.2.2.1 2) && Nat.ble 1 fr && Nat.ble 20 lc else am_cachk o k 2 a b c fr lc)
    | .athrow => Nat.beq len 1 && am_hdchk pc hd []
    | .ireturn => Nat.beq len 1 && (match rt with
      | some .int => Nat.beq a 0
      | some .boolean => Nat.beq a 1
      | _ => false)
    | .areturn => Nat.beq len 1 && (match rt with
      | some (.object _) => true
      | some (.array _) => true
      | _ => false)
    | .return_ => Nat.beq len 1 && rt.isNone
    | .lload_n _ => true
    | .lload _ => true
    | .lcmp => true
    | .pop => true
    | _ => false
def am_mrchk (y : Nat) : Bool := match am_md[y]? with
  | some (nm, _, rt, o, fr, lc, hd) => (am_code y).all (fun q => decide (decode (am_by y) q.1 = .ok (q.2.1, q.2.2.1)) && am_rchk o rt fr lc (decide (nm.name = "<init>")) hd q.1 q.2)
  | none => false
end
section
theorem am_range {n k : Nat} {p : Nat → Bool} (h : (List.range n).all (fun y => p (y + k)) = true) {y : Nat} (h1 : k ≤ y) (h2 : y < k + n) : p y = true := by
  have h3 := List.all_eq_true.mp h (y - k) (List.mem_range.mpr (by omega))
  rw [show y - k + k = y by omega] at h3
  exact h3
theorem am_md_all {y : Nat} (h : y < 265) : am_mdchk y = true := by
  rcases Nat.lt_or_ge y 70 with h1 | h1
  · exact am_range (k := 0) am_md_ok0 (Nat.zero_le _) (by omega)
  rcases Nat.lt_or_ge y 140 with h2 | h2
  · exact am_range am_md_ok1 h1 (by omega)
  rcases Nat.lt_or_ge y 210 with h3 | h3
  · exact am_range am_md_ok2 h2 (by omega)
  · exact am_range am_md_ok3 h3 (by omega)
theorem am_in_app {α : Type} {p : α → Bool} {a b : List α} (ha : a.all p = true) (hb : b.all p = true) : (a ++ b).all p = true := by rw [List.all_append, ha, hb]; rfl
theorem am_ft_all : am_ft.all am_fchk = true := am_in_app am_ft_ok0 (am_in_app am_ft_ok1 (am_in_app am_ft_ok2 am_ft_ok3))
theorem am_mt_all : am_mt.all am_mchk = true := am_in_app am_mt_ok0 (am_in_app am_mt_ok1 (am_in_app am_mt_ok2 (am_in_app am_mt_ok3 (am_in_app am_mt_ok4 am_mt_ok5))))
/-- what the tables say of a field's entry -/
theorem am_ft_spec {o k a b c : Nat} {P : (Nat × Nat × Nat × Nat × Nat × Nat × Nat) → Bool} (h : am_ft.any (fun q => Nat.beq q.1 o && Nat.beq q.2.1 k && Nat.beq q.2.2.1 a && Nat.beq q.2.2.2.1 b && Nat.beq q.2.2.2.2.1 c && P q) = true) :
    ∃ C T N hh pos, vwCl[a]? = some (C, T, N) ∧ a < 14 ∧ b < N ∧ c = am_fk a b ∧ P (o, k, a, b, c, hh, pos) = true ∧
      ((hh = 0 ∧ Cond.fieldLink (am_ow o) k (T b).1 (T b).2.1 (T b).2.2.1 ∈ am_T) ∨ (hh ≠ 0 ∧ ∃ host, lw_tbl[pos]? = some (Cond.fieldLinkNest (am_ow o) k (T b).1 (T b).2.1 (T b).2.2.1 host))) := by
  obtain ⟨⟨o', k', a', b', c', hh, pos⟩, hq, h1⟩ := List.any_eq_true.mp h
  simp only [Bool.and_eq_true] at h1
  obtain ⟨⟨⟨⟨⟨e1, e2⟩, e3⟩, e4⟩, e5⟩, hP⟩ := h1
  cases Nat.eq_of_beq_eq_true e1
  cases Nat.eq_of_beq_eq_true e2
  cases Nat.eq_of_beq_eq_true e3
  cases Nat.eq_of_beq_eq_true e4
  cases Nat.eq_of_beq_eq_true e5
  have h2 := List.all_eq_true.mp am_ft_all _ hq
  unfold am_fchk at h2
  cases hv : vwCl[a]? with
  | none => simp [hv] at h2
  | some r =>
    obtain ⟨C, T, N⟩ := r
    simp only [hv, Bool.and_eq_true] at h2
    obtain ⟨⟨⟨h3, h4⟩, h5⟩, h6⟩ := h2
    refine ⟨C, T, N, hh, pos, rfl, Nat.le_of_ble_eq_true h3, Nat.le_of_ble_eq_true h4, Nat.eq_of_beq_eq_true h5, hP, ?_⟩
    cases hb : Nat.beq hh 0
    · simp only [hb, cond_false, decide_eq_true_eq] at h6
      exact Or.inr ⟨fun e => (by rw [e] at hb; cases hb), _, h6⟩
    · simp only [hb, cond_true, decide_eq_true_eq] at h6
      exact Or.inl ⟨Nat.eq_of_beq_eq_true hb, am_T_of h6 rfl⟩
theorem am_cl_spec {t : Nat} {C : String} {T : u_T} {N : Nat} (ht : t < 14) (h : vwCl[t]? = some (C, T, N)) : (∀ w ∈ u_ws C T N, w ∈ am_T) ∧ C = am_ow t ∧ N = am_nf t ∧ Cond.instantiable C N ∈ am_T ∧ Cond.initialized C ∈ am_T ∧ (∀ j, j < N → match am_ty t j with
    | .int => am_fk t j = 0
    | .boolean => am_fk t j = 2
    | .object _ => am_fk t j = 1
    | .array _ => am_fk t j = 1
    | _ => False) := by
  have h1 := List.all_eq_true.mp am_cl_ok t (List.mem_range.mpr ht)
  unfold am_clchk at h1
  rw [h] at h1
  cases hw : am_wp[t]? with
  | none => simp [hw] at h1
  | some ps =>
    cases hi : am_ip[t]? with
    | none => simp [hw, hi] at h1
    | some ip =>
      simp only [hw, hi, Bool.and_eq_true, decide_eq_true_eq] at h1
      obtain ⟨⟨⟨⟨⟨⟨h2, h3⟩, h4⟩, h5⟩, h6⟩, h7⟩, h8⟩ := h1
      have hlen : N = ps.length := Nat.eq_of_beq_eq_true h2
      refine ⟨fun w hw9 => ?_, h4, Nat.eq_of_beq_eq_true h5, am_T_of h6 rfl, am_T_of h7 rfl, fun j hj => ?_⟩
      · obtain ⟨k, hk⟩ := List.mem_iff_getElem?.mp hw9
        have hkl : k < (u_ws C T N).length := (List.getElem?_eq_some_iff.mp hk).1
        have hl2 : (u_ws C T N).length = N := by simp [u_ws]
        have hp : ∃ q, ps[k]? = some q := ⟨ps[k]'(by omega), List.getElem?_eq_getElem (by omega)⟩
        obtain ⟨q, hq⟩ := hp
        have hz : ((u_ws C T N).zip ps)[k]? = some (w, q) := List.getElem?_zip_eq_some.mpr ⟨hk, hq⟩
        have h9 := List.all_eq_true.mp h3 _ (List.mem_of_getElem? hz)
        simp only [Bool.and_eq_true, decide_eq_true_eq] at h9
        exact am_T_of h9.1 h9.2
      · have h9 := List.all_eq_true.mp h8 j (List.mem_range.mpr hj)
        revert h9
        cases am_ty t j <;> intro h9 <;> first | exact Nat.eq_of_beq_eq_true h9 | cases h9
theorem am_cl_names {t : Nat} {C : String} {T : u_T} {N : Nat} (ht : t < 14) (h : vwCl[t]? = some (C, T, N)) : (∀ a, a < N → ∀ b, b < N → a ≠ b → (T a).2.1 ≠ (T b).2.1) ∧ ∀ k, k < N → parseFieldDescriptor (T k).2.2.1 = some (am_ty t k) := by
  match t, ht, h with
  | 0, _, h => cases h; exact ⟨nmX0, tyX0_ok⟩
  | 1, _, h => cases h; exact ⟨nmX1, tyX1_ok⟩
  | 2, _, h => cases h; exact ⟨nmX2, tyX2_ok⟩
  | 3, _, h => cases h; exact ⟨nmX3, tyX3_ok⟩
  | 4, _, h => cases h; exact ⟨nmX4, tyX4_ok⟩
  | 5, _, h => cases h; exact ⟨nmX5, tyX5_ok⟩
  | 6, _, h => cases h; exact ⟨nmX6, tyX6_ok⟩
  | 7, _, h => cases h; exact ⟨nmX7, tyX7_ok⟩
  | 8, _, h => cases h; exact ⟨nmX8, tyX8_ok⟩
  | 9, _, h => cases h; exact ⟨nmX9, tyX9_ok⟩
  | 10, _, h => cases h; exact ⟨nmX10, tyX10_ok⟩
  | 11, _, h => cases h; exact ⟨nmX11, tyX11_ok⟩
  | 12, _, h => cases h; exact ⟨nmX12, tyX12_ok⟩
  | 13, _, h => cases h; exact ⟨nmX13, tyX13_ok⟩
  | t + 14, ht, _ => exact absurd ht (by omega)
theorem am_cl_some {t : Nat} (ht : t < 14) : ∃ C T N, vwCl[t]? = some (C, T, N) := by
  have hl : vwCl.length = 14 := rfl
  exact ⟨_, _, _, (List.getElem?_eq_getElem (by rw [hl]; exact ht))⟩
end
section
/-! the world of a run -/
def am_isN : Cond → Bool
  | .fieldLinkNest .. => true
  | .methodLinkNest .. => true
  | _ => false
def am_TN : List Cond := lw_tbl.filter am_isN
theorem am_TN_warm {s U : State} (hW : s.WarmedH U.vm) {w : Cond} (hw : am_isN w = true) (h : va_Nw w s) : va_Nw w U := by
  cases w <;> first | exact va_Nw.warmF hW h | exact va_Nw.warmM hW h | cases hw
theorem am_TN_same {u U : State} (h : u.vm = U.vm) {w : Cond} (hw : am_isN w = true) (hz : va_Nw w u) : va_Nw w U := by
  cases w <;> first | exact va_Nw.same rfl h hz | cases hw
def am_tyl (aC : Nat → ClassId) : List (ClassId × FieldType) := [(aC 0, .int), (aC 1, .byte), (aC 2, .boolean), (aC 3, .object "BrotliWords$Code"), (aC 4, .object "BrotliWords$Blocks")]
abbrev am_A (z : Nat) : Nat → Prop := fun q => z ≤ q
section AmCx
variable (D : va_G) (aC : Nat → ClassId) (xa : Nat → Nat) (uv : Nat → Value) (X : Nat → Nat → Int32) (XL : Nat → Nat) (z : Nat)
def am_Cx (s : State) (H : Heap) : Prop := va_K D vwCl (am_tyl aC) s ∧ (∀ t, 200 ≤ t → t < 212 → va_X (xa t) (XL t - 1) (X t) s H ∧ xa t < z) ∧
  (∀ a, ((200 ≤ a ∧ a < 211) ∨ a = 220 ∨ a = 221) → va_Z (am_xd a).1 (am_xd a).2.1 (am_xd a).2.2 (bif Nat.blt a 220 then .ref (xa a) else uv a) (am_A z) s H) ∧ z ≤ H.size ∧ (∀ a, uv a = .null ∨ ∃ b, uv a = .ref b) ∧
  (∀ w ∈ am_TN, va_Nw w s) ∧ va_AO "BrotliWords$Code" s ∧ va_AO "BrotliWords$Blocks" s
theorem am_X_moved {b L : Nat} {xs : Nat → Int32} {u U : State} {H H1 : Heap} (hvm : u.vm.Alike U.vm) (hq : H1[b]? = H[b]?) (h : va_X b L xs u H) : va_X b L xs U H1 := by
  obtain ⟨scr, h1, h2, h3, h4, h5⟩ := h
  exact ⟨scr, by rw [hq]; exact h1, State.isArrayOf_alike hvm h2, h3, h4, h5⟩
theorem am_Cx_to {s U : State} {H H1 : Heap} (hW : s.WarmedH U.vm) (hq : ∀ q, q < z → H1[q]? = H[q]?) (hz : z ≤ H1.size) (h : am_Cx D aC xa uv X XL z s H) : am_Cx D aC xa uv X XL z U H1 := by
  obtain ⟨h1, h2, h3, h4, h5, h6, h7, h8⟩ := h
  refine ⟨va_K.moved hW.alike h1, fun t a b => ?_, fun a ha => ?_, hz, h5, fun w hw => am_TN_warm hW (List.mem_filter.mp hw).2 (h6 w hw), va_AO.moved hW.alike h7, va_AO.moved hW.alike h8⟩
  · obtain ⟨x1, x2⟩ := h2 t a b
    exact ⟨am_X_moved hW.alike (hq _ x2) x1, x2⟩
  · exact ((h3 a ha).moved hW.alike).kept (fun q _ hA => hq q (Nat.not_le.mp hA))
theorem am_Cx_blind {U : State} {g : JFrame} {mk : MethodId} {a : Array Value} {H : Heap} (h : am_Cx D aC xa uv X XL z U H) : am_Cx D aC xa uv X XL z (U.calling g mk a) H := by
  obtain ⟨h1, h2, h3, h4, h5, h6, h7, h8⟩ := h
  have hal : U.vm.Alike (U.calling g mk a).vm := Vm.Alike.refl U.vm
  refine ⟨va_K.moved hal h1, fun t a b => ?_, fun a ha => (h3 a ha).moved hal, h4, h5, fun w hw => am_TN_same (u := U) (U := U.calling g mk a) rfl (List.mem_filter.mp hw).2 (h6 w hw), va_AO.moved hal h7, va_AO.moved hal h8⟩
  obtain ⟨x1, x2⟩ := h2 t a b
  exact ⟨am_X_moved hal rfl x1, x2⟩
def am_Hr (f : Nat → Nat) (σ : am_H) (H : Heap) : Prop := va_P D vwCl (am_ws aC xa uv f σ) H ∧ va_D (am_A z) (am_ws aC xa uv f σ) ∧ am_wf σ
def am_oc (f : Nat → Nat) (r : am_O × am_H) (o : Outcome) : Prop := match r.1 with
  | .inl none => o = .returned none
  | .inl (some v) => o = .returned (some (am_cv xa uv f r.2 v)) ∧ am_gv r.2 v ∧ am_nl v = true
  | .inr q => o = .threw (f (ah_ad r.2 q.1 q.2)) ∧ q.1 = 12 ∧ am_gq r.2 q
def am_Q (f0 : (Nat → Nat) × am_H) (n0 : Nat) (r : am_O × am_H) : Array Value → State → Outcome → State → Prop := fun _ st o t =>
  (∃ f', (am_ex f0.2 r.2 ∧ ∀ k, k < n0 → f' k = f0.1 k) ∧ am_Hr D aC xa uv z f' r.2 t.heap ∧ am_oc xa uv f' r o) ∧ va_F (am_A z) st t
end AmCx
/-- the method y runs here -/
def am_G (y : Nat) (p : Program) (R : Room) (s : State) (m : MethodId) (args : Array Value) (meth : Method) (c : Code) : Prop :=
  p.tables.exec = Jvm.exec ∧ c.code = am_by y ∧ c.maxLocals = am_ml y ∧ meth.locks = false ∧ (∀ w ∈ am_T, w.before args s = true) ∧ ∃ q, am_md[y]? = some q ∧ meth.sig.returnType = q.2.2.1 ∧ s.vm.findClass (am_ow q.2.2.2.1) = some m.cls ∧ meth.name = q.1.name ∧ q.2.2.2.2.1 ≤ R.frames ∧ q.2.2.2.2.2.1 ≤ R.locals ∧
    c.exceptionTable.toList.map (fun h => (h.startPc, h.endPc, h.handlerPc, h.catchType)) = q.2.2.2.2.2.2
/-- cells and places grow -/
theorem am_le_run (ak : Nat → Nat) (X : Nat → Nat → Int32) (XL : Nat → Nat) (code : Nat → List (Nat × am_Row)) (ml : Nat → Nat) : ∀ (n y pc : Nat) (ls st : List am_V) (σ : am_H) (r : am_O × am_H), am_run ak X XL code ml n y pc ls st σ = some r → ah_n σ ≤ ah_n r.2 ∧ ah_sl σ ≤ ah_sl r.2
  | 0, _, _, _, _, _, _, h => by simp [am_run] at h
  | n + 1, y, pc, ls, st, σ, r, h => by
    rcases am_dst ak X XL pc ls st σ (am_look (code y) pc) _ _ r h with ⟨h0, -⟩ | ⟨p, l, s, h9, h0, h1, -⟩ | ⟨y2, as, q, h0, h1, -⟩ | ⟨y2, as, q, p, l, s, h1, h2, -⟩
    · rw [h0]; exact ⟨Nat.le_refl _, Nat.le_refl _⟩
    · have h3 := am_le_run ak X XL code ml n _ _ _ _ _ _ h1
      rcases h0 with h0 | ⟨t, k, h0⟩
      · have e1 : ah_n h9 = ah_n σ := congrArg (fun b : am_B => b.1) h0
        have e2 : ah_sl h9 = ah_sl σ := congrArg (fun b : am_B => b.2.2.2.2.1) h0
        rw [e1, e2] at h3
        exact h3
      · have e1 : ah_n h9 = ah_n σ + 1 := congrArg (fun b : am_B => b.1) h0
        have e2 : ah_sl h9 = ah_sl σ + k := congrArg (fun b : am_B => b.2.2.2.2.1) h0
        omega
    · have h3 := am_le_run ak X XL code ml n _ _ _ _ _ _ h1
      rw [h0]; exact h3
    · have h3 := am_le_run ak X XL code ml n _ _ _ _ _ _ h1
      have h4 := am_le_run ak X XL code ml n _ _ _ _ _ _ h2
      omega
end
section
section AmSim
variable (D : va_G) (aC : Nat → ClassId) (xa : Nat → Nat) (uv : Nat → Value) (X : Nat → Nat → Int32) (XL : Nat → Nat) (z : Nat)
/-- the frame's part of what holds: heap, locals, stack; f0, n0, sl0: what stood when the method began -/
def am_Fc (s : State) (f0 : (Nat → Nat) × am_H) (n0 sl0 : Nat) (y : Nat) (ls st : List am_V) (σ : am_H) (H : Heap) (locs : List Loc) (lsA : Array Slot) (f : Nat → Nat) : Prop :=
  am_Hr D aC xa uv z f σ H ∧ va_S (am_A z) s.heap H locs ∧ am_ls xa uv f σ ls lsA ∧ ls.length = am_ml y ∧ am_gl σ ls ∧ am_gl σ st ∧ (am_ex f0.2 σ ∧ ∀ k, k < n0 → f k = f0.1 k) ∧ n0 ≤ ah_n σ ∧ sl0 ≤ ah_sl σ
/-- what is to be shown of a run of n steps -/
def am_Sim (l : Launch) (n : Nat) : Prop := ∀ (y pc : Nat) (ls st : List am_V) (σ : am_H) (r : am_O × am_H), am_run am_ak X XL am_code am_ml n y pc ls st σ = some r → y < 265 →
  ∀ (p : Program) (e : Env) (R : Room) (s : State) (m : MethodId) (args : Array Value) (below : List Frame) (meth : Method) (c : Code) (H : Heap) (locs : List Loc) (lsA : Array Slot) (f : Nat → Nat) (f0 : (Nat → Nat) × am_H) (n0 sl0 : Nat),
    am_G y p R s m args meth c → am_Cx D aC xa uv X XL z s s.heap → am_Fc D aC xa uv z s f0 n0 sl0 y ls st σ H locs lsA f → ah_n r.2 - n0 ≤ R.cells → ah_sl r.2 - sl0 ≤ R.slots →
    W p l e R s m args below meth c H locs (ah_n σ - n0) (ah_sl σ - sl0) (am_MQ below (am_Q D aC xa uv z f0 n0 r) args s (ah_n r.2 - n0) (ah_sl r.2 - sl0) (am_A z)) (F0 m pc lsA (st.map (am_cv xa uv f σ)))
theorem am_Fc_st {s : State} {f0 : (Nat → Nat) × am_H} {n0 sl0 y : Nat} {ls st st' : List am_V} {σ : am_H} {H : Heap} {locs : List Loc} {lsA : Array Slot} {f : Nat → Nat} (h : am_Fc D aC xa uv z s f0 n0 sl0 y ls st σ H locs lsA f) (hg : am_gl σ st') : am_Fc D aC xa uv z s f0 n0 sl0 y ls st' σ H locs lsA f := by
  obtain ⟨h1, h2, h3, h4, h5, h6, h7, h8, h9⟩ := h
  exact ⟨h1, h2, h3, h4, h5, hg, h7, h8, h9⟩
end AmSim
end
section
section AmSimple
variable {D : va_G} {aC : Nat → ClassId} {xa : Nat → Nat} {uv : Nat → Value} {X : Nat → Nat → Int32} {XL : Nat → Nat} {z : Nat}
/-- what an instruction's case may use -/
def am_Hyp (D : va_G) (aC : Nat → ClassId) (xa : Nat → Nat) (uv : Nat → Value) (X : Nat → Nat → Int32) (XL : Nat → Nat) (z : Nat) (l : Launch) (n y pc : Nat) (ls st : List am_V) (σ : am_H) (r : am_O × am_H) (row : am_Row) (p : Program) (R : Room) (s : State) (m : MethodId) (args : Array Value) (meth : Method) (c : Code) (H : Heap) (locs : List Loc) (lsA : Array Slot) (f : Nat → Nat) (f0 : (Nat → Nat) × am_H) (n0 sl0 : Nat) : Prop :=
  am_Sim D aC xa uv X XL z l n ∧ y < 265 ∧ am_G y p R s m args meth c ∧ am_Cx D aC xa uv X XL z s s.heap ∧ am_Fc D aC xa uv z s f0 n0 sl0 y ls st σ H locs lsA f ∧ ah_n r.2 - n0 ≤ R.cells ∧ ah_sl r.2 - sl0 ≤ R.slots ∧ decode (am_by y) pc = .ok (row.1, row.2.1) ∧
    (∃ q, am_md[y]? = some q ∧ am_rchk q.2.2.2.1 q.2.2.1 q.2.2.2.2.1 q.2.2.2.2.2.1 (decide (q.1.name = "<init>")) q.2.2.2.2.2.2 pc row = true) ∧
    am_step am_ak X XL (am_run am_ak X XL am_code am_ml n y) (fun y2 as σ => am_run am_ak X XL am_code am_ml n y2 0 (am_ent (am_ml y2) as) [] σ) pc ls st σ (some row) = some r
variable {l : Launch} {n y pc : Nat} {ls st : List am_V} {σ : am_H} {r : am_O × am_H} {p : Program} {e : Env} {R : Room} {s : State} {m : MethodId} {args : Array Value} {below : List Frame} {meth : Method} {c : Code} {H : Heap} {locs : List Loc} {lsA : Array Slot} {f : Nat → Nat} {f0 : (Nat → Nat) × am_H} {n0 sl0 : Nat}
/-- goes on at another place with another stack -/
theorem am_go {row : am_Row} (h : am_Hyp D aC xa uv X XL z l n y pc ls st σ r row p R s m args meth c H locs lsA f f0 n0 sl0) {pc' : Nat} {st' : List am_V} (hr : am_run am_ak X XL am_code am_ml n y pc' ls st' σ = some r) (hg : am_gl σ st') :
    W p l e R s m args below meth c H locs (ah_n σ - n0) (ah_sl σ - sl0) (am_MQ below (am_Q D aC xa uv z f0 n0 r) args s (ah_n r.2 - n0) (ah_sl r.2 - sl0) (am_A z)) (F0 m pc' lsA (st'.map (am_cv xa uv f σ))) := by
  obtain ⟨ih, hy, hG, hC, hF, h1, h2, -⟩ := h
  exact ih y pc' ls st' σ r hr hy p e R s m args below meth c H locs lsA f f0 n0 sl0 hG hC (am_Fc_st D aC xa uv z hF hg) h1 h2
theorem am_s_iconst {len : Nat} {w : Int32} {a b c9 : Nat} {tb : List (Int32 × Nat)} {k9 : Int} (h : am_Hyp D aC xa uv X XL z l n y pc ls st σ r (.iconst k9, len, w, a, b, c9, tb) p R s m args meth c H locs lsA f f0 n0 sl0) : W p l e R s m args below meth c H locs (ah_n σ - n0) (ah_sl σ - sl0) (am_MQ below (am_Q D aC xa uv z f0 n0 r) args s (ah_n r.2 - n0) (ah_sl r.2 - sl0) (am_A z)) (F0 m pc lsA (st.map (am_cv xa uv f σ))) := by
  have h0 := h
  obtain ⟨ih, hy, ⟨hx, hb, hml, hlk, hts, q0, hq0, hrt, hown, hnm, hfr, hlc, htab⟩, hC, hF, hc1, hc2, hdg, ⟨q, hq, hchk⟩, hrun⟩ := h
  cases hq0.symm.trans hq
  have hgs := hF.2.2.2.2.2.1
  simp only [am_step] at hrun
  simp only [am_rchk, Bool.and_eq_true, decide_eq_true_eq] at hchk
  dsimp only at hdg
  obtain ⟨e1, e2⟩ := hchk
  cases Nat.eq_of_beq_eq_true e1
  exact lv_iconst hx hb hdg e2 (am_go h0 hrun (am_gl.c trivial hgs))

theorem am_s_bipush {len : Nat} {w : Int32} {a b c9 : Nat} {tb : List (Int32 × Nat)} {k9 : Int} (h : am_Hyp D aC xa uv X XL z l n y pc ls st σ r (.bipush k9, len, w, a, b, c9, tb) p R s m args meth c H locs lsA f f0 n0 sl0) : W p l e R s m args below meth c H locs (ah_n σ - n0) (ah_sl σ - sl0) (am_MQ below (am_Q D aC xa uv z f0 n0 r) args s (ah_n r.2 - n0) (ah_sl r.2 - sl0) (am_A z)) (F0 m pc lsA (st.map (am_cv xa uv f σ))) := by
  have h0 := h
  obtain ⟨ih, hy, ⟨hx, hb, hml, hlk, hts, q0, hq0, hrt, hown, hnm, hfr, hlc, htab⟩, hC, hF, hc1, hc2, hdg, ⟨q, hq, hchk⟩, hrun⟩ := h
  cases hq0.symm.trans hq
  have hgs := hF.2.2.2.2.2.1
  simp only [am_step] at hrun
  simp only [am_rchk, Bool.and_eq_true, decide_eq_true_eq] at hchk
  dsimp only at hdg
  obtain ⟨e1, e2⟩ := hchk
  cases Nat.eq_of_beq_eq_true e1
  exact lv_bipush hx hb hdg e2 (am_go h0 hrun (am_gl.c trivial hgs))

theorem am_s_sipush {len : Nat} {w : Int32} {a b c9 : Nat} {tb : List (Int32 × Nat)} {k9 : Int} (h : am_Hyp D aC xa uv X XL z l n y pc ls st σ r (.sipush k9, len, w, a, b, c9, tb) p R s m args meth c H locs lsA f f0 n0 sl0) : W p l e R s m args below meth c H locs (ah_n σ - n0) (ah_sl σ - sl0) (am_MQ below (am_Q D aC xa uv z f0 n0 r) args s (ah_n r.2 - n0) (ah_sl r.2 - sl0) (am_A z)) (F0 m pc lsA (st.map (am_cv xa uv f σ))) := by
  have h0 := h
  obtain ⟨ih, hy, ⟨hx, hb, hml, hlk, hts, q0, hq0, hrt, hown, hnm, hfr, hlc, htab⟩, hC, hF, hc1, hc2, hdg, ⟨q, hq, hchk⟩, hrun⟩ := h
  cases hq0.symm.trans hq
  have hgs := hF.2.2.2.2.2.1
  simp only [am_step] at hrun
  simp only [am_rchk, Bool.and_eq_true, decide_eq_true_eq] at hchk
  dsimp only at hdg
  obtain ⟨e1, e2⟩ := hchk
  cases Nat.eq_of_beq_eq_true e1
  exact lv_sipush hx hb hdg e2 (am_go h0 hrun (am_gl.c trivial hgs))

theorem am_s_ldc {len : Nat} {w : Int32} {a b c9 : Nat} {tb : List (Int32 × Nat)} {k9 : Nat} (h : am_Hyp D aC xa uv X XL z l n y pc ls st σ r (.ldc k9, len, w, a, b, c9, tb) p R s m args meth c H locs lsA f f0 n0 sl0) : W p l e R s m args below meth c H locs (ah_n σ - n0) (ah_sl σ - sl0) (am_MQ below (am_Q D aC xa uv z f0 n0 r) args s (ah_n r.2 - n0) (ah_sl r.2 - sl0) (am_A z)) (F0 m pc lsA (st.map (am_cv xa uv f σ))) := by
  have h0 := h
  obtain ⟨ih, hy, ⟨hx, hb, hml, hlk, hts, q0, hq0, hrt, hown, hnm, hfr, hlc, htab⟩, hC, hF, hc1, hc2, hdg, ⟨q, hq, hchk⟩, hrun⟩ := h
  cases hq0.symm.trans hq
  have hgs := hF.2.2.2.2.2.1
  simp only [am_step] at hrun
  simp only [am_rchk, Bool.and_eq_true, decide_eq_true_eq] at hchk
  dsimp only at hdg
  obtain ⟨e1, e2⟩ := hchk
  cases Nat.eq_of_beq_eq_true e1
  obtain ⟨⟨o', k', w', pos⟩, hq9, e3⟩ := List.any_eq_true.mp e2
  simp only [Bool.and_eq_true, decide_eq_true_eq] at e3
  obtain ⟨⟨e3, e4⟩, e5⟩ := e3
  cases Nat.eq_of_beq_eq_true e3
  cases Nat.eq_of_beq_eq_true e4
  subst e5
  have e6 := List.all_eq_true.mp am_kt_ok _ hq9
  simp only [decide_eq_true_eq] at e6
  exact lv_ldc hx hb hown (hts _ (am_T_of e6 rfl)) hdg (am_go h0 hrun (am_gl.c trivial hgs))

theorem am_s_ldc_w {len : Nat} {w : Int32} {a b c9 : Nat} {tb : List (Int32 × Nat)} {k9 : Nat} (h : am_Hyp D aC xa uv X XL z l n y pc ls st σ r (.ldc_w k9, len, w, a, b, c9, tb) p R s m args meth c H locs lsA f f0 n0 sl0) : W p l e R s m args below meth c H locs (ah_n σ - n0) (ah_sl σ - sl0) (am_MQ below (am_Q D aC xa uv z f0 n0 r) args s (ah_n r.2 - n0) (ah_sl r.2 - sl0) (am_A z)) (F0 m pc lsA (st.map (am_cv xa uv f σ))) := by
  have h0 := h
  obtain ⟨ih, hy, ⟨hx, hb, hml, hlk, hts, q0, hq0, hrt, hown, hnm, hfr, hlc, htab⟩, hC, hF, hc1, hc2, hdg, ⟨q, hq, hchk⟩, hrun⟩ := h
  cases hq0.symm.trans hq
  have hgs := hF.2.2.2.2.2.1
  simp only [am_step] at hrun
  simp only [am_rchk, Bool.and_eq_true, decide_eq_true_eq] at hchk
  dsimp only at hdg
  obtain ⟨e1, e2⟩ := hchk
  cases Nat.eq_of_beq_eq_true e1
  obtain ⟨⟨o', k', w', pos⟩, hq9, e3⟩ := List.any_eq_true.mp e2
  simp only [Bool.and_eq_true, decide_eq_true_eq] at e3
  obtain ⟨⟨e3, e4⟩, e5⟩ := e3
  cases Nat.eq_of_beq_eq_true e3
  cases Nat.eq_of_beq_eq_true e4
  subst e5
  have e6 := List.all_eq_true.mp am_kt_ok _ hq9
  simp only [decide_eq_true_eq] at e6
  exact lv_ldcw hx hb hown (hts _ (am_T_of e6 rfl)) hdg (am_go h0 hrun (am_gl.c trivial hgs))

theorem am_s_lconst {len : Nat} {w : Int32} {a b c9 : Nat} {tb : List (Int32 × Nat)} {k9 : Fin 2} (h : am_Hyp D aC xa uv X XL z l n y pc ls st σ r (.lconst k9, len, w, a, b, c9, tb) p R s m args meth c H locs lsA f f0 n0 sl0) : W p l e R s m args below meth c H locs (ah_n σ - n0) (ah_sl σ - sl0) (am_MQ below (am_Q D aC xa uv z f0 n0 r) args s (ah_n r.2 - n0) (ah_sl r.2 - sl0) (am_A z)) (F0 m pc lsA (st.map (am_cv xa uv f σ))) := by
  have h0 := h
  obtain ⟨ih, hy, ⟨hx, hb, hml, hlk, hts, q0, hq0, hrt, hown, hnm, hfr, hlc, htab⟩, hC, hF, hc1, hc2, hdg, ⟨q, hq, hchk⟩, hrun⟩ := h
  cases hq0.symm.trans hq
  have hgs := hF.2.2.2.2.2.1
  simp only [am_step] at hrun
  simp only [am_rchk, Bool.and_eq_true, decide_eq_true_eq] at hchk
  dsimp only at hdg
  obtain ⟨e1, e2⟩ := hchk
  cases Nat.eq_of_beq_eq_true e1
  exact lv_lconst hx hb hdg e2 (am_go h0 hrun (am_gl.c trivial hgs))

theorem am_s_ldc2 {len : Nat} {w : Int32} {a b c9 : Nat} {tb : List (Int32 × Nat)} {k9 : Nat} (h : am_Hyp D aC xa uv X XL z l n y pc ls st σ r (.ldc2_w k9, len, w, a, b, c9, tb) p R s m args meth c H locs lsA f f0 n0 sl0) : W p l e R s m args below meth c H locs (ah_n σ - n0) (ah_sl σ - sl0) (am_MQ below (am_Q D aC xa uv z f0 n0 r) args s (ah_n r.2 - n0) (ah_sl r.2 - sl0) (am_A z)) (F0 m pc lsA (st.map (am_cv xa uv f σ))) := by
  have h0 := h
  obtain ⟨ih, hy, ⟨hx, hb, hml, hlk, hts, q0, hq0, hrt, hown, hnm, hfr, hlc, htab⟩, hC, hF, hc1, hc2, hdg, ⟨q, hq, hchk⟩, hrun⟩ := h
  cases hq0.symm.trans hq
  have hgs := hF.2.2.2.2.2.1
  simp only [am_step] at hrun
  simp only [am_rchk, Bool.and_eq_true, decide_eq_true_eq] at hchk
  dsimp only at hdg
  obtain ⟨e1, e2⟩ := hchk
  cases Nat.eq_of_beq_eq_true e1
  obtain ⟨⟨o', k', w', pos⟩, hq9, e3⟩ := List.any_eq_true.mp e2
  simp only [Bool.and_eq_true, decide_eq_true_eq] at e3
  obtain ⟨⟨e3, e4⟩, e5⟩ := e3
  cases Nat.eq_of_beq_eq_true e3
  cases Nat.eq_of_beq_eq_true e4
  subst e5
  have e6 := List.all_eq_true.mp am_lt_ok _ hq9
  simp only [decide_eq_true_eq] at e6
  exact lv_ldc2 hx hb hown (hts _ (am_T_of e6 rfl)) hdg (am_go h0 hrun (am_gl.c trivial hgs))

theorem am_s_null {len : Nat} {w : Int32} {a b c9 : Nat} {tb : List (Int32 × Nat)} (h : am_Hyp D aC xa uv X XL z l n y pc ls st σ r (.aconst_null, len, w, a, b, c9, tb) p R s m args meth c H locs lsA f f0 n0 sl0) : W p l e R s m args below meth c H locs (ah_n σ - n0) (ah_sl σ - sl0) (am_MQ below (am_Q D aC xa uv z f0 n0 r) args s (ah_n r.2 - n0) (ah_sl r.2 - sl0) (am_A z)) (F0 m pc lsA (st.map (am_cv xa uv f σ))) := by
  have h0 := h
  obtain ⟨ih, hy, ⟨hx, hb, hml, hlk, hts, q0, hq0, hrt, hown, hnm, hfr, hlc, htab⟩, hC, hF, hc1, hc2, hdg, ⟨q, hq, hchk⟩, hrun⟩ := h
  cases hq0.symm.trans hq
  have hgs := hF.2.2.2.2.2.1
  simp only [am_step] at hrun
  simp only [am_rchk, Bool.and_eq_true, decide_eq_true_eq] at hchk
  dsimp only at hdg
  cases Nat.eq_of_beq_eq_true hchk
  exact lv_null hx hb hdg (am_go h0 hrun (am_gl.c trivial hgs))

theorem am_s_iload_n {len : Nat} {w : Int32} {a b c9 : Nat} {tb : List (Int32 × Nat)} {k9 : Fin 4} (h : am_Hyp D aC xa uv X XL z l n y pc ls st σ r (.iload_n k9, len, w, a, b, c9, tb) p R s m args meth c H locs lsA f f0 n0 sl0) : W p l e R s m args below meth c H locs (ah_n σ - n0) (ah_sl σ - sl0) (am_MQ below (am_Q D aC xa uv z f0 n0 r) args s (ah_n r.2 - n0) (ah_sl r.2 - sl0) (am_A z)) (F0 m pc lsA (st.map (am_cv xa uv f σ))) := by
  have h0 := h
  obtain ⟨ih, hy, ⟨hx, hb, hml, hlk, hts, q0, hq0, hrt, hown, hnm, hfr, hlc, htab⟩, hC, hF, hc1, hc2, hdg, ⟨q, hq, hchk⟩, hrun⟩ := h
  cases hq0.symm.trans hq
  have hgs := hF.2.2.2.2.2.1
  simp only [am_step] at hrun
  simp only [am_rchk, Bool.and_eq_true, decide_eq_true_eq] at hchk
  dsimp only at hdg
  obtain ⟨e1, e2⟩ := hchk
  cases Nat.eq_of_beq_eq_true e1
  have e2 := Nat.eq_of_beq_eq_true e2
  subst e2
  unfold am_ldi at hrun
  split at hrun
  · rename_i x hxx
    exact lv_iload_n hx hb hdg rfl (hF.2.2.1.2.2 _ _ hxx rfl) (am_go h0 hrun (am_gl.c trivial hgs))
  · cases hrun

theorem am_s_iload {len : Nat} {w : Int32} {a b c9 : Nat} {tb : List (Int32 × Nat)} {k9 : Nat} (h : am_Hyp D aC xa uv X XL z l n y pc ls st σ r (.iload k9, len, w, a, b, c9, tb) p R s m args meth c H locs lsA f f0 n0 sl0) : W p l e R s m args below meth c H locs (ah_n σ - n0) (ah_sl σ - sl0) (am_MQ below (am_Q D aC xa uv z f0 n0 r) args s (ah_n r.2 - n0) (ah_sl r.2 - sl0) (am_A z)) (F0 m pc lsA (st.map (am_cv xa uv f σ))) := by
  have h0 := h
  obtain ⟨ih, hy, ⟨hx, hb, hml, hlk, hts, q0, hq0, hrt, hown, hnm, hfr, hlc, htab⟩, hC, hF, hc1, hc2, hdg, ⟨q, hq, hchk⟩, hrun⟩ := h
  cases hq0.symm.trans hq
  have hgs := hF.2.2.2.2.2.1
  simp only [am_step] at hrun
  simp only [am_rchk, Bool.and_eq_true, decide_eq_true_eq] at hchk
  dsimp only at hdg
  obtain ⟨e1, e2⟩ := hchk
  cases Nat.eq_of_beq_eq_true e1
  have e2 := Nat.eq_of_beq_eq_true e2
  subst e2
  unfold am_ldi at hrun
  split at hrun
  · rename_i x hxx
    exact lv_iload hx hb hdg (hF.2.2.1.2.2 _ _ hxx rfl) (am_go h0 hrun (am_gl.c trivial hgs))
  · cases hrun

theorem am_s_aload_n {len : Nat} {w : Int32} {a b c9 : Nat} {tb : List (Int32 × Nat)} {k9 : Fin 4} (h : am_Hyp D aC xa uv X XL z l n y pc ls st σ r (.aload_n k9, len, w, a, b, c9, tb) p R s m args meth c H locs lsA f f0 n0 sl0) : W p l e R s m args below meth c H locs (ah_n σ - n0) (ah_sl σ - sl0) (am_MQ below (am_Q D aC xa uv z f0 n0 r) args s (ah_n r.2 - n0) (ah_sl r.2 - sl0) (am_A z)) (F0 m pc lsA (st.map (am_cv xa uv f σ))) := by
  have h0 := h
  obtain ⟨ih, hy, ⟨hx, hb, hml, hlk, hts, q0, hq0, hrt, hown, hnm, hfr, hlc, htab⟩, hC, hF, hc1, hc2, hdg, ⟨q, hq, hchk⟩, hrun⟩ := h
  cases hq0.symm.trans hq
  have hgs := hF.2.2.2.2.2.1
  simp only [am_step] at hrun
  simp only [am_rchk, Bool.and_eq_true, decide_eq_true_eq] at hchk
  dsimp only at hdg
  obtain ⟨e1, e2⟩ := hchk
  cases Nat.eq_of_beq_eq_true e1
  have e2 := Nat.eq_of_beq_eq_true e2
  subst e2
  unfold am_lda at hrun
  split at hrun
  · rename_i x hxx
    have hgo := am_go (e := e) (below := below) h0 hrun (am_gl.c (am_gl.at hF.2.2.2.2.1 hxx) hgs)
    have hl9 := hF.2.2.1.2.2 _ _ hxx rfl
    simp only [List.map_cons] at hgo
    revert hgo hl9
    rcases x with _ | qq
    · intro hl9 hgo
      exact lv_aload_nN hx hb hdg rfl hl9 hgo
    · show (_ = some (Slot.val (am_rv xa uv f σ qq))) → W _ _ _ _ _ _ _ _ _ _ _ _ _ _ _ (F0 m _ lsA (am_rv xa uv f σ qq :: _)) → _
      unfold am_rv
      cases Nat.blt qq.1 200
      · cases Nat.blt qq.1 220
        · simp only [cond_false]
          rcases hC.2.2.2.2.1 qq.1 with e9 | ⟨b9, e9⟩ <;> rw [e9]
          · intro hl9 hgo
            exact lv_aload_nN hx hb hdg rfl hl9 hgo
          · intro hl9 hgo
            exact lv_aload_n hx hb hdg rfl hl9 hgo
        · intro hl9 hgo
          exact lv_aload_n hx hb hdg rfl hl9 hgo
      · intro hl9 hgo
        exact lv_aload_n hx hb hdg rfl hl9 hgo
  · cases hrun

theorem am_s_aload {len : Nat} {w : Int32} {a b c9 : Nat} {tb : List (Int32 × Nat)} {k9 : Nat} (h : am_Hyp D aC xa uv X XL z l n y pc ls st σ r (.aload k9, len, w, a, b, c9, tb) p R s m args meth c H locs lsA f f0 n0 sl0) : W p l e R s m args below meth c H locs (ah_n σ - n0) (ah_sl σ - sl0) (am_MQ below (am_Q D aC xa uv z f0 n0 r) args s (ah_n r.2 - n0) (ah_sl r.2 - sl0) (am_A z)) (F0 m pc lsA (st.map (am_cv xa uv f σ))) := by
  have h0 := h
  obtain ⟨ih, hy, ⟨hx, hb, hml, hlk, hts, q0, hq0, hrt, hown, hnm, hfr, hlc, htab⟩, hC, hF, hc1, hc2, hdg, ⟨q, hq, hchk⟩, hrun⟩ := h
  cases hq0.symm.trans hq
  have hgs := hF.2.2.2.2.2.1
  simp only [am_step] at hrun
  simp only [am_rchk, Bool.and_eq_true, decide_eq_true_eq] at hchk
  dsimp only at hdg
  obtain ⟨e1, e2⟩ := hchk
  cases Nat.eq_of_beq_eq_true e1
  have e2 := Nat.eq_of_beq_eq_true e2
  subst e2
  unfold am_lda at hrun
  split at hrun
  · rename_i x hxx
    have hgo := am_go (e := e) (below := below) h0 hrun (am_gl.c (am_gl.at hF.2.2.2.2.1 hxx) hgs)
    have hl9 := hF.2.2.1.2.2 _ _ hxx rfl
    simp only [List.map_cons] at hgo
    revert hgo hl9
    rcases x with _ | qq
    · intro hl9 hgo
      exact lv_aloadN hx hb hdg hl9 hgo
    · show (_ = some (Slot.val (am_rv xa uv f σ qq))) → W _ _ _ _ _ _ _ _ _ _ _ _ _ _ _ (F0 m _ lsA (am_rv xa uv f σ qq :: _)) → _
      unfold am_rv
      cases Nat.blt qq.1 200
      · cases Nat.blt qq.1 220
        · simp only [cond_false]
          rcases hC.2.2.2.2.1 qq.1 with e9 | ⟨b9, e9⟩ <;> rw [e9]
          · intro hl9 hgo
            exact lv_aloadN hx hb hdg hl9 hgo
          · intro hl9 hgo
            exact lv_aload hx hb hdg hl9 hgo
        · intro hl9 hgo
          exact lv_aload hx hb hdg hl9 hgo
      · intro hl9 hgo
        exact lv_aload hx hb hdg hl9 hgo
  · cases hrun

theorem am_s_iadd {len : Nat} {w : Int32} {a b c9 : Nat} {tb : List (Int32 × Nat)} (h : am_Hyp D aC xa uv X XL z l n y pc ls st σ r (.iadd, len, w, a, b, c9, tb) p R s m args meth c H locs lsA f f0 n0 sl0) : W p l e R s m args below meth c H locs (ah_n σ - n0) (ah_sl σ - sl0) (am_MQ below (am_Q D aC xa uv z f0 n0 r) args s (ah_n r.2 - n0) (ah_sl r.2 - sl0) (am_A z)) (F0 m pc lsA (st.map (am_cv xa uv f σ))) := by
  have h0 := h
  obtain ⟨ih, hy, ⟨hx, hb, hml, hlk, hts, q0, hq0, hrt, hown, hnm, hfr, hlc, htab⟩, hC, hF, hc1, hc2, hdg, ⟨q, hq, hchk⟩, hrun⟩ := h
  cases hq0.symm.trans hq
  have hgs := hF.2.2.2.2.2.1
  simp only [am_step] at hrun
  simp only [am_rchk, Bool.and_eq_true, decide_eq_true_eq] at hchk
  dsimp only at hdg
  cases Nat.eq_of_beq_eq_true hchk
  unfold am_bin at hrun
  split at hrun
  · exact lv_iadd hx hb hdg (am_go h0 hrun (am_gl.c trivial hgs.t.t))
  · cases hrun

theorem am_s_isub {len : Nat} {w : Int32} {a b c9 : Nat} {tb : List (Int32 × Nat)} (h : am_Hyp D aC xa uv X XL z l n y pc ls st σ r (.isub, len, w, a, b, c9, tb) p R s m args meth c H locs lsA f f0 n0 sl0) : W p l e R s m args below meth c H locs (ah_n σ - n0) (ah_sl σ - sl0) (am_MQ below (am_Q D aC xa uv z f0 n0 r) args s (ah_n r.2 - n0) (ah_sl r.2 - sl0) (am_A z)) (F0 m pc lsA (st.map (am_cv xa uv f σ))) := by
  have h0 := h
  obtain ⟨ih, hy, ⟨hx, hb, hml, hlk, hts, q0, hq0, hrt, hown, hnm, hfr, hlc, htab⟩, hC, hF, hc1, hc2, hdg, ⟨q, hq, hchk⟩, hrun⟩ := h
  cases hq0.symm.trans hq
  have hgs := hF.2.2.2.2.2.1
  simp only [am_step] at hrun
  simp only [am_rchk, Bool.and_eq_true, decide_eq_true_eq] at hchk
  dsimp only at hdg
  cases Nat.eq_of_beq_eq_true hchk
  unfold am_bin at hrun
  split at hrun
  · exact lv_isub hx hb hdg (am_go h0 hrun (am_gl.c trivial hgs.t.t))
  · cases hrun

theorem am_s_imul {len : Nat} {w : Int32} {a b c9 : Nat} {tb : List (Int32 × Nat)} (h : am_Hyp D aC xa uv X XL z l n y pc ls st σ r (.imul, len, w, a, b, c9, tb) p R s m args meth c H locs lsA f f0 n0 sl0) : W p l e R s m args below meth c H locs (ah_n σ - n0) (ah_sl σ - sl0) (am_MQ below (am_Q D aC xa uv z f0 n0 r) args s (ah_n r.2 - n0) (ah_sl r.2 - sl0) (am_A z)) (F0 m pc lsA (st.map (am_cv xa uv f σ))) := by
  have h0 := h
  obtain ⟨ih, hy, ⟨hx, hb, hml, hlk, hts, q0, hq0, hrt, hown, hnm, hfr, hlc, htab⟩, hC, hF, hc1, hc2, hdg, ⟨q, hq, hchk⟩, hrun⟩ := h
  cases hq0.symm.trans hq
  have hgs := hF.2.2.2.2.2.1
  simp only [am_step] at hrun
  simp only [am_rchk, Bool.and_eq_true, decide_eq_true_eq] at hchk
  dsimp only at hdg
  cases Nat.eq_of_beq_eq_true hchk
  unfold am_bin at hrun
  split at hrun
  · exact lv_imul hx hb hdg (am_go h0 hrun (am_gl.c trivial hgs.t.t))
  · cases hrun

theorem am_s_iand {len : Nat} {w : Int32} {a b c9 : Nat} {tb : List (Int32 × Nat)} (h : am_Hyp D aC xa uv X XL z l n y pc ls st σ r (.iand, len, w, a, b, c9, tb) p R s m args meth c H locs lsA f f0 n0 sl0) : W p l e R s m args below meth c H locs (ah_n σ - n0) (ah_sl σ - sl0) (am_MQ below (am_Q D aC xa uv z f0 n0 r) args s (ah_n r.2 - n0) (ah_sl r.2 - sl0) (am_A z)) (F0 m pc lsA (st.map (am_cv xa uv f σ))) := by
  have h0 := h
  obtain ⟨ih, hy, ⟨hx, hb, hml, hlk, hts, q0, hq0, hrt, hown, hnm, hfr, hlc, htab⟩, hC, hF, hc1, hc2, hdg, ⟨q, hq, hchk⟩, hrun⟩ := h
  cases hq0.symm.trans hq
  have hgs := hF.2.2.2.2.2.1
  simp only [am_step] at hrun
  simp only [am_rchk, Bool.and_eq_true, decide_eq_true_eq] at hchk
  dsimp only at hdg
  cases Nat.eq_of_beq_eq_true hchk
  unfold am_bin at hrun
  split at hrun
  · exact lv_iand hx hb hdg (am_go h0 hrun (am_gl.c trivial hgs.t.t))
  · cases hrun

theorem am_s_ior {len : Nat} {w : Int32} {a b c9 : Nat} {tb : List (Int32 × Nat)} (h : am_Hyp D aC xa uv X XL z l n y pc ls st σ r (.ior, len, w, a, b, c9, tb) p R s m args meth c H locs lsA f f0 n0 sl0) : W p l e R s m args below meth c H locs (ah_n σ - n0) (ah_sl σ - sl0) (am_MQ below (am_Q D aC xa uv z f0 n0 r) args s (ah_n r.2 - n0) (ah_sl r.2 - sl0) (am_A z)) (F0 m pc lsA (st.map (am_cv xa uv f σ))) := by
  have h0 := h
  obtain ⟨ih, hy, ⟨hx, hb, hml, hlk, hts, q0, hq0, hrt, hown, hnm, hfr, hlc, htab⟩, hC, hF, hc1, hc2, hdg, ⟨q, hq, hchk⟩, hrun⟩ := h
  cases hq0.symm.trans hq
  have hgs := hF.2.2.2.2.2.1
  simp only [am_step] at hrun
  simp only [am_rchk, Bool.and_eq_true, decide_eq_true_eq] at hchk
  dsimp only at hdg
  cases Nat.eq_of_beq_eq_true hchk
  unfold am_bin at hrun
  split at hrun
  · exact lv_ior hx hb hdg (am_go h0 hrun (am_gl.c trivial hgs.t.t))
  · cases hrun

theorem am_s_ixor {len : Nat} {w : Int32} {a b c9 : Nat} {tb : List (Int32 × Nat)} (h : am_Hyp D aC xa uv X XL z l n y pc ls st σ r (.ixor, len, w, a, b, c9, tb) p R s m args meth c H locs lsA f f0 n0 sl0) : W p l e R s m args below meth c H locs (ah_n σ - n0) (ah_sl σ - sl0) (am_MQ below (am_Q D aC xa uv z f0 n0 r) args s (ah_n r.2 - n0) (ah_sl r.2 - sl0) (am_A z)) (F0 m pc lsA (st.map (am_cv xa uv f σ))) := by
  have h0 := h
  obtain ⟨ih, hy, ⟨hx, hb, hml, hlk, hts, q0, hq0, hrt, hown, hnm, hfr, hlc, htab⟩, hC, hF, hc1, hc2, hdg, ⟨q, hq, hchk⟩, hrun⟩ := h
  cases hq0.symm.trans hq
  have hgs := hF.2.2.2.2.2.1
  simp only [am_step] at hrun
  simp only [am_rchk, Bool.and_eq_true, decide_eq_true_eq] at hchk
  dsimp only at hdg
  cases Nat.eq_of_beq_eq_true hchk
  unfold am_bin at hrun
  split at hrun
  · exact lv_ixor hx hb hdg (am_go h0 hrun (am_gl.c trivial hgs.t.t))
  · cases hrun

theorem am_s_ishl {len : Nat} {w : Int32} {a b c9 : Nat} {tb : List (Int32 × Nat)} (h : am_Hyp D aC xa uv X XL z l n y pc ls st σ r (.ishl, len, w, a, b, c9, tb) p R s m args meth c H locs lsA f f0 n0 sl0) : W p l e R s m args below meth c H locs (ah_n σ - n0) (ah_sl σ - sl0) (am_MQ below (am_Q D aC xa uv z f0 n0 r) args s (ah_n r.2 - n0) (ah_sl r.2 - sl0) (am_A z)) (F0 m pc lsA (st.map (am_cv xa uv f σ))) := by
  have h0 := h
  obtain ⟨ih, hy, ⟨hx, hb, hml, hlk, hts, q0, hq0, hrt, hown, hnm, hfr, hlc, htab⟩, hC, hF, hc1, hc2, hdg, ⟨q, hq, hchk⟩, hrun⟩ := h
  cases hq0.symm.trans hq
  have hgs := hF.2.2.2.2.2.1
  simp only [am_step] at hrun
  simp only [am_rchk, Bool.and_eq_true, decide_eq_true_eq] at hchk
  dsimp only at hdg
  cases Nat.eq_of_beq_eq_true hchk
  unfold am_bin at hrun
  split at hrun
  · exact lv_ishl hx hb hdg (am_go h0 hrun (am_gl.c trivial hgs.t.t))
  · cases hrun

theorem am_s_ishr {len : Nat} {w : Int32} {a b c9 : Nat} {tb : List (Int32 × Nat)} (h : am_Hyp D aC xa uv X XL z l n y pc ls st σ r (.ishr, len, w, a, b, c9, tb) p R s m args meth c H locs lsA f f0 n0 sl0) : W p l e R s m args below meth c H locs (ah_n σ - n0) (ah_sl σ - sl0) (am_MQ below (am_Q D aC xa uv z f0 n0 r) args s (ah_n r.2 - n0) (ah_sl r.2 - sl0) (am_A z)) (F0 m pc lsA (st.map (am_cv xa uv f σ))) := by
  have h0 := h
  obtain ⟨ih, hy, ⟨hx, hb, hml, hlk, hts, q0, hq0, hrt, hown, hnm, hfr, hlc, htab⟩, hC, hF, hc1, hc2, hdg, ⟨q, hq, hchk⟩, hrun⟩ := h
  cases hq0.symm.trans hq
  have hgs := hF.2.2.2.2.2.1
  simp only [am_step] at hrun
  simp only [am_rchk, Bool.and_eq_true, decide_eq_true_eq] at hchk
  dsimp only at hdg
  cases Nat.eq_of_beq_eq_true hchk
  unfold am_bin at hrun
  split at hrun
  · exact lv_ishr hx hb hdg (am_go h0 hrun (am_gl.c trivial hgs.t.t))
  · cases hrun

theorem am_s_iushr {len : Nat} {w : Int32} {a b c9 : Nat} {tb : List (Int32 × Nat)} (h : am_Hyp D aC xa uv X XL z l n y pc ls st σ r (.iushr, len, w, a, b, c9, tb) p R s m args meth c H locs lsA f f0 n0 sl0) : W p l e R s m args below meth c H locs (ah_n σ - n0) (ah_sl σ - sl0) (am_MQ below (am_Q D aC xa uv z f0 n0 r) args s (ah_n r.2 - n0) (ah_sl r.2 - sl0) (am_A z)) (F0 m pc lsA (st.map (am_cv xa uv f σ))) := by
  have h0 := h
  obtain ⟨ih, hy, ⟨hx, hb, hml, hlk, hts, q0, hq0, hrt, hown, hnm, hfr, hlc, htab⟩, hC, hF, hc1, hc2, hdg, ⟨q, hq, hchk⟩, hrun⟩ := h
  cases hq0.symm.trans hq
  have hgs := hF.2.2.2.2.2.1
  simp only [am_step] at hrun
  simp only [am_rchk, Bool.and_eq_true, decide_eq_true_eq] at hchk
  dsimp only at hdg
  cases Nat.eq_of_beq_eq_true hchk
  unfold am_bin at hrun
  split at hrun
  · exact lv_iushr hx hb hdg rfl (am_go h0 hrun (am_gl.c trivial hgs.t.t))
  · cases hrun

theorem am_s_idiv {len : Nat} {w : Int32} {a b c9 : Nat} {tb : List (Int32 × Nat)} (h : am_Hyp D aC xa uv X XL z l n y pc ls st σ r (.idiv, len, w, a, b, c9, tb) p R s m args meth c H locs lsA f f0 n0 sl0) : W p l e R s m args below meth c H locs (ah_n σ - n0) (ah_sl σ - sl0) (am_MQ below (am_Q D aC xa uv z f0 n0 r) args s (ah_n r.2 - n0) (ah_sl r.2 - sl0) (am_A z)) (F0 m pc lsA (st.map (am_cv xa uv f σ))) := by
  have h0 := h
  obtain ⟨ih, hy, ⟨hx, hb, hml, hlk, hts, q0, hq0, hrt, hown, hnm, hfr, hlc, htab⟩, hC, hF, hc1, hc2, hdg, ⟨q, hq, hchk⟩, hrun⟩ := h
  cases hq0.symm.trans hq
  have hgs := hF.2.2.2.2.2.1
  simp only [am_step] at hrun
  simp only [am_rchk, Bool.and_eq_true, decide_eq_true_eq] at hchk
  dsimp only at hdg
  cases Nat.eq_of_beq_eq_true hchk
  split at hrun
  · split at hrun
    · cases hrun
    · rename_i hne
      exact lv_idiv hx hb hdg hne (am_go h0 hrun (am_gl.c trivial hgs.t.t))
  · cases hrun

theorem am_s_irem {len : Nat} {w : Int32} {a b c9 : Nat} {tb : List (Int32 × Nat)} (h : am_Hyp D aC xa uv X XL z l n y pc ls st σ r (.irem, len, w, a, b, c9, tb) p R s m args meth c H locs lsA f f0 n0 sl0) : W p l e R s m args below meth c H locs (ah_n σ - n0) (ah_sl σ - sl0) (am_MQ below (am_Q D aC xa uv z f0 n0 r) args s (ah_n r.2 - n0) (ah_sl r.2 - sl0) (am_A z)) (F0 m pc lsA (st.map (am_cv xa uv f σ))) := by
  have h0 := h
  obtain ⟨ih, hy, ⟨hx, hb, hml, hlk, hts, q0, hq0, hrt, hown, hnm, hfr, hlc, htab⟩, hC, hF, hc1, hc2, hdg, ⟨q, hq, hchk⟩, hrun⟩ := h
  cases hq0.symm.trans hq
  have hgs := hF.2.2.2.2.2.1
  simp only [am_step] at hrun
  simp only [am_rchk, Bool.and_eq_true, decide_eq_true_eq] at hchk
  dsimp only at hdg
  cases Nat.eq_of_beq_eq_true hchk
  split at hrun
  · split at hrun
    · cases hrun
    · rename_i hne
      exact lv_irem hx hb hdg hne (am_go h0 hrun (am_gl.c trivial hgs.t.t))
  · cases hrun

theorem am_s_ineg {len : Nat} {w : Int32} {a b c9 : Nat} {tb : List (Int32 × Nat)} (h : am_Hyp D aC xa uv X XL z l n y pc ls st σ r (.ineg, len, w, a, b, c9, tb) p R s m args meth c H locs lsA f f0 n0 sl0) : W p l e R s m args below meth c H locs (ah_n σ - n0) (ah_sl σ - sl0) (am_MQ below (am_Q D aC xa uv z f0 n0 r) args s (ah_n r.2 - n0) (ah_sl r.2 - sl0) (am_A z)) (F0 m pc lsA (st.map (am_cv xa uv f σ))) := by
  have h0 := h
  obtain ⟨ih, hy, ⟨hx, hb, hml, hlk, hts, q0, hq0, hrt, hown, hnm, hfr, hlc, htab⟩, hC, hF, hc1, hc2, hdg, ⟨q, hq, hchk⟩, hrun⟩ := h
  cases hq0.symm.trans hq
  have hgs := hF.2.2.2.2.2.1
  simp only [am_step] at hrun
  simp only [am_rchk, Bool.and_eq_true, decide_eq_true_eq] at hchk
  dsimp only at hdg
  cases Nat.eq_of_beq_eq_true hchk
  split at hrun
  · exact lv_ineg hx hb hdg (am_go h0 hrun (am_gl.c trivial hgs.t))
  · cases hrun

theorem am_s_i2l {len : Nat} {w : Int32} {a b c9 : Nat} {tb : List (Int32 × Nat)} (h : am_Hyp D aC xa uv X XL z l n y pc ls st σ r (.i2l, len, w, a, b, c9, tb) p R s m args meth c H locs lsA f f0 n0 sl0) : W p l e R s m args below meth c H locs (ah_n σ - n0) (ah_sl σ - sl0) (am_MQ below (am_Q D aC xa uv z f0 n0 r) args s (ah_n r.2 - n0) (ah_sl r.2 - sl0) (am_A z)) (F0 m pc lsA (st.map (am_cv xa uv f σ))) := by
  have h0 := h
  obtain ⟨ih, hy, ⟨hx, hb, hml, hlk, hts, q0, hq0, hrt, hown, hnm, hfr, hlc, htab⟩, hC, hF, hc1, hc2, hdg, ⟨q, hq, hchk⟩, hrun⟩ := h
  cases hq0.symm.trans hq
  have hgs := hF.2.2.2.2.2.1
  simp only [am_step] at hrun
  simp only [am_rchk, Bool.and_eq_true, decide_eq_true_eq] at hchk
  dsimp only at hdg
  cases Nat.eq_of_beq_eq_true hchk
  split at hrun
  · exact lv_i2l hx hb hdg rfl (am_go h0 hrun (am_gl.c trivial hgs.t))
  · cases hrun

theorem am_s_i2b {len : Nat} {w : Int32} {a b c9 : Nat} {tb : List (Int32 × Nat)} (h : am_Hyp D aC xa uv X XL z l n y pc ls st σ r (.i2b, len, w, a, b, c9, tb) p R s m args meth c H locs lsA f f0 n0 sl0) : W p l e R s m args below meth c H locs (ah_n σ - n0) (ah_sl σ - sl0) (am_MQ below (am_Q D aC xa uv z f0 n0 r) args s (ah_n r.2 - n0) (ah_sl r.2 - sl0) (am_A z)) (F0 m pc lsA (st.map (am_cv xa uv f σ))) := by
  have h0 := h
  obtain ⟨ih, hy, ⟨hx, hb, hml, hlk, hts, q0, hq0, hrt, hown, hnm, hfr, hlc, htab⟩, hC, hF, hc1, hc2, hdg, ⟨q, hq, hchk⟩, hrun⟩ := h
  cases hq0.symm.trans hq
  have hgs := hF.2.2.2.2.2.1
  simp only [am_step] at hrun
  simp only [am_rchk, Bool.and_eq_true, decide_eq_true_eq] at hchk
  dsimp only at hdg
  cases Nat.eq_of_beq_eq_true hchk
  split at hrun
  · exact lv_i2b hx hb hdg rfl (am_go h0 hrun (am_gl.c trivial hgs.t))
  · cases hrun

theorem am_s_dup {len : Nat} {w : Int32} {a b c9 : Nat} {tb : List (Int32 × Nat)} (h : am_Hyp D aC xa uv X XL z l n y pc ls st σ r (.dup, len, w, a, b, c9, tb) p R s m args meth c H locs lsA f f0 n0 sl0) : W p l e R s m args below meth c H locs (ah_n σ - n0) (ah_sl σ - sl0) (am_MQ below (am_Q D aC xa uv z f0 n0 r) args s (ah_n r.2 - n0) (ah_sl r.2 - sl0) (am_A z)) (F0 m pc lsA (st.map (am_cv xa uv f σ))) := by
  have h0 := h
  obtain ⟨ih, hy, ⟨hx, hb, hml, hlk, hts, q0, hq0, hrt, hown, hnm, hfr, hlc, htab⟩, hC, hF, hc1, hc2, hdg, ⟨q, hq, hchk⟩, hrun⟩ := h
  cases hq0.symm.trans hq
  have hgs := hF.2.2.2.2.2.1
  simp only [am_step] at hrun
  simp only [am_rchk, Bool.and_eq_true, decide_eq_true_eq] at hchk
  dsimp only at hdg
  cases Nat.eq_of_beq_eq_true hchk
  split at hrun
  · exact lv_dup hx hb hdg rfl (am_go h0 hrun (am_gl.c trivial hgs))
  · exact lv_dup hx hb hdg (am_cat1 xa uv hC.2.2.2.2.1 rfl) (am_go h0 hrun (am_gl.c hgs.h hgs))
  · cases hrun

theorem am_s_dup2 {len : Nat} {w : Int32} {a b c9 : Nat} {tb : List (Int32 × Nat)} (h : am_Hyp D aC xa uv X XL z l n y pc ls st σ r (.dup2, len, w, a, b, c9, tb) p R s m args meth c H locs lsA f f0 n0 sl0) : W p l e R s m args below meth c H locs (ah_n σ - n0) (ah_sl σ - sl0) (am_MQ below (am_Q D aC xa uv z f0 n0 r) args s (ah_n r.2 - n0) (ah_sl r.2 - sl0) (am_A z)) (F0 m pc lsA (st.map (am_cv xa uv f σ))) := by
  have h0 := h
  obtain ⟨ih, hy, ⟨hx, hb, hml, hlk, hts, q0, hq0, hrt, hown, hnm, hfr, hlc, htab⟩, hC, hF, hc1, hc2, hdg, ⟨q, hq, hchk⟩, hrun⟩ := h
  cases hq0.symm.trans hq
  have hgs := hF.2.2.2.2.2.1
  simp only [am_step] at hrun
  simp only [am_rchk, Bool.and_eq_true, decide_eq_true_eq] at hchk
  dsimp only at hdg
  cases Nat.eq_of_beq_eq_true hchk
  split at hrun
  · exact lv_dup2_11 hx hb hdg rfl (am_cat1 xa uv hC.2.2.2.2.1 rfl) (am_go h0 hrun (am_gl.c trivial (am_gl.c hgs.t.h hgs)))
  · cases hrun

theorem am_s_dup_x1 {len : Nat} {w : Int32} {a b c9 : Nat} {tb : List (Int32 × Nat)} (h : am_Hyp D aC xa uv X XL z l n y pc ls st σ r (.dup_x1, len, w, a, b, c9, tb) p R s m args meth c H locs lsA f f0 n0 sl0) : W p l e R s m args below meth c H locs (ah_n σ - n0) (ah_sl σ - sl0) (am_MQ below (am_Q D aC xa uv z f0 n0 r) args s (ah_n r.2 - n0) (ah_sl r.2 - sl0) (am_A z)) (F0 m pc lsA (st.map (am_cv xa uv f σ))) := by
  have h0 := h
  obtain ⟨ih, hy, ⟨hx, hb, hml, hlk, hts, q0, hq0, hrt, hown, hnm, hfr, hlc, htab⟩, hC, hF, hc1, hc2, hdg, ⟨q, hq, hchk⟩, hrun⟩ := h
  cases hq0.symm.trans hq
  have hgs := hF.2.2.2.2.2.1
  simp only [am_step] at hrun
  simp only [am_rchk, Bool.and_eq_true, decide_eq_true_eq] at hchk
  dsimp only at hdg
  cases Nat.eq_of_beq_eq_true hchk
  split at hrun
  · exact lv_dup_x1 hx hb hdg rfl (am_cat1 xa uv hC.2.2.2.2.1 rfl) (am_go h0 hrun (am_gl.c trivial (am_gl.c hgs.t.h (am_gl.c trivial hgs.t.t))))
  · cases hrun

theorem am_s_goto {len : Nat} {w : Int32} {a b c9 : Nat} {tb : List (Int32 × Nat)} {k9 : Int} (h : am_Hyp D aC xa uv X XL z l n y pc ls st σ r (.goto k9, len, w, a, b, c9, tb) p R s m args meth c H locs lsA f f0 n0 sl0) : W p l e R s m args below meth c H locs (ah_n σ - n0) (ah_sl σ - sl0) (am_MQ below (am_Q D aC xa uv z f0 n0 r) args s (ah_n r.2 - n0) (ah_sl r.2 - sl0) (am_A z)) (F0 m pc lsA (st.map (am_cv xa uv f σ))) := by
  have h0 := h
  obtain ⟨ih, hy, ⟨hx, hb, hml, hlk, hts, q0, hq0, hrt, hown, hnm, hfr, hlc, htab⟩, hC, hF, hc1, hc2, hdg, ⟨q, hq, hchk⟩, hrun⟩ := h
  cases hq0.symm.trans hq
  have hgs := hF.2.2.2.2.2.1
  simp only [am_step] at hrun
  simp only [am_rchk, Bool.and_eq_true, decide_eq_true_eq] at hchk
  dsimp only at hdg
  obtain ⟨e1, e2⟩ := hchk
  cases Nat.eq_of_beq_eq_true e1
  exact lv_goto hx hb hdg e2 (am_go h0 hrun hgs)

theorem am_s_icmp_eq {len : Nat} {w : Int32} {a b c9 : Nat} {tb : List (Int32 × Nat)} {k9 : Int} (h : am_Hyp D aC xa uv X XL z l n y pc ls st σ r (.if_icmp .eq k9, len, w, a, b, c9, tb) p R s m args meth c H locs lsA f f0 n0 sl0) : W p l e R s m args below meth c H locs (ah_n σ - n0) (ah_sl σ - sl0) (am_MQ below (am_Q D aC xa uv z f0 n0 r) args s (ah_n r.2 - n0) (ah_sl r.2 - sl0) (am_A z)) (F0 m pc lsA (st.map (am_cv xa uv f σ))) := by
  have h0 := h
  obtain ⟨ih, hy, ⟨hx, hb, hml, hlk, hts, q0, hq0, hrt, hown, hnm, hfr, hlc, htab⟩, hC, hF, hc1, hc2, hdg, ⟨q, hq, hchk⟩, hrun⟩ := h
  cases hq0.symm.trans hq
  have hgs := hF.2.2.2.2.2.1
  simp only [am_step] at hrun
  simp only [am_rchk, Bool.and_eq_true, decide_eq_true_eq] at hchk
  dsimp only at hdg
  obtain ⟨e1, e2⟩ := hchk
  cases Nat.eq_of_beq_eq_true e1
  unfold am_cmp2 at hrun
  split at hrun
  · dsimp only at hrun
    refine lv_icmp_eq hx hb hdg e2 (fun hc => ?_) (fun hc => ?_)
    · rw [if_pos hc] at hrun
      exact am_go h0 hrun hgs.t.t
    · rw [if_neg hc] at hrun
      exact am_go h0 hrun hgs.t.t
  · cases hrun

theorem am_s_if_eq {len : Nat} {w : Int32} {a b c9 : Nat} {tb : List (Int32 × Nat)} {k9 : Int} (h : am_Hyp D aC xa uv X XL z l n y pc ls st σ r (.ifCond .eq k9, len, w, a, b, c9, tb) p R s m args meth c H locs lsA f f0 n0 sl0) : W p l e R s m args below meth c H locs (ah_n σ - n0) (ah_sl σ - sl0) (am_MQ below (am_Q D aC xa uv z f0 n0 r) args s (ah_n r.2 - n0) (ah_sl r.2 - sl0) (am_A z)) (F0 m pc lsA (st.map (am_cv xa uv f σ))) := by
  have h0 := h
  obtain ⟨ih, hy, ⟨hx, hb, hml, hlk, hts, q0, hq0, hrt, hown, hnm, hfr, hlc, htab⟩, hC, hF, hc1, hc2, hdg, ⟨q, hq, hchk⟩, hrun⟩ := h
  cases hq0.symm.trans hq
  have hgs := hF.2.2.2.2.2.1
  simp only [am_step] at hrun
  simp only [am_rchk, Bool.and_eq_true, decide_eq_true_eq] at hchk
  dsimp only at hdg
  obtain ⟨e1, e2⟩ := hchk
  cases Nat.eq_of_beq_eq_true e1
  unfold am_cmp1 at hrun
  split at hrun
  · dsimp only at hrun
    refine lv_if_eq hx hb hdg e2 (fun hc => ?_) (fun hc => ?_)
    · rw [if_pos hc] at hrun
      exact am_go h0 hrun hgs.t
    · rw [if_neg hc] at hrun
      exact am_go h0 hrun hgs.t
  · cases hrun

theorem am_s_icmp_ne {len : Nat} {w : Int32} {a b c9 : Nat} {tb : List (Int32 × Nat)} {k9 : Int} (h : am_Hyp D aC xa uv X XL z l n y pc ls st σ r (.if_icmp .ne k9, len, w, a, b, c9, tb) p R s m args meth c H locs lsA f f0 n0 sl0) : W p l e R s m args below meth c H locs (ah_n σ - n0) (ah_sl σ - sl0) (am_MQ below (am_Q D aC xa uv z f0 n0 r) args s (ah_n r.2 - n0) (ah_sl r.2 - sl0) (am_A z)) (F0 m pc lsA (st.map (am_cv xa uv f σ))) := by
  have h0 := h
  obtain ⟨ih, hy, ⟨hx, hb, hml, hlk, hts, q0, hq0, hrt, hown, hnm, hfr, hlc, htab⟩, hC, hF, hc1, hc2, hdg, ⟨q, hq, hchk⟩, hrun⟩ := h
  cases hq0.symm.trans hq
  have hgs := hF.2.2.2.2.2.1
  simp only [am_step] at hrun
  simp only [am_rchk, Bool.and_eq_true, decide_eq_true_eq] at hchk
  dsimp only at hdg
  obtain ⟨e1, e2⟩ := hchk
  cases Nat.eq_of_beq_eq_true e1
  unfold am_cmp2 at hrun
  split at hrun
  · dsimp only at hrun
    refine lv_icmp_ne hx hb hdg e2 (fun hc => ?_) (fun hc => ?_)
    · rw [if_neg hc] at hrun
      exact am_go h0 hrun hgs.t.t
    · rw [if_pos hc] at hrun
      exact am_go h0 hrun hgs.t.t
  · cases hrun

theorem am_s_if_ne {len : Nat} {w : Int32} {a b c9 : Nat} {tb : List (Int32 × Nat)} {k9 : Int} (h : am_Hyp D aC xa uv X XL z l n y pc ls st σ r (.ifCond .ne k9, len, w, a, b, c9, tb) p R s m args meth c H locs lsA f f0 n0 sl0) : W p l e R s m args below meth c H locs (ah_n σ - n0) (ah_sl σ - sl0) (am_MQ below (am_Q D aC xa uv z f0 n0 r) args s (ah_n r.2 - n0) (ah_sl r.2 - sl0) (am_A z)) (F0 m pc lsA (st.map (am_cv xa uv f σ))) := by
  have h0 := h
  obtain ⟨ih, hy, ⟨hx, hb, hml, hlk, hts, q0, hq0, hrt, hown, hnm, hfr, hlc, htab⟩, hC, hF, hc1, hc2, hdg, ⟨q, hq, hchk⟩, hrun⟩ := h
  cases hq0.symm.trans hq
  have hgs := hF.2.2.2.2.2.1
  simp only [am_step] at hrun
  simp only [am_rchk, Bool.and_eq_true, decide_eq_true_eq] at hchk
  dsimp only at hdg
  obtain ⟨e1, e2⟩ := hchk
  cases Nat.eq_of_beq_eq_true e1
  unfold am_cmp1 at hrun
  split at hrun
  · dsimp only at hrun
    refine lv_if_ne hx hb hdg e2 (fun hc => ?_) (fun hc => ?_)
    · rw [if_neg hc] at hrun
      exact am_go h0 hrun hgs.t
    · rw [if_pos hc] at hrun
      exact am_go h0 hrun hgs.t
  · cases hrun

theorem am_s_icmp_lt {len : Nat} {w : Int32} {a b c9 : Nat} {tb : List (Int32 × Nat)} {k9 : Int} (h : am_Hyp D aC xa uv X XL z l n y pc ls st σ r (.if_icmp .lt k9, len, w, a, b, c9, tb) p R s m args meth c H locs lsA f f0 n0 sl0) : W p l e R s m args below meth c H locs (ah_n σ - n0) (ah_sl σ - sl0) (am_MQ below (am_Q D aC xa uv z f0 n0 r) args s (ah_n r.2 - n0) (ah_sl r.2 - sl0) (am_A z)) (F0 m pc lsA (st.map (am_cv xa uv f σ))) := by
  have h0 := h
  obtain ⟨ih, hy, ⟨hx, hb, hml, hlk, hts, q0, hq0, hrt, hown, hnm, hfr, hlc, htab⟩, hC, hF, hc1, hc2, hdg, ⟨q, hq, hchk⟩, hrun⟩ := h
  cases hq0.symm.trans hq
  have hgs := hF.2.2.2.2.2.1
  simp only [am_step] at hrun
  simp only [am_rchk, Bool.and_eq_true, decide_eq_true_eq] at hchk
  dsimp only at hdg
  obtain ⟨e1, e2⟩ := hchk
  cases Nat.eq_of_beq_eq_true e1
  unfold am_cmp2 at hrun
  split at hrun
  · dsimp only at hrun
    refine lv_icmp_lt hx hb hdg e2 (fun hc => ?_) (fun hc => ?_)
    · rw [if_pos hc] at hrun
      exact am_go h0 hrun hgs.t.t
    · rw [if_neg hc] at hrun
      exact am_go h0 hrun hgs.t.t
  · cases hrun

theorem am_s_if_lt {len : Nat} {w : Int32} {a b c9 : Nat} {tb : List (Int32 × Nat)} {k9 : Int} (h : am_Hyp D aC xa uv X XL z l n y pc ls st σ r (.ifCond .lt k9, len, w, a, b, c9, tb) p R s m args meth c H locs lsA f f0 n0 sl0) : W p l e R s m args below meth c H locs (ah_n σ - n0) (ah_sl σ - sl0) (am_MQ below (am_Q D aC xa uv z f0 n0 r) args s (ah_n r.2 - n0) (ah_sl r.2 - sl0) (am_A z)) (F0 m pc lsA (st.map (am_cv xa uv f σ))) := by
  have h0 := h
  obtain ⟨ih, hy, ⟨hx, hb, hml, hlk, hts, q0, hq0, hrt, hown, hnm, hfr, hlc, htab⟩, hC, hF, hc1, hc2, hdg, ⟨q, hq, hchk⟩, hrun⟩ := h
  cases hq0.symm.trans hq
  have hgs := hF.2.2.2.2.2.1
  simp only [am_step] at hrun
  simp only [am_rchk, Bool.and_eq_true, decide_eq_true_eq] at hchk
  dsimp only at hdg
  obtain ⟨e1, e2⟩ := hchk
  cases Nat.eq_of_beq_eq_true e1
  unfold am_cmp1 at hrun
  split at hrun
  · dsimp only at hrun
    refine lv_if_lt hx hb hdg e2 (fun hc => ?_) (fun hc => ?_)
    · rw [if_pos hc] at hrun
      exact am_go h0 hrun hgs.t
    · rw [if_neg hc] at hrun
      exact am_go h0 hrun hgs.t
  · cases hrun

theorem am_s_icmp_ge {len : Nat} {w : Int32} {a b c9 : Nat} {tb : List (Int32 × Nat)} {k9 : Int} (h : am_Hyp D aC xa uv X XL z l n y pc ls st σ r (.if_icmp .ge k9, len, w, a, b, c9, tb) p R s m args meth c H locs lsA f f0 n0 sl0) : W p l e R s m args below meth c H locs (ah_n σ - n0) (ah_sl σ - sl0) (am_MQ below (am_Q D aC xa uv z f0 n0 r) args s (ah_n r.2 - n0) (ah_sl r.2 - sl0) (am_A z)) (F0 m pc lsA (st.map (am_cv xa uv f σ))) := by
  have h0 := h
  obtain ⟨ih, hy, ⟨hx, hb, hml, hlk, hts, q0, hq0, hrt, hown, hnm, hfr, hlc, htab⟩, hC, hF, hc1, hc2, hdg, ⟨q, hq, hchk⟩, hrun⟩ := h
  cases hq0.symm.trans hq
  have hgs := hF.2.2.2.2.2.1
  simp only [am_step] at hrun
  simp only [am_rchk, Bool.and_eq_true, decide_eq_true_eq] at hchk
  dsimp only at hdg
  obtain ⟨e1, e2⟩ := hchk
  cases Nat.eq_of_beq_eq_true e1
  unfold am_cmp2 at hrun
  split at hrun
  · dsimp only at hrun
    refine lv_icmp_ge hx hb hdg e2 (fun hc => ?_) (fun hc => ?_)
    · rw [if_pos hc] at hrun
      exact am_go h0 hrun hgs.t.t
    · rw [if_neg hc] at hrun
      exact am_go h0 hrun hgs.t.t
  · cases hrun

theorem am_s_if_ge {len : Nat} {w : Int32} {a b c9 : Nat} {tb : List (Int32 × Nat)} {k9 : Int} (h : am_Hyp D aC xa uv X XL z l n y pc ls st σ r (.ifCond .ge k9, len, w, a, b, c9, tb) p R s m args meth c H locs lsA f f0 n0 sl0) : W p l e R s m args below meth c H locs (ah_n σ - n0) (ah_sl σ - sl0) (am_MQ below (am_Q D aC xa uv z f0 n0 r) args s (ah_n r.2 - n0) (ah_sl r.2 - sl0) (am_A z)) (F0 m pc lsA (st.map (am_cv xa uv f σ))) := by
  have h0 := h
  obtain ⟨ih, hy, ⟨hx, hb, hml, hlk, hts, q0, hq0, hrt, hown, hnm, hfr, hlc, htab⟩, hC, hF, hc1, hc2, hdg, ⟨q, hq, hchk⟩, hrun⟩ := h
  cases hq0.symm.trans hq
  have hgs := hF.2.2.2.2.2.1
  simp only [am_step] at hrun
  simp only [am_rchk, Bool.and_eq_true, decide_eq_true_eq] at hchk
  dsimp only at hdg
  obtain ⟨e1, e2⟩ := hchk
  cases Nat.eq_of_beq_eq_true e1
  unfold am_cmp1 at hrun
  split at hrun
  · dsimp only at hrun
    refine lv_if_ge hx hb hdg e2 (fun hc => ?_) (fun hc => ?_)
    · rw [if_pos hc] at hrun
      exact am_go h0 hrun hgs.t
    · rw [if_neg hc] at hrun
      exact am_go h0 hrun hgs.t
  · cases hrun

theorem am_s_icmp_gt {len : Nat} {w : Int32} {a b c9 : Nat} {tb : List (Int32 × Nat)} {k9 : Int} (h : am_Hyp D aC xa uv X XL z l n y pc ls st σ r (.if_icmp .gt k9, len, w, a, b, c9, tb) p R s m args meth c H locs lsA f f0 n0 sl0) : W p l e R s m args below meth c H locs (ah_n σ - n0) (ah_sl σ - sl0) (am_MQ below (am_Q D aC xa uv z f0 n0 r) args s (ah_n r.2 - n0) (ah_sl r.2 - sl0) (am_A z)) (F0 m pc lsA (st.map (am_cv xa uv f σ))) := by
  have h0 := h
  obtain ⟨ih, hy, ⟨hx, hb, hml, hlk, hts, q0, hq0, hrt, hown, hnm, hfr, hlc, htab⟩, hC, hF, hc1, hc2, hdg, ⟨q, hq, hchk⟩, hrun⟩ := h
  cases hq0.symm.trans hq
  have hgs := hF.2.2.2.2.2.1
  simp only [am_step] at hrun
  simp only [am_rchk, Bool.and_eq_true, decide_eq_true_eq] at hchk
  dsimp only at hdg
  obtain ⟨e1, e2⟩ := hchk
  cases Nat.eq_of_beq_eq_true e1
  unfold am_cmp2 at hrun
  split at hrun
  · dsimp only at hrun
    refine lv_icmp_gt hx hb hdg e2 (fun hc => ?_) (fun hc => ?_)
    · rw [if_pos hc] at hrun
      exact am_go h0 hrun hgs.t.t
    · rw [if_neg hc] at hrun
      exact am_go h0 hrun hgs.t.t
  · cases hrun

theorem am_s_if_gt {len : Nat} {w : Int32} {a b c9 : Nat} {tb : List (Int32 × Nat)} {k9 : Int} (h : am_Hyp D aC xa uv X XL z l n y pc ls st σ r (.ifCond .gt k9, len, w, a, b, c9, tb) p R s m args meth c H locs lsA f f0 n0 sl0) : W p l e R s m args below meth c H locs (ah_n σ - n0) (ah_sl σ - sl0) (am_MQ below (am_Q D aC xa uv z f0 n0 r) args s (ah_n r.2 - n0) (ah_sl r.2 - sl0) (am_A z)) (F0 m pc lsA (st.map (am_cv xa uv f σ))) := by
  have h0 := h
  obtain ⟨ih, hy, ⟨hx, hb, hml, hlk, hts, q0, hq0, hrt, hown, hnm, hfr, hlc, htab⟩, hC, hF, hc1, hc2, hdg, ⟨q, hq, hchk⟩, hrun⟩ := h
  cases hq0.symm.trans hq
  have hgs := hF.2.2.2.2.2.1
  simp only [am_step] at hrun
  simp only [am_rchk, Bool.and_eq_true, decide_eq_true_eq] at hchk
  dsimp only at hdg
  obtain ⟨e1, e2⟩ := hchk
  cases Nat.eq_of_beq_eq_true e1
  unfold am_cmp1 at hrun
  split at hrun
  · dsimp only at hrun
    refine lv_if_gt hx hb hdg e2 (fun hc => ?_) (fun hc => ?_)
    · rw [if_pos hc] at hrun
      exact am_go h0 hrun hgs.t
    · rw [if_neg hc] at hrun
      exact am_go h0 hrun hgs.t
  · cases hrun

theorem am_s_icmp_le {len : Nat} {w : Int32} {a b c9 : Nat} {tb : List (Int32 × Nat)} {k9 : Int} (h : am_Hyp D aC xa uv X XL z l n y pc ls st σ r (.if_icmp .le k9, len, w, a, b, c9, tb) p R s m args meth c H locs lsA f f0 n0 sl0) : W p l e R s m args below meth c H locs (ah_n σ - n0) (ah_sl σ - sl0) (am_MQ below (am_Q D aC xa uv z f0 n0 r) args s (ah_n r.2 - n0) (ah_sl r.2 - sl0) (am_A z)) (F0 m pc lsA (st.map (am_cv xa uv f σ))) := by
  have h0 := h
  obtain ⟨ih, hy, ⟨hx, hb, hml, hlk, hts, q0, hq0, hrt, hown, hnm, hfr, hlc, htab⟩, hC, hF, hc1, hc2, hdg, ⟨q, hq, hchk⟩, hrun⟩ := h
  cases hq0.symm.trans hq
  have hgs := hF.2.2.2.2.2.1
  simp only [am_step] at hrun
  simp only [am_rchk, Bool.and_eq_true, decide_eq_true_eq] at hchk
  dsimp only at hdg
  obtain ⟨e1, e2⟩ := hchk
  cases Nat.eq_of_beq_eq_true e1
  unfold am_cmp2 at hrun
  split at hrun
  · dsimp only at hrun
    refine lv_icmp_le hx hb hdg e2 (fun hc => ?_) (fun hc => ?_)
    · rw [if_pos hc] at hrun
      exact am_go h0 hrun hgs.t.t
    · rw [if_neg hc] at hrun
      exact am_go h0 hrun hgs.t.t
  · cases hrun

theorem am_s_if_le {len : Nat} {w : Int32} {a b c9 : Nat} {tb : List (Int32 × Nat)} {k9 : Int} (h : am_Hyp D aC xa uv X XL z l n y pc ls st σ r (.ifCond .le k9, len, w, a, b, c9, tb) p R s m args meth c H locs lsA f f0 n0 sl0) : W p l e R s m args below meth c H locs (ah_n σ - n0) (ah_sl σ - sl0) (am_MQ below (am_Q D aC xa uv z f0 n0 r) args s (ah_n r.2 - n0) (ah_sl r.2 - sl0) (am_A z)) (F0 m pc lsA (st.map (am_cv xa uv f σ))) := by
  have h0 := h
  obtain ⟨ih, hy, ⟨hx, hb, hml, hlk, hts, q0, hq0, hrt, hown, hnm, hfr, hlc, htab⟩, hC, hF, hc1, hc2, hdg, ⟨q, hq, hchk⟩, hrun⟩ := h
  cases hq0.symm.trans hq
  have hgs := hF.2.2.2.2.2.1
  simp only [am_step] at hrun
  simp only [am_rchk, Bool.and_eq_true, decide_eq_true_eq] at hchk
  dsimp only at hdg
  obtain ⟨e1, e2⟩ := hchk
  cases Nat.eq_of_beq_eq_true e1
  unfold am_cmp1 at hrun
  split at hrun
  · dsimp only at hrun
    refine lv_if_le hx hb hdg e2 (fun hc => ?_) (fun hc => ?_)
    · rw [if_pos hc] at hrun
      exact am_go h0 hrun hgs.t
    · rw [if_neg hc] at hrun
      exact am_go h0 hrun hgs.t
  · cases hrun

end AmSimple
end
section
section AmHeap
variable {D : va_G} {aC : Nat → ClassId} {xa : Nat → Nat} {uv : Nat → Value} {X : Nat → Nat → Int32} {XL : Nat → Nat} {z : Nat}
variable {l : Launch} {n y pc : Nat} {ls st : List am_V} {σ : am_H} {r : am_O × am_H} {p : Program} {e : Env} {R : Room} {s : State} {m : MethodId} {args : Array Value} {below : List Frame} {meth : Method} {c : Code} {H : Heap} {locs : List Loc} {lsA : Array Slot} {f : Nat → Nat} {f0 : (Nat → Nat) × am_H} {n0 sl0 : Nat}
theorem am_goL {row : am_Row} (h : am_Hyp D aC xa uv X XL z l n y pc ls st σ r row p R s m args meth c H locs lsA f f0 n0 sl0) {pc' : Nat} {st' ls' : List am_V} {lsB : Array Slot} (hr : am_run am_ak X XL am_code am_ml n y pc' ls' st' σ = some r) (hg : am_gl σ st') (hg2 : am_gl σ ls') (hln : ls'.length = ls.length) (hls : am_ls xa uv f σ ls' lsB) :
    W p l e R s m args below meth c H locs (ah_n σ - n0) (ah_sl σ - sl0) (am_MQ below (am_Q D aC xa uv z f0 n0 r) args s (ah_n r.2 - n0) (ah_sl r.2 - sl0) (am_A z)) (F0 m pc' lsB (st'.map (am_cv xa uv f σ))) := by
  obtain ⟨ih, hy, hG, hC, ⟨a1, a2, a3, a4, a5, a6, a7, a8, a9⟩, h1, h2, -⟩ := h
  exact ih y pc' ls' st' σ r hr hy p e R s m args below meth c H locs lsB f f0 n0 sl0 hG hC ⟨a1, a2, hls, hln.trans a4, hg2, hg, a7, a8, a9⟩ h1 h2
theorem am_map_base {σ' : am_H} (hb : σ'.1 = σ.1) (st' : List am_V) : st'.map (am_cv xa uv f σ') = st'.map (am_cv xa uv f σ) := List.map_congr_left fun v _ => am_cv_base xa uv hb v
theorem am_goH {row : am_Row} (h : am_Hyp D aC xa uv X XL z l n y pc ls st σ r row p R s m args meth c H locs lsA f f0 n0 sl0) {pc' : Nat} {st' : List am_V} {σ' : am_H} {H' : Heap} {locs' : List Loc} (hr : am_run am_ak X XL am_code am_ml n y pc' ls st' σ' = some r) (hb : σ'.1 = σ.1) (hg : am_gl σ st') (hH : am_Hr D aC xa uv z f σ' H') (hS : va_S (am_A z) s.heap H' locs') :
    W p l e R s m args below meth c H' locs' (ah_n σ - n0) (ah_sl σ - sl0) (am_MQ below (am_Q D aC xa uv z f0 n0 r) args s (ah_n r.2 - n0) (ah_sl r.2 - sl0) (am_A z)) (F0 m pc' lsA (st'.map (am_cv xa uv f σ))) := by
  obtain ⟨ih, hy, hG, hC, ⟨a1, a2, a3, a4, a5, a6, a7, a8, a9⟩, h1, h2, -⟩ := h
  have e1 : ah_n σ' = ah_n σ := congrArg (fun b : am_B => b.1) hb
  have e2 : ah_sl σ' = ah_sl σ := congrArg (fun b : am_B => b.2.2.2.2.1) hb
  rw [← am_map_base hb, ← e1, ← e2]
  exact ih y pc' ls st' σ' r hr hy p e R s m args below meth c H' locs' lsA f f0 n0 sl0 hG hC ⟨hH, hS, am_ls_base xa uv hb a3, a4, a5.base hb, hg.base hb, ⟨am_ex_tr a7.1 (am_ex_base hb), a7.2⟩, by rw [e1]; exact a8, by rw [e2]; exact a9⟩ h1 h2
theorem am_blt {t k : Nat} (h : t < k) : Nat.blt t k = true := Nat.ble_eq_true_of_le h
theorem am_blt' {t k : Nat} (h : Nat.blt t k = true) : t < k := Nat.le_of_ble_eq_true h
theorem am_nblt {t k : Nat} (h : Nat.blt t k = false) : k ≤ t := by
  rcases Nat.lt_or_ge t k with h1 | h1
  · rw [am_blt h1] at h; cases h
  · exact h1
theorem am_cvr {t i : Nat} (h : t < 200) : am_cv xa uv f σ (.inr (.inr (some (t, i)))) = .ref (f (ah_ad σ t i)) := by
  show am_rv xa uv f σ (t, i) = _
  unfold am_rv
  simp only [am_blt h, cond_true]
theorem am_cvx {t i : Nat} (h : 200 ≤ t) (h2 : t < 220) : am_cv xa uv f σ (.inr (.inr (some (t, i)))) = .ref (xa t) := by
  show am_rv xa uv f σ (t, i) = _
  unfold am_rv
  have h1 : Nat.blt t 200 = false := by
    cases hb : Nat.blt t 200
    · rfl
    · exact absurd (am_blt' hb) (Nat.not_lt.mpr h)
  simp only [h1, cond_false, am_blt h2, cond_true]
theorem am_inv {j : Int32} {k : Nat} (h : am_in j k = true) : vp_in j k := by
  unfold am_in at h
  simp only [Bool.and_eq_true, Bool.not_eq_true', decide_eq_false_iff_not] at h
  exact fun hh => hh.elim h.1 (fun q => absurd (am_blt' h.2) (Nat.not_lt.mpr q))
theorem am_ak_obj {t : Nat} (h : t < 16) : am_ak t = 9 := by
  have : (List.range 16).all (fun t => Nat.beq (am_ak t) 9) = true := by decide +kernel
  exact Nat.eq_of_beq_eq_true (List.all_eq_true.mp this t (List.mem_range.mpr h))
/-- a good cell of ours, by its kind -/
theorem am_ws_arr {t i : Nat} (hg : am_gq σ (t, i)) (ht : t < 200) (hk : am_ak t < 3) : (am_ws aC xa uv f σ)[ah_ad σ t i]? = some (f (ah_ad σ t i), .inl (aC (am_ak t), ah_ln σ t i, .inl (ah_I σ t i))) := by
  rw [am_ws_at aC xa uv hg ht]
  have h16 : Nat.blt t 16 = false := by
    cases hb : Nat.blt t 16
    · rfl
    · rw [am_ak_obj (am_blt' hb)] at hk; omega
  unfold am_ce
  simp only [h16, cond_false, am_blt hk, cond_true]
theorem am_ws_arq {t i : Nat} (hg : am_gq σ (t, i)) (ht : t < 200) (hk : am_ak t = 3 ∨ am_ak t = 4) : (am_ws aC xa uv f σ)[ah_ad σ t i]? = some (f (ah_ad σ t i), .inl (aC (am_ak t), ah_ln σ t i, .inr (.inr (.inr (.inr (fun j => (ah_R σ t i j).map (fun r => f (ah_ad σ r.1 r.2)))))))) := by
  rw [am_ws_at aC xa uv hg ht]
  have h16 : Nat.blt t 16 = false := by
    cases hb : Nat.blt t 16
    · rfl
    · rw [am_ak_obj (am_blt' hb)] at hk; omega
  have h3 : Nat.blt (am_ak t) 3 = false := by
    cases hb : Nat.blt (am_ak t) 3
    · rfl
    · have := am_blt' hb; omega
  unfold am_ce
  simp only [h16, cond_false, h3]
theorem am_ws_obj {t i : Nat} (hg : am_gq σ (t, i)) (ht : t < 14) : (am_ws aC xa uv f σ)[ah_ad σ t i]? = some (f (ah_ad σ t i), .inr (t, (List.range (am_nf t)).map (am_fv xa uv f σ t i))) := by
  rw [am_ws_at aC xa uv hg (by omega)]
  unfold am_ce
  simp only [am_blt (show t < 16 by omega), cond_true]
/-- a row's place gets a number: the cells behind it -/
theorem am_Hr_arr {t i j : Nat} {x : Int32} {H1 : Heap} (hH : am_Hr D aC xa uv z f σ H) (hg : am_gq σ (t, i)) (ht : t < 200) (hk : am_ak t < 3)
    (hP : va_P D vwCl ((am_ws aC xa uv f σ).set (ah_ad σ t i) (f (ah_ad σ t i), .inl (aC (am_ak t), ah_ln σ t i, .inl (upd (ah_I σ t i) j x)))) H1)
    (hD : va_D (am_A z) ((am_ws aC xa uv f σ).set (ah_ad σ t i) (f (ah_ad σ t i), .inl (aC (am_ak t), ah_ln σ t i, .inl (upd (ah_I σ t i) j x))))) : am_Hr D aC xa uv z f (am_sI σ t i j x) H1 := by
  have e1 : am_ws aC xa uv f (am_sI σ t i j x) = (am_ws aC xa uv f σ).set (ah_ad σ t i) (f (ah_ad σ t i), .inl (aC (am_ak t), ah_ln σ t i, .inl (upd (ah_I σ t i) j x))) := by
    rw [am_ws_set aC xa uv (σ' := am_sI σ t i j x) hH.2.2 hg ht rfl (fun t' i' hne => by show am_c σ.2.1 t i _ t' i' = _; rw [am_c, if_neg hne]) (fun _ _ _ => rfl)]
    have h16 : Nat.blt t 16 = false := by
      cases hb : Nat.blt t 16
      · rfl
      · rw [am_ak_obj (am_blt' hb)] at hk; omega
    have e2 : am_ce aC xa uv f (am_sI σ t i j x) (t, i) = .inl (aC (am_ak t), ah_ln σ t i, .inl (upd (ah_I σ t i) j x)) := by
      unfold am_ce
      simp only [h16, cond_false, am_blt hk, cond_true]
      show Sum.inl (aC (am_ak t), ah_ln σ t i, Sum.inl (am_c σ.2.1 t i (upd (σ.2.1 t i) j x) t i)) = _
      rw [am_c, if_pos ⟨rfl, rfl⟩]
    rw [e2]
  refine ⟨by rw [e1]; exact hP, by rw [e1]; exact hD, am_wf_I hH.2.2 t i j x⟩
end AmHeap
end
section
section AmHeap2
variable {D : va_G} {aC : Nat → ClassId} {xa : Nat → Nat} {uv : Nat → Value} {X : Nat → Nat → Int32} {XL : Nat → Nat} {z : Nat}
variable {l : Launch} {n y pc : Nat} {ls st : List am_V} {σ : am_H} {r : am_O × am_H} {p : Program} {e : Env} {R : Room} {s : State} {m : MethodId} {args : Array Value} {below : List Frame} {meth : Method} {c : Code} {H : Heap} {locs : List Loc} {lsA : Array Slot} {f : Nat → Nat} {f0 : (Nat → Nat) × am_H} {n0 sl0 : Nat}
theorem am_s_istore_n {len : Nat} {w : Int32} {a b c9 : Nat} {tb : List (Int32 × Nat)} {k9 : Fin 4} (h : am_Hyp D aC xa uv X XL z l n y pc ls st σ r (.istore_n k9, len, w, a, b, c9, tb) p R s m args meth c H locs lsA f f0 n0 sl0) : W p l e R s m args below meth c H locs (ah_n σ - n0) (ah_sl σ - sl0) (am_MQ below (am_Q D aC xa uv z f0 n0 r) args s (ah_n r.2 - n0) (ah_sl r.2 - sl0) (am_A z)) (F0 m pc lsA (st.map (am_cv xa uv f σ))) := by
  have h0 := h
  obtain ⟨ih, hy, ⟨hx, hb, hml, hlk, hts, q0, hq0, hrt, hown, hnm, hfr, hlc, htab⟩, hC, hF, hc1, hc2, hdg, ⟨q, hq, hchk⟩, hrun⟩ := h
  cases hq0.symm.trans hq
  have hgs := hF.2.2.2.2.2.1
  simp only [am_step] at hrun
  simp only [am_rchk, Bool.and_eq_true, decide_eq_true_eq] at hchk
  dsimp only at hdg
  obtain ⟨e1, e2⟩ := hchk
  cases Nat.eq_of_beq_eq_true e1
  have e2 := Nat.eq_of_beq_eq_true e2
  subst e2
  unfold am_sti at hrun
  split at hrun
  · rename_i x r9
    cases hlt : Nat.blt k9.val ls.length <;> simp only [hlt, cond_true, cond_false] at hrun
    · cases hrun
    · have hlt := am_blt' hlt
      exact lv_istore_n hx hb hdg rfl (am_ls_has xa uv hF.2.2.1) hlt rfl (fun lsB hlB => am_goL h0 hrun hgs.t (hF.2.2.2.2.1.set trivial) List.length_set (am_ls_put xa uv (v := .inl x) hC.2.2.2.2.1 hlt hlB))
  · cases hrun

theorem am_s_istore {len : Nat} {w : Int32} {a b c9 : Nat} {tb : List (Int32 × Nat)} {k9 : Nat} (h : am_Hyp D aC xa uv X XL z l n y pc ls st σ r (.istore k9, len, w, a, b, c9, tb) p R s m args meth c H locs lsA f f0 n0 sl0) : W p l e R s m args below meth c H locs (ah_n σ - n0) (ah_sl σ - sl0) (am_MQ below (am_Q D aC xa uv z f0 n0 r) args s (ah_n r.2 - n0) (ah_sl r.2 - sl0) (am_A z)) (F0 m pc lsA (st.map (am_cv xa uv f σ))) := by
  have h0 := h
  obtain ⟨ih, hy, ⟨hx, hb, hml, hlk, hts, q0, hq0, hrt, hown, hnm, hfr, hlc, htab⟩, hC, hF, hc1, hc2, hdg, ⟨q, hq, hchk⟩, hrun⟩ := h
  cases hq0.symm.trans hq
  have hgs := hF.2.2.2.2.2.1
  simp only [am_step] at hrun
  simp only [am_rchk, Bool.and_eq_true, decide_eq_true_eq] at hchk
  dsimp only at hdg
  obtain ⟨e1, e2⟩ := hchk
  cases Nat.eq_of_beq_eq_true e1
  have e2 := Nat.eq_of_beq_eq_true e2
  subst e2
  unfold am_sti at hrun
  split at hrun
  · rename_i x r9
    cases hlt : Nat.blt a ls.length <;> simp only [hlt, cond_true, cond_false] at hrun
    · cases hrun
    · have hlt := am_blt' hlt
      exact lv_istore hx hb hdg (am_ls_has xa uv hF.2.2.1) hlt rfl (fun lsB hlB => am_goL h0 hrun hgs.t (hF.2.2.2.2.1.set trivial) List.length_set (am_ls_put xa uv (v := .inl x) hC.2.2.2.2.1 hlt hlB))
  · cases hrun

theorem am_s_astore_n {len : Nat} {w : Int32} {a b c9 : Nat} {tb : List (Int32 × Nat)} {k9 : Fin 4} (h : am_Hyp D aC xa uv X XL z l n y pc ls st σ r (.astore_n k9, len, w, a, b, c9, tb) p R s m args meth c H locs lsA f f0 n0 sl0) : W p l e R s m args below meth c H locs (ah_n σ - n0) (ah_sl σ - sl0) (am_MQ below (am_Q D aC xa uv z f0 n0 r) args s (ah_n r.2 - n0) (ah_sl r.2 - sl0) (am_A z)) (F0 m pc lsA (st.map (am_cv xa uv f σ))) := by
  have h0 := h
  obtain ⟨ih, hy, ⟨hx, hb, hml, hlk, hts, q0, hq0, hrt, hown, hnm, hfr, hlc, htab⟩, hC, hF, hc1, hc2, hdg, ⟨q, hq, hchk⟩, hrun⟩ := h
  cases hq0.symm.trans hq
  have hgs := hF.2.2.2.2.2.1
  simp only [am_step] at hrun
  simp only [am_rchk, Bool.and_eq_true, decide_eq_true_eq] at hchk
  dsimp only at hdg
  obtain ⟨e1, e2⟩ := hchk
  cases Nat.eq_of_beq_eq_true e1
  have e2 := Nat.eq_of_beq_eq_true e2
  subst e2
  unfold am_sta at hrun
  split at hrun
  · rename_i x r9
    cases hlt : Nat.blt k9.val ls.length <;> simp only [hlt, cond_true, cond_false] at hrun
    · cases hrun
    · have hlt := am_blt' hlt
      have hgo : ∀ lsB : Array Slot, lv_has lsB ls.length ((k9.val, am_cv xa uv f σ (.inr (.inr x))) :: (am_lv xa uv f σ ls).filter (fun q => !(q.1 == k9.val) && !(q.1 + 1 == k9.val && q.2.category == 2))) → W p l e R s m args below meth c H locs (ah_n σ - n0) (ah_sl σ - sl0) (am_MQ below (am_Q D aC xa uv z f0 n0 r) args s (ah_n r.2 - n0) (ah_sl r.2 - sl0) (am_A z)) (F0 m _ lsB (r9.map (am_cv xa uv f σ))) := fun lsB hlB => am_goL h0 hrun hgs.t (hF.2.2.2.2.1.set hgs.h) List.length_set (am_ls_put xa uv (v := .inr (.inr x)) hC.2.2.2.2.1 hlt hlB)
      show W p l e R s m args below meth c H locs _ _ _ (F0 m pc lsA (am_cv xa uv f σ (.inr (.inr x)) :: r9.map (am_cv xa uv f σ)))
      revert hgo
      rcases x with _ | qq
      · intro hgo
        exact lv_astore_nN hx hb hdg rfl (am_ls_has xa uv hF.2.2.1) hlt rfl hgo
      · show (∀ lsB : Array Slot, lv_has lsB ls.length ((k9.val, am_rv xa uv f σ qq) :: _) → _) → W p l e R s m args below meth c H locs _ _ _ (F0 m pc lsA (am_rv xa uv f σ qq :: r9.map (am_cv xa uv f σ)))
        unfold am_rv
        cases Nat.blt qq.1 200
        · cases Nat.blt qq.1 220
          · simp only [cond_false]
            rcases hC.2.2.2.2.1 qq.1 with e9 | ⟨b9, e9⟩ <;> rw [e9]
            · intro hgo
              exact lv_astore_nN hx hb hdg rfl (am_ls_has xa uv hF.2.2.1) hlt rfl hgo
            · intro hgo
              exact lv_astore_n hx hb hdg rfl (am_ls_has xa uv hF.2.2.1) hlt rfl hgo
          · intro hgo
            exact lv_astore_n hx hb hdg rfl (am_ls_has xa uv hF.2.2.1) hlt rfl hgo
        · intro hgo
          exact lv_astore_n hx hb hdg rfl (am_ls_has xa uv hF.2.2.1) hlt rfl hgo
  · cases hrun

theorem am_s_astore {len : Nat} {w : Int32} {a b c9 : Nat} {tb : List (Int32 × Nat)} {k9 : Nat} (h : am_Hyp D aC xa uv X XL z l n y pc ls st σ r (.astore k9, len, w, a, b, c9, tb) p R s m args meth c H locs lsA f f0 n0 sl0) : W p l e R s m args below meth c H locs (ah_n σ - n0) (ah_sl σ - sl0) (am_MQ below (am_Q D aC xa uv z f0 n0 r) args s (ah_n r.2 - n0) (ah_sl r.2 - sl0) (am_A z)) (F0 m pc lsA (st.map (am_cv xa uv f σ))) := by
  have h0 := h
  obtain ⟨ih, hy, ⟨hx, hb, hml, hlk, hts, q0, hq0, hrt, hown, hnm, hfr, hlc, htab⟩, hC, hF, hc1, hc2, hdg, ⟨q, hq, hchk⟩, hrun⟩ := h
  cases hq0.symm.trans hq
  have hgs := hF.2.2.2.2.2.1
  simp only [am_step] at hrun
  simp only [am_rchk, Bool.and_eq_true, decide_eq_true_eq] at hchk
  dsimp only at hdg
  obtain ⟨e1, e2⟩ := hchk
  cases Nat.eq_of_beq_eq_true e1
  have e2 := Nat.eq_of_beq_eq_true e2
  subst e2
  unfold am_sta at hrun
  split at hrun
  · rename_i x r9
    cases hlt : Nat.blt a ls.length <;> simp only [hlt, cond_true, cond_false] at hrun
    · cases hrun
    · have hlt := am_blt' hlt
      have hgo : ∀ lsB : Array Slot, lv_has lsB ls.length ((a, am_cv xa uv f σ (.inr (.inr x))) :: (am_lv xa uv f σ ls).filter (fun q => !(q.1 == a) && !(q.1 + 1 == a && q.2.category == 2))) → W p l e R s m args below meth c H locs (ah_n σ - n0) (ah_sl σ - sl0) (am_MQ below (am_Q D aC xa uv z f0 n0 r) args s (ah_n r.2 - n0) (ah_sl r.2 - sl0) (am_A z)) (F0 m _ lsB (r9.map (am_cv xa uv f σ))) := fun lsB hlB => am_goL h0 hrun hgs.t (hF.2.2.2.2.1.set hgs.h) List.length_set (am_ls_put xa uv (v := .inr (.inr x)) hC.2.2.2.2.1 hlt hlB)
      show W p l e R s m args below meth c H locs _ _ _ (F0 m pc lsA (am_cv xa uv f σ (.inr (.inr x)) :: r9.map (am_cv xa uv f σ)))
      revert hgo
      rcases x with _ | qq
      · intro hgo
        exact lv_astoreN hx hb hdg (am_ls_has xa uv hF.2.2.1) hlt rfl hgo
      · show (∀ lsB : Array Slot, lv_has lsB ls.length ((a, am_rv xa uv f σ qq) :: _) → _) → W p l e R s m args below meth c H locs _ _ _ (F0 m pc lsA (am_rv xa uv f σ qq :: r9.map (am_cv xa uv f σ)))
        unfold am_rv
        cases Nat.blt qq.1 200
        · cases Nat.blt qq.1 220
          · simp only [cond_false]
            rcases hC.2.2.2.2.1 qq.1 with e9 | ⟨b9, e9⟩ <;> rw [e9]
            · intro hgo
              exact lv_astoreN hx hb hdg (am_ls_has xa uv hF.2.2.1) hlt rfl hgo
            · intro hgo
              exact lv_astore hx hb hdg (am_ls_has xa uv hF.2.2.1) hlt rfl hgo
          · intro hgo
            exact lv_astore hx hb hdg (am_ls_has xa uv hF.2.2.1) hlt rfl hgo
        · intro hgo
          exact lv_astore hx hb hdg (am_ls_has xa uv hF.2.2.1) hlt rfl hgo
  · cases hrun

theorem am_s_iinc {len : Nat} {w : Int32} {a b c9 : Nat} {tb : List (Int32 × Nat)} {k9 : Nat} {j9 : Int} (h : am_Hyp D aC xa uv X XL z l n y pc ls st σ r (.iinc k9 j9, len, w, a, b, c9, tb) p R s m args meth c H locs lsA f f0 n0 sl0) : W p l e R s m args below meth c H locs (ah_n σ - n0) (ah_sl σ - sl0) (am_MQ below (am_Q D aC xa uv z f0 n0 r) args s (ah_n r.2 - n0) (ah_sl r.2 - sl0) (am_A z)) (F0 m pc lsA (st.map (am_cv xa uv f σ))) := by
  have h0 := h
  obtain ⟨ih, hy, ⟨hx, hb, hml, hlk, hts, q0, hq0, hrt, hown, hnm, hfr, hlc, htab⟩, hC, hF, hc1, hc2, hdg, ⟨q, hq, hchk⟩, hrun⟩ := h
  cases hq0.symm.trans hq
  have hgs := hF.2.2.2.2.2.1
  simp only [am_step] at hrun
  simp only [am_rchk, Bool.and_eq_true, decide_eq_true_eq] at hchk
  dsimp only at hdg
  obtain ⟨⟨e1, e2⟩, e3⟩ := hchk
  cases Nat.eq_of_beq_eq_true e1
  have e2 := Nat.eq_of_beq_eq_true e2
  subst e2
  unfold am_inc at hrun
  split at hrun
  · rename_i x hxx
    have hlt : a < ls.length := (List.getElem?_eq_some_iff.mp hxx).1
    have hm : (a, Value.int x) ∈ am_lv xa uv f σ ls := (am_lv_mem xa uv).mpr ⟨.inl x, hxx, rfl, rfl⟩
    obtain ⟨k, hk⟩ := List.mem_iff_getElem?.mp hm
    exact lv_iinc hx hb hdg (am_ls_has xa uv hF.2.2.1) hk (by rw [e3]) hlt rfl (fun lsB hlB => am_goL h0 hrun hgs (hF.2.2.2.2.1.set trivial) List.length_set (am_ls_put xa uv (v := .inl (x + w)) hC.2.2.2.2.1 hlt hlB))
  · cases hrun

theorem am_s_iaload {len : Nat} {w : Int32} {a b c9 : Nat} {tb : List (Int32 × Nat)} (h : am_Hyp D aC xa uv X XL z l n y pc ls st σ r (.iaload, len, w, a, b, c9, tb) p R s m args meth c H locs lsA f f0 n0 sl0) : W p l e R s m args below meth c H locs (ah_n σ - n0) (ah_sl σ - sl0) (am_MQ below (am_Q D aC xa uv z f0 n0 r) args s (ah_n r.2 - n0) (ah_sl r.2 - sl0) (am_A z)) (F0 m pc lsA (st.map (am_cv xa uv f σ))) := by
  have h0 := h
  obtain ⟨ih, hy, ⟨hx, hb, hml, hlk, hts, q0, hq0, hrt, hown, hnm, hfr, hlc, htab⟩, hC, hF, hc1, hc2, hdg, ⟨q, hq, hchk⟩, hrun⟩ := h
  cases hq0.symm.trans hq
  have hgs := hF.2.2.2.2.2.1
  simp only [am_step] at hrun
  simp only [am_rchk, Bool.and_eq_true, decide_eq_true_eq] at hchk
  dsimp only at hdg
  cases Nat.eq_of_beq_eq_true hchk
  unfold am_iald at hrun
  split at hrun
  · rename_i j t i r9
    have hgq : am_gq σ (t, i) := hgs.t.h
    cases hlt : Nat.blt t 200 <;> simp only [hlt, cond_true, cond_false] at hrun
    · cases h2 : (Nat.blt t 220 && am_in j (XL t - 1)) <;> simp only [h2, cond_true, cond_false] at hrun
      · cases hrun
      · simp only [Bool.and_eq_true] at h2
        have hge := am_nblt hlt
        have ht2 := am_blt' h2.1
        have ht3 : t < 212 := by
          rcases hgq with hh | hh
          · have := hh.2; omega
          · omega
        obtain ⟨hX, hxz⟩ := hC.2.1 t hge ht3
        have hgo := am_go (e := e) (below := below) h0 hrun (am_gl.c trivial hgs.t.t)
        show W p l e R s m args below meth c H locs _ _ _ (F0 m pc lsA (.int j :: am_cv xa uv f σ (.inr (.inr (some (t, i)))) :: r9.map (am_cv xa uv f σ)))
        rw [am_cvx hge ht2]
        exact va_sld hx hb hX (Nat.lt_of_lt_of_le hxz hC.2.2.2.1) (Nat.not_le.mpr hxz) hF.2.1 (am_inv h2.2) hdg hgo
    · cases h2 : (Nat.beq (am_ak t) 0 && am_in j (ah_ln σ t i)) <;> simp only [h2, cond_true, cond_false] at hrun
      · cases hrun
      · simp only [Bool.and_eq_true] at h2
        have ht := am_blt' hlt
        have hk := Nat.eq_of_beq_eq_true h2.1
        have hgo := am_go (e := e) (below := below) h0 hrun (am_gl.c trivial hgs.t.t)
        show W p l e R s m args below meth c H locs _ _ _ (F0 m pc lsA (.int j :: am_cv xa uv f σ (.inr (.inr (some (t, i)))) :: r9.map (am_cv xa uv f σ)))
        rw [am_cvr ht]
        have hws := am_ws_arr (aC := aC) (xa := xa) (uv := uv) (f := f) hgq ht (by omega)
        rw [hk] at hws
        exact va_iald hx hb hC.1 hF.1.1 _ 0 hws rfl (am_inv h2.2) hdg hgo
  · cases hrun

theorem am_s_baload {len : Nat} {w : Int32} {a b c9 : Nat} {tb : List (Int32 × Nat)} (h : am_Hyp D aC xa uv X XL z l n y pc ls st σ r (.baload, len, w, a, b, c9, tb) p R s m args meth c H locs lsA f f0 n0 sl0) : W p l e R s m args below meth c H locs (ah_n σ - n0) (ah_sl σ - sl0) (am_MQ below (am_Q D aC xa uv z f0 n0 r) args s (ah_n r.2 - n0) (ah_sl r.2 - sl0) (am_A z)) (F0 m pc lsA (st.map (am_cv xa uv f σ))) := by
  have h0 := h
  obtain ⟨ih, hy, ⟨hx, hb, hml, hlk, hts, q0, hq0, hrt, hown, hnm, hfr, hlc, htab⟩, hC, hF, hc1, hc2, hdg, ⟨q, hq, hchk⟩, hrun⟩ := h
  cases hq0.symm.trans hq
  have hgs := hF.2.2.2.2.2.1
  simp only [am_step] at hrun
  simp only [am_rchk, Bool.and_eq_true, decide_eq_true_eq] at hchk
  dsimp only at hdg
  cases Nat.eq_of_beq_eq_true hchk
  unfold am_bald at hrun
  split at hrun
  · rename_i j t i r9
    have hgq : am_gq σ (t, i) := hgs.t.h
    cases h2 : (Nat.blt t 200 && (Nat.beq (am_ak t) 1 || Nat.beq (am_ak t) 2) && am_in j (ah_ln σ t i)) <;> simp only [h2, cond_true, cond_false] at hrun
    · cases hrun
    · simp only [Bool.and_eq_true, Bool.or_eq_true] at h2
      have ht := am_blt' h2.1.1
      have hgo := am_go (e := e) (below := below) h0 hrun (am_gl.c trivial hgs.t.t)
      show W p l e R s m args below meth c H locs _ _ _ (F0 m pc lsA (.int j :: am_cv xa uv f σ (.inr (.inr (some (t, i)))) :: r9.map (am_cv xa uv f σ)))
      rw [am_cvr ht]
      rcases h2.1.2 with hk | hk
      · have hk := Nat.eq_of_beq_eq_true hk
        have hws := am_ws_arr (aC := aC) (xa := xa) (uv := uv) (f := f) hgq ht (by omega)
        rw [hk] at hws
        exact va_bald hx hb hC.1 hF.1.1 _ 1 hws rfl (am_inv h2.2) hdg hgo
      · have hk := Nat.eq_of_beq_eq_true hk
        have hws := am_ws_arr (aC := aC) (xa := xa) (uv := uv) (f := f) hgq ht (by omega)
        rw [hk] at hws
        exact va_zald hx hb hC.1 hF.1.1 _ 2 hws rfl (am_inv h2.2) hdg hgo
  · cases hrun

theorem am_s_iastore {len : Nat} {w : Int32} {a b c9 : Nat} {tb : List (Int32 × Nat)} (h : am_Hyp D aC xa uv X XL z l n y pc ls st σ r (.iastore, len, w, a, b, c9, tb) p R s m args meth c H locs lsA f f0 n0 sl0) : W p l e R s m args below meth c H locs (ah_n σ - n0) (ah_sl σ - sl0) (am_MQ below (am_Q D aC xa uv z f0 n0 r) args s (ah_n r.2 - n0) (ah_sl r.2 - sl0) (am_A z)) (F0 m pc lsA (st.map (am_cv xa uv f σ))) := by
  have h0 := h
  obtain ⟨ih, hy, ⟨hx, hb, hml, hlk, hts, q0, hq0, hrt, hown, hnm, hfr, hlc, htab⟩, hC, hF, hc1, hc2, hdg, ⟨q, hq, hchk⟩, hrun⟩ := h
  cases hq0.symm.trans hq
  have hgs := hF.2.2.2.2.2.1
  simp only [am_step] at hrun
  simp only [am_rchk, Bool.and_eq_true, decide_eq_true_eq] at hchk
  dsimp only at hdg
  cases Nat.eq_of_beq_eq_true hchk
  unfold am_iast at hrun
  split at hrun
  · rename_i x j t i r9
    have hgq : am_gq σ (t, i) := hgs.t.t.h
    cases h2 : (Nat.blt t 200 && Nat.beq (am_ak t) 0 && am_in j (ah_ln σ t i)) <;> simp only [h2, cond_true, cond_false] at hrun
    · cases hrun
    · simp only [Bool.and_eq_true] at h2
      have ht := am_blt' h2.1.1
      have hk := Nat.eq_of_beq_eq_true h2.1.2
      show W p l e R s m args below meth c H locs _ _ _ (F0 m pc lsA (.int x :: .int j :: am_cv xa uv f σ (.inr (.inr (some (t, i)))) :: r9.map (am_cv xa uv f σ)))
      rw [am_cvr ht]
      have hws := am_ws_arr (aC := aC) (xa := xa) (uv := uv) (f := f) hgq ht (by omega)
      have hws2 := hws
      rw [hk] at hws2
      refine va_iast hx hb hC.1 hF.1.1 hF.1.2.1 hF.2.1 _ 0 hws2 rfl (am_inv h2.2) hdg (fun H1 locs1 hP hD hS => ?_)
      rw [← hk] at hP hD
      exact am_goH h0 hrun rfl hgs.t.t.t (am_Hr_arr hF.1 hgq ht (by omega) hP hD) hS
  · cases hrun

theorem am_s_bastore {len : Nat} {w : Int32} {a b c9 : Nat} {tb : List (Int32 × Nat)} (h : am_Hyp D aC xa uv X XL z l n y pc ls st σ r (.bastore, len, w, a, b, c9, tb) p R s m args meth c H locs lsA f f0 n0 sl0) : W p l e R s m args below meth c H locs (ah_n σ - n0) (ah_sl σ - sl0) (am_MQ below (am_Q D aC xa uv z f0 n0 r) args s (ah_n r.2 - n0) (ah_sl r.2 - sl0) (am_A z)) (F0 m pc lsA (st.map (am_cv xa uv f σ))) := by
  have h0 := h
  obtain ⟨ih, hy, ⟨hx, hb, hml, hlk, hts, q0, hq0, hrt, hown, hnm, hfr, hlc, htab⟩, hC, hF, hc1, hc2, hdg, ⟨q, hq, hchk⟩, hrun⟩ := h
  cases hq0.symm.trans hq
  have hgs := hF.2.2.2.2.2.1
  simp only [am_step] at hrun
  simp only [am_rchk, Bool.and_eq_true, decide_eq_true_eq] at hchk
  dsimp only at hdg
  cases Nat.eq_of_beq_eq_true hchk
  unfold am_bast at hrun
  split at hrun
  · rename_i x j t i r9
    have hgq : am_gq σ (t, i) := hgs.t.t.h
    cases h2 : (Nat.blt t 200 && (Nat.beq (am_ak t) 1 || Nat.beq (am_ak t) 2) && am_in j (ah_ln σ t i)) <;> simp only [h2, cond_true, cond_false] at hrun
    · cases hrun
    · simp only [Bool.and_eq_true, Bool.or_eq_true] at h2
      have ht := am_blt' h2.1.1
      show W p l e R s m args below meth c H locs _ _ _ (F0 m pc lsA (.int x :: .int j :: am_cv xa uv f σ (.inr (.inr (some (t, i)))) :: r9.map (am_cv xa uv f σ)))
      rw [am_cvr ht]
      rcases h2.1.2 with hk | hk
      · have hkk := Nat.eq_of_beq_eq_true hk
        simp only [hk, cond_true] at hrun
        have hws2 := am_ws_arr (aC := aC) (xa := xa) (uv := uv) (f := f) hgq ht (by omega)
        rw [hkk] at hws2
        refine va_bast hx hb hC.1 hF.1.1 hF.1.2.1 hF.2.1 _ 1 hws2 rfl (am_inv h2.2) hdg (fun H1 locs1 hP hD hS => ?_)
        rw [← hkk] at hP hD
        exact am_goH h0 hrun rfl hgs.t.t.t (am_Hr_arr hF.1 hgq ht (by omega) hP hD) hS
      · have hkk := Nat.eq_of_beq_eq_true hk
        have hk1 : Nat.beq (am_ak t) 1 = false := by rw [hkk]; rfl
        simp only [hk1, cond_false] at hrun
        have hws2 := am_ws_arr (aC := aC) (xa := xa) (uv := uv) (f := f) hgq ht (by omega)
        rw [hkk] at hws2
        refine va_zast hx hb hC.1 hF.1.1 hF.1.2.1 hF.2.1 _ 2 hws2 rfl (am_inv h2.2) hdg (fun H1 locs1 hP hD hS => ?_)
        rw [← hkk] at hP hD
        exact am_goH h0 hrun rfl hgs.t.t.t (am_Hr_arr hF.1 hgq ht (by omega) hP hD) hS
  · cases hrun

end AmHeap2
end
section
section AmHeap3
variable {D : va_G} {aC : Nat → ClassId} {xa : Nat → Nat} {uv : Nat → Value} {X : Nat → Nat → Int32} {XL : Nat → Nat} {z : Nat}
variable {l : Launch} {n y pc : Nat} {ls st : List am_V} {σ : am_H} {r : am_O × am_H} {p : Program} {e : Env} {R : Room} {s : State} {m : MethodId} {args : Array Value} {below : List Frame} {meth : Method} {c : Code} {H : Heap} {locs : List Loc} {lsA : Array Slot} {f : Nat → Nat} {f0 : (Nat → Nat) × am_H} {n0 sl0 : Nat}
theorem am_gR {t i : Nat} (hH : am_Hr D aC xa uv z f σ H) (hg : am_gq σ (t, i)) (ht : t < 200) (j : Nat) : am_gv σ (.inr (.inr (ah_R σ t i j))) := by
  cases hr : ah_R σ t i j with
  | none => trivial
  | some r9 =>
    rcases hg with hg | ⟨-, h1, h2⟩
    · exact absurd ht (Nat.not_lt.mpr hg.1)
    · exact ((hH.2.2 _ h1).2.2.2.2 j r9 (by rw [h2]; exact hr)).1
theorem am_gR2 {t i : Nat} (hH : am_Hr D aC xa uv z f σ H) (hg : am_gq σ (t, i)) (ht : t < 200) (h16 : 16 ≤ t) {j : Nat} {r9 : Nat × Nat} (hr : ah_R σ t i j = some r9) : r9.1 < 200 := by
  rcases hg with hg | ⟨-, h1, h2⟩
  · exact absurd ht (Nat.not_lt.mpr hg.1)
  · exact ((hH.2.2 _ h1).2.2.2.2 j r9 (by rw [h2]; exact hr)).2 (by rw [h2]; exact h16)
theorem am_16 {t : Nat} (hk : am_ak t ≠ 9) : 16 ≤ t := by
  rcases Nat.lt_or_ge t 16 with h | h
  · exact absurd (am_ak_obj h) hk
  · exact h
theorem am_Hr_arq {t i j : Nat} {x : Nat × Nat} {H1 : Heap} (hH : am_Hr D aC xa uv z f σ H) (hg : am_gq σ (t, i)) (ht : t < 200) (hk : am_ak t = 3 ∨ am_ak t = 4) (hx : am_gq σ x) (hx2 : x.1 < 200)
    (hP : va_P D vwCl ((am_ws aC xa uv f σ).set (ah_ad σ t i) (f (ah_ad σ t i), .inl (aC (am_ak t), ah_ln σ t i, .inr (.inr (.inr (.inr (va_up (fun j => (ah_R σ t i j).map (fun r => f (ah_ad σ r.1 r.2))) j (some (f (ah_ad σ x.1 x.2)))))))))) H1)
    (hD : va_D (am_A z) ((am_ws aC xa uv f σ).set (ah_ad σ t i) (f (ah_ad σ t i), .inl (aC (am_ak t), ah_ln σ t i, .inr (.inr (.inr (.inr (va_up (fun j => (ah_R σ t i j).map (fun r => f (ah_ad σ r.1 r.2))) j (some (f (ah_ad σ x.1 x.2))))))))))) : am_Hr D aC xa uv z f (am_sR σ t i j (some x)) H1 := by
  have h16 : Nat.blt t 16 = false := by
    cases hb : Nat.blt t 16
    · rfl
    · rw [am_ak_obj (am_blt' hb)] at hk; omega
  have h3 : Nat.blt (am_ak t) 3 = false := by
    cases hb : Nat.blt (am_ak t) 3
    · rfl
    · have := am_blt' hb; omega
  have e1 : am_ws aC xa uv f (am_sR σ t i j (some x)) = (am_ws aC xa uv f σ).set (ah_ad σ t i) (f (ah_ad σ t i), .inl (aC (am_ak t), ah_ln σ t i, .inr (.inr (.inr (.inr (va_up (fun j => (ah_R σ t i j).map (fun r => f (ah_ad σ r.1 r.2))) j (some (f (ah_ad σ x.1 x.2))))))))) := by
    rw [am_ws_set aC xa uv (σ' := am_sR σ t i j (some x)) hH.2.2 hg ht rfl (fun _ _ _ => rfl) (fun t' i' hne => by show am_c σ.2.2 t i _ t' i' = _; rw [am_c, if_neg hne])]
    have e2 : am_ce aC xa uv f (am_sR σ t i j (some x)) (t, i) = .inl (aC (am_ak t), ah_ln σ t i, .inr (.inr (.inr (.inr (va_up (fun j => (ah_R σ t i j).map (fun r => f (ah_ad σ r.1 r.2))) j (some (f (ah_ad σ x.1 x.2)))))))) := by
      unfold am_ce
      simp only [h16, cond_false, h3]
      have hfun : (fun j' => Option.map (fun r : Nat × Nat => f (ah_ad (am_sR σ t i j (some x)) r.1 r.2)) (ah_R (am_sR σ t i j (some x)) t i j')) = va_up (fun j => (ah_R σ t i j).map (fun r => f (ah_ad σ r.1 r.2))) j (some (f (ah_ad σ x.1 x.2))) := by
        funext j'
        show Option.map (fun r : Nat × Nat => f (ah_ad σ r.1 r.2)) (am_c σ.2.2 t i (am_u (σ.2.2 t i) j (some x)) t i j') = _
        rw [am_c, if_pos ⟨rfl, rfl⟩, am_u, va_up]
        by_cases hj : j' = j
        · rw [if_pos hj, if_pos hj]; rfl
        · rw [if_neg hj, if_neg hj]
      rw [hfun]
      rfl
    rw [e2]
  exact ⟨by rw [e1]; exact hP, by rw [e1]; exact hD, am_wf_R hH.2.2 (fun r9 hr9 => by cases hr9; exact ⟨hx, fun _ => hx2⟩)⟩
/-- a field of an object of ours gets a value: v what the cell holds then -/
theorem am_Hr_obj {t i j : Nat} {σ' : am_H} {v : Value} {H1 : Heap} (hH : am_Hr D aC xa uv z f σ H) (hg : am_gq σ (t, i)) (ht : t < 14) (hwf : am_wf σ') (hb : σ'.1 = σ.1) (hI : ∀ t' i', ¬ (t' = t ∧ i' = i) → ah_I σ' t' i' = ah_I σ t' i') (hR : ∀ t' i', ¬ (t' = t ∧ i' = i) → ah_R σ' t' i' = ah_R σ t' i')
    (hv : am_fv xa uv f σ' t i j = v) (hne : ∀ j', j' ≠ j → am_fv xa uv f σ' t i j' = am_fv xa uv f σ t i j')
    (hP : va_P D vwCl ((am_ws aC xa uv f σ).set (ah_ad σ t i) (f (ah_ad σ t i), .inr (t, ((List.range (am_nf t)).map (am_fv xa uv f σ t i)).set j v))) H1)
    (hD : va_D (am_A z) ((am_ws aC xa uv f σ).set (ah_ad σ t i) (f (ah_ad σ t i), .inr (t, ((List.range (am_nf t)).map (am_fv xa uv f σ t i)).set j v)))) : am_Hr D aC xa uv z f σ' H1 := by
  have e1 : am_ws aC xa uv f σ' = (am_ws aC xa uv f σ).set (ah_ad σ t i) (f (ah_ad σ t i), .inr (t, ((List.range (am_nf t)).map (am_fv xa uv f σ t i)).set j v)) := by
    rw [am_ws_set aC xa uv (σ' := σ') hH.2.2 hg (by omega) hb hI hR]
    have e2 : am_ce aC xa uv f σ' (t, i) = .inr (t, ((List.range (am_nf t)).map (am_fv xa uv f σ t i)).set j v) := by
      unfold am_ce
      simp only [am_blt (show t < 16 by omega), cond_true]
      congr 2
      refine List.ext_getElem? fun k => ?_
      by_cases hk : k = j
      · subst hk
        by_cases hkl : k < am_nf t
        · rw [List.getElem?_set_self (by simp [hkl])]
          simp [hkl, hv]
        · rw [List.getElem?_eq_none (by simp; omega), List.getElem?_eq_none (by simp; omega)]
      · rw [List.getElem?_set_ne (fun e => hk e.symm)]
        simp only [List.getElem?_map]
        by_cases hkl : k < am_nf t
        · simp [hkl, hne k hk]
        · simp [hkl]
    rw [e2]
  exact ⟨by rw [e1]; exact hP, by rw [e1]; exact hD, hwf⟩
theorem am_s_aaload {len : Nat} {w : Int32} {a b c9 : Nat} {tb : List (Int32 × Nat)} (h : am_Hyp D aC xa uv X XL z l n y pc ls st σ r (.aaload, len, w, a, b, c9, tb) p R s m args meth c H locs lsA f f0 n0 sl0) : W p l e R s m args below meth c H locs (ah_n σ - n0) (ah_sl σ - sl0) (am_MQ below (am_Q D aC xa uv z f0 n0 r) args s (ah_n r.2 - n0) (ah_sl r.2 - sl0) (am_A z)) (F0 m pc lsA (st.map (am_cv xa uv f σ))) := by
  have h0 := h
  obtain ⟨ih, hy, ⟨hx, hb, hml, hlk, hts, q0, hq0, hrt, hown, hnm, hfr, hlc, htab⟩, hC, hF, hc1, hc2, hdg, ⟨q, hq, hchk⟩, hrun⟩ := h
  cases hq0.symm.trans hq
  have hgs := hF.2.2.2.2.2.1
  simp only [am_step] at hrun
  simp only [am_rchk, Bool.and_eq_true, decide_eq_true_eq] at hchk
  dsimp only at hdg
  cases Nat.eq_of_beq_eq_true hchk
  unfold am_aald at hrun
  split at hrun
  · rename_i j t i r9
    have hgq : am_gq σ (t, i) := hgs.t.h
    cases h2 : (Nat.blt t 200 && (Nat.beq (am_ak t) 3 || Nat.beq (am_ak t) 4) && am_in j (ah_ln σ t i)) <;> simp only [h2, cond_true, cond_false] at hrun
    · cases hrun
    · simp only [Bool.and_eq_true, Bool.or_eq_true] at h2
      have ht := am_blt' h2.1.1
      have hk : am_ak t = 3 ∨ am_ak t = 4 := h2.1.2.imp Nat.eq_of_beq_eq_true Nat.eq_of_beq_eq_true
      have hgo := am_go (e := e) (below := below) h0 hrun (am_gl.c (am_gR hF.1 hgq ht _) hgs.t.t)
      have hv : am_cv xa uv f σ (.inr (.inr (ah_R σ t i j.toNatClampNeg))) = va_rf ((ah_R σ t i j.toNatClampNeg).map (fun r => f (ah_ad σ r.1 r.2))) := by
        cases hr : ah_R σ t i j.toNatClampNeg with
        | none => rfl
        | some r8 =>
          obtain ⟨a8, b8⟩ := r8
          rw [am_cvr (am_gR2 hF.1 hgq ht (am_16 (by omega)) hr)]
          rfl
      simp only [List.map_cons] at hgo
      rw [hv] at hgo
      show W p l e R s m args below meth c H locs _ _ _ (F0 m pc lsA (.int j :: am_cv xa uv f σ (.inr (.inr (some (t, i)))) :: r9.map (am_cv xa uv f σ)))
      rw [am_cvr ht]
      have hws := am_ws_arq (aC := aC) (xa := xa) (uv := uv) (f := f) hgq ht hk
      rcases hk with hk | hk
      · rw [hk] at hws
        exact va_aldq hx hb hC.1 hF.1.1 _ 3 hws rfl (am_inv h2.2) hdg hgo
      · rw [hk] at hws
        exact va_aldq hx hb hC.1 hF.1.1 _ 4 hws rfl (am_inv h2.2) hdg hgo
  · cases hrun

theorem am_s_aastore {len : Nat} {w : Int32} {a b c9 : Nat} {tb : List (Int32 × Nat)} (h : am_Hyp D aC xa uv X XL z l n y pc ls st σ r (.aastore, len, w, a, b, c9, tb) p R s m args meth c H locs lsA f f0 n0 sl0) : W p l e R s m args below meth c H locs (ah_n σ - n0) (ah_sl σ - sl0) (am_MQ below (am_Q D aC xa uv z f0 n0 r) args s (ah_n r.2 - n0) (ah_sl r.2 - sl0) (am_A z)) (F0 m pc lsA (st.map (am_cv xa uv f σ))) := by
  have h0 := h
  obtain ⟨ih, hy, ⟨hx, hb, hml, hlk, hts, q0, hq0, hrt, hown, hnm, hfr, hlc, htab⟩, hC, hF, hc1, hc2, hdg, ⟨q, hq, hchk⟩, hrun⟩ := h
  cases hq0.symm.trans hq
  have hgs := hF.2.2.2.2.2.1
  simp only [am_step] at hrun
  simp only [am_rchk, Bool.and_eq_true, decide_eq_true_eq] at hchk
  dsimp only at hdg
  cases Nat.eq_of_beq_eq_true hchk
  unfold am_aast at hrun
  split at hrun
  · rename_i t2 i2 j t i r9
    have hgq2 : am_gq σ (t2, i2) := hgs.h
    have hgq : am_gq σ (t, i) := hgs.t.t.h
    cases h2 : (Nat.blt t 200 && ((Nat.beq (am_ak t) 3 && Nat.beq t2 3) || (Nat.beq (am_ak t) 4 && Nat.beq t2 1)) && am_in j (ah_ln σ t i)) <;> simp only [h2, cond_true, cond_false] at hrun
    · cases hrun
    · simp only [Bool.and_eq_true, Bool.or_eq_true] at h2
      have ht := am_blt' h2.1.1
      have hk : (am_ak t = 3 ∧ t2 = 3) ∨ (am_ak t = 4 ∧ t2 = 1) := h2.1.2.imp (fun h => ⟨Nat.eq_of_beq_eq_true h.1, Nat.eq_of_beq_eq_true h.2⟩) (fun h => ⟨Nat.eq_of_beq_eq_true h.1, Nat.eq_of_beq_eq_true h.2⟩)
      have ht2 : t2 < 14 := by omega
      have hws := am_ws_arq (aC := aC) (xa := xa) (uv := uv) (f := f) hgq ht (by omega)
      have hws2 := am_ws_obj (aC := aC) (xa := xa) (uv := uv) (f := f) hgq2 ht2
      show W p l e R s m args below meth c H locs _ _ _ (F0 m pc lsA (am_cv xa uv f σ (.inr (.inr (some (t2, i2)))) :: .int j :: am_cv xa uv f σ (.inr (.inr (some (t, i)))) :: r9.map (am_cv xa uv f σ)))
      rw [am_cvr ht, am_cvr (show t2 < 200 by omega)]
      rcases hk with ⟨hk, e9⟩ | ⟨hk, e9⟩
      · subst e9
        have hws3 := hws
        rw [hk] at hws3
        refine va_astq hx hb hC.1 hF.1.1 hF.1.2.1 hF.2.1 _ 3 _ 3 hws3 rfl hws2 rfl (am_inv h2.2) hdg (fun H1 locs1 hP hD hS => ?_)
        rw [show aC 3 = aC (am_ak t) by rw [hk]] at hP hD
        exact am_goH h0 hrun rfl hgs.t.t.t (am_Hr_arq hF.1 hgq ht (by omega) hgq2 (by show 3 < 200; omega) hP hD) hS
      · subst e9
        have hws3 := hws
        rw [hk] at hws3
        refine va_astq hx hb hC.1 hF.1.1 hF.1.2.1 hF.2.1 _ 4 _ 1 hws3 rfl hws2 rfl (am_inv h2.2) hdg (fun H1 locs1 hP hD hS => ?_)
        rw [show aC 4 = aC (am_ak t) by rw [hk]] at hP hD
        exact am_goH h0 hrun rfl hgs.t.t.t (am_Hr_arq hF.1 hgq ht (by omega) hgq2 (by show 1 < 200; omega) hP hD) hS
  · cases hrun

theorem am_s_alen {len : Nat} {w : Int32} {a b c9 : Nat} {tb : List (Int32 × Nat)} (h : am_Hyp D aC xa uv X XL z l n y pc ls st σ r (.arraylength, len, w, a, b, c9, tb) p R s m args meth c H locs lsA f f0 n0 sl0) : W p l e R s m args below meth c H locs (ah_n σ - n0) (ah_sl σ - sl0) (am_MQ below (am_Q D aC xa uv z f0 n0 r) args s (ah_n r.2 - n0) (ah_sl r.2 - sl0) (am_A z)) (F0 m pc lsA (st.map (am_cv xa uv f σ))) := by
  have h0 := h
  obtain ⟨ih, hy, ⟨hx, hb, hml, hlk, hts, q0, hq0, hrt, hown, hnm, hfr, hlc, htab⟩, hC, hF, hc1, hc2, hdg, ⟨q, hq, hchk⟩, hrun⟩ := h
  cases hq0.symm.trans hq
  have hgs := hF.2.2.2.2.2.1
  simp only [am_step] at hrun
  simp only [am_rchk, Bool.and_eq_true, decide_eq_true_eq] at hchk
  dsimp only at hdg
  cases Nat.eq_of_beq_eq_true hchk
  unfold am_alen at hrun
  split at hrun
  · rename_i t i r9
    have hgq : am_gq σ (t, i) := hgs.h
    cases h2 : ((Nat.blt t 200 && !Nat.beq (am_ak t) 9) || (Nat.blt 199 t && Nat.blt t 220 && Nat.blt 0 (XL t))) <;> simp only [h2, cond_true, cond_false] at hrun
    · cases hrun
    · have hgo := am_go (e := e) (below := below) h0 hrun (am_gl.c trivial hgs.t)
      show W p l e R s m args below meth c H locs _ _ _ (F0 m pc lsA (am_cv xa uv f σ (.inr (.inr (some (t, i)))) :: r9.map (am_cv xa uv f σ)))
      unfold am_len at hgo
      cases hlt : Nat.blt t 200 <;> simp only [hlt, cond_true, cond_false] at hgo
      · rw [hlt] at h2
        simp only [Bool.false_and, Bool.false_or, Bool.and_eq_true] at h2
        have hge := am_nblt hlt
        have ht2 := am_blt' h2.1.2
        have ht3 : t < 212 := by
          rcases hgq with hh | hh
          · have := hh.2; omega
          · omega
        obtain ⟨hX, hxz⟩ := hC.2.1 t hge ht3
        rw [am_cvx hge ht2]
        exact va_slen hx hb hX (Nat.lt_of_lt_of_le hxz hC.2.2.2.1) (Nat.not_le.mpr hxz) hF.2.1 hdg hgo
      · have ht := am_blt' hlt
        rw [am_cvr ht]
        have hk : am_ak t < 5 := by
          rcases hgq with hh | ⟨-, h3, h4⟩
          · exact absurd ht (Nat.not_lt.mpr hh.1)
          · have h5 := (hF.1.2.2 _ h3).2.2.1
            rw [h4] at h5
            rcases h5 with h5 | h5
            · rw [am_ak_obj (show t < 16 by have h6 : t < 14 := h5; omega)] at h2
              simp [show Nat.blt 199 t = false from by
                cases hb9 : Nat.blt 199 t
                · rfl
                · have := am_blt' hb9; omega] at h2
            · exact h5.2
        rcases (show am_ak t = 0 ∨ am_ak t = 1 ∨ am_ak t = 2 ∨ am_ak t = 3 ∨ am_ak t = 4 by omega) with hk | hk | hk | hk | hk
        · have hws := am_ws_arr (aC := aC) (xa := xa) (uv := uv) (f := f) hgq ht (by omega)
          rw [hk] at hws
          exact va_alen hx hb hC.1 hF.1.1 _ 0 hws (ty := .int) rfl rfl hdg hgo
        · have hws := am_ws_arr (aC := aC) (xa := xa) (uv := uv) (f := f) hgq ht (by omega)
          rw [hk] at hws
          exact va_alen hx hb hC.1 hF.1.1 _ 1 hws (ty := .byte) rfl rfl hdg hgo
        · have hws := am_ws_arr (aC := aC) (xa := xa) (uv := uv) (f := f) hgq ht (by omega)
          rw [hk] at hws
          exact va_alen hx hb hC.1 hF.1.1 _ 2 hws (ty := .boolean) rfl rfl hdg hgo
        · have hws := am_ws_arq (aC := aC) (xa := xa) (uv := uv) (f := f) hgq ht (by omega)
          rw [hk] at hws
          exact va_alen hx hb hC.1 hF.1.1 _ 3 hws (ty := .object "BrotliWords$Code") rfl rfl hdg hgo
        · have hws := am_ws_arq (aC := aC) (xa := xa) (uv := uv) (f := f) hgq ht (by omega)
          rw [hk] at hws
          exact va_alen hx hb hC.1 hF.1.1 _ 4 hws (ty := .object "BrotliWords$Blocks") rfl rfl hdg hgo
  · cases hrun

theorem am_s_getfield {len : Nat} {w : Int32} {a b c9 : Nat} {tb : List (Int32 × Nat)} {k9 : Nat} (h : am_Hyp D aC xa uv X XL z l n y pc ls st σ r (.getfield k9, len, w, a, b, c9, tb) p R s m args meth c H locs lsA f f0 n0 sl0) : W p l e R s m args below meth c H locs (ah_n σ - n0) (ah_sl σ - sl0) (am_MQ below (am_Q D aC xa uv z f0 n0 r) args s (ah_n r.2 - n0) (ah_sl r.2 - sl0) (am_A z)) (F0 m pc lsA (st.map (am_cv xa uv f σ))) := by
  have h0 := h
  obtain ⟨ih, hy, ⟨hx, hb, hml, hlk, hts, q0, hq0, hrt, hown, hnm, hfr, hlc, htab⟩, hC, hF, hc1, hc2, hdg, ⟨q, hq, hchk⟩, hrun⟩ := h
  cases hq0.symm.trans hq
  have hgs := hF.2.2.2.2.2.1
  simp only [am_step] at hrun
  simp only [am_rchk, Bool.and_eq_true, decide_eq_true_eq] at hchk
  dsimp only at hdg
  obtain ⟨e1, e2⟩ := hchk
  cases Nat.eq_of_beq_eq_true e1
  unfold am_getf at hrun
  split at hrun
  · rename_i t i r9
    have hgq : am_gq σ (t, i) := hgs.h
    cases h2 : Nat.beq t a <;> simp only [h2, cond_true, cond_false] at hrun
    · cases hrun
    · have h2 := Nat.eq_of_beq_eq_true h2
      subst h2
      obtain ⟨C, T, N, hh, pos, hv, ht, hbN, hc9, -, hlink⟩ := am_ft_spec (P := fun _ => true) (by simpa using e2)
      obtain ⟨hin, hCo, hN, -⟩ := am_cl_spec ht hv
      have hws := am_ws_obj (aC := aC) (xa := xa) (uv := uv) (f := f) hgq ht
      have hfs : ((List.range (am_nf t)).map (am_fv xa uv f σ t i))[b]? = some (am_fv xa uv f σ t i b) := by
        simp [show b < am_nf t by omega]
      have hgo := am_go (e := e) (below := below) h0 hrun (am_gl.c (show am_gv σ (bif Nat.beq c9 1 then av_q (ah_R σ t i b) else av_i (ah_I σ t i b)) by
        cases Nat.beq c9 1
        · trivial
        · exact am_gR hF.1 hgq (by omega) b) hgs.t)
      have he : am_cv xa uv f σ (bif Nat.beq c9 1 then av_q (ah_R σ t i b) else av_i (ah_I σ t i b)) = am_fv xa uv f σ t i b := by
        unfold am_fv
        rw [hc9]
        cases Nat.beq (am_fk t b) 1 <;> rfl
      simp only [List.map_cons] at hgo
      rw [he] at hgo
      show W p l e R s m args below meth c H locs _ _ _ (F0 m pc lsA (am_cv xa uv f σ (.inr (.inr (some (t, i)))) :: r9.map (am_cv xa uv f σ)))
      rw [am_cvr (show t < 200 by omega)]
      rcases hlink with ⟨-, hlink⟩ | ⟨-, host, hlink⟩
      · exact va_get hx hb hts hin hown hC.1 hF.1.1 _ hws hv b hbN (hts _ hlink) (fun _ h9 => h9) hfs hdg hgo
      · exact va_getN hx hb hts hin hown hC.1 hF.1.1 _ hws hv b hbN (va_Nw.use rfl (hC.2.2.2.2.2.1 _ (List.mem_filter.mpr ⟨List.mem_of_getElem? hlink, rfl⟩))) (fun _ h9 => h9) hfs hdg hgo
  · cases hrun

end AmHeap3
end
section
section AmHeap4
variable {D : va_G} {aC : Nat → ClassId} {xa : Nat → Nat} {uv : Nat → Value} {X : Nat → Nat → Int32} {XL : Nat → Nat} {z : Nat}
variable {l : Launch} {n y pc : Nat} {ls st : List am_V} {σ : am_H} {r : am_O × am_H} {p : Program} {e : Env} {R : Room} {s : State} {m : MethodId} {args : Array Value} {below : List Frame} {meth : Method} {c : Code} {H : Heap} {locs : List Loc} {lsA : Array Slot} {f : Nat → Nat} {f0 : (Nat → Nat) × am_H} {n0 sl0 : Nat}
theorem am_arrI : Cond.arrayClass .int ∈ am_T := am_T_of (k := 200) (by decide +kernel) rfl
theorem am_arrB : Cond.arrayClass .byte ∈ am_T := am_T_of (k := 186) (by decide +kernel) rfl
theorem am_arrZ : Cond.arrayClass .boolean ∈ am_T := am_T_of (k := 1493) (by decide +kernel) rfl
theorem am_kind0 {ty : FieldType} {k : Nat} (h : match ty with
    | .int => k = 0
    | .boolean => k = 2
    | .object _ => k = 1
    | .array _ => k = 1
    | _ => False) : (k = 0 → ty = .int) ∧ (k = 2 → ty = .boolean) ∧ (k = 1 → (∃ n, ty = .object n) ∨ ∃ t, ty = .array t) := by
  cases ty <;> simp_all
/-- a value comes to a field -/
theorem am_put {t i : Nat} {k9 b c9 : Nat} {v : Value} {rest : List Value} {Q : State → Prop} {cells slots : Nat} {q : MethodName × Nat × Option FieldType × Nat × Nat × Nat × List (Nat × Nat × Nat × Nat)}
    (hx : p.tables.exec = Jvm.exec) (hb : c.code = am_by y) (hts : ∀ w ∈ am_T, w.before args s = true) (hown : s.vm.findClass (am_ow q.2.2.2.1) = some m.cls) (hnm : meth.name = q.1.name) (hC : am_Cx D aC xa uv X XL z s s.heap) (hH : am_Hr D aC xa uv z f σ H) (hS : va_S (am_A z) s.heap H locs) (hgq : am_gq σ (t, i)) (hdg : decode (am_by y) pc = .ok (.putfield k9, 3))
    (e2 : am_ft.any (fun q9 => Nat.beq q9.1 q.2.2.2.1 && Nat.beq q9.2.1 k9 && Nat.beq q9.2.2.1 t && Nat.beq q9.2.2.2.1 b && Nat.beq q9.2.2.2.2.1 c9 && (match vwCl[t]? with
      | none => false
      | some (_, T, _) => bif (T b).2.2.2 then decide (q.1.name = "<init>") && decide ((T b).1 = am_ow q.2.2.2.1) && Nat.beq q9.2.2.2.2.2.1 0 else true)) = true)
    (hty : ∀ ty, ((c9 = 0 → ty = .int) ∧ (c9 = 2 → ty = .boolean) ∧ (c9 = 1 → (∃ n, ty = .object n) ∨ ∃ t, ty = .array t)) → narrow ty v = v ∧ fits ty v = true)
    (kk : t < 14 → b < am_nf t → c9 = am_fk t b → ∀ (H1 : Heap) (locs1 : List Loc), va_P D vwCl ((am_ws aC xa uv f σ).set (ah_ad σ t i) (f (ah_ad σ t i), .inr (t, ((List.range (am_nf t)).map (am_fv xa uv f σ t i)).set b v))) H1 → va_D (am_A z) ((am_ws aC xa uv f σ).set (ah_ad σ t i) (f (ah_ad σ t i), .inr (t, ((List.range (am_nf t)).map (am_fv xa uv f σ t i)).set b v))) → va_S (am_A z) s.heap H1 locs1 → W p l e R s m args below meth c H1 locs1 cells slots Q (F0 m (pc + 3) lsA rest)) :
    W p l e R s m args below meth c H locs cells slots Q (F0 m pc lsA (v :: .ref (f (ah_ad σ t i)) :: rest)) := by
  obtain ⟨C, T, N, hh, pos, hv, ht, hbN, hc9, hP9, hlink⟩ := am_ft_spec (P := fun q9 => match vwCl[t]? with
      | none => false
      | some (_, T, _) => bif (T b).2.2.2 then decide (q.1.name = "<init>") && decide ((T b).1 = am_ow q.2.2.2.1) && Nat.beq q9.2.2.2.2.2.1 0 else true) e2
  obtain ⟨hin, hCo, hN, -, -, hkd⟩ := am_cl_spec ht hv
  obtain ⟨hnames, htys⟩ := am_cl_names ht hv
  have hws := am_ws_obj (aC := aC) (xa := xa) (uv := uv) (f := f) hgq ht
  have hlen : b < ((List.range (am_nf t)).map (am_fv xa uv f σ t i)).length := by simp; omega
  have hk9 := am_kind0 (hkd b hbN)
  rw [← hc9] at hk9
  obtain ⟨hn1, hn2⟩ := hty _ hk9
  have kk := kk ht (by omega) hc9
  simp only [hv] at hP9
  cases hfin : (T b).2.2.2
  · rcases hlink with ⟨-, hlink⟩ | ⟨-, host, hlink⟩
    · exact va_put hx hb hts hin (am_ty t) htys hnames hown hC.1 hH.1 hH.2.1 hS _ hws hv b hbN (hts _ hlink) (fun _ h9 => h9) hfin (htys b hbN) hn1 hn2 hlen hdg kk
    · exact va_putN hx hb hts hin (am_ty t) htys hnames hown hC.1 hH.1 hH.2.1 hS _ hws hv b hbN (va_Nw.use rfl (hC.2.2.2.2.2.1 _ (List.mem_filter.mpr ⟨List.mem_of_getElem? hlink, rfl⟩))) (fun _ h9 => h9) hfin (htys b hbN) hn1 hn2 hlen hdg kk
  · simp only [hfin, cond_true, Bool.and_eq_true, decide_eq_true_eq] at hP9
    obtain ⟨⟨g1, g2⟩, g3⟩ := hP9
    rcases hlink with ⟨-, hlink⟩ | ⟨hne, -⟩
    · exact va_putF hx hb hts hin (am_ty t) htys hnames hown hC.1 hH.1 hH.2.1 hS _ hws hv b hbN (hts _ hlink) (fun _ h9 => h9) hfin (hnm.trans g1) g2 (htys b hbN) hn1 hn2 hlen hdg kk
    · exact absurd (Nat.eq_of_beq_eq_true g3) hne
/-- goes on with a cell more -/
theorem am_goM {row : am_Row} (h : am_Hyp D aC xa uv X XL z l n y pc ls st σ r row p R s m args meth c H locs lsA f f0 n0 sl0) {pc' t k a9 : Nat} {st' : List am_V} {H' : Heap} {locs' : List Loc} (hr : am_run am_ak X XL am_code am_ml n y pc' ls (av_r t (am_cnt σ t) :: st') (am_mk σ t k) = some r) (ht : t < 14 ∨ (16 ≤ t ∧ t < 200 ∧ am_ak t < 5)) (hg : am_gl σ st')
    (hP : va_P D vwCl (am_ws aC xa uv f σ ++ [(a9, am_ce aC xa uv (am_u f (ah_n σ) a9) (am_mk σ t k) (t, am_cnt σ t))]) H') (hD : va_D (am_A z) (am_ws aC xa uv f σ ++ [(a9, am_ce aC xa uv (am_u f (ah_n σ) a9) (am_mk σ t k) (t, am_cnt σ t))])) (hS : va_S (am_A z) s.heap H' locs') :
    W p l e R s m args below meth c H' locs' (ah_n σ - n0 + 1) (ah_sl σ - sl0 + k) (am_MQ below (am_Q D aC xa uv z f0 n0 r) args s (ah_n r.2 - n0) (ah_sl r.2 - sl0) (am_A z)) (F0 m pc' lsA (.ref a9 :: st'.map (am_cv xa uv f σ))) := by
  obtain ⟨ih, hy, hG, hC, ⟨a1, a2, a3, a4, a5, a6, a7, a8, a9'⟩, h1, h2, -⟩ := h
  have hwf := a1.2.2
  have ht2 : t < 200 := by omega
  have e1 : ah_n σ - n0 + 1 = ah_n (am_mk σ t k) - n0 := by show _ = ah_n σ + 1 - n0; omega
  have e2 : ah_sl σ - sl0 + k = ah_sl (am_mk σ t k) - sl0 := by show _ = ah_sl σ + k - sl0; omega
  obtain ⟨hgn, hadn⟩ := am_gq_new (σ := σ) (t := t) (n := k) ht2
  have e3 : (Value.ref a9 :: st'.map (am_cv xa uv f σ)) = (av_r t (am_cnt σ t) :: st').map (am_cv xa uv (am_u f (ah_n σ) a9) (am_mk σ t k)) := by
    rw [List.map_cons, am_cvr ht2, hadn, am_u, if_pos rfl]
    congr 1
    exact List.map_congr_left fun v hv => (am_cv_mk xa uv hwf (hg v hv)).symm
  rw [e1, e2, e3]
  refine ih y pc' ls _ _ r hr hy p e R s m args below meth c H' locs' lsA (am_u f (ah_n σ) a9) f0 n0 sl0 hG hC ⟨⟨by rw [am_ws_mk aC xa uv hwf]; exact hP, by rw [am_ws_mk aC xa uv hwf]; exact hD, am_wf_mk hwf ht⟩, hS, am_ls_cong xa uv (fun v hv => am_cv_mk xa uv hwf (a5 v hv)) a3, a4, a5.mk hwf, am_gl.c hgn (hg.mk hwf), ⟨am_ex_tr a7.1 (am_ex_mk hwf t k), fun k9 hk9 => ?_⟩, ?_, ?_⟩ h1 h2
  · rw [am_u, if_neg (by omega)]; exact a7.2 k9 hk9
  · show n0 ≤ ah_n σ + 1; omega
  · show sl0 ≤ ah_sl σ + k; omega
theorem am_sw_tab {x : Int32} {K : Nat → am_R} {d pc : Nat} {r : am_O × am_H} : ∀ (tb : List (Int32 × Nat)) (offs : List Int) (lo : Int), am_tbchk pc lo offs tb = true → am_sw x K d tb = some r →
    ((x.toInt < lo ∨ lo + (offs.length : Int) ≤ x.toInt) ∧ K d = some r) ∨ ∃ (j : Nat) (off : Int) (tgt : Nat), offs[j]? = some off ∧ x.toInt = lo + j ∧ (pc : Int) + off = (tgt : Int) ∧ K tgt = some r
  | [], [], lo, _, h => Or.inl ⟨by simp; omega, h⟩
  | [], _ :: _, _, hc, _ => by simp [am_tbchk] at hc
  | _ :: _, [], _, hc, _ => by simp [am_tbchk] at hc
  | q :: tb, o :: os, lo, hc, h => by
    simp only [am_tbchk, Bool.and_eq_true, decide_eq_true_eq] at hc
    obtain ⟨⟨h1, h2⟩, h3⟩ := hc
    unfold am_sw at h
    by_cases hx : x = q.1
    · rw [if_pos hx] at h
      exact Or.inr ⟨0, o, q.2, rfl, by rw [hx, h1]; simp, h2, h⟩
    · rw [if_neg hx] at h
      have hne : x.toInt ≠ lo := fun e => hx (Int32.toInt_inj.mp (by rw [h1]; exact e))
      rcases am_sw_tab tb os (lo + 1) h3 h with ⟨h4, h5⟩ | ⟨j, off, tgt, h4, h5, h6, h7⟩
      · refine Or.inl ⟨?_, h5⟩
        simp only [List.length_cons]
        omega
      · exact Or.inr ⟨j + 1, off, tgt, h4, by rw [h5]; omega, h6, h7⟩
theorem am_sw_lk {x : Int32} {K : Nat → am_R} {d pc : Nat} {dd : Int} {r : am_O × am_H} (hd : (pc : Int) + dd = (d : Int)) : ∀ (tb : List (Int32 × Nat)) (ps : List (Int × Int)), am_lkchk pc ps tb = true → am_sw x K d tb = some r →
    ∃ (tgt : Nat), (pc : Int) + Op.lookupswitch.offset ps dd x.toInt = (tgt : Int) ∧ K tgt = some r
  | [], [], _, h => ⟨d, hd, h⟩
  | [], _ :: _, hc, _ => by simp [am_lkchk] at hc
  | _ :: _, [], hc, _ => by simp [am_lkchk] at hc
  | q :: tb, (a, o) :: os, hc, h => by
    simp only [am_lkchk, Bool.and_eq_true, decide_eq_true_eq] at hc
    obtain ⟨⟨h1, h2⟩, h3⟩ := hc
    unfold am_sw at h
    rw [Op.lookupswitch.offset_cons]
    by_cases hx : x = q.1
    · rw [if_pos hx] at h
      rw [if_pos (by rw [hx, h1])]
      exact ⟨q.2, h2, h⟩
    · rw [if_neg hx] at h
      rw [if_neg (fun e => hx (Int32.toInt_inj.mp (by rw [h1]; exact e.symm)))]
      exact am_sw_lk hd tb os h3 h
theorem am_s_putfield {len : Nat} {w : Int32} {a b c9 : Nat} {tb : List (Int32 × Nat)} {k9 : Nat} (h : am_Hyp D aC xa uv X XL z l n y pc ls st σ r (.putfield k9, len, w, a, b, c9, tb) p R s m args meth c H locs lsA f f0 n0 sl0) : W p l e R s m args below meth c H locs (ah_n σ - n0) (ah_sl σ - sl0) (am_MQ below (am_Q D aC xa uv z f0 n0 r) args s (ah_n r.2 - n0) (ah_sl r.2 - sl0) (am_A z)) (F0 m pc lsA (st.map (am_cv xa uv f σ))) := by
  have h0 := h
  obtain ⟨ih, hy, ⟨hx, hb, hml, hlk, hts, q0, hq0, hrt, hown, hnm, hfr, hlc, htab⟩, hC, hF, hc1, hc2, hdg, ⟨q, hq, hchk⟩, hrun⟩ := h
  cases hq0.symm.trans hq
  have hgs := hF.2.2.2.2.2.1
  simp only [am_step] at hrun
  simp only [am_rchk, Bool.and_eq_true, decide_eq_true_eq] at hchk
  dsimp only at hdg
  obtain ⟨e1, e2⟩ := hchk
  cases Nat.eq_of_beq_eq_true e1
  unfold am_putf at hrun
  split at hrun
  · rename_i x t i r9
    have hgq : am_gq σ (t, i) := hgs.t.h
    cases h2 : (Nat.beq t a && (Nat.beq c9 0 || (Nat.beq c9 2 && (x == 0 || x == 1)))) <;> simp only [h2, cond_true, cond_false] at hrun
    · cases hrun
    · simp only [Bool.and_eq_true, Bool.or_eq_true] at h2
      have h3 := Nat.eq_of_beq_eq_true h2.1
      subst h3
      have h4 : c9 = 0 ∨ (c9 = 2 ∧ (x = 0 ∨ x = 1)) := h2.2.imp Nat.eq_of_beq_eq_true (fun h => ⟨Nat.eq_of_beq_eq_true h.1, h.2.imp eq_of_beq eq_of_beq⟩)
      have ht : t < 14 := (am_ft_spec (P := _) e2).choose_spec.choose_spec.choose_spec.choose_spec.choose_spec.2.1
      show W p l e R s m args below meth c H locs _ _ _ (F0 m pc lsA (.int x :: am_cv xa uv f σ (.inr (.inr (some (t, i)))) :: r9.map (am_cv xa uv f σ)))
      rw [am_cvr (show t < 200 by omega)]
      refine am_put (q := q0) hx hb hts hown hnm hC hF.1 hF.2.1 hgq hdg e2 (fun ty hty => ?_) (fun _ hbn hc9 H1 locs1 hP hD hS => ?_)
      · rcases h4 with h4 | ⟨h4, h5⟩
        · rw [hty.1 h4]; exact ⟨rfl, rfl⟩
        · rw [hty.2.1 h4]
          rcases h5 with h5 | h5 <;> subst h5 <;> exact ⟨rfl, rfl⟩
      · refine am_goH h0 hrun rfl hgs.t.t (am_Hr_obj hF.1 hgq ht (am_wf_I hF.1.2.2 t i b x) rfl (fun t' i' hne => by show am_c σ.2.1 t i _ t' i' = _; rw [am_c, if_neg hne]) (fun _ _ _ => rfl) ?_ ?_ hP hD) hS
        · unfold am_fv
          have hk1 : Nat.beq (am_fk t b) 1 = false := by
            rw [← hc9]
            rcases h4 with h4 | ⟨h4, -⟩ <;> rw [h4] <;> rfl
          simp only [hk1, cond_false]
          show Value.int (am_c σ.2.1 t i (upd (σ.2.1 t i) b x) t i b) = _
          rw [am_c, if_pos ⟨rfl, rfl⟩, upd, if_pos rfl]
        · intro j' hj'
          unfold am_fv
          show (bif Nat.beq (am_fk t j') 1 then am_cv xa uv f (am_sI σ t i b x) (.inr (.inr (ah_R σ t i j'))) else .int (am_c σ.2.1 t i (upd (σ.2.1 t i) b x) t i j')) = _
          rw [am_c, if_pos ⟨rfl, rfl⟩, upd, if_neg hj', am_cv_base xa uv (σ := σ) (σ' := am_sI σ t i b x) rfl]
  · rename_i qq t i r9
    have hgq : am_gq σ (t, i) := hgs.t.h
    cases h2 : (Nat.beq t a && Nat.beq c9 1) <;> simp only [h2, cond_true, cond_false] at hrun
    · cases hrun
    · simp only [Bool.and_eq_true] at h2
      have h3 := Nat.eq_of_beq_eq_true h2.1
      subst h3
      have h4 := Nat.eq_of_beq_eq_true h2.2
      have ht : t < 14 := (am_ft_spec (P := _) e2).choose_spec.choose_spec.choose_spec.choose_spec.choose_spec.2.1
      show W p l e R s m args below meth c H locs _ _ _ (F0 m pc lsA (am_cv xa uv f σ (.inr (.inr qq)) :: am_cv xa uv f σ (.inr (.inr (some (t, i)))) :: r9.map (am_cv xa uv f σ)))
      rw [am_cvr (show t < 200 by omega)]
      have hvr : am_cv xa uv f σ (.inr (.inr qq)) = .null ∨ ∃ b9, am_cv xa uv f σ (.inr (.inr qq)) = .ref b9 := by
        rcases qq with _ | qq
        · exact Or.inl rfl
        · show am_rv xa uv f σ qq = _ ∨ ∃ b9, am_rv xa uv f σ qq = .ref b9
          unfold am_rv
          cases Nat.blt qq.1 200
          · cases Nat.blt qq.1 220
            · exact hC.2.2.2.2.1 qq.1
            · exact Or.inr ⟨_, rfl⟩
          · exact Or.inr ⟨_, rfl⟩
      refine am_put (q := q0) hx hb hts hown hnm hC hF.1 hF.2.1 hgq hdg e2 (fun ty hty => ?_) (fun _ hbn hc9 H1 locs1 hP hD hS => ?_)
      · rcases hty.2.2 h4 with ⟨n9, h5⟩ | ⟨n9, h5⟩ <;> rw [h5] <;> rcases hvr with h6 | ⟨b9, h6⟩ <;> rw [h6] <;> exact ⟨rfl, rfl⟩
      · refine am_goH h0 hrun rfl hgs.t.t (am_Hr_obj hF.1 hgq ht (am_wf_R hF.1.2.2 (fun r9 hr9 => ⟨by subst hr9; exact hgs.h, fun h16 => by omega⟩)) rfl (fun _ _ _ => rfl) (fun t' i' hne => by show am_c σ.2.2 t i _ t' i' = _; rw [am_c, if_neg hne]) ?_ ?_ hP hD) hS
        · unfold am_fv
          have hk1 : Nat.beq (am_fk t b) 1 = true := by
            rw [← hc9, h4]; rfl
          simp only [hk1, cond_true]
          show am_cv xa uv f (am_sR σ t i b qq) (.inr (.inr (am_c σ.2.2 t i (am_u (σ.2.2 t i) b qq) t i b))) = _
          rw [am_c, if_pos ⟨rfl, rfl⟩, am_u, if_pos rfl, am_cv_base xa uv (σ := σ) (σ' := am_sR σ t i b qq) rfl]
        · intro j' hj'
          unfold am_fv
          show (bif Nat.beq (am_fk t j') 1 then am_cv xa uv f (am_sR σ t i b qq) (.inr (.inr (am_c σ.2.2 t i (am_u (σ.2.2 t i) b qq) t i j'))) else .int (ah_I σ t i j')) = _
          rw [am_c, if_pos ⟨rfl, rfl⟩, am_u, if_neg hj', am_cv_base xa uv (σ := σ) (σ' := am_sR σ t i b qq) rfl]
  · cases hrun

theorem am_s_getstatic {len : Nat} {w : Int32} {a b c9 : Nat} {tb : List (Int32 × Nat)} {k9 : Nat} (h : am_Hyp D aC xa uv X XL z l n y pc ls st σ r (.getstatic k9, len, w, a, b, c9, tb) p R s m args meth c H locs lsA f f0 n0 sl0) : W p l e R s m args below meth c H locs (ah_n σ - n0) (ah_sl σ - sl0) (am_MQ below (am_Q D aC xa uv z f0 n0 r) args s (ah_n r.2 - n0) (ah_sl r.2 - sl0) (am_A z)) (F0 m pc lsA (st.map (am_cv xa uv f σ))) := by
  have h0 := h
  obtain ⟨ih, hy, ⟨hx, hb, hml, hlk, hts, q0, hq0, hrt, hown, hnm, hfr, hlc, htab⟩, hC, hF, hc1, hc2, hdg, ⟨q, hq, hchk⟩, hrun⟩ := h
  cases hq0.symm.trans hq
  have hgs := hF.2.2.2.2.2.1
  simp only [am_step] at hrun
  simp only [am_rchk, Bool.and_eq_true, decide_eq_true_eq] at hchk
  dsimp only at hdg
  obtain ⟨e1, e2⟩ := hchk
  cases Nat.eq_of_beq_eq_true e1
  obtain ⟨⟨o', k', a', h', pos⟩, hq9, e3⟩ := List.any_eq_true.mp e2
  simp only [Bool.and_eq_true] at e3
  obtain ⟨⟨e3, e4⟩, e5⟩ := e3
  cases Nat.eq_of_beq_eq_true e3
  cases Nat.eq_of_beq_eq_true e4
  cases Nat.eq_of_beq_eq_true e5
  have e6 := List.all_eq_true.mp am_st_ok _ hq9
  simp only [Bool.and_eq_true, Bool.or_eq_true] at e6
  obtain ⟨⟨g1, g2⟩, g3⟩ := e6
  have hge := am_blt' g1
  have ha : (200 ≤ a ∧ a < 211) ∨ a = 220 ∨ a = 221 := by
    rcases g2 with (g2 | g2) | g2
    · exact Or.inl ⟨hge, am_blt' g2⟩
    · exact Or.inr (Or.inl (Nat.eq_of_beq_eq_true g2))
    · exact Or.inr (Or.inr (Nat.eq_of_beq_eq_true g2))
  have hZ := hC.2.2.1 a ha
  have hgo := am_go (e := e) (below := below) h0 hrun (am_gl.c (show am_gv σ (av_r a 0) from Or.inl ⟨by show 200 ≤ a; omega, by show ¬ (212 ≤ a ∧ a < 220); omega⟩) hgs)
  have he : am_cv xa uv f σ (av_r a 0) = (bif Nat.blt a 220 then .ref (xa a) else uv a) := by
    show am_rv xa uv f σ (a, 0) = _
    unfold am_rv
    have h1 : Nat.blt a 200 = false := by
      cases hb9 : Nat.blt a 200
      · rfl
      · have := am_blt' hb9; omega
    simp only [h1, cond_false]
  simp only [List.map_cons] at hgo
  rw [he] at hgo
  cases hh : Nat.beq h' 0 <;> simp only [hh, cond_true, cond_false, decide_eq_true_eq] at g3
  · exact va_getsN hx hb hZ hF.2.1 hown (va_Nw.use rfl (hC.2.2.2.2.2.1 _ (List.mem_filter.mpr ⟨List.mem_of_getElem? g3, rfl⟩))) (fun _ h9 => h9) hdg hgo
  · exact va_gets hx hb hZ hF.2.1 hown (hts _ (am_T_of g3 rfl)) (fun _ h9 => h9) hdg hgo

theorem am_s_tab {len : Nat} {w : Int32} {a b c9 : Nat} {tb : List (Int32 × Nat)} {d9 lo9 hi9 : Int} {offs9 : Array Int} (h : am_Hyp D aC xa uv X XL z l n y pc ls st σ r (.tableswitch d9 lo9 hi9 offs9, len, w, a, b, c9, tb) p R s m args meth c H locs lsA f f0 n0 sl0) : W p l e R s m args below meth c H locs (ah_n σ - n0) (ah_sl σ - sl0) (am_MQ below (am_Q D aC xa uv z f0 n0 r) args s (ah_n r.2 - n0) (ah_sl r.2 - sl0) (am_A z)) (F0 m pc lsA (st.map (am_cv xa uv f σ))) := by
  have h0 := h
  obtain ⟨ih, hy, ⟨hx, hb, hml, hlk, hts, q0, hq0, hrt, hown, hnm, hfr, hlc, htab⟩, hC, hF, hc1, hc2, hdg, ⟨q, hq, hchk⟩, hrun⟩ := h
  cases hq0.symm.trans hq
  have hgs := hF.2.2.2.2.2.1
  simp only [am_step] at hrun
  simp only [am_rchk, Bool.and_eq_true, decide_eq_true_eq] at hchk
  dsimp only at hdg
  obtain ⟨⟨e1, e2⟩, e3⟩ := hchk
  split at hrun
  · rename_i x r9
    rcases am_sw_tab tb offs9.toList lo9 e2 hrun with ⟨h4, h5⟩ | ⟨j, off, tgt, h4, h5, h6, h7⟩
    · exact lv_tableOut hx hb hdg (by omega) e1 (am_go h0 h5 hgs.t)
    · have hj : j < offs9.toList.length := (List.getElem?_eq_some_iff.mp h4).1
      exact lv_tableIn hx hb hdg (by omega) (by omega) (show offs9[(x.toInt - lo9).toNat]? = some off by rw [show (x.toInt - lo9).toNat = j by omega, ← Array.getElem?_toList]; exact h4) h6 (am_go h0 h7 hgs.t)
  · cases hrun

theorem am_s_look {len : Nat} {w : Int32} {a b c9 : Nat} {tb : List (Int32 × Nat)} {d9 : Int} {ps9 : Array (Int × Int)} (h : am_Hyp D aC xa uv X XL z l n y pc ls st σ r (.lookupswitch d9 ps9, len, w, a, b, c9, tb) p R s m args meth c H locs lsA f f0 n0 sl0) : W p l e R s m args below meth c H locs (ah_n σ - n0) (ah_sl σ - sl0) (am_MQ below (am_Q D aC xa uv z f0 n0 r) args s (ah_n r.2 - n0) (ah_sl r.2 - sl0) (am_A z)) (F0 m pc lsA (st.map (am_cv xa uv f σ))) := by
  have h0 := h
  obtain ⟨ih, hy, ⟨hx, hb, hml, hlk, hts, q0, hq0, hrt, hown, hnm, hfr, hlc, htab⟩, hC, hF, hc1, hc2, hdg, ⟨q, hq, hchk⟩, hrun⟩ := h
  cases hq0.symm.trans hq
  have hgs := hF.2.2.2.2.2.1
  simp only [am_step] at hrun
  simp only [am_rchk, Bool.and_eq_true, decide_eq_true_eq] at hchk
  dsimp only at hdg
  obtain ⟨⟨e1, e2⟩, e3⟩ := hchk
  split at hrun
  · rename_i x r9
    obtain ⟨tgt, h4, h5⟩ := am_sw_lk e1 tb ps9.toList e2 hrun
    exact lv_lookup hx hb hdg e3 rfl h4 (am_go h0 h5 hgs.t)
  · cases hrun

end AmHeap4
end
section
section AmHeap5
variable {D : va_G} {aC : Nat → ClassId} {xa : Nat → Nat} {uv : Nat → Value} {X : Nat → Nat → Int32} {XL : Nat → Nat} {z : Nat}
variable {l : Launch} {n y pc : Nat} {ls st : List am_V} {σ : am_H} {r : am_O × am_H} {p : Program} {e : Env} {R : Room} {s : State} {m : MethodId} {args : Array Value} {below : List Frame} {meth : Method} {c : Code} {H : Heap} {locs : List Loc} {lsA : Array Slot} {f : Nat → Nat} {f0 : (Nat → Nat) × am_H} {n0 sl0 : Nat}
theorem am_ce_newo {t k a9 : Nat} (ht : t < 14) : am_ce aC xa uv (am_u f (ah_n σ) a9) (am_mk σ t k) (t, am_cnt σ t) = .inr (t, (List.range (am_nf t)).map (fun j => bif Nat.beq (am_fk t j) 1 then Value.null else .int 0)) := by
  unfold am_ce
  simp only [am_blt (show t < 16 by omega), cond_true]
  congr 2
  refine List.map_congr_left fun j _ => ?_
  unfold am_fv
  show (bif Nat.beq (am_fk t j) 1 then am_cv xa uv _ _ (.inr (.inr (am_c (ah_R σ) t (am_cnt σ t) (fun _ => none) t (am_cnt σ t) j))) else .int (am_c (ah_I σ) t (am_cnt σ t) (fun _ => 0) t (am_cnt σ t) j)) = _
  rw [am_c, if_pos ⟨rfl, rfl⟩, am_c, if_pos ⟨rfl, rfl⟩]
  rfl
theorem am_ce_newa {t k a9 : Nat} (h16 : 16 ≤ t) (hk : am_ak t < 3) : am_ce aC xa uv (am_u f (ah_n σ) a9) (am_mk σ t k) (t, am_cnt σ t) = .inl (aC (am_ak t), k, .inl (fun _ => 0)) := by
  unfold am_ce
  have h1 : Nat.blt t 16 = false := by
    cases hb : Nat.blt t 16
    · rfl
    · have := am_blt' hb; omega
  simp only [h1, cond_false, am_blt hk, cond_true]
  show Sum.inl (aC (am_ak t), am_c (ah_ln σ) t (am_cnt σ t) k t (am_cnt σ t), Sum.inl (am_c (ah_I σ) t (am_cnt σ t) (fun _ => 0) t (am_cnt σ t))) = _
  rw [am_c, if_pos ⟨rfl, rfl⟩, am_c, if_pos ⟨rfl, rfl⟩]
theorem am_ce_newq {t k a9 : Nat} (h16 : 16 ≤ t) (hk : am_ak t = 3 ∨ am_ak t = 4) : am_ce aC xa uv (am_u f (ah_n σ) a9) (am_mk σ t k) (t, am_cnt σ t) = .inl (aC (am_ak t), k, .inr (.inr (.inr (.inr (fun _ => none))))) := by
  unfold am_ce
  have h1 : Nat.blt t 16 = false := by
    cases hb : Nat.blt t 16
    · rfl
    · have := am_blt' hb; omega
  have h3 : Nat.blt (am_ak t) 3 = false := by
    cases hb : Nat.blt (am_ak t) 3
    · rfl
    · have := am_blt' hb; omega
  simp only [h1, cond_false, h3]
  have hfun : (fun j => Option.map (fun r : Nat × Nat => am_u f (ah_n σ) a9 (ah_ad (am_mk σ t k) r.1 r.2)) (ah_R (am_mk σ t k) t (am_cnt σ t) j)) = (fun _ => none) := by
    funext j
    show Option.map _ (am_c (ah_R σ) t (am_cnt σ t) (fun _ => none) t (am_cnt σ t) j) = none
    rw [am_c, if_pos ⟨rfl, rfl⟩]
    rfl
  rw [hfun]
  show Sum.inl (aC (am_ak t), am_c (ah_ln σ) t (am_cnt σ t) k t (am_cnt σ t), _) = _
  rw [am_c, if_pos ⟨rfl, rfl⟩]
/-- an array type has one number -/
theorem am_cA {ty : FieldType} {cA cB : ClassId} (h1 : va_RA s cA ty) (h2 : va_RA s cB ty) : cA = cB := by
  cases ty with
  | object C =>
    obtain ⟨_, _, _, _, _, h3⟩ := h1
    obtain ⟨_, _, _, _, _, h4⟩ := h2
    exact Option.some.inj (h3.symm.trans h4)
  | _ => exact Option.some.inj ((show s.vm.findClass _ = some cA from h1).symm.trans (show s.vm.findClass _ = some cB from h2))
theorem am_s_new {len : Nat} {w : Int32} {a b c9 : Nat} {tb : List (Int32 × Nat)} {k9 : Nat} (h : am_Hyp D aC xa uv X XL z l n y pc ls st σ r (.new k9, len, w, a, b, c9, tb) p R s m args meth c H locs lsA f f0 n0 sl0) : W p l e R s m args below meth c H locs (ah_n σ - n0) (ah_sl σ - sl0) (am_MQ below (am_Q D aC xa uv z f0 n0 r) args s (ah_n r.2 - n0) (ah_sl r.2 - sl0) (am_A z)) (F0 m pc lsA (st.map (am_cv xa uv f σ))) := by
  have h0 := h
  obtain ⟨ih, hy, ⟨hx, hb, hml, hlk, hts, q0, hq0, hrt, hown, hnm, hfr, hlc, htab⟩, hC, hF, hc1, hc2, hdg, ⟨q, hq, hchk⟩, hrun⟩ := h
  cases hq0.symm.trans hq
  have hgs := hF.2.2.2.2.2.1
  simp only [am_step] at hrun
  simp only [am_rchk, Bool.and_eq_true, decide_eq_true_eq] at hchk
  dsimp only at hdg
  obtain ⟨⟨e1, e1b⟩, e2⟩ := hchk
  cases Nat.eq_of_beq_eq_true e1
  have e1b := Nat.eq_of_beq_eq_true e1b
  obtain ⟨⟨o', k', a', pos⟩, hq9, e3⟩ := List.any_eq_true.mp e2
  simp only [Bool.and_eq_true] at e3
  obtain ⟨⟨e3, e4⟩, e5⟩ := e3
  cases Nat.eq_of_beq_eq_true e3
  cases Nat.eq_of_beq_eq_true e4
  cases Nat.eq_of_beq_eq_true e5
  have e6 := List.all_eq_true.mp am_nt_ok _ hq9
  simp only [Bool.and_eq_true, decide_eq_true_eq] at e6
  have ht := am_blt' e6.1
  obtain ⟨C, T, N, hv⟩ := am_cl_some ht
  obtain ⟨hin, hCo, hN, hinst, hini, hkd⟩ := am_cl_spec ht hv
  obtain ⟨hnames, htys⟩ := am_cl_names ht hv
  have hlink := hts _ (am_T_of e6.2 rfl)
  rw [← hCo] at hlink
  have hle := am_le_run am_ak X XL am_code am_ml _ _ _ _ _ _ _ hrun
  have hle1 : ah_n σ + 1 ≤ ah_n r.2 := hle.1
  have hle2 : ah_sl σ + b ≤ ah_sl r.2 := hle.2
  have ha8 := hF.2.2.2.2.2.2.2.1
  have ha9 := hF.2.2.2.2.2.2.2.2
  refine va_new (fs := (List.range (am_nf a)).map (fun j => bif Nat.beq (am_fk a j) 1 then Value.null else .int 0)) hx hb hts hin (am_ty a) htys hown hlink (hts _ hinst) (hts _ hini) hC.1 hF.1.1 hF.1.2.1 hF.2.1 (fun q9 h9 => Nat.le_trans hC.2.2.2.1 h9) hv ?_ (by omega) (by omega) hdg (fun q9 H1 hP hD hS => ?_)
  · intro j hj
    have h9 := hkd j hj
    have hj2 : j < am_nf a := by omega
    show _ = ((List.range (am_nf a)).map (fun j => bif Nat.beq (am_fk a j) 1 then Value.null else .int 0)).getD j .null
    rw [List.getD_eq_getElem?_getD]
    simp only [List.getElem?_map, List.getElem?_range hj2, Option.map_some, Option.getD_some]
    revert h9
    cases am_ty a j <;> intro h9 <;> first | (rw [show am_fk a j = _ from h9]; rfl) | exact absurd h9 id
  · have hce := am_ce_newo (aC := aC) (xa := xa) (uv := uv) (f := f) (σ := σ) (k := b) (a9 := q9) ht
    rw [← hce] at hP hD
    rw [show N = b by omega]
    exact am_goM h0 hrun (Or.inl ht) hgs hP hD hS

theorem am_s_newa_int {len : Nat} {w : Int32} {a b c9 : Nat} {tb : List (Int32 × Nat)} (h : am_Hyp D aC xa uv X XL z l n y pc ls st σ r (.newarray .int, len, w, a, b, c9, tb) p R s m args meth c H locs lsA f f0 n0 sl0) : W p l e R s m args below meth c H locs (ah_n σ - n0) (ah_sl σ - sl0) (am_MQ below (am_Q D aC xa uv z f0 n0 r) args s (ah_n r.2 - n0) (ah_sl r.2 - sl0) (am_A z)) (F0 m pc lsA (st.map (am_cv xa uv f σ))) := by
  have h0 := h
  obtain ⟨ih, hy, ⟨hx, hb, hml, hlk, hts, q0, hq0, hrt, hown, hnm, hfr, hlc, htab⟩, hC, hF, hc1, hc2, hdg, ⟨q, hq, hchk⟩, hrun⟩ := h
  cases hq0.symm.trans hq
  have hgs := hF.2.2.2.2.2.1
  simp only [am_step] at hrun
  simp only [am_rchk, Bool.and_eq_true, decide_eq_true_eq] at hchk
  dsimp only at hdg
  obtain ⟨⟨⟨e1, e2⟩, e3⟩, e4⟩ := hchk
  cases Nat.eq_of_beq_eq_true e1
  have h16 := am_blt' e2
  have h200 := am_blt' e3
  have hk := Nat.eq_of_beq_eq_true e4
  split at hrun
  · rename_i k r9
    cases h2 : am_in k 20000 <;> simp only [h2, cond_true, cond_false] at hrun
    · cases hrun
    · have hin := am_inv h2
      have hk0 : ¬ k < 0 := fun h9 => hin (Or.inl h9)
      have hk1 : k.toNatClampNeg < 20000 := Nat.not_le.mp fun h9 => hin (Or.inr h9)
      have hle := am_le_run am_ak X XL am_code am_ml _ _ _ _ _ _ _ hrun
      have hle1 : ah_n σ + 1 ≤ ah_n r.2 := hle.1
      have hle2 : ah_sl σ + k.toNatClampNeg ≤ ah_sl r.2 := hle.2
      have ha8 := hF.2.2.2.2.2.2.2.1
      have ha9 := hF.2.2.2.2.2.2.2.2
      refine va_newa (atype := .int) (ty := .int) (a0 := (k.toNatClampNeg, .inl (fun _ => 0))) hx hb (hts _ am_arrI) rfl hC.1 hF.1.1 hF.1.2.1 hF.2.1 (fun q9 h9 => Nat.le_trans hC.2.2.2.1 h9) (fun cA => rfl) hk0 rfl (by show k.toNatClampNeg * 4 ≤ _; omega) (by omega) (by omega) hdg (fun q9 cA H1 hK hP hD hS => ?_)
      have hcA : cA = aC (am_ak a) := by
        rw [hk]
        exact am_cA (hK.2 5 (cA, .int) rfl).2 (hC.1.2 0 (aC 0, .int) rfl).2
      rw [hcA, ← am_ce_newa (aC := aC) (xa := xa) (uv := uv) (f := f) (σ := σ) (k := k.toNatClampNeg) (a9 := q9) (show 16 ≤ a by omega) (show am_ak a < 3 by omega)] at hP hD
      exact am_goM h0 hrun (Or.inr ⟨by omega, by omega, by omega⟩) hgs.t hP hD hS
  · cases hrun

theorem am_s_newa_byte {len : Nat} {w : Int32} {a b c9 : Nat} {tb : List (Int32 × Nat)} (h : am_Hyp D aC xa uv X XL z l n y pc ls st σ r (.newarray .byte, len, w, a, b, c9, tb) p R s m args meth c H locs lsA f f0 n0 sl0) : W p l e R s m args below meth c H locs (ah_n σ - n0) (ah_sl σ - sl0) (am_MQ below (am_Q D aC xa uv z f0 n0 r) args s (ah_n r.2 - n0) (ah_sl r.2 - sl0) (am_A z)) (F0 m pc lsA (st.map (am_cv xa uv f σ))) := by
  have h0 := h
  obtain ⟨ih, hy, ⟨hx, hb, hml, hlk, hts, q0, hq0, hrt, hown, hnm, hfr, hlc, htab⟩, hC, hF, hc1, hc2, hdg, ⟨q, hq, hchk⟩, hrun⟩ := h
  cases hq0.symm.trans hq
  have hgs := hF.2.2.2.2.2.1
  simp only [am_step] at hrun
  simp only [am_rchk, Bool.and_eq_true, decide_eq_true_eq] at hchk
  dsimp only at hdg
  obtain ⟨⟨⟨e1, e2⟩, e3⟩, e4⟩ := hchk
  cases Nat.eq_of_beq_eq_true e1
  have h16 := am_blt' e2
  have h200 := am_blt' e3
  have hk := Nat.eq_of_beq_eq_true e4
  split at hrun
  · rename_i k r9
    cases h2 : am_in k 20000 <;> simp only [h2, cond_true, cond_false] at hrun
    · cases hrun
    · have hin := am_inv h2
      have hk0 : ¬ k < 0 := fun h9 => hin (Or.inl h9)
      have hk1 : k.toNatClampNeg < 20000 := Nat.not_le.mp fun h9 => hin (Or.inr h9)
      have hle := am_le_run am_ak X XL am_code am_ml _ _ _ _ _ _ _ hrun
      have hle1 : ah_n σ + 1 ≤ ah_n r.2 := hle.1
      have hle2 : ah_sl σ + k.toNatClampNeg ≤ ah_sl r.2 := hle.2
      have ha8 := hF.2.2.2.2.2.2.2.1
      have ha9 := hF.2.2.2.2.2.2.2.2
      refine va_newa (atype := .byte) (ty := .byte) (a0 := (k.toNatClampNeg, .inl (fun _ => 0))) hx hb (hts _ am_arrB) rfl hC.1 hF.1.1 hF.1.2.1 hF.2.1 (fun q9 h9 => Nat.le_trans hC.2.2.2.1 h9) (fun cA => rfl) hk0 rfl (by show k.toNatClampNeg * 1 ≤ _; omega) (by omega) (by omega) hdg (fun q9 cA H1 hK hP hD hS => ?_)
      have hcA : cA = aC (am_ak a) := by
        rw [hk]
        exact am_cA (hK.2 5 (cA, .byte) rfl).2 (hC.1.2 1 (aC 1, .byte) rfl).2
      rw [hcA, ← am_ce_newa (aC := aC) (xa := xa) (uv := uv) (f := f) (σ := σ) (k := k.toNatClampNeg) (a9 := q9) (show 16 ≤ a by omega) (show am_ak a < 3 by omega)] at hP hD
      exact am_goM h0 hrun (Or.inr ⟨by omega, by omega, by omega⟩) hgs.t hP hD hS
  · cases hrun

theorem am_s_newa_boolean {len : Nat} {w : Int32} {a b c9 : Nat} {tb : List (Int32 × Nat)} (h : am_Hyp D aC xa uv X XL z l n y pc ls st σ r (.newarray .boolean, len, w, a, b, c9, tb) p R s m args meth c H locs lsA f f0 n0 sl0) : W p l e R s m args below meth c H locs (ah_n σ - n0) (ah_sl σ - sl0) (am_MQ below (am_Q D aC xa uv z f0 n0 r) args s (ah_n r.2 - n0) (ah_sl r.2 - sl0) (am_A z)) (F0 m pc lsA (st.map (am_cv xa uv f σ))) := by
  have h0 := h
  obtain ⟨ih, hy, ⟨hx, hb, hml, hlk, hts, q0, hq0, hrt, hown, hnm, hfr, hlc, htab⟩, hC, hF, hc1, hc2, hdg, ⟨q, hq, hchk⟩, hrun⟩ := h
  cases hq0.symm.trans hq
  have hgs := hF.2.2.2.2.2.1
  simp only [am_step] at hrun
  simp only [am_rchk, Bool.and_eq_true, decide_eq_true_eq] at hchk
  dsimp only at hdg
  obtain ⟨⟨⟨e1, e2⟩, e3⟩, e4⟩ := hchk
  cases Nat.eq_of_beq_eq_true e1
  have h16 := am_blt' e2
  have h200 := am_blt' e3
  have hk := Nat.eq_of_beq_eq_true e4
  split at hrun
  · rename_i k r9
    cases h2 : am_in k 20000 <;> simp only [h2, cond_true, cond_false] at hrun
    · cases hrun
    · have hin := am_inv h2
      have hk0 : ¬ k < 0 := fun h9 => hin (Or.inl h9)
      have hk1 : k.toNatClampNeg < 20000 := Nat.not_le.mp fun h9 => hin (Or.inr h9)
      have hle := am_le_run am_ak X XL am_code am_ml _ _ _ _ _ _ _ hrun
      have hle1 : ah_n σ + 1 ≤ ah_n r.2 := hle.1
      have hle2 : ah_sl σ + k.toNatClampNeg ≤ ah_sl r.2 := hle.2
      have ha8 := hF.2.2.2.2.2.2.2.1
      have ha9 := hF.2.2.2.2.2.2.2.2
      refine va_newa (atype := .boolean) (ty := .boolean) (a0 := (k.toNatClampNeg, .inl (fun _ => 0))) hx hb (hts _ am_arrZ) rfl hC.1 hF.1.1 hF.1.2.1 hF.2.1 (fun q9 h9 => Nat.le_trans hC.2.2.2.1 h9) (fun cA => rfl) hk0 rfl (by show k.toNatClampNeg * 1 ≤ _; omega) (by omega) (by omega) hdg (fun q9 cA H1 hK hP hD hS => ?_)
      have hcA : cA = aC (am_ak a) := by
        rw [hk]
        exact am_cA (hK.2 5 (cA, .boolean) rfl).2 (hC.1.2 2 (aC 2, .boolean) rfl).2
      rw [hcA, ← am_ce_newa (aC := aC) (xa := xa) (uv := uv) (f := f) (σ := σ) (k := k.toNatClampNeg) (a9 := q9) (show 16 ≤ a by omega) (show am_ak a < 3 by omega)] at hP hD
      exact am_goM h0 hrun (Or.inr ⟨by omega, by omega, by omega⟩) hgs.t hP hD hS
  · cases hrun

theorem am_s_anew {len : Nat} {w : Int32} {a b c9 : Nat} {tb : List (Int32 × Nat)} {k9 : Nat} (h : am_Hyp D aC xa uv X XL z l n y pc ls st σ r (.anewarray k9, len, w, a, b, c9, tb) p R s m args meth c H locs lsA f f0 n0 sl0) : W p l e R s m args below meth c H locs (ah_n σ - n0) (ah_sl σ - sl0) (am_MQ below (am_Q D aC xa uv z f0 n0 r) args s (ah_n r.2 - n0) (ah_sl r.2 - sl0) (am_A z)) (F0 m pc lsA (st.map (am_cv xa uv f σ))) := by
  have h0 := h
  obtain ⟨ih, hy, ⟨hx, hb, hml, hlk, hts, q0, hq0, hrt, hown, hnm, hfr, hlc, htab⟩, hC, hF, hc1, hc2, hdg, ⟨q, hq, hchk⟩, hrun⟩ := h
  cases hq0.symm.trans hq
  have hgs := hF.2.2.2.2.2.1
  simp only [am_step] at hrun
  simp only [am_rchk, Bool.and_eq_true, decide_eq_true_eq] at hchk
  dsimp only at hdg
  obtain ⟨⟨⟨e1, e2⟩, e3⟩, e4⟩ := hchk
  cases Nat.eq_of_beq_eq_true e1
  have h16 := am_blt' e2
  have h200 := am_blt' e3
  obtain ⟨⟨o', k', a', pos⟩, hq9, g3⟩ := List.any_eq_true.mp e4
  simp only [Bool.and_eq_true] at g3
  obtain ⟨⟨g3, g4⟩, g5⟩ := g3
  cases Nat.eq_of_beq_eq_true g3
  cases Nat.eq_of_beq_eq_true g4
  have g5 := Nat.eq_of_beq_eq_true g5
  subst g5
  have g6 := List.all_eq_true.mp am_at_ok _ hq9
  simp only [Bool.and_eq_true, Bool.or_eq_true, decide_eq_true_eq] at g6
  obtain ⟨hk, g7⟩ := g6
  split at hrun
  · rename_i k r9
    cases h2 : am_in k 20000 <;> simp only [h2, cond_true, cond_false] at hrun
    · cases hrun
    · have hin := am_inv h2
      have hk0 : ¬ k < 0 := fun h9 => hin (Or.inl h9)
      have hk1 : k.toNatClampNeg < 20000 := Nat.not_le.mp fun h9 => hin (Or.inr h9)
      have hle := am_le_run am_ak X XL am_code am_ml _ _ _ _ _ _ _ hrun
      have hle1 : ah_n σ + 1 ≤ ah_n r.2 := hle.1
      have hle2 : ah_sl σ + k.toNatClampNeg ≤ ah_sl r.2 := hle.2
      have ha8 := hF.2.2.2.2.2.2.2.1
      have ha9 := hF.2.2.2.2.2.2.2.2
      have hlink := hts _ (am_T_of g7 rfl)
      rcases hk with hk | hk
      · have hkk := Nat.eq_of_beq_eq_true hk
        rw [hk] at hlink
        refine va_newq (C := "BrotliWords$Code") hx hb hown hlink hC.2.2.2.2.2.2.1 hC.1 hF.1.1 hF.1.2.1 hF.2.1 (fun q9 h9 => Nat.le_trans hC.2.2.2.1 h9) hk0 rfl (by omega) (by omega) (by omega) hdg (fun q9 cA H1 hK hP hD hS => ?_)
        have hcA : cA = aC (am_ak a) := by
          rw [hkk]
          exact am_cA (hK.2 5 (cA, .object "BrotliWords$Code") rfl).2 (hC.1.2 3 (aC 3, .object "BrotliWords$Code") rfl).2
        rw [hcA, ← am_ce_newq (aC := aC) (xa := xa) (uv := uv) (f := f) (σ := σ) (k := k.toNatClampNeg) (a9 := q9) (show 16 ≤ a by omega) (Or.inl hkk)] at hP hD
        exact am_goM h0 hrun (Or.inr ⟨by omega, by omega, by omega⟩) hgs.t hP hD hS
      · have hkk := Nat.eq_of_beq_eq_true hk
        rw [show Nat.beq (am_ak a) 3 = false by rw [hkk]; rfl] at hlink
        refine va_newq (C := "BrotliWords$Blocks") hx hb hown hlink hC.2.2.2.2.2.2.2 hC.1 hF.1.1 hF.1.2.1 hF.2.1 (fun q9 h9 => Nat.le_trans hC.2.2.2.1 h9) hk0 rfl (by omega) (by omega) (by omega) hdg (fun q9 cA H1 hK hP hD hS => ?_)
        have hcA : cA = aC (am_ak a) := by
          rw [hkk]
          exact am_cA (hK.2 5 (cA, .object "BrotliWords$Blocks") rfl).2 (hC.1.2 4 (aC 4, .object "BrotliWords$Blocks") rfl).2
        rw [hcA, ← am_ce_newq (aC := aC) (xa := xa) (uv := uv) (f := f) (σ := σ) (k := k.toNatClampNeg) (a9 := q9) (show 16 ≤ a by omega) (Or.inr hkk)] at hP hD
        exact am_goM h0 hrun (Or.inr ⟨by omega, by omega, by omega⟩) hgs.t hP hD hS
  · cases hrun

end AmHeap5
end
section
section AmRet
variable {D : va_G} {aC : Nat → ClassId} {xa : Nat → Nat} {uv : Nat → Value} {X : Nat → Nat → Int32} {XL : Nat → Nat} {z : Nat}
variable {l : Launch} {n y pc : Nat} {ls st : List am_V} {σ : am_H} {r : am_O × am_H} {p : Program} {e : Env} {R : Room} {s : State} {m : MethodId} {args : Array Value} {below : List Frame} {meth : Method} {c : Code} {H : Heap} {locs : List Loc} {lsA : Array Slot} {f : Nat → Nat} {f0 : (Nat → Nat) × am_H} {n0 sl0 : Nat}
theorem am_zret {cc : ByteArray} {Qc : Array Value → State → Outcome → State → Prop} {free : Addr → Prop} {cells slots : Nat} {v w : Int32} {ty : FieldType} (hexec : p.tables.exec = Jvm.exec) (hb : c.code = cc) (hr : meth.sig.returnType = some ty) (hn : narrow ty (.int v) = .int w)
    (hq : ∀ t : State, t.heap = H → s.WarmedH t.vm → Qc args s (.returned (some (.int w))) t) (hf : ∀ q ∈ locs, free q.base)
    {pc : Nat} {ls : Array Slot} (hdg : decode cc pc = .ok (.ireturn, 1)) (hlocks : meth.locks = false) : W p l e R s m args below meth c H locs cells slots (MQ below Qc args s cells slots free) (F0 m pc ls [.int v]) := by
  intro T hT X
  obtain ⟨fs, hret, hrun, hended, hW, hframe⟩ := X.leave (v := some (.int w)) (fun h => by rw [hr] at h; cases h)
  have hmeth' : T.vm.method? m = some meth := X.method'
  refine ⟨T.setFrames fs, ?_, .returned (some (.int w)), hrun, hended, hq _ hT hW, locs, ⟨⟨_, rfl⟩, hW, hframe⟩, hf⟩
  jvm_step X.here [X.here.top, hexec, hb, hdg, hmeth', hr, hn]
  (try refine ⟨rfl, ?_⟩); (try refine ⟨rfl, ?_⟩)
  first | (intro acts; rw [hret _ acts rfl rfl rfl]) | rw [hret _ _ rfl rfl rfl]
  exact Steps.refl _
/-- no handler stands here -/
theorem am_uncov {hd : List (Nat × Nat × Nat × Nat)} (htab : c.exceptionTable.toList.map (fun h => (h.startPc, h.endPc, h.handlerPc, h.catchType)) = hd) (h : am_hdchk pc hd [] = true) : ∀ x ∈ c.exceptionTable.toList, covers x pc = false := by
  intro x hx
  have hm : (x.startPc, x.endPc, x.handlerPc, x.catchType) ∈ hd := by rw [← htab]; exact List.mem_map_of_mem hx
  match hd, h, hm with
  | [], _, hm => cases hm
  | [q], h, hm =>
    simp only [List.mem_singleton] at hm
    subst hm
    simp only [am_hdchk, Bool.not_eq_true', Bool.and_eq_false_iff, decide_eq_false_iff_not] at h
    unfold covers
    simp only [Bool.and_eq_false_iff, decide_eq_false_iff_not]
    exact h
  | _ :: _ :: _, h, _ => cases h
theorem am_cov {hd : List (Nat × Nat × Nat × Nat)} {q : Int32 × Nat} {tb : List (Int32 × Nat)} (htab : c.exceptionTable.toList.map (fun h => (h.startPc, h.endPc, h.handlerPc, h.catchType)) = hd) (h : am_hdchk pc hd (q :: tb) = true) : ∃ x, c.exceptionTable.toList = [x] ∧ covers x pc = true ∧ x.catchType = 12 ∧ x.handlerPc = q.2 ∧ tb = [] := by
  match hd, tb, h with
  | [], _, h => cases h
  | [a], [], h =>
    simp only [am_hdchk, Bool.and_eq_true, decide_eq_true_eq] at h
    obtain ⟨⟨⟨h1, h2⟩, h3⟩, h4⟩ := h
    match hx : c.exceptionTable.toList, htab with
    | [x], htab =>
      simp only [hx, List.map_cons, List.map_nil, List.cons.injEq, and_true] at htab
      subst htab
      exact ⟨x, rfl, by unfold covers; simp only [Bool.and_eq_true, decide_eq_true_eq]; exact ⟨h1, h2⟩, Nat.eq_of_beq_eq_true h4, (Nat.eq_of_beq_eq_true h3).symm, rfl⟩
    | [], htab => cases htab
    | _ :: _ :: _, htab => cases htab
  | [_], _ :: _, h => cases h
  | _ :: _ :: _, _, h => cases h
theorem am_inMet (l : Launch) (x lo hi : Int64) : am_Met l ⟨"BrotliWordsModel", "in", "(JJJ)Z"⟩ am_T ({ frames := 0, cells := 0, slots := 0, locals := 0 }) (fun v _ => v = #[.long x, .long lo, .long hi]) (fun _ st o t => o = .returned (some (.int (if lo ≤ x ∧ x ≤ hi then 1 else 0))) ∧ t.heap = st.heap) 0 0 (fun _ => False) := by
  have hcw : Cond.code ⟨"BrotliWordsModel", "in", "(JJJ)Z"⟩ prog_14_method_2_code 6 (some .boolean) ∈ am_T := am_T_of (k := 1505) (by decide +kernel) rfl
  refine am_ofW (cc := prog_14_method_2_code) (maxL := 6) (ret := some .boolean) (by decide) ?_ ?_
  · intro args s m h hn
    obtain ⟨meth, c, h1, h2, h3, h4, h5, h6, -, -⟩ := Cond.code_spec hn (h _ hcw)
    exact ⟨meth, c, h1, h2, h3, h4, h5, h6⟩
  · intro p e s m args below meth c s₁ B hml hv
    have hx := B.exec
    have hb := B.bytes
    have hr := B.returns
    have hlk := B.notSynchronized
    subst hv
    have hl := lv_entry ([.long x, .long lo, .long hi]) (n := 6) (Nat.le_of_ble_eq_true rfl)
    show W p l e _ s m _ below meth c s.heap [] 0 0 _ (entryFrame m ([Value.long x, .long lo, .long hi] : List Value).toArray 6)
    rw [lg_entry_eq]
    generalize (lg_sl ([.long x, .long lo, .long hi]) ++ List.replicate (6 - (lg_sl ([.long x, .long lo, .long hi])).length) Slot.unset).toArray = ls at hl ⊢
    have hl : lv_has ls 6 [(0, .long x), (2, .long lo), (4, .long hi)] := hl
    have hend : ∀ v : Int32, v = (if lo ≤ x ∧ x ≤ hi then 1 else 0) → W p l e ({ frames := 0, cells := 0, slots := 0, locals := 0 }) s m #[.long x, .long lo, .long hi] below meth c s.heap [] 0 0 (am_MQ below (fun _ st o t => o = .returned (some (.int (if lo ≤ x ∧ x ≤ hi then 1 else 0))) ∧ t.heap = st.heap) #[.long x, .long lo, .long hi] s 0 0 (fun _ => False)) (F0 m 18 ls [.int v]) := by
      intro v hv
      refine am_Wmono am_MQ_of (am_zret hx hb hr (w := v) (by subst hv; by_cases hc : lo ≤ x ∧ x ≤ hi <;> simp [hc] <;> rfl) (fun t ht _ => ⟨by rw [hv], ht⟩) (fun q hq => by cases hq) (show decode prog_14_method_2_code 18 = .ok (.ireturn, 1) by decide +kernel) hlk)
    refine lv_lload_n hx hb (show decode prog_14_method_2_code 0 = .ok (.lload_n 0, 1) by decide +kernel) rfl (lv_at hl 0 rfl) ?_
    refine lv_lload_n hx hb (show decode prog_14_method_2_code 1 = .ok (.lload_n 2, 1) by decide +kernel) rfl (lv_at hl 1 rfl) ?_
    refine W.lcmp hx hb (show decode prog_14_method_2_code 2 = .ok (.lcmp, 1) by decide +kernel) ?_
    refine lv_if_lt (tgt := 17) hx hb (show decode prog_14_method_2_code 3 = .ok (.ifCond .lt 14, 3) by decide +kernel) (by decide) (fun h1 => ?_) (fun h1 => ?_)
    · refine lv_iconst (v := 0) hx hb (show decode prog_14_method_2_code 17 = .ok (.iconst 0, 1) by decide +kernel) (by decide) (hend 0 ?_)
      have h2 := (lg_cmp_lt x lo).mp h1
      rw [if_neg (fun h3 => absurd h3.1 (Int64.not_le.mpr h2))]
    · refine lv_lload_n hx hb (show decode prog_14_method_2_code 6 = .ok (.lload_n 0, 1) by decide +kernel) rfl (lv_at hl 0 rfl) ?_
      refine lv_lload hx hb (show decode prog_14_method_2_code 7 = .ok (.lload 4, 2) by decide +kernel) (lv_at hl 2 rfl) ?_
      refine W.lcmp hx hb (show decode prog_14_method_2_code 9 = .ok (.lcmp, 1) by decide +kernel) ?_
      have h2 : lo ≤ x := Int64.not_lt.mp (fun h3 => h1 ((lg_cmp_lt x lo).mpr h3))
      refine lv_if_gt (tgt := 17) hx hb (show decode prog_14_method_2_code 10 = .ok (.ifCond .gt 7, 3) by decide +kernel) (by decide) (fun h3 => ?_) (fun h3 => ?_)
      · refine lv_iconst (v := 0) hx hb (show decode prog_14_method_2_code 17 = .ok (.iconst 0, 1) by decide +kernel) (by decide) (hend 0 ?_)
        have h4 := (lg_cmp_gt x hi).mp h3
        rw [if_neg (fun h5 => absurd h5.2 (Int64.not_le.mpr h4))]
      · refine lv_iconst (v := 1) hx hb (show decode prog_14_method_2_code 13 = .ok (.iconst 1, 1) by decide +kernel) (by decide) ?_
        refine lv_goto (tgt := 18) hx hb (show decode prog_14_method_2_code 14 = .ok (.goto 4, 3) by decide +kernel) (by decide) (hend 1 ?_)
        have h4 : x ≤ hi := Int64.not_lt.mp (fun h5 => h3 ((lg_cmp_gt x hi).mpr h5))
        rw [if_pos ⟨h2, h4⟩]
/-- the weight of what is left on the stack -/
theorem am_wt {st' : List am_V} (h : st'.length ≤ 4) : ((st'.map (am_cv xa uv f σ)).map fun v => v.category).sum ≤ 8 := by
  have h1 : ∀ v : Value, v.category ≤ 2 := fun v => by cases v <;> simp [Value.category]
  have h2 : ∀ l : List Value, (l.map fun v => v.category).sum ≤ 2 * l.length := by
    intro l
    induction l with
    | nil => simp
    | cons a l ih =>
      have := h1 a
      simp only [List.map_cons, List.sum_cons, List.length_cons]
      omega
  have h3 := h2 (st'.map (am_cv xa uv f σ))
  rw [List.length_map] at h3
  omega
theorem am_s_ireturn {len : Nat} {w : Int32} {a b c9 : Nat} {tb : List (Int32 × Nat)} (h : am_Hyp D aC xa uv X XL z l n y pc ls st σ r (.ireturn, len, w, a, b, c9, tb) p R s m args meth c H locs lsA f f0 n0 sl0) : W p l e R s m args below meth c H locs (ah_n σ - n0) (ah_sl σ - sl0) (am_MQ below (am_Q D aC xa uv z f0 n0 r) args s (ah_n r.2 - n0) (ah_sl r.2 - sl0) (am_A z)) (F0 m pc lsA (st.map (am_cv xa uv f σ))) := by
  have h0 := h
  obtain ⟨ih, hy, ⟨hx, hb, hml, hlk, hts, q0, hq0, hrt, hown, hnm, hfr, hlc, htab⟩, hC, hF, hc1, hc2, hdg, ⟨q, hq, hchk⟩, hrun⟩ := h
  cases hq0.symm.trans hq
  have hgs := hF.2.2.2.2.2.1
  simp only [am_step] at hrun
  simp only [am_rchk, Bool.and_eq_true, decide_eq_true_eq] at hchk
  dsimp only at hdg
  obtain ⟨e1, e2⟩ := hchk
  cases Nat.eq_of_beq_eq_true e1
  split at hrun
  · rename_i x
    cases hrun
    revert e2
    cases hret : q0.2.2.1 with
    | none => intro e2; cases e2
    | some ty =>
      cases ty <;> intro e2 <;> first | (cases e2; done) | skip
      case int =>
        have h3 := Nat.eq_of_beq_eq_true e2
        subst h3
        exact am_Wmono am_MQ_of (am_zret hx hb (hrt.trans hret) (w := x) rfl (fun t ht _ => ⟨⟨f, hF.2.2.2.2.2.2.1, by rw [ht]; exact hF.1, ⟨rfl, trivial, rfl⟩⟩, hF.2.1.F ht⟩) hF.2.1.2.2 hdg hlk)
      case boolean =>
        have h3 := Nat.eq_of_beq_eq_true e2
        subst h3
        exact am_Wmono am_MQ_of (am_zret hx hb (hrt.trans hret) (w := vp_nar .boolean x) rfl (fun t ht _ => ⟨⟨f, hF.2.2.2.2.2.2.1, by rw [ht]; exact hF.1, ⟨rfl, trivial, rfl⟩⟩, hF.2.1.F ht⟩) hF.2.1.2.2 hdg hlk)
  · cases hrun

theorem am_s_areturn {len : Nat} {w : Int32} {a b c9 : Nat} {tb : List (Int32 × Nat)} (h : am_Hyp D aC xa uv X XL z l n y pc ls st σ r (.areturn, len, w, a, b, c9, tb) p R s m args meth c H locs lsA f f0 n0 sl0) : W p l e R s m args below meth c H locs (ah_n σ - n0) (ah_sl σ - sl0) (am_MQ below (am_Q D aC xa uv z f0 n0 r) args s (ah_n r.2 - n0) (ah_sl r.2 - sl0) (am_A z)) (F0 m pc lsA (st.map (am_cv xa uv f σ))) := by
  have h0 := h
  obtain ⟨ih, hy, ⟨hx, hb, hml, hlk, hts, q0, hq0, hrt, hown, hnm, hfr, hlc, htab⟩, hC, hF, hc1, hc2, hdg, ⟨q, hq, hchk⟩, hrun⟩ := h
  cases hq0.symm.trans hq
  have hgs := hF.2.2.2.2.2.1
  simp only [am_step] at hrun
  simp only [am_rchk, Bool.and_eq_true, decide_eq_true_eq] at hchk
  dsimp only at hdg
  obtain ⟨e1, e2⟩ := hchk
  cases Nat.eq_of_beq_eq_true e1
  split at hrun
  · rename_i qq
    cases hrun
    have hvr : am_cv xa uv f σ (.inr (.inr qq)) = .null ∨ ∃ b9, am_cv xa uv f σ (.inr (.inr qq)) = .ref b9 := by
      rcases qq with _ | qq
      · exact Or.inl rfl
      · show am_rv xa uv f σ qq = _ ∨ ∃ b9, am_rv xa uv f σ qq = .ref b9
        unfold am_rv
        cases Nat.blt qq.1 200
        · cases Nat.blt qq.1 220
          · exact hC.2.2.2.2.1 qq.1
          · exact Or.inr ⟨_, rfl⟩
        · exact Or.inr ⟨_, rfl⟩
    revert e2
    cases hret : q0.2.2.1 with
    | none => intro e2; cases e2
    | some ty =>
      cases ty <;> intro e2 <;> first | (cases e2; done) | skip
      case object n9 => exact am_Wmono am_MQ_of (W.aret hx hb (hrt.trans hret) (Or.inl ⟨_, rfl⟩) hvr (fun t ht _ => ⟨⟨f, hF.2.2.2.2.2.2.1, by rw [ht]; exact hF.1, ⟨rfl, hgs.h, rfl⟩⟩, hF.2.1.F ht⟩) hF.2.1.2.2 hdg hlk)
      case array n9 => exact am_Wmono am_MQ_of (W.aret hx hb (hrt.trans hret) (Or.inr ⟨_, rfl⟩) hvr (fun t ht _ => ⟨⟨f, hF.2.2.2.2.2.2.1, by rw [ht]; exact hF.1, ⟨rfl, hgs.h, rfl⟩⟩, hF.2.1.F ht⟩) hF.2.1.2.2 hdg hlk)
  · cases hrun

theorem am_s_return {len : Nat} {w : Int32} {a b c9 : Nat} {tb : List (Int32 × Nat)} (h : am_Hyp D aC xa uv X XL z l n y pc ls st σ r (.return_, len, w, a, b, c9, tb) p R s m args meth c H locs lsA f f0 n0 sl0) : W p l e R s m args below meth c H locs (ah_n σ - n0) (ah_sl σ - sl0) (am_MQ below (am_Q D aC xa uv z f0 n0 r) args s (ah_n r.2 - n0) (ah_sl r.2 - sl0) (am_A z)) (F0 m pc lsA (st.map (am_cv xa uv f σ))) := by
  have h0 := h
  obtain ⟨ih, hy, ⟨hx, hb, hml, hlk, hts, q0, hq0, hrt, hown, hnm, hfr, hlc, htab⟩, hC, hF, hc1, hc2, hdg, ⟨q, hq, hchk⟩, hrun⟩ := h
  cases hq0.symm.trans hq
  have hgs := hF.2.2.2.2.2.1
  simp only [am_step] at hrun
  simp only [am_rchk, Bool.and_eq_true, decide_eq_true_eq] at hchk
  dsimp only at hdg
  obtain ⟨e1, e2⟩ := hchk
  cases Nat.eq_of_beq_eq_true e1
  split at hrun
  · cases hrun
    have hret : q0.2.2.1 = none := by
      revert e2
      cases q0.2.2.1 with
      | none => intro _; rfl
      | some _ => intro e2; cases e2
    exact am_Wmono am_MQ_of (W.vret hx hb (hrt.trans hret) (fun t ht _ => ⟨⟨f, hF.2.2.2.2.2.2.1, by rw [ht]; exact hF.1, rfl⟩, hF.2.1.F ht⟩) hF.2.1.2.2 hdg hlk)
  · cases hrun

theorem am_s_athrow {len : Nat} {w : Int32} {a b c9 : Nat} {tb : List (Int32 × Nat)} (h : am_Hyp D aC xa uv X XL z l n y pc ls st σ r (.athrow, len, w, a, b, c9, tb) p R s m args meth c H locs lsA f f0 n0 sl0) : W p l e R s m args below meth c H locs (ah_n σ - n0) (ah_sl σ - sl0) (am_MQ below (am_Q D aC xa uv z f0 n0 r) args s (ah_n r.2 - n0) (ah_sl r.2 - sl0) (am_A z)) (F0 m pc lsA (st.map (am_cv xa uv f σ))) := by
  have h0 := h
  obtain ⟨ih, hy, ⟨hx, hb, hml, hlk, hts, q0, hq0, hrt, hown, hnm, hfr, hlc, htab⟩, hC, hF, hc1, hc2, hdg, ⟨q, hq, hchk⟩, hrun⟩ := h
  cases hq0.symm.trans hq
  have hgs := hF.2.2.2.2.2.1
  simp only [am_step] at hrun
  simp only [am_rchk, Bool.and_eq_true, decide_eq_true_eq] at hchk
  dsimp only at hdg
  obtain ⟨e1, e2⟩ := hchk
  cases Nat.eq_of_beq_eq_true e1
  split at hrun
  · rename_i t i r9
    cases h2 : Nat.beq t 12 <;> simp only [h2, cond_true, cond_false] at hrun
    · cases hrun
    · cases hrun
      have h3 := Nat.eq_of_beq_eq_true h2
      subst h3
      show W p l e R s m args below meth c H locs _ _ _ (F0 m pc lsA (am_cv xa uv f σ (.inr (.inr (some (12, i)))) :: r9.map (am_cv xa uv f σ)))
      rw [am_cvr (show 12 < 200 by omega)]
      exact am_athrow hx hb hlk (am_uncov htab e2) (fun t ht _ => ⟨⟨f, hF.2.2.2.2.2.2.1, by rw [ht]; exact hF.1, ⟨rfl, rfl, hgs.h⟩⟩, hF.2.1.F ht⟩) hF.2.1.2.2 hdg
  · cases hrun

end AmRet
end
section
/-- what is known of a method that may be called -/
theorem am_md_spec {y : Nat} (hy : y < 264) : ∃ nm mx rt o fr lc hd k, am_md[y]? = some (nm, mx, rt, o, fr, lc, hd) ∧ am_mk_ y = k ∧ nm.cls = am_ow o ∧ plainName nm.cls = true ∧ mx = am_ml y ∧ (nm.cls ≠ "java/lang/invoke/MethodHandle" ∧ nm.cls ≠ "java/lang/invoke/VarHandle") ∧ k ≠ 3 ∧
    ((hd = [] ∧ Cond.code nm (am_by y) mx rt ∈ am_T) ∨ (k = 0 ∧ Cond.codeWith nm (am_by y) mx rt hd ∈ am_T)) ∧ Cond.initialized nm.cls ∈ am_T ∧ (k = 1 → Cond.static nm ∈ am_T) ∧ (k = 2 → Cond.instanceMethod nm ∈ am_T ∧ nm.name = "<init>" ∧ rt = none) ∧ (k = 0 → Cond.instanceMethod nm ∈ am_T ∧ Cond.selects nm.cls nm nm ∈ am_T) := by
  have h := am_md_all (y := y) (by omega)
  unfold am_mdchk at h
  cases hm : am_md[y]? with
  | none => simp [hm] at h
  | some q =>
    obtain ⟨nm, mx, rt, o, fr, lc, hd⟩ := q
    cases hp : am_mp[y]? with
    | none => simp [hm, hp] at h
    | some w =>
      obtain ⟨k, p1, p2, p3, p4⟩ := w
      simp only [hm, hp, Bool.and_eq_true, decide_eq_true_eq] at h
      obtain ⟨⟨⟨⟨⟨h1, h2⟩, h3⟩, h4⟩, h5⟩, h6⟩ := h
      have hk3 : Nat.beq k 3 = false := by
        cases hb : Nat.beq k 3
        · rfl
        · rw [hb] at h6
          simp only [cond_true] at h6
          have := Nat.eq_of_beq_eq_true h6
          have h9 : am_law = 264 := rfl
          omega
      simp only [hk3, cond_false, Bool.and_eq_true, decide_eq_true_eq] at h6
      obtain ⟨⟨⟨h7, h8⟩, h9⟩, h10⟩ := h6
      have hne : Nat.beq y am_law = false := by simpa using h7
      have hby : ∀ w : Cond, lw_tbl[p1]? = some w → am_by y = (match w with
          | .code _ b _ _ => b
          | .codeWith _ b _ _ _ => b
          | _ => ByteArray.empty) := by
        intro w hw
        unfold am_by am_cw
        rw [hne, hp]
        simp only [cond_false, Option.bind_some, hw]
        cases w <;> rfl
      refine ⟨nm, mx, rt, o, fr, lc, hd, k, rfl, by unfold am_mk_; rw [hp]; rfl, h1, h2, Nat.eq_of_beq_eq_true h3, ⟨h4, h5⟩, (fun e => by rw [e] at hk3; cases hk3), ?_, am_T_of h9 rfl, fun e => ?_, fun e => ?_, fun e => ?_⟩
      · cases hw : lw_tbl[p1]? with
        | none => simp [hw] at h8
        | some w =>
          rw [hw] at h8
          have hby2 := hby w hw
          cases w with
          | code n2 b2 m2 r2 =>
            simp only [Bool.and_eq_true, decide_eq_true_eq] at h8
            obtain ⟨⟨⟨g1, g2⟩, g3⟩, g4⟩ := h8
            have g2 := Nat.eq_of_beq_eq_true g2
            subst g1; subst g2; subst g3
            refine Or.inl ⟨by simpa using g4, ?_⟩
            rw [hby2]
            exact am_T_of hw rfl
          | codeWith n2 b2 m2 r2 h2 =>
            simp only [Bool.and_eq_true, decide_eq_true_eq] at h8
            obtain ⟨⟨⟨⟨g1, g2⟩, g3⟩, g4⟩, g5⟩ := h8
            have g2 := Nat.eq_of_beq_eq_true g2
            subst g1; subst g2; subst g3; subst g4
            refine Or.inr ⟨Nat.eq_of_beq_eq_true g5, ?_⟩
            rw [hby2]
            exact am_T_of hw rfl
          | _ => cases h8
      · subst e
        simp only [show Nat.beq 1 1 = true from rfl, cond_true, decide_eq_true_eq] at h10
        exact am_T_of h10 rfl
      · subst e
        simp only [show Nat.beq 2 1 = false from rfl, show Nat.beq 2 2 = true from rfl, cond_true, cond_false, Bool.and_eq_true, decide_eq_true_eq] at h10
        exact ⟨am_T_of h10.1.1 rfl, h10.1.2, h10.2⟩
      · subst e
        simp only [show Nat.beq 0 1 = false from rfl, show Nat.beq 0 2 = false from rfl, cond_false, Bool.and_eq_true, decide_eq_true_eq] at h10
        exact ⟨am_T_of h10.1.1.1 rfl, am_T_of h10.1.1.2 rfl⟩
/-- its code, where the words hold -/
theorem am_his {y : Nat} (hy : y < 264) {args : Array Value} {s : State} {m : MethodId} {q : MethodName × Nat × Option FieldType × Nat × Nat × Nat × List (Nat × Nat × Nat × Nat)} (hq : am_md[y]? = some q) (hts : ∀ w ∈ am_T, w.before args s = true) (hn : s.methodNamed? q.1 = some m) :
    ∃ meth c, s.vm.method? m = some meth ∧ meth.code = some c ∧ c.code = am_by y ∧ c.maxLocals = am_ml y ∧ meth.sig.returnType = q.2.2.1 ∧ meth.locks = false ∧ c.exceptionTable.toList.map (fun h => (h.startPc, h.endPc, h.handlerPc, h.catchType)) = q.2.2.2.2.2.2 ∧ parseMethodDescriptor q.1.desc = some meth.sig := by
  obtain ⟨nm, mx, rt, o, fr, lc, hd, k, h1, -, -, -, h4, -, -, h6, -⟩ := am_md_spec hy
  cases hq.symm.trans h1
  dsimp only at hn ⊢
  rcases h6 with ⟨h6, h7⟩ | ⟨-, h7⟩
  · obtain ⟨meth, c, g1, g2, g3, g4, g5, g6, g7, g8⟩ := Cond.code_spec hn (hts _ h7)
    refine ⟨meth, c, g1, g2, g3, g4.trans h4, g5, g6, ?_, g8⟩
    rw [h6]
    have g9 : c.exceptionTable.toList = [] := by
      have : c.exceptionTable = #[] := Array.isEmpty_iff.mp g7
      rw [this]
    rw [g9]; rfl
  · obtain ⟨m9, meth, c, g0, g1, g2, g3, g4, g5, g6, g7, g8⟩ := Cond.codeWith_spec (hts _ h7)
    cases hn.symm.trans g0
    exact ⟨meth, c, g1, g2, g3, g4.trans h4, g6, g7, g5, g8⟩
theorem am_args_at : ∀ (vs : List Value) (k i : Nat) (v : Value), (∀ w ∈ vs, w.category = 1) → vs[i]? = some v → (k + i, v) ∈ lv_args k vs
  | [], _, _, _, _, h => by simp at h
  | w :: vs, k, 0, v, hc, h => by
    simp at h
    subst h
    exact List.mem_cons_self
  | w :: vs, k, i + 1, v, hc, h => by
    have h1 : w.category = 1 := hc w List.mem_cons_self
    have h2 := am_args_at vs (k + 1) i v (fun x hx => hc x (List.mem_cons_of_mem _ hx)) (by simpa using h)
    show (k + (i + 1), v) ∈ (k, w) :: lv_args (if w.category = 2 then k + 2 else k + 1) vs
    rw [if_neg (by omega)]
    refine List.mem_cons_of_mem _ ?_
    rw [show k + (i + 1) = k + 1 + i by omega]
    exact h2
theorem am_sl_len : ∀ (vs : List Value), (∀ w ∈ vs, w.category = 1) → (lg_sl vs).length = vs.length
  | [], _ => rfl
  | w :: vs, hc => by
    have h1 : w.category = 1 := hc w List.mem_cons_self
    have h2 := am_sl_len vs (fun x hx => hc x (List.mem_cons_of_mem _ hx))
    unfold lg_sl at h2 ⊢
    rw [List.flatMap_cons, List.length_append, h2, if_neg (by omega)]
    simp
    omega
section AmCall
variable {D : va_G} {aC : Nat → ClassId} {xa : Nat → Nat} {uv : Nat → Value} {X : Nat → Nat → Int32} {XL : Nat → Nat} {z : Nat}
/-- what a call is entered with -/
def am_Pc (D : va_G) (aC : Nat → ClassId) (xa : Nat → Nat) (uv : Nat → Value) (X : Nat → Nat → Int32) (XL : Nat → Nat) (z : Nat) (f : Nat → Nat) (as : List am_V) (σ : am_H) : Array Value → State → Prop := fun v U => v = (as.map (am_cv xa uv f σ)).toArray ∧ am_Cx D aC xa uv X XL z U U.heap ∧ am_Hr D aC xa uv z f σ U.heap ∧ am_gl σ as
theorem am_metOf {l : Launch} {n : Nat} (hS : am_Sim D aC xa uv X XL z l n) {y : Nat} (hy : y < 264) {as : List am_V} {σ : am_H} {r : am_O × am_H} (hr : am_run am_ak X XL am_code am_ml n y 0 (am_ent (am_ml y) as) [] σ = some r) (f : Nat → Nat) (hnl : as.all am_nl = true) (hlen : as.length ≤ am_ml y) :
    am_Met l (am_nm y) am_T ({ frames := am_fr y, cells := ah_n r.2 - ah_n σ, slots := ah_sl r.2 - ah_sl σ, locals := am_lc y }) (am_Pc D aC xa uv X XL z f as σ) (am_Q D aC xa uv z (f, σ) (ah_n σ) r) (ah_n r.2 - ah_n σ) (ah_sl r.2 - ah_sl σ) (am_A z) := by
  obtain ⟨nm, mx, rt, o, fr, lc, hd, k, h1, -, h3, h4, h5, -⟩ := am_md_spec hy
  have hnm : am_nm y = nm := by unfold am_nm; rw [h1]; rfl
  have hfr : am_fr y = fr := by unfold am_fr; rw [h1]; rfl
  have hlc : am_lc y = lc := by unfold am_lc; rw [h1]; rfl
  rw [hnm]
  refine am_ofW (cc := am_by y) (maxL := am_ml y) (ret := rt) h4 ?_ ?_
  · intro args s m h hn
    obtain ⟨meth, c, g1, g2, g3, g4, g5, g6, -, -⟩ := am_his hy h1 h hn
    exact ⟨meth, c, g1, g2, g3, g4, g5, g6⟩
  · intro p e s m args below meth c s₁ B hml hv
    obtain ⟨hv, hC, hH, hg⟩ := hv
    subst hv
    have hts := atoms_spec (ws := am_T) B.pre
    obtain ⟨meth2, c2, g1, g2, g3, g4, g5, g6, g7, g8⟩ := am_his hy h1 hts B.named
    cases B.method.symm.trans g1
    cases (Stand.of_body B).code.symm.trans g2
    have hcat : ∀ w ∈ as.map (am_cv xa uv f σ), w.category = 1 := by
      intro w hw
      obtain ⟨v, hv, rfl⟩ := List.mem_map.mp hw
      exact am_cat1 xa uv hC.2.2.2.2.1 (List.all_eq_true.mp hnl v hv)
    have hsl := am_sl_len _ hcat
    have hl := lv_entry (as.map (am_cv xa uv f σ)) (n := am_ml y) (by rw [hsl, List.length_map]; exact hlen)
    rw [lg_entry_eq]
    generalize (lg_sl (as.map (am_cv xa uv f σ)) ++ List.replicate (am_ml y - (lg_sl (as.map (am_cv xa uv f σ))).length) Slot.unset).toArray = lsA at hl ⊢
    have helen : (am_ent (am_ml y) as).length = am_ml y := by
      unfold am_ent
      rw [List.length_append, List.length_replicate]
      omega
    have hls : am_ls xa uv f σ (am_ent (am_ml y) as) lsA := by
      refine ⟨hl.1.trans helen.symm, hl.2.1, fun i v hi hn => ?_⟩
      unfold am_ent at hi
      by_cases hlt : i < as.length
      · rw [List.getElem?_append_left hlt] at hi
        have h9 := am_args_at (as.map (am_cv xa uv f σ)) 0 i (am_cv xa uv f σ v) hcat (by rw [List.getElem?_map, hi]; rfl)
        rw [Nat.zero_add] at h9
        exact hl.2.2 _ h9
      · rw [List.getElem?_append_right (Nat.not_lt.mp hlt)] at hi
        have h9 := List.eq_of_mem_replicate (List.mem_of_getElem? hi)
        subst h9
        cases hn
    have hgl : am_gl σ (am_ent (am_ml y) as) := by
      intro v hv
      unfold am_ent at hv
      rcases List.mem_append.mp hv with h9 | h9
      · exact hg v h9
      · rw [List.eq_of_mem_replicate h9]; trivial
    have hW := hS y 0 (am_ent (am_ml y) as) [] σ r hr (by omega) p e ({ frames := am_fr y, cells := ah_n r.2 - ah_n σ, slots := ah_sl r.2 - ah_sl σ, locals := am_lc y }) s m (as.map (am_cv xa uv f σ)).toArray below meth c s.heap [] lsA f (f, σ) (ah_n σ) (ah_sl σ)
      ⟨B.exec, B.bytes, hml, B.notSynchronized, hts, _, h1, B.returns, by rw [← h3]; exact findClass_of_methodNamed B.named, (name_of_methodNamed B.named B.method).1, by show fr ≤ am_fr y; omega, by show lc ≤ am_lc y; omega, g7⟩ hC
      ⟨hH, va_S.rf, hls, helen, hgl, (fun _ h9 => by cases h9), ⟨am_ex_rf σ, fun _ _ => rfl⟩, Nat.le_refl _, Nat.le_refl _⟩ (Nat.le_refl _) (Nat.le_refl _)
    rw [Nat.sub_self, Nat.sub_self] at hW
    exact hW
theorem am_Pc_blind {f : Nat → Nat} {as : List am_V} {σ : am_H} : FrameBlind (am_Pc D aC xa uv X XL z f as σ) := fun a U g mk h => ⟨h.1, am_Cx_blind D aC xa uv X XL z h.2.1, h.2.2.1, h.2.2.2⟩
end AmCall
end
section
theorem am_hd13 : am_md.all (fun q => q.2.2.2.2.2.2.isEmpty || Nat.beq q.2.2.2.1 13) = true := by decide +kernel
theorem am_stopLink : Cond.classLink (am_ow 13) 12 "BrotliWordsModel$Stop" ∈ am_T := am_T_of (k := 1226) (by decide +kernel) rfl
section AmCall2
variable {D : va_G} {aC : Nat → ClassId} {xa : Nat → Nat} {uv : Nat → Value} {X : Nat → Nat → Int32} {XL : Nat → Nat} {z : Nat}
variable {l : Launch} {n y pc : Nat} {ls st : List am_V} {σ : am_H} {r : am_O × am_H} {p : Program} {e : Env} {R : Room} {s : State} {m : MethodId} {args : Array Value} {below : List Frame} {meth : Method} {c : Code} {H : Heap} {locs : List Loc} {lsA : Array Slot} {f : Nat → Nat} {f0 : (Nat → Nat) × am_H} {n0 sl0 : Nat}
theorem am_hws (hts : ∀ w ∈ am_T, w.before args s = true) : ∀ w ∈ am_T, ∀ (a' : Array Value) (U : State), s.WarmedH U.vm → w.before a' U = true := fun w hw _ _ hW => word_at hW (good_of_word (List.mem_filter.mp hw).2) (hts w hw)
/-- behind a call: what holds of the frame -/
theorem am_aftFc {st' : List am_V} {q : am_O × am_H} {f' : Nat → Nat} {st₀ t : State} {H1 : Heap} {L : List Loc} (hF : am_Fc D aC xa uv z s f0 n0 sl0 y ls st σ H locs lsA f) (hex : am_ex σ q.2) (hff : ∀ k, k < ah_n σ → f' k = f k) (hHr : am_Hr D aC xa uv z f' q.2 t.heap) (hFr : va_F (am_A z) st₀ t) (h0 : st₀.heap = H) (ht : t.heap = H1) (hL : ∀ q ∈ L, am_A z q.base) (hle : ah_n σ ≤ ah_n q.2 ∧ ah_sl σ ≤ ah_sl q.2) (hg : am_gl q.2 st') :
    am_Fc D aC xa uv z s f0 n0 sl0 y ls st' q.2 H1 (locs ++ L) lsA f' := by
  obtain ⟨a1, a2, a3, a4, a5, a6, a7, a8, a9⟩ := hF
  refine ⟨by rw [← ht]; exact hHr, ⟨?_, fun x hx hA => ?_, fun x hx => ?_⟩, am_ls_cong xa uv (fun v hv => am_cv_ex xa uv hex hff (a5 v hv)) a3, a4, fun v hv => am_gv_ex hex (a5 v hv), hg, ⟨am_ex_tr a7.1 hex, fun k hk => (hff k (by omega)).trans (a7.2 k hk)⟩, by omega, by omega⟩
  · have h1 := hFr.1
    rw [h0, ht] at h1
    exact Nat.le_trans a2.1 h1
  · have h1 := hFr.2 x (by rw [h0]; exact Nat.lt_of_lt_of_le hx a2.1) hA
    rw [h0, ht] at h1
    exact h1.trans (a2.2.1 x hx hA)
  · rcases List.mem_append.mp hx with h | h
    · exact a2.2.2 x h
    · exact hL x h
/-- a call of a method of the table -/
theorem am_callGo {row : am_Row} (h : am_Hyp D aC xa uv X XL z l n y pc ls st σ r row p R s m args meth c H locs lsA f f0 n0 sl0) {a : Nat} {as rest : List am_V} {stA : List Value} {tb : List (Int32 × Nat)} (ha : a < 264)
    (hrun : am_aft tb (fun v σ => am_run am_ak X XL am_code am_ml n y (pc + 3) ls (v ++ rest) σ) (fun h x σ => am_run am_ak X XL am_code am_ml n y h ls [av_r x.1 x.2] σ) (am_run am_ak X XL am_code am_ml n a 0 (am_ent (am_ml a) as) [] σ) = some r)
    (hE : am_Ent p l e R s m args below meth c H locs (ah_n σ - n0) (ah_sl σ - sl0) (F0 m pc lsA stA) (am_nm a) (as.map (am_cv xa uv f σ)).toArray (rest.map (am_cv xa uv f σ)))
    (hnl : as.all am_nl = true) (hlen : as.length ≤ am_ml a) (hga : am_gl σ as) (hgr : am_gl σ rest) (hr4 : rest.length ≤ 4) (hfr : am_fr a + 1 ≤ R.frames) (hlc : 8 + (am_ml a + 11) + am_lc a ≤ R.locals) {q0 : MethodName × Nat × Option FieldType × Nat × Nat × Nat × List (Nat × Nat × Nat × Nat)} (hq0 : am_md[y]? = some q0) (htab : c.exceptionTable.toList.map (fun h => (h.startPc, h.endPc, h.handlerPc, h.catchType)) = q0.2.2.2.2.2.2) (hhd : am_hdchk pc q0.2.2.2.2.2.2 tb = true) :
    W p l e R s m args below meth c H locs (ah_n σ - n0) (ah_sl σ - sl0) (am_MQ below (am_Q D aC xa uv z f0 n0 r) args s (ah_n r.2 - n0) (ah_sl r.2 - sl0) (am_A z)) (F0 m pc lsA stA) := by
  obtain ⟨ih, hy, hG, hC, hF, hc1, hc2, -⟩ := h
  have hG0 := hG
  obtain ⟨hx, hb, hml, hlk, hts, q1, hq1, hrt, hown, hnm, -, -, -⟩ := hG
  cases hq1.symm.trans hq0
  cases hq : am_run am_ak X XL am_code am_ml n a 0 (am_ent (am_ml a) as) [] σ with
  | none => rw [hq] at hrun; cases hrun
  | some q =>
    rw [hq] at hrun
    have hM := am_metOf ih ha hq f hnl hlen
    have hle := am_le_run am_ak X XL am_code am_ml _ _ _ _ _ _ _ hq
    have hle2 : ah_n q.2 ≤ ah_n r.2 ∧ ah_sl q.2 ≤ ah_sl r.2 := by
      obtain ⟨o, σ2⟩ := q
      cases o with
      | inl v => exact am_le_run am_ak X XL am_code am_ml _ _ _ _ _ _ _ (show am_run am_ak X XL am_code am_ml n y (pc + 3) ls (v.toList ++ rest) σ2 = some r from hrun)
      | inr x =>
        cases tb with
        | nil =>
          have h9 : some (Sum.inr x, σ2) = some r := hrun
          cases h9
          exact ⟨Nat.le_refl _, Nat.le_refl _⟩
        | cons z9 t9 => exact am_le_run am_ak X XL am_code am_ml _ _ _ _ _ _ _ (show am_run am_ak X XL am_code am_ml n y z9.2 ls [av_r x.1 x.2] σ2 = some r from hrun)
    have a8 := hF.2.2.2.2.2.2.2.1
    have a9 := hF.2.2.2.2.2.2.2.2
    obtain ⟨nm, mx, rt, o9, fr9, lc9, hd9, k9, g1, -, -, -, g5, -, -, -, g7, -⟩ := am_md_spec ha
    have hnm9 : am_nm a = nm := by unfold am_nm; rw [g1]; rfl
    refine am_callW (A0 := fun _ => True) (H0 := H) (maxL := am_ml a) (nL := am_ml y) hE hM am_Pc_blind rfl rfl hfr hlc (am_hws hts) ?_ ?_ hml (hF.2.2.1.1.trans hF.2.2.2.1) (am_wt hr4) ⟨by omega, by omega⟩ ?_ ?_
    · intro U mk hW hn
      rw [hnm9] at hn
      obtain ⟨meth9, c9, f1, f2, -, f4, -⟩ := am_his ha g1 (fun w hw => am_hws hts w hw #[] U hW) hn
      exact ⟨meth9, c9, f1, f2, f4⟩
    · intro a' U hW
      rw [hnm9]
      exact am_hws hts _ g7 a' U hW
    · intro U hU hW
      have hS := hF.2.1
      refine ⟨rfl, am_Cx_to D aC xa uv X XL z hW (fun x hx9 => ?_) ?_ hC, by rw [hU]; exact hF.1, hga⟩
      · rw [hU]; exact hS.2.1 x (Nat.lt_of_lt_of_le hx9 hC.2.2.2.1) (Nat.not_le.mpr hx9)
      · rw [hU]; exact Nat.le_trans hC.2.2.2.1 hS.1
    · intro o st₀ t H1 L hst0 ht hal hQ hL
      obtain ⟨⟨f', ⟨hex, hff⟩, hHr, hoc⟩, hFr⟩ := hQ
      have hex : am_ex σ q.2 := hex
      have hff : ∀ k, k < ah_n σ → f' k = f k := hff
      have ec : ah_n σ - n0 + (ah_n q.2 - ah_n σ) = ah_n q.2 - n0 := by omega
      have es : ah_sl σ - sl0 + (ah_sl q.2 - ah_sl σ) = ah_sl q.2 - sl0 := by omega
      have hrest : rest.map (am_cv xa uv f σ) = rest.map (am_cv xa uv f' q.2) := List.map_congr_left fun v hv => (am_cv_ex xa uv hex hff (hgr v hv)).symm
      have hgr2 : am_gl q.2 rest := fun v hv => am_gv_ex hex (hgr v hv)
      rw [ec, es, hrest]
      obtain ⟨o9, σ2⟩ := q
      cases o9 with
      | inl v =>
        cases v with
        | none =>
          have ho : o = .returned none := hoc
          subst ho
          exact ih y (pc + 3) ls rest σ2 r hrun hy p e R s m args below meth c H1 (locs ++ L) lsA f' f0 n0 sl0 hG0 hC (am_aftFc (q := (.inl none, σ2)) hF hex hff hHr hFr hst0 ht hL hle hgr2) hc1 hc2
        | some v =>
          obtain ⟨ho, hv1, hv2⟩ := (show o = .returned (some (am_cv xa uv f' σ2 v)) ∧ am_gv σ2 v ∧ am_nl v = true from hoc)
          subst ho
          exact ih y (pc + 3) ls (v :: rest) σ2 r hrun hy p e R s m args below meth c H1 (locs ++ L) lsA f' f0 n0 sl0 hG0 hC (am_aftFc (q := (.inl (some v), σ2)) hF hex hff hHr hFr hst0 ht hL hle (am_gl.c hv1 hgr2)) hc1 hc2
      | inr x =>
        obtain ⟨xt, xi⟩ := x
        obtain ⟨ho, hx12, hxg⟩ := (show o = .threw (f' (ah_ad σ2 xt xi)) ∧ xt = 12 ∧ am_gq σ2 (xt, xi) from hoc)
        subst ho
        subst hx12
        cases tb with
        | nil =>
          have h9 : some (Sum.inr (12, xi), σ2) = some r := hrun
          cases h9
          have hFc := am_aftFc (q := (.inr (12, xi), σ2)) (st' := rest) hF hex hff hHr hFr hst0 ht hL hle hgr2
          exact am_WT_leave hlk (am_uncov htab hhd) (fun t2 ht2 _ => ⟨⟨f', hFc.2.2.2.2.2.2.1, by rw [ht2]; exact hFc.1, ⟨rfl, rfl, hxg⟩⟩, hFc.2.1.F ht2⟩) hFc.2.1.2.2
        | cons z9 t9 =>
          obtain ⟨xx, hx1, hx2, hx3, hx4, hx5⟩ := am_cov htab hhd
          have hFc := am_aftFc (q := (.inr (12, xi), σ2)) (st' := [av_r 12 xi]) hF hex hff hHr hFr hst0 ht hL hle (am_gl.c hxg (fun _ h9 => by cases h9))
          have hgo := ih y z9.2 ls [av_r 12 xi] σ2 r hrun hy p e R s m args below meth c H1 (locs ++ L) lsA f' f0 n0 sl0 hG0 hC hFc hc1 hc2
          rw [← hx4] at hgo
          simp only [List.map_cons, List.map_nil, am_cvr (show 12 < 200 by omega)] at hgo
          have h13 := List.all_eq_true.mp am_hd13 q0 (List.mem_of_getElem? hq0)
          have ho13 : q0.2.2.2.1 = 13 := by
            simp only [Bool.or_eq_true] at h13
            rcases h13 with h13 | h13
            · have h14 : q0.2.2.2.2.2.2 = [] := by simpa using h13
              rw [h14] at hhd
              cases hhd
            · exact Nat.eq_of_beq_eq_true h13
          rw [ho13] at hown
          obtain ⟨rr, hr1, cell, hc9, hc10, hc11, -⟩ := hFc.1.1 _ _ (am_ws_obj (aC := aC) (xa := xa) (uv := uv) (f := f') hxg (show 12 < 14 by omega))
          have hkn := (hC.1.1 12 _ (show vwCl[12]? = some (RX12, TX12, 7) from rfl)).2
          exact am_WT_catch (C := RX12) hx1 hx2 (by rw [hx3]; omega) hown (by rw [hx3]; exact hts _ am_stopLink) hc9 hc11 hkn hc10 hgo
/-- a row of the table of calls -/
theorem am_ca_spec {o k v a b c9 fr lc : Nat} (h : am_cachk o k v a b c9 fr lc = true) : a < 264 ∧ (∃ hh pos : Nat, lw_tbl[pos]? = some (bif Nat.beq hh 0 then Cond.methodLink (am_ow o) k (am_nm a) else Cond.methodLinkNest (am_ow o) k (am_nm a) (am_host hh))) ∧ (∃ sg, parseMethodDescriptor (am_nm a).desc = some sg ∧ am_argc a = sg.parameters.length) ∧ am_mk_ a = v ∧ (v = 1 → c9 = 999 ∧ b = am_argc a) ∧ (v ≠ 1 → c9 < 14 ∧ b = am_argc a + 1) ∧ (v = 0 → am_ow c9 = (am_nm a).cls) ∧ b ≤ am_ml a ∧ am_fr a + 1 ≤ fr ∧ 8 + (am_ml a + 11) + am_lc a ≤ lc := by
  unfold am_cachk at h
  simp only [Bool.and_eq_true] at h
  obtain ⟨⟨⟨⟨⟨⟨⟨⟨h1, h2⟩, h3⟩, h4⟩, h5⟩, h6⟩, h7⟩, h8⟩, h9⟩ := h
  have ha : a < 264 := am_blt' h2
  refine ⟨ha, ?_, ?_, Nat.eq_of_beq_eq_true h4, fun e1 => ?_, fun e1 => ?_, fun e1 => ?_, Nat.le_of_ble_eq_true h7, Nat.le_of_ble_eq_true h8, Nat.le_of_ble_eq_true h9⟩
  · obtain ⟨⟨o', k', a', b', c', v', hh, pos⟩, hq, g⟩ := List.any_eq_true.mp h1
    simp only [Bool.and_eq_true] at g
    obtain ⟨⟨⟨⟨⟨g1, g2⟩, g3⟩, g4⟩, g5⟩, g6⟩ := g
    cases Nat.eq_of_beq_eq_true g1
    cases Nat.eq_of_beq_eq_true g2
    cases Nat.eq_of_beq_eq_true g3
    have g7 := List.all_eq_true.mp am_mt_all _ hq
    unfold am_mchk at g7
    have n900 : Nat.beq a 900 = false := by
      cases hb : Nat.beq a 900
      · rfl
      · have := Nat.eq_of_beq_eq_true hb; omega
    have n901 : Nat.beq a 901 = false := by
      cases hb : Nat.beq a 901
      · rfl
      · have := Nat.eq_of_beq_eq_true hb; omega
    have n902 : Nat.beq a 902 = false := by
      cases hb : Nat.beq a 902
      · rfl
      · have := Nat.eq_of_beq_eq_true hb; omega
    have n903 : Nat.beq a 903 = false := by
      cases hb : Nat.beq a 903
      · rfl
      · have := Nat.eq_of_beq_eq_true hb; omega
    simp only [n900, n901, n902, n903, cond_false] at g7
    refine ⟨hh, pos, ?_⟩
    cases hb : Nat.beq hh 0 <;> simp only [hb, cond_true, cond_false, decide_eq_true_eq] at g7 ⊢ <;> exact g7
  · unfold am_argc
    cases hp : parseMethodDescriptor (am_nm a).desc with
    | none => rw [hp] at h3; cases h3
    | some sg => exact ⟨sg, rfl, rfl⟩
  · subst e1
    simp only [show Nat.beq 1 1 = true from rfl, cond_true, Bool.and_eq_true] at h5
    exact ⟨Nat.eq_of_beq_eq_true h5.1, Nat.eq_of_beq_eq_true h5.2⟩
  · have : Nat.beq v 1 = false := by
      cases hb : Nat.beq v 1
      · rfl
      · exact absurd (Nat.eq_of_beq_eq_true hb) e1
    simp only [this, cond_false, Bool.and_eq_true] at h5
    exact ⟨am_blt' h5.1, Nat.eq_of_beq_eq_true h5.2⟩
  · subst e1
    simpa using h6
end AmCall2
end
section
theorem am_obj0 : am_mt.all (fun q => !Nat.beq q.2.2.1 900 || Nat.beq q.2.2.2.2.2.2.1 0) = true := by decide +kernel
theorem am_code999 : am_code 999 = [] := by decide +kernel
section AmInv
variable {D : va_G} {aC : Nat → ClassId} {xa : Nat → Nat} {uv : Nat → Value} {X : Nat → Nat → Int32} {XL : Nat → Nat} {z : Nat}
variable {l : Launch} {n y pc : Nat} {ls st : List am_V} {σ : am_H} {r : am_O × am_H} {p : Program} {e : Env} {R : Room} {s : State} {m : MethodId} {args : Array Value} {below : List Frame} {meth : Method} {c : Code} {H : Heap} {locs : List Loc} {lsA : Array Slot} {f : Nat → Nat} {f0 : (Nat → Nat) × am_H} {n0 sl0 : Nat}
theorem am_run999 {pc : Nat} {ls st : List am_V} : am_run am_ak X XL am_code am_ml n 999 pc ls st σ = none := by
  cases n with
  | zero => rfl
  | succ n =>
    show am_step _ _ _ _ _ _ _ _ _ (am_look (am_code 999) pc) = none
    rw [am_code999]
    rfl
/-- what a call asks -/
theorem am_call_spec {a b c9 : Nat} {C : am_CT} {KA : am_R → List am_V → am_R} (h : am_call a b c9 C st σ KA = some r) : ∃ as rest, st = as.reverse ++ rest ∧ as.length = b ∧ rest.length ≤ 4 ∧ (c9 = 999 ∨ am_recv c9 as = true) ∧ as.all am_nl = true ∧ KA (C a as σ) rest = some r := by
  unfold am_call at h
  cases h2 : (Nat.ble b st.length && Nat.ble (st.length - b) 4 && (Nat.beq c9 999 || am_recv c9 (st.take b).reverse) && (st.take b).all am_nl) <;> simp only [h2, cond_true, cond_false] at h
  · cases h
  · simp only [Bool.and_eq_true, Bool.or_eq_true] at h2
    obtain ⟨⟨⟨h3, h4⟩, h5⟩, h6⟩ := h2
    refine ⟨(st.take b).reverse, st.drop b, by rw [List.reverse_reverse, List.take_append_drop], ?_, ?_, h5.imp_left Nat.eq_of_beq_eq_true, ?_, h⟩
    · rw [List.length_reverse, List.length_take]
      have := Nat.le_of_ble_eq_true h3
      omega
    · rw [List.length_drop]; exact Nat.le_of_ble_eq_true h4
    · rw [List.all_reverse]; exact h6
theorem am_recv_spec {c9 : Nat} {as : List am_V} (h : am_recv c9 as = true) : ∃ i as', as = av_r c9 i :: as' := by
  unfold am_recv at h
  split at h
  · rename_i t i r9
    cases Nat.eq_of_beq_eq_true h
    exact ⟨i, r9, rfl⟩
  · cases h
theorem am_gl_rev {as rest : List am_V} (h : am_gl σ (as.reverse ++ rest)) : am_gl σ as ∧ am_gl σ rest := ⟨fun v hv => h v (List.mem_append_left _ (List.mem_reverse.mpr hv)), fun v hv => h v (List.mem_append_right _ hv)⟩
theorem am_s_invstatic {len : Nat} {w : Int32} {a b c9 : Nat} {tb : List (Int32 × Nat)} {k9 : Nat} (h : am_Hyp D aC xa uv X XL z l n y pc ls st σ r (.invokestatic k9, len, w, a, b, c9, tb) p R s m args meth c H locs lsA f f0 n0 sl0) : W p l e R s m args below meth c H locs (ah_n σ - n0) (ah_sl σ - sl0) (am_MQ below (am_Q D aC xa uv z f0 n0 r) args s (ah_n r.2 - n0) (ah_sl r.2 - sl0) (am_A z)) (F0 m pc lsA (st.map (am_cv xa uv f σ))) := by
  have h0 := h
  obtain ⟨ih, hy, ⟨hx, hb, hml, hlk, hts, q0, hq0, hrt, hown, hnm, hfr, hlc, htab⟩, hC, hF, hc1, hc2, hdg, ⟨q, hq, hchk⟩, hrun⟩ := h
  cases hq0.symm.trans hq
  have hgs := hF.2.2.2.2.2.1
  simp only [am_step] at hrun
  simp only [am_rchk, Bool.and_eq_true, decide_eq_true_eq] at hchk
  dsimp only at hdg
  obtain ⟨⟨e1, ehd⟩, e2⟩ := hchk
  cases Nat.eq_of_beq_eq_true e1
  cases h901 : Nat.beq a 901 <;> simp only [h901, cond_true, cond_false] at hrun e2
  · cases h902 : Nat.beq a 902 <;> simp only [h902, cond_true, cond_false] at hrun
    · cases h903 : Nat.beq a 903 <;> simp only [h903, cond_true, cond_false] at hrun
      · simp only [h902, h903, Bool.or_false, cond_false] at e2
        obtain ⟨ha, ⟨hh, pos, hl⟩, ⟨sg, hsg1, hsg2⟩, hmk, hv1, -, -, hbml, hfr2, hlc2⟩ := am_ca_spec e2
        obtain ⟨hc9, hbb⟩ := hv1 rfl
        obtain ⟨as, rest, rfl, hal, hr4, -, hnl, hrun⟩ := am_call_spec hrun
        obtain ⟨hga, hgr⟩ := am_gl_rev hgs
        obtain ⟨nm, mx, rt, o9, fr9, lc9, hd9, k8, g1, g2, g3, -, g5, g6, -, g7, g8, g9, -⟩ := am_md_spec ha
        have hnm9 : am_nm a = nm := by unfold am_nm; rw [g1]; rfl
        have hk8 : k8 = 1 := g2.symm.trans hmk
        have hcode : Cond.code nm (am_by a) mx rt ∈ am_T := by
          rcases g7 with g7 | g7
          · exact g7.2
          · omega
        have hE : am_Ent p l e R s m args below meth c H locs (ah_n σ - n0) (ah_sl σ - sl0) (F0 m pc lsA ((as.reverse ++ rest).map (am_cv xa uv f σ))) (am_nm a) (as.map (am_cv xa uv f σ)).toArray (rest.map (am_cv xa uv f σ)) := by
          rw [hnm9] at hl hsg1 ⊢
          cases hb0 : Nat.beq hh 0 <;> simp only [hb0, cond_true, cond_false] at hl
          · exact am_entSN hx hown (va_Nw.use rfl (hC.2.2.2.2.2.1 _ (List.mem_filter.mpr ⟨List.mem_of_getElem? hl, rfl⟩))) (hts _ (g9 hk8)) (hts _ g8) (hts _ hcode) g6 rfl (argsL := as.map (am_cv xa uv f σ)) (fun sig h9 => by rw [hsg1] at h9; cases h9; rw [List.length_map]; omega) (by show (as.reverse ++ rest).map _ = _; rw [List.map_append, List.map_reverse]) (by rw [hb]; exact hdg)
          · exact am_entS hx hown (hts _ (am_T_of hl rfl)) (hts _ (g9 hk8)) (hts _ g8) (hts _ hcode) g6 rfl (argsL := as.map (am_cv xa uv f σ)) (fun sig h9 => by rw [hsg1] at h9; cases h9; rw [List.length_map]; omega) (by show (as.reverse ++ rest).map _ = _; rw [List.map_append, List.map_reverse]) (by rw [hb]; exact hdg)
        exact am_callGo h0 ha hrun hE hnl (by omega) hga hgr hr4 (by omega) (by omega) hq0 htab ehd
      · have ha := Nat.eq_of_beq_eq_true h903
        subst ha
        simp only [show Nat.beq 903 902 = false from rfl, show Nat.beq 903 903 = true from rfl, Bool.false_or, cond_true, Bool.and_eq_true] at e2
        obtain ⟨⟨e3, e4⟩, e5⟩ := e2
        obtain ⟨⟨o', k', a', b', c', v', hh, pos⟩, hq9, g⟩ := List.any_eq_true.mp e3
        simp only [Bool.and_eq_true] at g
        obtain ⟨⟨⟨⟨g1, g2⟩, g3⟩, -⟩, g4⟩ := g
        cases Nat.eq_of_beq_eq_true g1
        cases Nat.eq_of_beq_eq_true g2
        cases Nat.eq_of_beq_eq_true g3
        cases Nat.eq_of_beq_eq_true g4
        have g7 := List.all_eq_true.mp am_mt_all _ hq9
        simp only [am_mchk, show Nat.beq 903 900 = false from rfl, show Nat.beq 903 901 = false from rfl, show Nat.beq 903 902 = false from rfl, show Nat.beq 903 903 = true from rfl, show Nat.beq 0 0 = true from rfl, cond_true, cond_false, decide_eq_true_eq] at g7
        unfold am_b4 at hrun
        split at hrun
        · rename_i y' x' r9
          cases h4 : Nat.ble r9.length 4 <;> simp only [h4, cond_true, cond_false] at hrun
          · cases hrun
          · have hr4 := Nat.le_of_ble_eq_true h4
            have hwt := am_wt (xa := xa) (uv := uv) (f := f) (σ := σ) hr4
            have hfr9 := Nat.le_of_ble_eq_true e4
            have hlc9 := Nat.le_of_ble_eq_true e5
            have hle := am_le_run am_ak X XL am_code am_ml _ _ _ _ _ _ _ hrun
            exact va_mmin hx hb (hml.trans (hF.2.2.1.1.trans hF.2.2.2.1).symm) hown (hts _ (am_T_of g7 rfl)) (hts _ (am_T_of (k := 607) (by decide +kernel) rfl)) (hts _ (am_T_of (k := 132) (by decide +kernel) rfl)) (hts _ (am_T_of (k := 608) (by decide +kernel) rfl)) (by omega) (by omega) (by omega) (by omega) hdg (am_go h0 hrun (am_gl.c trivial hgs.t.t))
        · cases hrun
    · have ha := Nat.eq_of_beq_eq_true h902
      subst ha
      simp only [show Nat.beq 902 902 = true from rfl, Bool.true_or, cond_true, Bool.and_eq_true] at e2
      obtain ⟨⟨e3, e4⟩, e5⟩ := e2
      obtain ⟨⟨o', k', a', b', c', v', hh, pos⟩, hq9, g⟩ := List.any_eq_true.mp e3
      simp only [Bool.and_eq_true] at g
      obtain ⟨⟨⟨⟨g1, g2⟩, g3⟩, -⟩, g4⟩ := g
      cases Nat.eq_of_beq_eq_true g1
      cases Nat.eq_of_beq_eq_true g2
      cases Nat.eq_of_beq_eq_true g3
      cases Nat.eq_of_beq_eq_true g4
      have g7 := List.all_eq_true.mp am_mt_all _ hq9
      simp only [am_mchk, show Nat.beq 902 900 = false from rfl, show Nat.beq 902 901 = false from rfl, show Nat.beq 902 902 = true from rfl, show Nat.beq 0 0 = true from rfl, cond_true, cond_false, decide_eq_true_eq] at g7
      unfold am_b4 at hrun
      split at hrun
      · rename_i y' x' r9
        cases h4 : Nat.ble r9.length 4 <;> simp only [h4, cond_true, cond_false] at hrun
        · cases hrun
        · have hr4 := Nat.le_of_ble_eq_true h4
          have hwt := am_wt (xa := xa) (uv := uv) (f := f) (σ := σ) hr4
          have hfr9 := Nat.le_of_ble_eq_true e4
          have hlc9 := Nat.le_of_ble_eq_true e5
          have hle := am_le_run am_ak X XL am_code am_ml _ _ _ _ _ _ _ hrun
          exact va_mmax hx hb (hml.trans (hF.2.2.1.1.trans hF.2.2.2.1).symm) hown (hts _ (am_T_of g7 rfl)) (hts _ (am_T_of (k := 164) (by decide +kernel) rfl)) (hts _ (am_T_of (k := 132) (by decide +kernel) rfl)) (hts _ (am_T_of (k := 165) (by decide +kernel) rfl)) (by omega) (by omega) (by omega) (by omega) hdg (am_go h0 hrun (am_gl.c trivial hgs.t.t))
      · cases hrun
  · have ha := Nat.eq_of_beq_eq_true h901
    subst ha
    simp only [Bool.and_eq_true] at e2
    obtain ⟨⟨e3, e4⟩, e5⟩ := e2
    obtain ⟨⟨o', k', a', b', c', v', hh, pos⟩, hq9, g⟩ := List.any_eq_true.mp e3
    simp only [Bool.and_eq_true] at g
    obtain ⟨⟨⟨g1, g2⟩, g3⟩, -⟩ := g
    cases Nat.eq_of_beq_eq_true g1
    cases Nat.eq_of_beq_eq_true g2
    cases Nat.eq_of_beq_eq_true g3
    have g7 := List.all_eq_true.mp am_mt_all _ hq9
    simp only [am_mchk, show Nat.beq 901 900 = false from rfl, show Nat.beq 901 901 = true from rfl, cond_true, cond_false] at g7
    unfold am_inP at hrun
    split at hrun
    · rename_i hi lo x r9
      cases h4 : Nat.ble r9.length 4 <;> simp only [h4, cond_true, cond_false] at hrun
      · cases hrun
      · have hr4 := Nat.le_of_ble_eq_true h4
        have hfr9 := Nat.le_of_ble_eq_true e4
        have hlc9 := Nat.le_of_ble_eq_true e5
        have hle := am_le_run am_ak X XL am_code am_ml _ _ _ _ _ _ _ hrun
        have hcw : Cond.code ⟨"BrotliWordsModel", "in", "(JJJ)Z"⟩ prog_14_method_2_code 6 (some .boolean) ∈ am_T := am_T_of (k := 1505) (by decide +kernel) rfl
        have hstw : Cond.static ⟨"BrotliWordsModel", "in", "(JJJ)Z"⟩ ∈ am_T := am_T_of (k := 1504) (by decide +kernel) rfl
        have hinw : Cond.initialized "BrotliWordsModel" ∈ am_T := am_T_of (k := 143) (by decide +kernel) rfl
        have hE : am_Ent p l e R s m args below meth c H locs (ah_n σ - n0) (ah_sl σ - sl0) (F0 m pc lsA (.long hi :: .long lo :: .long x :: r9.map (am_cv xa uv f σ))) ⟨"BrotliWordsModel", "in", "(JJJ)Z"⟩ #[.long x, .long lo, .long hi] (r9.map (am_cv xa uv f σ)) := by
          cases hb0 : Nat.beq hh 0 <;> simp only [hb0, cond_true, cond_false, decide_eq_true_eq] at g7
          · exact am_entSN hx hown (va_Nw.use rfl (hC.2.2.2.2.2.1 _ (List.mem_filter.mpr ⟨List.mem_of_getElem? g7, rfl⟩))) (hts _ hstw) (hts _ hinw) (hts _ hcw) (by decide) rfl (argsL := [.long x, .long lo, .long hi]) (fun sig h9 => by
              have h8 : (parseMethodDescriptor "(JJJ)Z").map (fun d => d.parameters.length) = some 3 := by decide +kernel
              rw [h9] at h8
              exact (Option.some.inj h8).symm) rfl (by rw [hb]; exact hdg)
          · exact am_entS hx hown (hts _ (am_T_of g7 rfl)) (hts _ hstw) (hts _ hinw) (hts _ hcw) (by decide) rfl (argsL := [.long x, .long lo, .long hi]) (fun sig h9 => by
              have h8 : (parseMethodDescriptor "(JJJ)Z").map (fun d => d.parameters.length) = some 3 := by decide +kernel
              rw [h9] at h8
              exact (Option.some.inj h8).symm) rfl (by rw [hb]; exact hdg)
        show W p l e R s m args below meth c H locs _ _ _ (F0 m pc lsA (.long hi :: .long lo :: .long x :: r9.map (am_cv xa uv f σ)))
        refine am_callW (A0 := fun _ => True) (H0 := H) (maxL := 6) (nL := am_ml y) hE (am_inMet l x lo hi) (fun _ _ _ _ h9 => h9) rfl rfl (by show 0 + 1 ≤ _; omega) (by show 8 + (6 + 11) + 0 ≤ _; omega) (am_hws hts) ?_ (fun a' U hW => am_hws hts _ hinw a' U hW) hml (hF.2.2.1.1.trans hF.2.2.2.1) (am_wt hr4) ⟨by omega, by omega⟩ (fun _ _ _ => rfl) ?_
        · intro U mk hW hn
          obtain ⟨meth9, c9, f1, f2, -, f4, -⟩ := Cond.code_spec (args := #[]) (first := U) (o := none) (idx := []) hn (am_hws hts _ hcw #[] U hW)
          exact ⟨meth9, c9, f1, f2, f4⟩
        · intro o st₀ t H1 L hst0 ht hal hQ hL
          obtain ⟨ho, hheap⟩ := hQ
          subst ho
          have hHH : H1 = H := by rw [← ht, hheap, hst0]
          subst hHH
          have hLn : L = [] := by
            cases L with
            | nil => rfl
            | cons q9 _ => exact absurd (hL q9 List.mem_cons_self) id
          subst hLn
          rw [List.append_nil]
          exact am_go h0 hrun (am_gl.c trivial hgs.t.t.t)
    · cases hrun

theorem am_s_invvirtual {len : Nat} {w : Int32} {a b c9 : Nat} {tb : List (Int32 × Nat)} {k9 : Nat} (h : am_Hyp D aC xa uv X XL z l n y pc ls st σ r (.invokevirtual k9, len, w, a, b, c9, tb) p R s m args meth c H locs lsA f f0 n0 sl0) : W p l e R s m args below meth c H locs (ah_n σ - n0) (ah_sl σ - sl0) (am_MQ below (am_Q D aC xa uv z f0 n0 r) args s (ah_n r.2 - n0) (ah_sl r.2 - sl0) (am_A z)) (F0 m pc lsA (st.map (am_cv xa uv f σ))) := by
  have h0 := h
  obtain ⟨ih, hy, ⟨hx, hb, hml, hlk, hts, q0, hq0, hrt, hown, hnm, hfr, hlc, htab⟩, hC, hF, hc1, hc2, hdg, ⟨q, hq, hchk⟩, hrun⟩ := h
  cases hq0.symm.trans hq
  have hgs := hF.2.2.2.2.2.1
  simp only [am_step] at hrun
  simp only [am_rchk, Bool.and_eq_true, decide_eq_true_eq] at hchk
  dsimp only at hdg
  obtain ⟨⟨e1, ehd⟩, e2⟩ := hchk
  cases Nat.eq_of_beq_eq_true e1
  obtain ⟨as, rest, rfl, hal, hr4, hrc, hnl, hrun⟩ := am_call_spec hrun
  obtain ⟨hga, hgr⟩ := am_gl_rev hgs
  simp only [Bool.or_eq_true] at e2
  rcases e2 with e2 | e2
  · cases Nat.eq_of_beq_eq_true e2
    rw [am_run999] at hrun
    cases hrun
  · obtain ⟨ha, ⟨hh, pos, hl⟩, ⟨sg, hsg1, hsg2⟩, hmk, -, hv2, hv3, hbml, hfr2, hlc2⟩ := am_ca_spec e2
    obtain ⟨hc9, hbb⟩ := hv2 (by omega)
    have hcls := hv3 rfl
    obtain ⟨nm, mx, rt, o9, fr9, lc9, hd9, k8, g1, g2, g3, -, g5, g6, -, g7, g8, -, -, g9⟩ := am_md_spec ha
    have hnm9 : am_nm a = nm := by unfold am_nm; rw [g1]; rfl
    have hk8 : k8 = 0 := g2.symm.trans hmk
    have hrc : am_recv c9 as = true := by
      rcases hrc with h9 | h9
      · omega
      · exact h9
    obtain ⟨i, as', rfl⟩ := am_recv_spec hrc
    obtain ⟨C, T, N, hv⟩ := am_cl_some hc9
    obtain ⟨-, hCo, -⟩ := am_cl_spec hc9 hv
    have hgq : am_gq σ (c9, i) := hga.h
    obtain ⟨rr, hr1, cell, hcell, hcc, hcv, -⟩ := hF.1.1 _ _ (am_ws_obj (aC := aC) (xa := xa) (uv := uv) (f := f) hgq hc9)
    have hkn := (hC.1.1 c9 _ hv).2.1
    have hsig : ∀ mk methM, s.methodNamed? nm = some mk → s.vm.method? mk = some methM → methM.sig = sg := by
      intro mk methM h8 h9
      obtain ⟨meth9, c8, f1, -, -, -, -, -, -, f8⟩ := am_his ha g1 hts h8
      cases f1.symm.trans h9
      rw [hnm9] at hsg1
      exact Option.some.inj (f8.symm.trans hsg1)
    have hE : am_Ent p l e R s m args below meth c H locs (ah_n σ - n0) (ah_sl σ - sl0) (F0 m pc lsA (((av_r c9 i :: as').reverse ++ rest).map (am_cv xa uv f σ))) (am_nm a) ((av_r c9 i :: as').map (am_cv xa uv f σ)).toArray (rest.map (am_cv xa uv f σ)) := by
      have hst : ((av_r c9 i :: as').reverse ++ rest).map (am_cv xa uv f σ) = (as'.map (am_cv xa uv f σ)).reverse ++ .ref (f (ah_ad σ c9 i)) :: rest.map (am_cv xa uv f σ) := by
        rw [List.reverse_cons, List.append_assoc, List.map_append, List.map_reverse]
        simp only [List.map_append, List.map_cons, List.map_nil, am_cvr (show c9 < 200 by omega)]
        rfl
      have hag : (av_r c9 i :: as').map (am_cv xa uv f σ) = .ref (f (ah_ad σ c9 i)) :: as'.map (am_cv xa uv f σ) := by
        rw [List.map_cons, am_cvr (show c9 < 200 by omega)]
      have hl5 : as'.length = sg.parameters.length := by
        have : as'.length + 1 = b := hal
        omega
      have hfc : s.vm.findClass nm.cls = some cell.cls := by
        rw [hcc, ← hnm9, ← hcls, ← hCo]; exact hkn
      rw [hst, hag, hnm9]
      rw [hnm9] at hl
      cases hb0 : Nat.beq hh 0 <;> simp only [hb0, cond_true, cond_false] at hl
      · exact am_entVN (C := nm.cls) hx hown (va_Nw.use rfl (hC.2.2.2.2.2.1 _ (List.mem_filter.mpr ⟨List.mem_of_getElem? hl, rfl⟩))) (hts _ (g9 hk8).1) (hts _ (g9 hk8).2) g6 hcell (by rw [hcv]; rfl) hfc hsig rfl (by rw [List.length_map]; exact hl5) rfl (by rw [hb]; exact hdg)
      · exact am_entV (C := nm.cls) hx hown (hts _ (am_T_of hl rfl)) (hts _ (g9 hk8).1) (hts _ (g9 hk8).2) g6 (by rw [hnm9] at hsg1; exact hsg1) hcell (by rw [hcv]; rfl) hfc hsig rfl (by rw [List.length_map]; exact hl5) rfl (by rw [hb]; exact hdg)
    exact am_callGo h0 ha hrun hE hnl (by omega) hga hgr hr4 (by omega) (by omega) hq0 htab ehd

theorem am_s_invspecial {len : Nat} {w : Int32} {a b c9 : Nat} {tb : List (Int32 × Nat)} {k9 : Nat} (h : am_Hyp D aC xa uv X XL z l n y pc ls st σ r (.invokespecial k9, len, w, a, b, c9, tb) p R s m args meth c H locs lsA f f0 n0 sl0) : W p l e R s m args below meth c H locs (ah_n σ - n0) (ah_sl σ - sl0) (am_MQ below (am_Q D aC xa uv z f0 n0 r) args s (ah_n r.2 - n0) (ah_sl r.2 - sl0) (am_A z)) (F0 m pc lsA (st.map (am_cv xa uv f σ))) := by
  have h0 := h
  obtain ⟨ih, hy, ⟨hx, hb, hml, hlk, hts, q0, hq0, hrt, hown, hnm, hfr, hlc, htab⟩, hC, hF, hc1, hc2, hdg, ⟨q, hq, hchk⟩, hrun⟩ := h
  cases hq0.symm.trans hq
  have hgs := hF.2.2.2.2.2.1
  simp only [am_step] at hrun
  simp only [am_rchk, Bool.and_eq_true, decide_eq_true_eq] at hchk
  dsimp only at hdg
  obtain ⟨⟨e1, ehd⟩, e2⟩ := hchk
  cases Nat.eq_of_beq_eq_true e1
  cases h900 : Nat.beq a 900 <;> simp only [h900, cond_true, cond_false] at hrun e2
  · obtain ⟨as, rest, rfl, hal, hr4, hrc, hnl, hrun⟩ := am_call_spec hrun
    obtain ⟨hga, hgr⟩ := am_gl_rev hgs
    obtain ⟨ha, ⟨hh, pos, hl⟩, ⟨sg, hsg1, hsg2⟩, hmk, -, hv2, -, hbml, hfr2, hlc2⟩ := am_ca_spec e2
    obtain ⟨hc9, hbb⟩ := hv2 (by omega)
    obtain ⟨nm, mx, rt, o9, fr9, lc9, hd9, k8, g1, g2, g3, -, g5, g6, -, g7, g8, -, g9, -⟩ := am_md_spec ha
    have hnm9 : am_nm a = nm := by unfold am_nm; rw [g1]; rfl
    have hk8 : k8 = 2 := g2.symm.trans hmk
    have hrc : am_recv c9 as = true := by
      rcases hrc with h9 | h9
      · omega
      · exact h9
    obtain ⟨i, as', rfl⟩ := am_recv_spec hrc
    obtain ⟨hi1, hi2, hi3⟩ := g9 hk8
    have hcode : Cond.code nm (am_by a) mx none ∈ am_T := by
      rcases g7 with g7 | g7
      · rw [hi3] at g7; exact g7.2
      · omega
    have hE : am_Ent p l e R s m args below meth c H locs (ah_n σ - n0) (ah_sl σ - sl0) (F0 m pc lsA (((av_r c9 i :: as').reverse ++ rest).map (am_cv xa uv f σ))) (am_nm a) ((av_r c9 i :: as').map (am_cv xa uv f σ)).toArray (rest.map (am_cv xa uv f σ)) := by
      have hst : ((av_r c9 i :: as').reverse ++ rest).map (am_cv xa uv f σ) = (as'.map (am_cv xa uv f σ)).reverse ++ .ref (f (ah_ad σ c9 i)) :: rest.map (am_cv xa uv f σ) := by
        rw [List.reverse_cons, List.append_assoc, List.map_append, List.map_reverse]
        simp only [List.map_append, List.map_cons, List.map_nil, am_cvr (show c9 < 200 by omega)]
        rfl
      have hag : (av_r c9 i :: as').map (am_cv xa uv f σ) = .ref (f (ah_ad σ c9 i)) :: as'.map (am_cv xa uv f σ) := by
        rw [List.map_cons, am_cvr (show c9 < 200 by omega)]
      have hl5 : as'.length = sg.parameters.length := by
        have : as'.length + 1 = b := hal
        omega
      rw [hst, hag, hnm9]
      rw [hnm9] at hl hsg1
      cases hb0 : Nat.beq hh 0 <;> simp only [hb0, cond_true, cond_false] at hl
      · exact am_entIN hx hown hi2 (va_Nw.use rfl (hC.2.2.2.2.2.1 _ (List.mem_filter.mpr ⟨List.mem_of_getElem? hl, rfl⟩))) (hts _ hi1) (hts _ hcode) g6 rfl (fun sig h9 => by rw [hsg1] at h9; cases h9; rw [List.length_map]; exact hl5) rfl (by rw [hb]; exact hdg)
      · exact am_entI hx hown hi2 (hts _ (am_T_of hl rfl)) (hts _ hi1) (hts _ hcode) g6 rfl (fun sig h9 => by rw [hsg1] at h9; cases h9; rw [List.length_map]; exact hl5) rfl (by rw [hb]; exact hdg)
    exact am_callGo h0 ha hrun hE hnl (by omega) hga hgr hr4 (by omega) (by omega) hq0 htab ehd
  · have ha := Nat.eq_of_beq_eq_true h900
    subst ha
    simp only [Bool.and_eq_true] at e2
    obtain ⟨⟨e3, e4⟩, e5⟩ := e2
    obtain ⟨⟨o', k', a', b', c', v', hh, pos⟩, hq9, g⟩ := List.any_eq_true.mp e3
    simp only [Bool.and_eq_true] at g
    obtain ⟨⟨⟨g1, g2⟩, g3⟩, -⟩ := g
    cases Nat.eq_of_beq_eq_true g1
    cases Nat.eq_of_beq_eq_true g2
    cases Nat.eq_of_beq_eq_true g3
    have g7 := List.all_eq_true.mp am_mt_all _ hq9
    simp only [am_mchk, show Nat.beq 900 900 = true from rfl, cond_true, cond_false] at g7
    split at hrun
    · rename_i qt qi r9
      cases h4 : (Nat.blt qt 200 && Nat.ble r9.length 4) <;> simp only [h4, cond_true, cond_false] at hrun
      · cases hrun
      · simp only [Bool.and_eq_true] at h4
        have hq2 := am_blt' h4.1
        have hr4 := Nat.le_of_ble_eq_true h4.2
        have hwt := am_wt (xa := xa) (uv := uv) (f := f) (σ := σ) hr4
        have hfr9 := Nat.le_of_ble_eq_true e4
        have hlc9 := Nat.le_of_ble_eq_true e5
        have hlk9 : Cond.methodLink (am_ow q0.2.2.2.1) k9 Lib.objectInit ∈ am_T := by
          cases hb0 : Nat.beq hh 0 <;> simp only [hb0, cond_true, cond_false, decide_eq_true_eq] at g7
          · have h9 := List.all_eq_true.mp am_obj0 _ hq9
            simp [hb0] at h9
          · exact am_T_of g7 rfl
        have hgo := am_go (e := e) (below := below) h0 hrun hgs.t
        show W p l e R s m args below meth c H locs _ _ _ (F0 m pc lsA (am_cv xa uv f σ (.inr (.inr (some (qt, qi)))) :: r9.map (am_cv xa uv f σ)))
        rw [am_cvr hq2]
        exact W.objInit hx hb hown (hts _ hlk9) (hts _ (am_T_of (k := 155) (by decide +kernel) rfl)) (hts _ (am_T_of (k := 156) (by decide +kernel) rfl)) rfl (by show lsA.size = _; rw [hml]; exact hF.2.2.1.1.trans hF.2.2.2.1) rfl hdg (by omega) (by show 2 * 0 + _ + 12 ≤ _; omega) hgo
    · cases hrun

end AmInv
end
section
-- every step of the small machine is a walk of the machine
section AmMain
variable {D : va_G} {aC : Nat → ClassId} {xa : Nat → Nat} {uv : Nat → Value} {X : Nat → Nat → Int32} {XL : Nat → Nat} {z : Nat}
theorem am_look_mem {l : List (Nat × am_Row)} {pc : Nat} {row : am_Row} (h : am_look l pc = some row) : (pc, row) ∈ l := by
  unfold am_look at h
  cases hf : l.find? (fun q => Nat.beq q.1 pc) with
  | none => rw [hf] at h; cases h
  | some q =>
    rw [hf] at h
    cases h
    have h1 := List.find?_some hf
    have h2 := List.mem_of_find?_eq_some hf
    cases Nat.eq_of_beq_eq_true h1
    exact h2
set_option maxHeartbeats 1000000 in
theorem am_simS (hok : ∀ y, y < 265 → am_mrchk y = true) (l : Launch) : ∀ n, am_Sim D aC xa uv X XL z l n := by
  intro n
  induction n with
  | zero =>
    intro y pc ls st σ r h
    cases h
  | succ n ih =>
    intro y pc ls st σ r h hy p e R s m args below meth c H locs lsA f f0 n0 sl0 hG hC hF h1 h2
    cases hrow : am_look (am_code y) pc with
    | none =>
      have h3 : am_step _ _ _ _ _ _ _ _ _ (am_look (am_code y) pc) = some r := h
      rw [hrow] at h3
      cases h3
    | some row =>
      have h3 : am_step _ _ _ _ _ _ _ _ _ (am_look (am_code y) pc) = some r := h
      rw [hrow] at h3
      have hch := hok y hy
      unfold am_mrchk at hch
      cases hmd : am_md[y]? with
      | none => rw [hmd] at hch; cases hch
      | some q =>
        obtain ⟨nm, mx, rt, o, fr, lc, hd⟩ := q
        simp only [hmd] at hch
        have h4 := List.all_eq_true.mp hch _ (am_look_mem hrow)
        simp only [Bool.and_eq_true, decide_eq_true_eq] at h4
        have hH : am_Hyp D aC xa uv X XL z l n y pc ls st σ r row p R s m args meth c H locs lsA f f0 n0 sl0 := ⟨ih, hy, hG, hC, hF, h1, h2, h4.1, ⟨_, hmd, h4.2⟩, h3⟩
        obtain ⟨i, len, w, a, b, c9, tb⟩ := row
        cases i with
        | iconst k => exact am_s_iconst hH
        | bipush k => exact am_s_bipush hH
        | sipush k => exact am_s_sipush hH
        | ldc k => exact am_s_ldc hH
        | ldc_w k => exact am_s_ldc_w hH
        | lconst k => exact am_s_lconst hH
        | ldc2_w k => exact am_s_ldc2 hH
        | aconst_null => exact am_s_null hH
        | iload_n k => exact am_s_iload_n hH
        | iload k => exact am_s_iload hH
        | aload_n k => exact am_s_aload_n hH
        | aload k => exact am_s_aload hH
        | istore_n k => exact am_s_istore_n hH
        | istore k => exact am_s_istore hH
        | astore_n k => exact am_s_astore_n hH
        | astore k => exact am_s_astore hH
        | iinc k j => exact am_s_iinc hH
        | iadd => exact am_s_iadd hH
        | isub => exact am_s_isub hH
        | imul => exact am_s_imul hH
        | iand => exact am_s_iand hH
        | ior => exact am_s_ior hH
        | ixor => exact am_s_ixor hH
        | ishl => exact am_s_ishl hH
        | ishr => exact am_s_ishr hH
        | iushr => exact am_s_iushr hH
        | idiv => exact am_s_idiv hH
        | irem => exact am_s_irem hH
        | ineg => exact am_s_ineg hH
        | i2l => exact am_s_i2l hH
        | i2b => exact am_s_i2b hH
        | dup => exact am_s_dup hH
        | dup2 => exact am_s_dup2 hH
        | dup_x1 => exact am_s_dup_x1 hH
        | goto k => exact am_s_goto hH
        | if_icmp cnd k => cases cnd with
          | eq => exact am_s_icmp_eq hH
          | ne => exact am_s_icmp_ne hH
          | lt => exact am_s_icmp_lt hH
          | ge => exact am_s_icmp_ge hH
          | gt => exact am_s_icmp_gt hH
          | le => exact am_s_icmp_le hH
        | ifCond cnd k => cases cnd with
          | eq => exact am_s_if_eq hH
          | ne => exact am_s_if_ne hH
          | lt => exact am_s_if_lt hH
          | ge => exact am_s_if_ge hH
          | gt => exact am_s_if_gt hH
          | le => exact am_s_if_le hH
        | tableswitch d lo hi offs => exact am_s_tab hH
        | lookupswitch d ps => exact am_s_look hH
        | iaload => exact am_s_iaload hH
        | baload => exact am_s_baload hH
        | aaload => exact am_s_aaload hH
        | iastore => exact am_s_iastore hH
        | bastore => exact am_s_bastore hH
        | aastore => exact am_s_aastore hH
        | arraylength => exact am_s_alen hH
        | getfield k => exact am_s_getfield hH
        | putfield k => exact am_s_putfield hH
        | getstatic k => exact am_s_getstatic hH
        | new k => exact am_s_new hH
        | newarray ty => cases ty with
          | int => exact am_s_newa_int hH
          | byte => exact am_s_newa_byte hH
          | boolean => exact am_s_newa_boolean hH
          | _ => simp [am_rchk] at h4
        | anewarray k => exact am_s_anew hH
        | invokestatic k => exact am_s_invstatic hH
        | invokevirtual k => exact am_s_invvirtual hH
        | invokespecial k => exact am_s_invspecial hH
        | athrow => exact am_s_athrow hH
        | ireturn => exact am_s_ireturn hH
        | areturn => exact am_s_areturn hH
        | return_ => exact am_s_return hH
        | _ => cases h3
end AmMain
end
