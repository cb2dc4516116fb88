-- ===== PART A: goes FIRST, ahead of the names: the tables' words, and 'selects' of the private methods out of them =====
/-- a private method of a class that the tables say can be made, by its rows of tables_1 -/
def lw_okq (q : MethodName × Nat) : Prop := (q.1.cls ≠ "java/lang/invoke/MethodHandle" ∧ q.1.cls ≠ "java/lang/invoke/VarHandle") ∧ Cond.instantiable q.1.cls q.2 ∈ tables_1 ∧ Cond.privateMethod q.1 ∈ tables_1 ∧ Cond.instanceMethod q.1 ∈ tables_1
theorem lw_p0 : lw_okq (⟨"BrotliWords$Packer", "choose", "(II)V"⟩, 18) := ⟨⟨by decide +kernel, by decide +kernel⟩, List.mem_of_getElem? (i := 288) (by decide +kernel), List.mem_of_getElem? (i := 573) (by decide +kernel), List.mem_of_getElem? (i := 574) (by decide +kernel)⟩
theorem lw_p1 : lw_okq (⟨"BrotliWords$Finder", "hash", "(I)I"⟩, 12) := ⟨⟨by decide +kernel, by decide +kernel⟩, List.mem_of_getElem? (i := 335) (by decide +kernel), List.mem_of_getElem? (i := 592) (by decide +kernel), List.mem_of_getElem? (i := 593) (by decide +kernel)⟩
theorem lw_p2 : lw_okq (⟨"BrotliWords$Finder", "findCopy", "(I)V"⟩, 12) := ⟨⟨by decide +kernel, by decide +kernel⟩, List.mem_of_getElem? (i := 335) (by decide +kernel), List.mem_of_getElem? (i := 597) (by decide +kernel), List.mem_of_getElem? (i := 598) (by decide +kernel)⟩
theorem lw_p3 : lw_okq (⟨"BrotliWords$Finder", "sameBytes", "(III)I"⟩, 12) := ⟨⟨by decide +kernel, by decide +kernel⟩, List.mem_of_getElem? (i := 335) (by decide +kernel), List.mem_of_getElem? (i := 601) (by decide +kernel), List.mem_of_getElem? (i := 602) (by decide +kernel)⟩
theorem lw_p4 : lw_okq (⟨"BrotliWords$Finder", "findWord", "(IIZ)V"⟩, 12) := ⟨⟨by decide +kernel, by decide +kernel⟩, List.mem_of_getElem? (i := 335) (by decide +kernel), List.mem_of_getElem? (i := 605) (by decide +kernel), List.mem_of_getElem? (i := 606) (by decide +kernel)⟩
theorem lw_p5 : lw_okq (⟨"BrotliWords$Finder", "isCore", "(III)Z"⟩, 12) := ⟨⟨by decide +kernel, by decide +kernel⟩, List.mem_of_getElem? (i := 335) (by decide +kernel), List.mem_of_getElem? (i := 610) (by decide +kernel), List.mem_of_getElem? (i := 611) (by decide +kernel)⟩
theorem lw_p6 : lw_okq (⟨"BrotliWords$Finder", "offer", "(IIII)V"⟩, 12) := ⟨⟨by decide +kernel, by decide +kernel⟩, List.mem_of_getElem? (i := 335) (by decide +kernel), List.mem_of_getElem? (i := 614) (by decide +kernel), List.mem_of_getElem? (i := 615) (by decide +kernel)⟩
theorem lw_p7 : lw_okq (⟨"BrotliWords$Finder", "offerBehind", "(III)V"⟩, 12) := ⟨⟨by decide +kernel, by decide +kernel⟩, List.mem_of_getElem? (i := 335) (by decide +kernel), List.mem_of_getElem? (i := 618) (by decide +kernel), List.mem_of_getElem? (i := 619) (by decide +kernel)⟩
theorem lw_p8 : lw_okq (⟨"BrotliWords$Packer", "longest", "(I)I"⟩, 18) := ⟨⟨by decide +kernel, by decide +kernel⟩, List.mem_of_getElem? (i := 288) (by decide +kernel), List.mem_of_getElem? (i := 622) (by decide +kernel), List.mem_of_getElem? (i := 623) (by decide +kernel)⟩
theorem lw_p9 : lw_okq (⟨"BrotliWords$Packer", "makesAt", "(I)I"⟩, 18) := ⟨⟨by decide +kernel, by decide +kernel⟩, List.mem_of_getElem? (i := 288) (by decide +kernel), List.mem_of_getElem? (i := 626) (by decide +kernel), List.mem_of_getElem? (i := 627) (by decide +kernel)⟩
theorem lw_p10 : lw_okq (⟨"BrotliWords$Packer", "takeCheapest", "(I)V"⟩, 18) := ⟨⟨by decide +kernel, by decide +kernel⟩, List.mem_of_getElem? (i := 288) (by decide +kernel), List.mem_of_getElem? (i := 631) (by decide +kernel), List.mem_of_getElem? (i := 632) (by decide +kernel)⟩
theorem lw_p11 : lw_okq (⟨"BrotliWords$Packer", "listCommands", "(I)V"⟩, 18) := ⟨⟨by decide +kernel, by decide +kernel⟩, List.mem_of_getElem? (i := 288) (by decide +kernel), List.mem_of_getElem? (i := 635) (by decide +kernel), List.mem_of_getElem? (i := 636) (by decide +kernel)⟩
theorem lw_p12 : lw_okq (⟨"BrotliWords$Packer", "addCommand", "(IIII)V"⟩, 18) := ⟨⟨by decide +kernel, by decide +kernel⟩, List.mem_of_getElem? (i := 288) (by decide +kernel), List.mem_of_getElem? (i := 642) (by decide +kernel), List.mem_of_getElem? (i := 643) (by decide +kernel)⟩
theorem lw_p13 : lw_okq (⟨"BrotliWords$Packer", "distanceSign", "(I)I"⟩, 18) := ⟨⟨by decide +kernel, by decide +kernel⟩, List.mem_of_getElem? (i := 288) (by decide +kernel), List.mem_of_getElem? (i := 646) (by decide +kernel), List.mem_of_getElem? (i := 647) (by decide +kernel)⟩
theorem lw_p14 : lw_okq (⟨"BrotliWords$Packer", "addWord", "(II)V"⟩, 18) := ⟨⟨by decide +kernel, by decide +kernel⟩, List.mem_of_getElem? (i := 288) (by decide +kernel), List.mem_of_getElem? (i := 670) (by decide +kernel), List.mem_of_getElem? (i := 671) (by decide +kernel)⟩
theorem lw_p15 : lw_okq (⟨"BrotliWords$Packer", "tellPart", "(I)V"⟩, 18) := ⟨⟨by decide +kernel, by decide +kernel⟩, List.mem_of_getElem? (i := 288) (by decide +kernel), List.mem_of_getElem? (i := 678) (by decide +kernel), List.mem_of_getElem? (i := 679) (by decide +kernel)⟩
def lw_privs_1 : List (MethodName × Nat) := [(⟨"BrotliWords$Packer", "choose", "(II)V"⟩, 18), (⟨"BrotliWords$Finder", "hash", "(I)I"⟩, 12), (⟨"BrotliWords$Finder", "findCopy", "(I)V"⟩, 12), (⟨"BrotliWords$Finder", "sameBytes", "(III)I"⟩, 12), (⟨"BrotliWords$Finder", "findWord", "(IIZ)V"⟩, 12), (⟨"BrotliWords$Finder", "isCore", "(III)Z"⟩, 12), (⟨"BrotliWords$Finder", "offer", "(IIII)V"⟩, 12), (⟨"BrotliWords$Finder", "offerBehind", "(III)V"⟩, 12), (⟨"BrotliWords$Packer", "longest", "(I)I"⟩, 18), (⟨"BrotliWords$Packer", "makesAt", "(I)I"⟩, 18), (⟨"BrotliWords$Packer", "takeCheapest", "(I)V"⟩, 18), (⟨"BrotliWords$Packer", "listCommands", "(I)V"⟩, 18), (⟨"BrotliWords$Packer", "addCommand", "(IIII)V"⟩, 18), (⟨"BrotliWords$Packer", "distanceSign", "(I)I"⟩, 18), (⟨"BrotliWords$Packer", "addWord", "(II)V"⟩, 18), (⟨"BrotliWords$Packer", "tellPart", "(I)V"⟩, 18)]
theorem lw_r1 : ∀ q ∈ lw_privs_1, lw_okq q := List.forall_mem_cons.mpr ⟨lw_p0, List.forall_mem_cons.mpr ⟨lw_p1, List.forall_mem_cons.mpr ⟨lw_p2, List.forall_mem_cons.mpr ⟨lw_p3, List.forall_mem_cons.mpr ⟨lw_p4, List.forall_mem_cons.mpr ⟨lw_p5, List.forall_mem_cons.mpr ⟨lw_p6, List.forall_mem_cons.mpr ⟨lw_p7, List.forall_mem_cons.mpr ⟨lw_p8, List.forall_mem_cons.mpr ⟨lw_p9, List.forall_mem_cons.mpr ⟨lw_p10, List.forall_mem_cons.mpr ⟨lw_p11, List.forall_mem_cons.mpr ⟨lw_p12, List.forall_mem_cons.mpr ⟨lw_p13, List.forall_mem_cons.mpr ⟨lw_p14, List.forall_mem_cons.mpr ⟨lw_p15, fun _ h => absurd h List.not_mem_nil⟩⟩⟩⟩⟩⟩⟩⟩⟩⟩⟩⟩⟩⟩⟩⟩
theorem lw_p16 : lw_okq (⟨"BrotliWords$CodeWriter", "settle", "(I)V"⟩, 11) := ⟨⟨by decide +kernel, by decide +kernel⟩, List.mem_of_getElem? (i := 294) (by decide +kernel), List.mem_of_getElem? (i := 696) (by decide +kernel), List.mem_of_getElem? (i := 697) (by decide +kernel)⟩
theorem lw_p17 : lw_okq (⟨"BrotliWords$CodeWriter", "sortOrder", "()V"⟩, 11) := ⟨⟨by decide +kernel, by decide +kernel⟩, List.mem_of_getElem? (i := 294) (by decide +kernel), List.mem_of_getElem? (i := 700) (by decide +kernel), List.mem_of_getElem? (i := 701) (by decide +kernel)⟩
theorem lw_p18 : lw_okq (⟨"BrotliWords$CodeWriter", "comesLater", "(II)Z"⟩, 11) := ⟨⟨by decide +kernel, by decide +kernel⟩, List.mem_of_getElem? (i := 294) (by decide +kernel), List.mem_of_getElem? (i := 704) (by decide +kernel), List.mem_of_getElem? (i := 705) (by decide +kernel)⟩
theorem lw_p19 : lw_okq (⟨"BrotliWords$CodeWriter", "joinAll", "()V"⟩, 11) := ⟨⟨by decide +kernel, by decide +kernel⟩, List.mem_of_getElem? (i := 294) (by decide +kernel), List.mem_of_getElem? (i := 708) (by decide +kernel), List.mem_of_getElem? (i := 709) (by decide +kernel)⟩
theorem lw_p20 : lw_okq (⟨"BrotliWords$CodeWriter", "depthOfAll", "()I"⟩, 11) := ⟨⟨by decide +kernel, by decide +kernel⟩, List.mem_of_getElem? (i := 294) (by decide +kernel), List.mem_of_getElem? (i := 712) (by decide +kernel), List.mem_of_getElem? (i := 713) (by decide +kernel)⟩
theorem lw_p21 : lw_okq (⟨"BrotliWords$CodeWriter", "makeCodes", "()V"⟩, 11) := ⟨⟨by decide +kernel, by decide +kernel⟩, List.mem_of_getElem? (i := 294) (by decide +kernel), List.mem_of_getElem? (i := 716) (by decide +kernel), List.mem_of_getElem? (i := 717) (by decide +kernel)⟩
theorem lw_p22 : lw_okq (⟨"BrotliWords$CodeWriter", "tellShort", "(LBrotliWords$Bytes;)V"⟩, 11) := ⟨⟨by decide +kernel, by decide +kernel⟩, List.mem_of_getElem? (i := 294) (by decide +kernel), List.mem_of_getElem? (i := 723) (by decide +kernel), List.mem_of_getElem? (i := 724) (by decide +kernel)⟩
theorem lw_p23 : lw_okq (⟨"BrotliWords$CodeWriter", "listMarks", "()V"⟩, 11) := ⟨⟨by decide +kernel, by decide +kernel⟩, List.mem_of_getElem? (i := 294) (by decide +kernel), List.mem_of_getElem? (i := 729) (by decide +kernel), List.mem_of_getElem? (i := 730) (by decide +kernel)⟩
theorem lw_p24 : lw_okq (⟨"BrotliWords$CodeWriter", "zerosFrom", "(I)I"⟩, 11) := ⟨⟨by decide +kernel, by decide +kernel⟩, List.mem_of_getElem? (i := 294) (by decide +kernel), List.mem_of_getElem? (i := 733) (by decide +kernel), List.mem_of_getElem? (i := 734) (by decide +kernel)⟩
theorem lw_p25 : lw_okq (⟨"BrotliWords$CodeWriter", "tellAsMarks", "(LBrotliWords$Bytes;)V"⟩, 11) := ⟨⟨by decide +kernel, by decide +kernel⟩, List.mem_of_getElem? (i := 294) (by decide +kernel), List.mem_of_getElem? (i := 739) (by decide +kernel), List.mem_of_getElem? (i := 740) (by decide +kernel)⟩
theorem lw_p26 : lw_okq (⟨"BrotliWords$Packer", "writeCommands", "()V"⟩, 18) := ⟨⟨by decide +kernel, by decide +kernel⟩, List.mem_of_getElem? (i := 288) (by decide +kernel), List.mem_of_getElem? (i := 754) (by decide +kernel), List.mem_of_getElem? (i := 755) (by decide +kernel)⟩
theorem lw_p27 : lw_okq (⟨"BrotliWords$Packer", "writeRaw", "(I)V"⟩, 18) := ⟨⟨by decide +kernel, by decide +kernel⟩, List.mem_of_getElem? (i := 288) (by decide +kernel), List.mem_of_getElem? (i := 763) (by decide +kernel), List.mem_of_getElem? (i := 764) (by decide +kernel)⟩
theorem lw_p28 : lw_okq (⟨"BrotliWords$Opener", "begin", "()V"⟩, 16) := ⟨⟨by decide +kernel, by decide +kernel⟩, List.mem_of_getElem? (i := 73) (by decide +kernel), List.mem_of_getElem? (i := 780) (by decide +kernel), List.mem_of_getElem? (i := 781) (by decide +kernel)⟩
theorem lw_p29 : lw_okq (⟨"BrotliWords$Opener", "readSpan", "()V"⟩, 16) := ⟨⟨by decide +kernel, by decide +kernel⟩, List.mem_of_getElem? (i := 73) (by decide +kernel), List.mem_of_getElem? (i := 790) (by decide +kernel), List.mem_of_getElem? (i := 791) (by decide +kernel)⟩
theorem lw_p30 : lw_okq (⟨"BrotliWords$Opener", "shortSpan", "(I)I"⟩, 16) := ⟨⟨by decide +kernel, by decide +kernel⟩, List.mem_of_getElem? (i := 73) (by decide +kernel), List.mem_of_getElem? (i := 803) (by decide +kernel), List.mem_of_getElem? (i := 804) (by decide +kernel)⟩
theorem lw_p31 : lw_okq (⟨"BrotliWords$Opener", "readPart", "()I"⟩, 16) := ⟨⟨by decide +kernel, by decide +kernel⟩, List.mem_of_getElem? (i := 73) (by decide +kernel), List.mem_of_getElem? (i := 811) (by decide +kernel), List.mem_of_getElem? (i := 812) (by decide +kernel)⟩
def lw_privs_2 : List (MethodName × Nat) := [(⟨"BrotliWords$CodeWriter", "settle", "(I)V"⟩, 11), (⟨"BrotliWords$CodeWriter", "sortOrder", "()V"⟩, 11), (⟨"BrotliWords$CodeWriter", "comesLater", "(II)Z"⟩, 11), (⟨"BrotliWords$CodeWriter", "joinAll", "()V"⟩, 11), (⟨"BrotliWords$CodeWriter", "depthOfAll", "()I"⟩, 11), (⟨"BrotliWords$CodeWriter", "makeCodes", "()V"⟩, 11), (⟨"BrotliWords$CodeWriter", "tellShort", "(LBrotliWords$Bytes;)V"⟩, 11), (⟨"BrotliWords$CodeWriter", "listMarks", "()V"⟩, 11), (⟨"BrotliWords$CodeWriter", "zerosFrom", "(I)I"⟩, 11), (⟨"BrotliWords$CodeWriter", "tellAsMarks", "(LBrotliWords$Bytes;)V"⟩, 11), (⟨"BrotliWords$Packer", "writeCommands", "()V"⟩, 18), (⟨"BrotliWords$Packer", "writeRaw", "(I)V"⟩, 18), (⟨"BrotliWords$Opener", "begin", "()V"⟩, 16), (⟨"BrotliWords$Opener", "readSpan", "()V"⟩, 16), (⟨"BrotliWords$Opener", "shortSpan", "(I)I"⟩, 16), (⟨"BrotliWords$Opener", "readPart", "()I"⟩, 16)]
theorem lw_r2 : ∀ q ∈ lw_privs_2, lw_okq q := List.forall_mem_cons.mpr ⟨lw_p16, List.forall_mem_cons.mpr ⟨lw_p17, List.forall_mem_cons.mpr ⟨lw_p18, List.forall_mem_cons.mpr ⟨lw_p19, List.forall_mem_cons.mpr ⟨lw_p20, List.forall_mem_cons.mpr ⟨lw_p21, List.forall_mem_cons.mpr ⟨lw_p22, List.forall_mem_cons.mpr ⟨lw_p23, List.forall_mem_cons.mpr ⟨lw_p24, List.forall_mem_cons.mpr ⟨lw_p25, List.forall_mem_cons.mpr ⟨lw_p26, List.forall_mem_cons.mpr ⟨lw_p27, List.forall_mem_cons.mpr ⟨lw_p28, List.forall_mem_cons.mpr ⟨lw_p29, List.forall_mem_cons.mpr ⟨lw_p30, List.forall_mem_cons.mpr ⟨lw_p31, fun _ h => absurd h List.not_mem_nil⟩⟩⟩⟩⟩⟩⟩⟩⟩⟩⟩⟩⟩⟩⟩⟩
theorem lw_p32 : lw_okq (⟨"BrotliWords$Opener", "addPart", "(II)V"⟩, 16) := ⟨⟨by decide +kernel, by decide +kernel⟩, List.mem_of_getElem? (i := 73) (by decide +kernel), List.mem_of_getElem? (i := 815) (by decide +kernel), List.mem_of_getElem? (i := 816) (by decide +kernel)⟩
theorem lw_p33 : lw_okq (⟨"BrotliWords$Opener", "note", "(II)V"⟩, 16) := ⟨⟨by decide +kernel, by decide +kernel⟩, List.mem_of_getElem? (i := 73) (by decide +kernel), List.mem_of_getElem? (i := 819) (by decide +kernel), List.mem_of_getElem? (i := 820) (by decide +kernel)⟩
theorem lw_p34 : lw_okq (⟨"BrotliWords$Opener", "passOver", "(Z)V"⟩, 16) := ⟨⟨by decide +kernel, by decide +kernel⟩, List.mem_of_getElem? (i := 73) (by decide +kernel), List.mem_of_getElem? (i := 823) (by decide +kernel), List.mem_of_getElem? (i := 824) (by decide +kernel)⟩
theorem lw_p35 : lw_okq (⟨"BrotliWords$Opener", "readSize", "(I)I"⟩, 16) := ⟨⟨by decide +kernel, by decide +kernel⟩, List.mem_of_getElem? (i := 73) (by decide +kernel), List.mem_of_getElem? (i := 837) (by decide +kernel), List.mem_of_getElem? (i := 838) (by decide +kernel)⟩
theorem lw_p36 : lw_okq (⟨"BrotliWords$Opener", "readKinds", "(I)V"⟩, 16) := ⟨⟨by decide +kernel, by decide +kernel⟩, List.mem_of_getElem? (i := 73) (by decide +kernel), List.mem_of_getElem? (i := 848) (by decide +kernel), List.mem_of_getElem? (i := 849) (by decide +kernel)⟩
theorem lw_p37 : lw_okq (⟨"BrotliWords$Opener", "readHowMany", "()I"⟩, 16) := ⟨⟨by decide +kernel, by decide +kernel⟩, List.mem_of_getElem? (i := 73) (by decide +kernel), List.mem_of_getElem? (i := 852) (by decide +kernel), List.mem_of_getElem? (i := 853) (by decide +kernel)⟩
theorem lw_p38 : lw_okq (⟨"BrotliWords$CodeReader", "readShort", "(LBrotliWords$Code;I)V"⟩, 8) := ⟨⟨by decide +kernel, by decide +kernel⟩, List.mem_of_getElem? (i := 171) (by decide +kernel), List.mem_of_getElem? (i := 866) (by decide +kernel), List.mem_of_getElem? (i := 867) (by decide +kernel)⟩
theorem lw_p39 : lw_okq (⟨"BrotliWords$CodeReader", "isNew", "(II)Z"⟩, 8) := ⟨⟨by decide +kernel, by decide +kernel⟩, List.mem_of_getElem? (i := 171) (by decide +kernel), List.mem_of_getElem? (i := 872) (by decide +kernel), List.mem_of_getElem? (i := 873) (by decide +kernel)⟩
theorem lw_p40 : lw_okq (⟨"BrotliWords$CodeReader", "readMarks", "(I)V"⟩, 8) := ⟨⟨by decide +kernel, by decide +kernel⟩, List.mem_of_getElem? (i := 171) (by decide +kernel), List.mem_of_getElem? (i := 891) (by decide +kernel), List.mem_of_getElem? (i := 892) (by decide +kernel)⟩
theorem lw_p41 : lw_okq (⟨"BrotliWords$CodeReader", "markLength", "()I"⟩, 8) := ⟨⟨by decide +kernel, by decide +kernel⟩, List.mem_of_getElem? (i := 171) (by decide +kernel), List.mem_of_getElem? (i := 895) (by decide +kernel), List.mem_of_getElem? (i := 896) (by decide +kernel)⟩
theorem lw_p42 : lw_okq (⟨"BrotliWords$CodeReader", "buildMarks", "(I)V"⟩, 8) := ⟨⟨by decide +kernel, by decide +kernel⟩, List.mem_of_getElem? (i := 171) (by decide +kernel), List.mem_of_getElem? (i := 900) (by decide +kernel), List.mem_of_getElem? (i := 901) (by decide +kernel)⟩
theorem lw_p43 : lw_okq (⟨"BrotliWords$CodeReader", "readLengths", "(I)V"⟩, 8) := ⟨⟨by decide +kernel, by decide +kernel⟩, List.mem_of_getElem? (i := 171) (by decide +kernel), List.mem_of_getElem? (i := 904) (by decide +kernel), List.mem_of_getElem? (i := 905) (by decide +kernel)⟩
theorem lw_p44 : lw_okq (⟨"BrotliWords$CodeReader", "come", "(III)V"⟩, 8) := ⟨⟨by decide +kernel, by decide +kernel⟩, List.mem_of_getElem? (i := 171) (by decide +kernel), List.mem_of_getElem? (i := 913) (by decide +kernel), List.mem_of_getElem? (i := 914) (by decide +kernel)⟩
theorem lw_p45 : lw_okq (⟨"BrotliWords$Opener", "readForm", "()V"⟩, 16) := ⟨⟨by decide +kernel, by decide +kernel⟩, List.mem_of_getElem? (i := 73) (by decide +kernel), List.mem_of_getElem? (i := 927) (by decide +kernel), List.mem_of_getElem? (i := 928) (by decide +kernel)⟩
theorem lw_p46 : lw_okq (⟨"BrotliWords$Opener", "readTrees", "(I)V"⟩, 16) := ⟨⟨by decide +kernel, by decide +kernel⟩, List.mem_of_getElem? (i := 73) (by decide +kernel), List.mem_of_getElem? (i := 931) (by decide +kernel), List.mem_of_getElem? (i := 932) (by decide +kernel)⟩
theorem lw_p47 : lw_okq (⟨"BrotliWords$Opener", "fillMap", "([III)V"⟩, 16) := ⟨⟨by decide +kernel, by decide +kernel⟩, List.mem_of_getElem? (i := 73) (by decide +kernel), List.mem_of_getElem? (i := 945) (by decide +kernel), List.mem_of_getElem? (i := 946) (by decide +kernel)⟩
def lw_privs_3 : List (MethodName × Nat) := [(⟨"BrotliWords$Opener", "addPart", "(II)V"⟩, 16), (⟨"BrotliWords$Opener", "note", "(II)V"⟩, 16), (⟨"BrotliWords$Opener", "passOver", "(Z)V"⟩, 16), (⟨"BrotliWords$Opener", "readSize", "(I)I"⟩, 16), (⟨"BrotliWords$Opener", "readKinds", "(I)V"⟩, 16), (⟨"BrotliWords$Opener", "readHowMany", "()I"⟩, 16), (⟨"BrotliWords$CodeReader", "readShort", "(LBrotliWords$Code;I)V"⟩, 8), (⟨"BrotliWords$CodeReader", "isNew", "(II)Z"⟩, 8), (⟨"BrotliWords$CodeReader", "readMarks", "(I)V"⟩, 8), (⟨"BrotliWords$CodeReader", "markLength", "()I"⟩, 8), (⟨"BrotliWords$CodeReader", "buildMarks", "(I)V"⟩, 8), (⟨"BrotliWords$CodeReader", "readLengths", "(I)V"⟩, 8), (⟨"BrotliWords$CodeReader", "come", "(III)V"⟩, 8), (⟨"BrotliWords$Opener", "readForm", "()V"⟩, 16), (⟨"BrotliWords$Opener", "readTrees", "(I)V"⟩, 16), (⟨"BrotliWords$Opener", "fillMap", "([III)V"⟩, 16)]
theorem lw_r3 : ∀ q ∈ lw_privs_3, lw_okq q := List.forall_mem_cons.mpr ⟨lw_p32, List.forall_mem_cons.mpr ⟨lw_p33, List.forall_mem_cons.mpr ⟨lw_p34, List.forall_mem_cons.mpr ⟨lw_p35, List.forall_mem_cons.mpr ⟨lw_p36, List.forall_mem_cons.mpr ⟨lw_p37, List.forall_mem_cons.mpr ⟨lw_p38, List.forall_mem_cons.mpr ⟨lw_p39, List.forall_mem_cons.mpr ⟨lw_p40, List.forall_mem_cons.mpr ⟨lw_p41, List.forall_mem_cons.mpr ⟨lw_p42, List.forall_mem_cons.mpr ⟨lw_p43, List.forall_mem_cons.mpr ⟨lw_p44, List.forall_mem_cons.mpr ⟨lw_p45, List.forall_mem_cons.mpr ⟨lw_p46, List.forall_mem_cons.mpr ⟨lw_p47, fun _ h => absurd h List.not_mem_nil⟩⟩⟩⟩⟩⟩⟩⟩⟩⟩⟩⟩⟩⟩⟩⟩
theorem lw_p48 : lw_okq (⟨"BrotliWords$Opener", "undoFront", "([II)V"⟩, 16) := ⟨⟨by decide +kernel, by decide +kernel⟩, List.mem_of_getElem? (i := 73) (by decide +kernel), List.mem_of_getElem? (i := 951) (by decide +kernel), List.mem_of_getElem? (i := 952) (by decide +kernel)⟩
theorem lw_p49 : lw_okq (⟨"BrotliWords$Opener", "readCodes", "()V"⟩, 16) := ⟨⟨by decide +kernel, by decide +kernel⟩, List.mem_of_getElem? (i := 73) (by decide +kernel), List.mem_of_getElem? (i := 955) (by decide +kernel), List.mem_of_getElem? (i := 956) (by decide +kernel)⟩
theorem lw_p50 : lw_okq (⟨"BrotliWords$Opener", "makeCommand", "()V"⟩, 16) := ⟨⟨by decide +kernel, by decide +kernel⟩, List.mem_of_getElem? (i := 73) (by decide +kernel), List.mem_of_getElem? (i := 973) (by decide +kernel), List.mem_of_getElem? (i := 974) (by decide +kernel)⟩
theorem lw_p51 : lw_okq (⟨"BrotliWords$Blocks", "changeTo", "(I)V"⟩, 6) := ⟨⟨by decide +kernel, by decide +kernel⟩, List.mem_of_getElem? (i := 203) (by decide +kernel), List.mem_of_getElem? (i := 981) (by decide +kernel), List.mem_of_getElem? (i := 982) (by decide +kernel)⟩
theorem lw_p52 : lw_okq (⟨"BrotliWords$Opener", "noteOneMore", "(I)V"⟩, 16) := ⟨⟨by decide +kernel, by decide +kernel⟩, List.mem_of_getElem? (i := 73) (by decide +kernel), List.mem_of_getElem? (i := 993) (by decide +kernel), List.mem_of_getElem? (i := 994) (by decide +kernel)⟩
theorem lw_p53 : lw_okq (⟨"BrotliWords$Opener", "makeLiteral", "()V"⟩, 16) := ⟨⟨by decide +kernel, by decide +kernel⟩, List.mem_of_getElem? (i := 73) (by decide +kernel), List.mem_of_getElem? (i := 997) (by decide +kernel), List.mem_of_getElem? (i := 998) (by decide +kernel)⟩
theorem lw_p54 : lw_okq (⟨"BrotliWords$Opener", "readDistanceSign", "(I)I"⟩, 16) := ⟨⟨by decide +kernel, by decide +kernel⟩, List.mem_of_getElem? (i := 73) (by decide +kernel), List.mem_of_getElem? (i := 1021) (by decide +kernel), List.mem_of_getElem? (i := 1022) (by decide +kernel)⟩
theorem lw_p55 : lw_okq (⟨"BrotliWords$Opener", "readDistance", "(I)I"⟩, 16) := ⟨⟨by decide +kernel, by decide +kernel⟩, List.mem_of_getElem? (i := 73) (by decide +kernel), List.mem_of_getElem? (i := 1025) (by decide +kernel), List.mem_of_getElem? (i := 1026) (by decide +kernel)⟩
theorem lw_p56 : lw_okq (⟨"BrotliWords$Opener", "makeCopy", "(III)V"⟩, 16) := ⟨⟨by decide +kernel, by decide +kernel⟩, List.mem_of_getElem? (i := 73) (by decide +kernel), List.mem_of_getElem? (i := 1029) (by decide +kernel), List.mem_of_getElem? (i := 1030) (by decide +kernel)⟩
theorem lw_p57 : lw_okq (⟨"BrotliWords$Opener", "makeWord", "(II)V"⟩, 16) := ⟨⟨by decide +kernel, by decide +kernel⟩, List.mem_of_getElem? (i := 73) (by decide +kernel), List.mem_of_getElem? (i := 1034) (by decide +kernel), List.mem_of_getElem? (i := 1035) (by decide +kernel)⟩
theorem lw_p58 : lw_okq (⟨"BrotliWords$Opener", "finish", "()I"⟩, 16) := ⟨⟨by decide +kernel, by decide +kernel⟩, List.mem_of_getElem? (i := 73) (by decide +kernel), List.mem_of_getElem? (i := 1042) (by decide +kernel), List.mem_of_getElem? (i := 1043) (by decide +kernel)⟩
theorem lw_p59 : lw_okq (⟨"java/lang/Throwable", "fillInStackTrace", "(I)Ljava/lang/Throwable;"⟩, 6) := ⟨⟨by decide +kernel, by decide +kernel⟩, List.mem_of_getElem? (i := 1135) (by decide +kernel), List.mem_of_getElem? (i := 1133) (by decide +kernel), List.mem_of_getElem? (i := 1134) (by decide +kernel)⟩
theorem lw_p60 : lw_okq (⟨"BrotliWordsModel", "ringAtFirst", "()V"⟩, 65) := ⟨⟨by decide +kernel, by decide +kernel⟩, List.mem_of_getElem? (i := 1093) (by decide +kernel), List.mem_of_getElem? (i := 1166) (by decide +kernel), List.mem_of_getElem? (i := 1167) (by decide +kernel)⟩
theorem lw_p61 : lw_okq (⟨"BrotliWordsModel", "emptyTape", "()V"⟩, 65) := ⟨⟨by decide +kernel, by decide +kernel⟩, List.mem_of_getElem? (i := 1093) (by decide +kernel), List.mem_of_getElem? (i := 1393) (by decide +kernel), List.mem_of_getElem? (i := 1394) (by decide +kernel)⟩
theorem lw_p62 : lw_okq (⟨"BrotliWordsModel", "wordAt", "(II)I"⟩, 65) := ⟨⟨by decide +kernel, by decide +kernel⟩, List.mem_of_getElem? (i := 1093) (by decide +kernel), List.mem_of_getElem? (i := 1403) (by decide +kernel), List.mem_of_getElem? (i := 1404) (by decide +kernel)⟩
theorem lw_p63 : lw_okq (⟨"BrotliWordsModel", "allWords", "()I"⟩, 65) := ⟨⟨by decide +kernel, by decide +kernel⟩, List.mem_of_getElem? (i := 1093) (by decide +kernel), List.mem_of_getElem? (i := 1411) (by decide +kernel), List.mem_of_getElem? (i := 1412) (by decide +kernel)⟩
def lw_privs_4 : List (MethodName × Nat) := [(⟨"BrotliWords$Opener", "undoFront", "([II)V"⟩, 16), (⟨"BrotliWords$Opener", "readCodes", "()V"⟩, 16), (⟨"BrotliWords$Opener", "makeCommand", "()V"⟩, 16), (⟨"BrotliWords$Blocks", "changeTo", "(I)V"⟩, 6), (⟨"BrotliWords$Opener", "noteOneMore", "(I)V"⟩, 16), (⟨"BrotliWords$Opener", "makeLiteral", "()V"⟩, 16), (⟨"BrotliWords$Opener", "readDistanceSign", "(I)I"⟩, 16), (⟨"BrotliWords$Opener", "readDistance", "(I)I"⟩, 16), (⟨"BrotliWords$Opener", "makeCopy", "(III)V"⟩, 16), (⟨"BrotliWords$Opener", "makeWord", "(II)V"⟩, 16), (⟨"BrotliWords$Opener", "finish", "()I"⟩, 16), (⟨"java/lang/Throwable", "fillInStackTrace", "(I)Ljava/lang/Throwable;"⟩, 6), (⟨"BrotliWordsModel", "ringAtFirst", "()V"⟩, 65), (⟨"BrotliWordsModel", "emptyTape", "()V"⟩, 65), (⟨"BrotliWordsModel", "wordAt", "(II)I"⟩, 65), (⟨"BrotliWordsModel", "allWords", "()I"⟩, 65)]
theorem lw_r4 : ∀ q ∈ lw_privs_4, lw_okq q := List.forall_mem_cons.mpr ⟨lw_p48, List.forall_mem_cons.mpr ⟨lw_p49, List.forall_mem_cons.mpr ⟨lw_p50, List.forall_mem_cons.mpr ⟨lw_p51, List.forall_mem_cons.mpr ⟨lw_p52, List.forall_mem_cons.mpr ⟨lw_p53, List.forall_mem_cons.mpr ⟨lw_p54, List.forall_mem_cons.mpr ⟨lw_p55, List.forall_mem_cons.mpr ⟨lw_p56, List.forall_mem_cons.mpr ⟨lw_p57, List.forall_mem_cons.mpr ⟨lw_p58, List.forall_mem_cons.mpr ⟨lw_p59, List.forall_mem_cons.mpr ⟨lw_p60, List.forall_mem_cons.mpr ⟨lw_p61, List.forall_mem_cons.mpr ⟨lw_p62, List.forall_mem_cons.mpr ⟨lw_p63, fun _ h => absurd h List.not_mem_nil⟩⟩⟩⟩⟩⟩⟩⟩⟩⟩⟩⟩⟩⟩⟩⟩
theorem lw_p64 : lw_okq (⟨"BrotliWordsModel", "digestNow", "()I"⟩, 65) := ⟨⟨by decide +kernel, by decide +kernel⟩, List.mem_of_getElem? (i := 1093) (by decide +kernel), List.mem_of_getElem? (i := 1419) (by decide +kernel), List.mem_of_getElem? (i := 1420) (by decide +kernel)⟩
theorem lw_p65 : lw_okq (⟨"BrotliWordsModel", "change", "(III)V"⟩, 65) := ⟨⟨by decide +kernel, by decide +kernel⟩, List.mem_of_getElem? (i := 1093) (by decide +kernel), List.mem_of_getElem? (i := 1429) (by decide +kernel), List.mem_of_getElem? (i := 1430) (by decide +kernel)⟩
theorem lw_p66 : lw_okq (⟨"BrotliWordsModel", "putChanged", "(I)V"⟩, 65) := ⟨⟨by decide +kernel, by decide +kernel⟩, List.mem_of_getElem? (i := 1093) (by decide +kernel), List.mem_of_getElem? (i := 1433) (by decide +kernel), List.mem_of_getElem? (i := 1434) (by decide +kernel)⟩
theorem lw_p67 : lw_okq (⟨"BrotliWordsModel", "readAll", "()V"⟩, 65) := ⟨⟨by decide +kernel, by decide +kernel⟩, List.mem_of_getElem? (i := 1093) (by decide +kernel), List.mem_of_getElem? (i := 1441) (by decide +kernel), List.mem_of_getElem? (i := 1442) (by decide +kernel)⟩
theorem lw_p68 : lw_okq (⟨"BrotliWordsModel", "number", "(I)I"⟩, 65) := ⟨⟨by decide +kernel, by decide +kernel⟩, List.mem_of_getElem? (i := 1093) (by decide +kernel), List.mem_of_getElem? (i := 1445) (by decide +kernel), List.mem_of_getElem? (i := 1446) (by decide +kernel)⟩
theorem lw_p69 : lw_okq (⟨"BrotliWordsModel", "bit", "()I"⟩, 65) := ⟨⟨by decide +kernel, by decide +kernel⟩, List.mem_of_getElem? (i := 1093) (by decide +kernel), List.mem_of_getElem? (i := 1449) (by decide +kernel), List.mem_of_getElem? (i := 1450) (by decide +kernel)⟩
theorem lw_p70 : lw_okq (⟨"BrotliWordsModel", "fail", "(I)V"⟩, 65) := ⟨⟨by decide +kernel, by decide +kernel⟩, List.mem_of_getElem? (i := 1093) (by decide +kernel), List.mem_of_getElem? (i := 1453) (by decide +kernel), List.mem_of_getElem? (i := 1454) (by decide +kernel)⟩
theorem lw_p71 : lw_okq (⟨"BrotliWordsModel", "readSpan", "()V"⟩, 65) := ⟨⟨by decide +kernel, by decide +kernel⟩, List.mem_of_getElem? (i := 1093) (by decide +kernel), List.mem_of_getElem? (i := 1457) (by decide +kernel), List.mem_of_getElem? (i := 1458) (by decide +kernel)⟩
theorem lw_p72 : lw_okq (⟨"BrotliWordsModel", "newPart", "(II)V"⟩, 65) := ⟨⟨by decide +kernel, by decide +kernel⟩, List.mem_of_getElem? (i := 1093) (by decide +kernel), List.mem_of_getElem? (i := 1461) (by decide +kernel), List.mem_of_getElem? (i := 1462) (by decide +kernel)⟩
theorem lw_p73 : lw_okq (⟨"BrotliWordsModel", "tell", "(II)V"⟩, 65) := ⟨⟨by decide +kernel, by decide +kernel⟩, List.mem_of_getElem? (i := 1093) (by decide +kernel), List.mem_of_getElem? (i := 1465) (by decide +kernel), List.mem_of_getElem? (i := 1466) (by decide +kernel)⟩
theorem lw_p74 : lw_okq (⟨"BrotliWordsModel", "passOver", "(Z)V"⟩, 65) := ⟨⟨by decide +kernel, by decide +kernel⟩, List.mem_of_getElem? (i := 1093) (by decide +kernel), List.mem_of_getElem? (i := 1470) (by decide +kernel), List.mem_of_getElem? (i := 1471) (by decide +kernel)⟩
theorem lw_p75 : lw_okq (⟨"BrotliWordsModel", "toByte", "()V"⟩, 65) := ⟨⟨by decide +kernel, by decide +kernel⟩, List.mem_of_getElem? (i := 1093) (by decide +kernel), List.mem_of_getElem? (i := 1474) (by decide +kernel), List.mem_of_getElem? (i := 1475) (by decide +kernel)⟩
theorem lw_p76 : lw_okq (⟨"BrotliWordsModel", "readLength", "(I)I"⟩, 65) := ⟨⟨by decide +kernel, by decide +kernel⟩, List.mem_of_getElem? (i := 1093) (by decide +kernel), List.mem_of_getElem? (i := 1478) (by decide +kernel), List.mem_of_getElem? (i := 1479) (by decide +kernel)⟩
theorem lw_p77 : lw_okq (⟨"BrotliWordsModel", "readPart", "(ZI)V"⟩, 65) := ⟨⟨by decide +kernel, by decide +kernel⟩, List.mem_of_getElem? (i := 1093) (by decide +kernel), List.mem_of_getElem? (i := 1482) (by decide +kernel), List.mem_of_getElem? (i := 1483) (by decide +kernel)⟩
theorem lw_p78 : lw_okq (⟨"BrotliWordsModel", "putOut", "(I)V"⟩, 65) := ⟨⟨by decide +kernel, by decide +kernel⟩, List.mem_of_getElem? (i := 1093) (by decide +kernel), List.mem_of_getElem? (i := 1486) (by decide +kernel), List.mem_of_getElem? (i := 1487) (by decide +kernel)⟩
theorem lw_p79 : lw_okq (⟨"BrotliWordsModel", "readCoded", "(I)V"⟩, 65) := ⟨⟨by decide +kernel, by decide +kernel⟩, List.mem_of_getElem? (i := 1093) (by decide +kernel), List.mem_of_getElem? (i := 1490) (by decide +kernel), List.mem_of_getElem? (i := 1491) (by decide +kernel)⟩
def lw_privs_5 : List (MethodName × Nat) := [(⟨"BrotliWordsModel", "digestNow", "()I"⟩, 65), (⟨"BrotliWordsModel", "change", "(III)V"⟩, 65), (⟨"BrotliWordsModel", "putChanged", "(I)V"⟩, 65), (⟨"BrotliWordsModel", "readAll", "()V"⟩, 65), (⟨"BrotliWordsModel", "number", "(I)I"⟩, 65), (⟨"BrotliWordsModel", "bit", "()I"⟩, 65), (⟨"BrotliWordsModel", "fail", "(I)V"⟩, 65), (⟨"BrotliWordsModel", "readSpan", "()V"⟩, 65), (⟨"BrotliWordsModel", "newPart", "(II)V"⟩, 65), (⟨"BrotliWordsModel", "tell", "(II)V"⟩, 65), (⟨"BrotliWordsModel", "passOver", "(Z)V"⟩, 65), (⟨"BrotliWordsModel", "toByte", "()V"⟩, 65), (⟨"BrotliWordsModel", "readLength", "(I)I"⟩, 65), (⟨"BrotliWordsModel", "readPart", "(ZI)V"⟩, 65), (⟨"BrotliWordsModel", "putOut", "(I)V"⟩, 65), (⟨"BrotliWordsModel", "readCoded", "(I)V"⟩, 65)]
theorem lw_r5 : ∀ q ∈ lw_privs_5, lw_okq q := List.forall_mem_cons.mpr ⟨lw_p64, List.forall_mem_cons.mpr ⟨lw_p65, List.forall_mem_cons.mpr ⟨lw_p66, List.forall_mem_cons.mpr ⟨lw_p67, List.forall_mem_cons.mpr ⟨lw_p68, List.forall_mem_cons.mpr ⟨lw_p69, List.forall_mem_cons.mpr ⟨lw_p70, List.forall_mem_cons.mpr ⟨lw_p71, List.forall_mem_cons.mpr ⟨lw_p72, List.forall_mem_cons.mpr ⟨lw_p73, List.forall_mem_cons.mpr ⟨lw_p74, List.forall_mem_cons.mpr ⟨lw_p75, List.forall_mem_cons.mpr ⟨lw_p76, List.forall_mem_cons.mpr ⟨lw_p77, List.forall_mem_cons.mpr ⟨lw_p78, List.forall_mem_cons.mpr ⟨lw_p79, fun _ h => absurd h List.not_mem_nil⟩⟩⟩⟩⟩⟩⟩⟩⟩⟩⟩⟩⟩⟩⟩⟩
theorem lw_p80 : lw_okq (⟨"BrotliWordsModel", "readHeads", "()V"⟩, 65) := ⟨⟨by decide +kernel, by decide +kernel⟩, List.mem_of_getElem? (i := 1093) (by decide +kernel), List.mem_of_getElem? (i := 1494) (by decide +kernel), List.mem_of_getElem? (i := 1495) (by decide +kernel)⟩
theorem lw_p81 : lw_okq (⟨"BrotliWordsModel", "noMaps", "()V"⟩, 65) := ⟨⟨by decide +kernel, by decide +kernel⟩, List.mem_of_getElem? (i := 1093) (by decide +kernel), List.mem_of_getElem? (i := 1498) (by decide +kernel), List.mem_of_getElem? (i := 1499) (by decide +kernel)⟩
theorem lw_p82 : lw_okq (⟨"BrotliWordsModel", "readKinds", "(I)V"⟩, 65) := ⟨⟨by decide +kernel, by decide +kernel⟩, List.mem_of_getElem? (i := 1093) (by decide +kernel), List.mem_of_getElem? (i := 1502) (by decide +kernel), List.mem_of_getElem? (i := 1503) (by decide +kernel)⟩
theorem lw_p83 : lw_okq (⟨"BrotliWordsModel", "howMany", "()I"⟩, 65) := ⟨⟨by decide +kernel, by decide +kernel⟩, List.mem_of_getElem? (i := 1093) (by decide +kernel), List.mem_of_getElem? (i := 1506) (by decide +kernel), List.mem_of_getElem? (i := 1507) (by decide +kernel)⟩
theorem lw_p84 : lw_okq (⟨"BrotliWordsModel", "readCode", "(II)V"⟩, 65) := ⟨⟨by decide +kernel, by decide +kernel⟩, List.mem_of_getElem? (i := 1093) (by decide +kernel), List.mem_of_getElem? (i := 1510) (by decide +kernel), List.mem_of_getElem? (i := 1511) (by decide +kernel)⟩
theorem lw_p85 : lw_okq (⟨"BrotliWordsModel", "noLengths", "(II)V"⟩, 65) := ⟨⟨by decide +kernel, by decide +kernel⟩, List.mem_of_getElem? (i := 1093) (by decide +kernel), List.mem_of_getElem? (i := 1514) (by decide +kernel), List.mem_of_getElem? (i := 1515) (by decide +kernel)⟩
theorem lw_p86 : lw_okq (⟨"BrotliWordsModel", "readFew", "(II)V"⟩, 65) := ⟨⟨by decide +kernel, by decide +kernel⟩, List.mem_of_getElem? (i := 1093) (by decide +kernel), List.mem_of_getElem? (i := 1518) (by decide +kernel), List.mem_of_getElem? (i := 1519) (by decide +kernel)⟩
theorem lw_p87 : lw_okq (⟨"BrotliWordsModel", "readMarks", "(I)V"⟩, 65) := ⟨⟨by decide +kernel, by decide +kernel⟩, List.mem_of_getElem? (i := 1093) (by decide +kernel), List.mem_of_getElem? (i := 1528) (by decide +kernel), List.mem_of_getElem? (i := 1529) (by decide +kernel)⟩
theorem lw_p88 : lw_okq (⟨"BrotliWordsModel", "markLength", "()I"⟩, 65) := ⟨⟨by decide +kernel, by decide +kernel⟩, List.mem_of_getElem? (i := 1093) (by decide +kernel), List.mem_of_getElem? (i := 1532) (by decide +kernel), List.mem_of_getElem? (i := 1533) (by decide +kernel)⟩
theorem lw_p89 : lw_okq (⟨"BrotliWordsModel", "layCodes", "(II)V"⟩, 65) := ⟨⟨by decide +kernel, by decide +kernel⟩, List.mem_of_getElem? (i := 1093) (by decide +kernel), List.mem_of_getElem? (i := 1539) (by decide +kernel), List.mem_of_getElem? (i := 1540) (by decide +kernel)⟩
theorem lw_p90 : lw_okq (⟨"BrotliWordsModel", "readLengths", "(II)V"⟩, 65) := ⟨⟨by decide +kernel, by decide +kernel⟩, List.mem_of_getElem? (i := 1093) (by decide +kernel), List.mem_of_getElem? (i := 1543) (by decide +kernel), List.mem_of_getElem? (i := 1544) (by decide +kernel)⟩
theorem lw_p91 : lw_okq (⟨"BrotliWordsModel", "sign", "(II)I"⟩, 65) := ⟨⟨by decide +kernel, by decide +kernel⟩, List.mem_of_getElem? (i := 1093) (by decide +kernel), List.mem_of_getElem? (i := 1548) (by decide +kernel), List.mem_of_getElem? (i := 1549) (by decide +kernel)⟩
theorem lw_p92 : lw_okq (⟨"BrotliWordsModel", "blockCount", "(I)I"⟩, 65) := ⟨⟨by decide +kernel, by decide +kernel⟩, List.mem_of_getElem? (i := 1093) (by decide +kernel), List.mem_of_getElem? (i := 1552) (by decide +kernel), List.mem_of_getElem? (i := 1553) (by decide +kernel)⟩
theorem lw_p93 : lw_okq (⟨"BrotliWordsModel", "readMap", "([III)V"⟩, 65) := ⟨⟨by decide +kernel, by decide +kernel⟩, List.mem_of_getElem? (i := 1093) (by decide +kernel), List.mem_of_getElem? (i := 1562) (by decide +kernel), List.mem_of_getElem? (i := 1563) (by decide +kernel)⟩
theorem lw_p94 : lw_okq (⟨"BrotliWordsModel", "distanceSigns", "()I"⟩, 65) := ⟨⟨by decide +kernel, by decide +kernel⟩, List.mem_of_getElem? (i := 1093) (by decide +kernel), List.mem_of_getElem? (i := 1566) (by decide +kernel), List.mem_of_getElem? (i := 1567) (by decide +kernel)⟩
theorem lw_p95 : lw_okq (⟨"BrotliWordsModel", "keepCodes", "()V"⟩, 65) := ⟨⟨by decide +kernel, by decide +kernel⟩, List.mem_of_getElem? (i := 1093) (by decide +kernel), List.mem_of_getElem? (i := 1570) (by decide +kernel), List.mem_of_getElem? (i := 1571) (by decide +kernel)⟩
def lw_privs_6 : List (MethodName × Nat) := [(⟨"BrotliWordsModel", "readHeads", "()V"⟩, 65), (⟨"BrotliWordsModel", "noMaps", "()V"⟩, 65), (⟨"BrotliWordsModel", "readKinds", "(I)V"⟩, 65), (⟨"BrotliWordsModel", "howMany", "()I"⟩, 65), (⟨"BrotliWordsModel", "readCode", "(II)V"⟩, 65), (⟨"BrotliWordsModel", "noLengths", "(II)V"⟩, 65), (⟨"BrotliWordsModel", "readFew", "(II)V"⟩, 65), (⟨"BrotliWordsModel", "readMarks", "(I)V"⟩, 65), (⟨"BrotliWordsModel", "markLength", "()I"⟩, 65), (⟨"BrotliWordsModel", "layCodes", "(II)V"⟩, 65), (⟨"BrotliWordsModel", "readLengths", "(II)V"⟩, 65), (⟨"BrotliWordsModel", "sign", "(II)I"⟩, 65), (⟨"BrotliWordsModel", "blockCount", "(I)I"⟩, 65), (⟨"BrotliWordsModel", "readMap", "([III)V"⟩, 65), (⟨"BrotliWordsModel", "distanceSigns", "()I"⟩, 65), (⟨"BrotliWordsModel", "keepCodes", "()V"⟩, 65)]
theorem lw_r6 : ∀ q ∈ lw_privs_6, lw_okq q := List.forall_mem_cons.mpr ⟨lw_p80, List.forall_mem_cons.mpr ⟨lw_p81, List.forall_mem_cons.mpr ⟨lw_p82, List.forall_mem_cons.mpr ⟨lw_p83, List.forall_mem_cons.mpr ⟨lw_p84, List.forall_mem_cons.mpr ⟨lw_p85, List.forall_mem_cons.mpr ⟨lw_p86, List.forall_mem_cons.mpr ⟨lw_p87, List.forall_mem_cons.mpr ⟨lw_p88, List.forall_mem_cons.mpr ⟨lw_p89, List.forall_mem_cons.mpr ⟨lw_p90, List.forall_mem_cons.mpr ⟨lw_p91, List.forall_mem_cons.mpr ⟨lw_p92, List.forall_mem_cons.mpr ⟨lw_p93, List.forall_mem_cons.mpr ⟨lw_p94, List.forall_mem_cons.mpr ⟨lw_p95, fun _ h => absurd h List.not_mem_nil⟩⟩⟩⟩⟩⟩⟩⟩⟩⟩⟩⟩⟩⟩⟩⟩
theorem lw_p96 : lw_okq (⟨"BrotliWordsModel", "takeOne", "(I)V"⟩, 65) := ⟨⟨by decide +kernel, by decide +kernel⟩, List.mem_of_getElem? (i := 1093) (by decide +kernel), List.mem_of_getElem? (i := 1574) (by decide +kernel), List.mem_of_getElem? (i := 1575) (by decide +kernel)⟩
theorem lw_p97 : lw_okq (⟨"BrotliWordsModel", "tellMore", "(I)V"⟩, 65) := ⟨⟨by decide +kernel, by decide +kernel⟩, List.mem_of_getElem? (i := 1093) (by decide +kernel), List.mem_of_getElem? (i := 1596) (by decide +kernel), List.mem_of_getElem? (i := 1597) (by decide +kernel)⟩
theorem lw_p98 : lw_okq (⟨"BrotliWordsModel", "readLiteral", "()V"⟩, 65) := ⟨⟨by decide +kernel, by decide +kernel⟩, List.mem_of_getElem? (i := 1093) (by decide +kernel), List.mem_of_getElem? (i := 1600) (by decide +kernel), List.mem_of_getElem? (i := 1601) (by decide +kernel)⟩
theorem lw_p99 : lw_okq (⟨"BrotliWordsModel", "context", "()I"⟩, 65) := ⟨⟨by decide +kernel, by decide +kernel⟩, List.mem_of_getElem? (i := 1093) (by decide +kernel), List.mem_of_getElem? (i := 1604) (by decide +kernel), List.mem_of_getElem? (i := 1605) (by decide +kernel)⟩
theorem lw_p100 : lw_okq (⟨"BrotliWordsModel", "back", "(I)I"⟩, 65) := ⟨⟨by decide +kernel, by decide +kernel⟩, List.mem_of_getElem? (i := 1093) (by decide +kernel), List.mem_of_getElem? (i := 1608) (by decide +kernel), List.mem_of_getElem? (i := 1609) (by decide +kernel)⟩
theorem lw_p101 : lw_okq (⟨"BrotliWordsModel", "goBack", "(ZII)V"⟩, 65) := ⟨⟨by decide +kernel, by decide +kernel⟩, List.mem_of_getElem? (i := 1093) (by decide +kernel), List.mem_of_getElem? (i := 1635) (by decide +kernel), List.mem_of_getElem? (i := 1636) (by decide +kernel)⟩
theorem lw_p102 : lw_okq (⟨"BrotliWordsModel", "distanceOf", "(I)I"⟩, 65) := ⟨⟨by decide +kernel, by decide +kernel⟩, List.mem_of_getElem? (i := 1093) (by decide +kernel), List.mem_of_getElem? (i := 1639) (by decide +kernel), List.mem_of_getElem? (i := 1640) (by decide +kernel)⟩
theorem lw_p103 : lw_okq (⟨"BrotliWordsModel", "tellWord", "(III)V"⟩, 65) := ⟨⟨by decide +kernel, by decide +kernel⟩, List.mem_of_getElem? (i := 1093) (by decide +kernel), List.mem_of_getElem? (i := 1643) (by decide +kernel), List.mem_of_getElem? (i := 1644) (by decide +kernel)⟩
theorem lw_p104 : lw_okq (⟨"BrotliWordsModel", "bitsOf", "(I)I"⟩, 65) := ⟨⟨by decide +kernel, by decide +kernel⟩, List.mem_of_getElem? (i := 1093) (by decide +kernel), List.mem_of_getElem? (i := 1647) (by decide +kernel), List.mem_of_getElem? (i := 1648) (by decide +kernel)⟩
theorem lw_p105 : lw_okq (⟨"BrotliWordsModel", "toRing", "(I)V"⟩, 65) := ⟨⟨by decide +kernel, by decide +kernel⟩, List.mem_of_getElem? (i := 1093) (by decide +kernel), List.mem_of_getElem? (i := 1651) (by decide +kernel), List.mem_of_getElem? (i := 1652) (by decide +kernel)⟩
theorem lw_p106 : lw_okq (⟨"BrotliWordsModel", "write", "(II)V"⟩, 65) := ⟨⟨by decide +kernel, by decide +kernel⟩, List.mem_of_getElem? (i := 1093) (by decide +kernel), List.mem_of_getElem? (i := 1698) (by decide +kernel), List.mem_of_getElem? (i := 1699) (by decide +kernel)⟩
theorem lw_p107 : lw_okq (⟨"BrotliWordsModel", "packRaw", "()V"⟩, 65) := ⟨⟨by decide +kernel, by decide +kernel⟩, List.mem_of_getElem? (i := 1093) (by decide +kernel), List.mem_of_getElem? (i := 1702) (by decide +kernel), List.mem_of_getElem? (i := 1703) (by decide +kernel)⟩
theorem lw_p108 : lw_okq (⟨"BrotliWordsModel", "writeToByte", "()V"⟩, 65) := ⟨⟨by decide +kernel, by decide +kernel⟩, List.mem_of_getElem? (i := 1093) (by decide +kernel), List.mem_of_getElem? (i := 1706) (by decide +kernel), List.mem_of_getElem? (i := 1707) (by decide +kernel)⟩
theorem lw_p109 : lw_okq (⟨"BrotliWordsModel", "packCoded", "(I)V"⟩, 65) := ⟨⟨by decide +kernel, by decide +kernel⟩, List.mem_of_getElem? (i := 1093) (by decide +kernel), List.mem_of_getElem? (i := 1710) (by decide +kernel), List.mem_of_getElem? (i := 1711) (by decide +kernel)⟩
theorem lw_p110 : lw_okq (⟨"BrotliWordsModel", "findWays", "(I)V"⟩, 65) := ⟨⟨by decide +kernel, by decide +kernel⟩, List.mem_of_getElem? (i := 1093) (by decide +kernel), List.mem_of_getElem? (i := 1714) (by decide +kernel), List.mem_of_getElem? (i := 1715) (by decide +kernel)⟩
theorem lw_p111 : lw_okq (⟨"BrotliWordsModel", "findCopy", "(I)V"⟩, 65) := ⟨⟨by decide +kernel, by decide +kernel⟩, List.mem_of_getElem? (i := 1093) (by decide +kernel), List.mem_of_getElem? (i := 1718) (by decide +kernel), List.mem_of_getElem? (i := 1719) (by decide +kernel)⟩
def lw_privs_7 : List (MethodName × Nat) := [(⟨"BrotliWordsModel", "takeOne", "(I)V"⟩, 65), (⟨"BrotliWordsModel", "tellMore", "(I)V"⟩, 65), (⟨"BrotliWordsModel", "readLiteral", "()V"⟩, 65), (⟨"BrotliWordsModel", "context", "()I"⟩, 65), (⟨"BrotliWordsModel", "back", "(I)I"⟩, 65), (⟨"BrotliWordsModel", "goBack", "(ZII)V"⟩, 65), (⟨"BrotliWordsModel", "distanceOf", "(I)I"⟩, 65), (⟨"BrotliWordsModel", "tellWord", "(III)V"⟩, 65), (⟨"BrotliWordsModel", "bitsOf", "(I)I"⟩, 65), (⟨"BrotliWordsModel", "toRing", "(I)V"⟩, 65), (⟨"BrotliWordsModel", "write", "(II)V"⟩, 65), (⟨"BrotliWordsModel", "packRaw", "()V"⟩, 65), (⟨"BrotliWordsModel", "writeToByte", "()V"⟩, 65), (⟨"BrotliWordsModel", "packCoded", "(I)V"⟩, 65), (⟨"BrotliWordsModel", "findWays", "(I)V"⟩, 65), (⟨"BrotliWordsModel", "findCopy", "(I)V"⟩, 65)]
theorem lw_r7 : ∀ q ∈ lw_privs_7, lw_okq q := List.forall_mem_cons.mpr ⟨lw_p96, List.forall_mem_cons.mpr ⟨lw_p97, List.forall_mem_cons.mpr ⟨lw_p98, List.forall_mem_cons.mpr ⟨lw_p99, List.forall_mem_cons.mpr ⟨lw_p100, List.forall_mem_cons.mpr ⟨lw_p101, List.forall_mem_cons.mpr ⟨lw_p102, List.forall_mem_cons.mpr ⟨lw_p103, List.forall_mem_cons.mpr ⟨lw_p104, List.forall_mem_cons.mpr ⟨lw_p105, List.forall_mem_cons.mpr ⟨lw_p106, List.forall_mem_cons.mpr ⟨lw_p107, List.forall_mem_cons.mpr ⟨lw_p108, List.forall_mem_cons.mpr ⟨lw_p109, List.forall_mem_cons.mpr ⟨lw_p110, List.forall_mem_cons.mpr ⟨lw_p111, fun _ h => absurd h List.not_mem_nil⟩⟩⟩⟩⟩⟩⟩⟩⟩⟩⟩⟩⟩⟩⟩⟩
theorem lw_p112 : lw_okq (⟨"BrotliWordsModel", "findWord", "(I)V"⟩, 65) := ⟨⟨by decide +kernel, by decide +kernel⟩, List.mem_of_getElem? (i := 1093) (by decide +kernel), List.mem_of_getElem? (i := 1722) (by decide +kernel), List.mem_of_getElem? (i := 1723) (by decide +kernel)⟩
theorem lw_p113 : lw_okq (⟨"BrotliWordsModel", "findCommands", "()V"⟩, 65) := ⟨⟨by decide +kernel, by decide +kernel⟩, List.mem_of_getElem? (i := 1093) (by decide +kernel), List.mem_of_getElem? (i := 1727) (by decide +kernel), List.mem_of_getElem? (i := 1728) (by decide +kernel)⟩
theorem lw_p114 : lw_okq (⟨"BrotliWordsModel", "madeBy", "(I)I"⟩, 65) := ⟨⟨by decide +kernel, by decide +kernel⟩, List.mem_of_getElem? (i := 1093) (by decide +kernel), List.mem_of_getElem? (i := 1731) (by decide +kernel), List.mem_of_getElem? (i := 1732) (by decide +kernel)⟩
theorem lw_p115 : lw_okq (⟨"BrotliWordsModel", "addCommand", "(IIIZZ)V"⟩, 65) := ⟨⟨by decide +kernel, by decide +kernel⟩, List.mem_of_getElem? (i := 1093) (by decide +kernel), List.mem_of_getElem? (i := 1735) (by decide +kernel), List.mem_of_getElem? (i := 1736) (by decide +kernel)⟩
theorem lw_p116 : lw_okq (⟨"BrotliWordsModel", "signOf", "(I)I"⟩, 65) := ⟨⟨by decide +kernel, by decide +kernel⟩, List.mem_of_getElem? (i := 1093) (by decide +kernel), List.mem_of_getElem? (i := 1739) (by decide +kernel), List.mem_of_getElem? (i := 1740) (by decide +kernel)⟩
theorem lw_p117 : lw_okq (⟨"BrotliWordsModel", "writeCodes", "()V"⟩, 65) := ⟨⟨by decide +kernel, by decide +kernel⟩, List.mem_of_getElem? (i := 1093) (by decide +kernel), List.mem_of_getElem? (i := 1749) (by decide +kernel), List.mem_of_getElem? (i := 1750) (by decide +kernel)⟩
theorem lw_p118 : lw_okq (⟨"BrotliWordsModel", "countSigns", "()V"⟩, 65) := ⟨⟨by decide +kernel, by decide +kernel⟩, List.mem_of_getElem? (i := 1093) (by decide +kernel), List.mem_of_getElem? (i := 1753) (by decide +kernel), List.mem_of_getElem? (i := 1754) (by decide +kernel)⟩
theorem lw_p119 : lw_okq (⟨"BrotliWordsModel", "writeCode", "(II)V"⟩, 65) := ⟨⟨by decide +kernel, by decide +kernel⟩, List.mem_of_getElem? (i := 1093) (by decide +kernel), List.mem_of_getElem? (i := 1757) (by decide +kernel), List.mem_of_getElem? (i := 1758) (by decide +kernel)⟩
theorem lw_p120 : lw_okq (⟨"BrotliWordsModel", "findLengths", "(III)I"⟩, 65) := ⟨⟨by decide +kernel, by decide +kernel⟩, List.mem_of_getElem? (i := 1093) (by decide +kernel), List.mem_of_getElem? (i := 1761) (by decide +kernel), List.mem_of_getElem? (i := 1762) (by decide +kernel)⟩
theorem lw_p121 : lw_okq (⟨"BrotliWordsModel", "joinAll", "(III)I"⟩, 65) := ⟨⟨by decide +kernel, by decide +kernel⟩, List.mem_of_getElem? (i := 1093) (by decide +kernel), List.mem_of_getElem? (i := 1765) (by decide +kernel), List.mem_of_getElem? (i := 1766) (by decide +kernel)⟩
theorem lw_p122 : lw_okq (⟨"BrotliWordsModel", "leastOpen", "(I)I"⟩, 65) := ⟨⟨by decide +kernel, by decide +kernel⟩, List.mem_of_getElem? (i := 1093) (by decide +kernel), List.mem_of_getElem? (i := 1769) (by decide +kernel), List.mem_of_getElem? (i := 1770) (by decide +kernel)⟩
theorem lw_p123 : lw_okq (⟨"BrotliWordsModel", "writeFew", "(III)V"⟩, 65) := ⟨⟨by decide +kernel, by decide +kernel⟩, List.mem_of_getElem? (i := 1093) (by decide +kernel), List.mem_of_getElem? (i := 1773) (by decide +kernel), List.mem_of_getElem? (i := 1774) (by decide +kernel)⟩
theorem lw_p124 : lw_okq (⟨"BrotliWordsModel", "findMarks", "(II)V"⟩, 65) := ⟨⟨by decide +kernel, by decide +kernel⟩, List.mem_of_getElem? (i := 1093) (by decide +kernel), List.mem_of_getElem? (i := 1777) (by decide +kernel), List.mem_of_getElem? (i := 1778) (by decide +kernel)⟩
theorem lw_p125 : lw_okq (⟨"BrotliWordsModel", "putMark", "(II)V"⟩, 65) := ⟨⟨by decide +kernel, by decide +kernel⟩, List.mem_of_getElem? (i := 1093) (by decide +kernel), List.mem_of_getElem? (i := 1781) (by decide +kernel), List.mem_of_getElem? (i := 1782) (by decide +kernel)⟩
theorem lw_p126 : lw_okq (⟨"BrotliWordsModel", "writeMarkLength", "(I)V"⟩, 65) := ⟨⟨by decide +kernel, by decide +kernel⟩, List.mem_of_getElem? (i := 1093) (by decide +kernel), List.mem_of_getElem? (i := 1785) (by decide +kernel), List.mem_of_getElem? (i := 1786) (by decide +kernel)⟩
theorem lw_p127 : lw_okq (⟨"BrotliWordsModel", "writeSign", "(II)V"⟩, 65) := ⟨⟨by decide +kernel, by decide +kernel⟩, List.mem_of_getElem? (i := 1093) (by decide +kernel), List.mem_of_getElem? (i := 1789) (by decide +kernel), List.mem_of_getElem? (i := 1790) (by decide +kernel)⟩
def lw_privs_8 : List (MethodName × Nat) := [(⟨"BrotliWordsModel", "findWord", "(I)V"⟩, 65), (⟨"BrotliWordsModel", "findCommands", "()V"⟩, 65), (⟨"BrotliWordsModel", "madeBy", "(I)I"⟩, 65), (⟨"BrotliWordsModel", "addCommand", "(IIIZZ)V"⟩, 65), (⟨"BrotliWordsModel", "signOf", "(I)I"⟩, 65), (⟨"BrotliWordsModel", "writeCodes", "()V"⟩, 65), (⟨"BrotliWordsModel", "countSigns", "()V"⟩, 65), (⟨"BrotliWordsModel", "writeCode", "(II)V"⟩, 65), (⟨"BrotliWordsModel", "findLengths", "(III)I"⟩, 65), (⟨"BrotliWordsModel", "joinAll", "(III)I"⟩, 65), (⟨"BrotliWordsModel", "leastOpen", "(I)I"⟩, 65), (⟨"BrotliWordsModel", "writeFew", "(III)V"⟩, 65), (⟨"BrotliWordsModel", "findMarks", "(II)V"⟩, 65), (⟨"BrotliWordsModel", "putMark", "(II)V"⟩, 65), (⟨"BrotliWordsModel", "writeMarkLength", "(I)V"⟩, 65), (⟨"BrotliWordsModel", "writeSign", "(II)V"⟩, 65)]
theorem lw_r8 : ∀ q ∈ lw_privs_8, lw_okq q := List.forall_mem_cons.mpr ⟨lw_p112, List.forall_mem_cons.mpr ⟨lw_p113, List.forall_mem_cons.mpr ⟨lw_p114, List.forall_mem_cons.mpr ⟨lw_p115, List.forall_mem_cons.mpr ⟨lw_p116, List.forall_mem_cons.mpr ⟨lw_p117, List.forall_mem_cons.mpr ⟨lw_p118, List.forall_mem_cons.mpr ⟨lw_p119, List.forall_mem_cons.mpr ⟨lw_p120, List.forall_mem_cons.mpr ⟨lw_p121, List.forall_mem_cons.mpr ⟨lw_p122, List.forall_mem_cons.mpr ⟨lw_p123, List.forall_mem_cons.mpr ⟨lw_p124, List.forall_mem_cons.mpr ⟨lw_p125, List.forall_mem_cons.mpr ⟨lw_p126, List.forall_mem_cons.mpr ⟨lw_p127, fun _ h => absurd h List.not_mem_nil⟩⟩⟩⟩⟩⟩⟩⟩⟩⟩⟩⟩⟩⟩⟩⟩
theorem lw_p128 : lw_okq (⟨"BrotliWordsModel", "writeCommands", "()V"⟩, 65) := ⟨⟨by decide +kernel, by decide +kernel⟩, List.mem_of_getElem? (i := 1093) (by decide +kernel), List.mem_of_getElem? (i := 1793) (by decide +kernel), List.mem_of_getElem? (i := 1794) (by decide +kernel)⟩
def lw_privs_9 : List (MethodName × Nat) := [(⟨"BrotliWordsModel", "writeCommands", "()V"⟩, 65)]
theorem lw_r9 : ∀ q ∈ lw_privs_9, lw_okq q := List.forall_mem_cons.mpr ⟨lw_p128, fun _ h => absurd h List.not_mem_nil⟩
def lw_privs : List (MethodName × Nat) := lw_privs_1 ++ (lw_privs_2 ++ (lw_privs_3 ++ (lw_privs_4 ++ (lw_privs_5 ++ (lw_privs_6 ++ (lw_privs_7 ++ (lw_privs_8 ++ (lw_privs_9))))))))
def lw_tbl : List Cond := k2_sels lw_privs ++ tables_1
theorem lw_privs_ok : ∀ q ∈ lw_privs, lw_okq q := by
  show ∀ q ∈ lw_privs_1 ++ (lw_privs_2 ++ (lw_privs_3 ++ (lw_privs_4 ++ (lw_privs_5 ++ (lw_privs_6 ++ (lw_privs_7 ++ (lw_privs_8 ++ (lw_privs_9)))))))), lw_okq q
  exact List.forall_mem_append.mpr ⟨lw_r1, List.forall_mem_append.mpr ⟨lw_r2, List.forall_mem_append.mpr ⟨lw_r3, List.forall_mem_append.mpr ⟨lw_r4, List.forall_mem_append.mpr ⟨lw_r5, List.forall_mem_append.mpr ⟨lw_r6, List.forall_mem_append.mpr ⟨lw_r7, List.forall_mem_append.mpr ⟨lw_r8, lw_r9⟩⟩⟩⟩⟩⟩⟩⟩
def RX0 : String := "BrotliWords$BitReader"
def TX0 : u_T := fun k => match k with
  | 0 => ("BrotliWords$BitReader", "tape", "LBrotliWords$Bytes;", true)
  | 1 => ("BrotliWords$BitReader", "at", "I", false)
  | 2 => ("BrotliWords$BitReader", "limit", "I", false)
  | _ => ("BrotliWords$BitReader", "rule", "I", false)
def tyX0 : Nat → FieldType := fun k => match k with
  | 0 => .object "BrotliWords$Bytes"
  | 1 => .int
  | 2 => .int
  | _ => .int
abbrev wsX00 : List Cond := u_ws RX0 TX0 4
theorem nmX0 : ∀ a, a < 4 → ∀ b, b < 4 → a ≠ b → (TX0 a).2.1 ≠ (TX0 b).2.1 := by decide +kernel
theorem tyX0_ok : ∀ k, k < 4 → parseFieldDescriptor (TX0 k).2.2.1 = some (tyX0 k) := by decide +kernel
def RX1 : String := "BrotliWords$Blocks"
def TX1 : u_T := fun k => match k with
  | 0 => ("BrotliWords$Blocks", "kindCode", "LBrotliWords$Code;", true)
  | 1 => ("BrotliWords$Blocks", "countCode", "LBrotliWords$Code;", true)
  | 2 => ("BrotliWords$Blocks", "kinds", "I", false)
  | 3 => ("BrotliWords$Blocks", "kind", "I", false)
  | 4 => ("BrotliWords$Blocks", "before", "I", false)
  | _ => ("BrotliWords$Blocks", "left", "I", false)
def tyX1 : Nat → FieldType := fun k => match k with
  | 0 => .object "BrotliWords$Code"
  | 1 => .object "BrotliWords$Code"
  | 2 => .int
  | 3 => .int
  | 4 => .int
  | _ => .int
abbrev wsX10 : List Cond := u_ws RX1 TX1 6
theorem nmX1 : ∀ a, a < 6 → ∀ b, b < 6 → a ≠ b → (TX1 a).2.1 ≠ (TX1 b).2.1 := by decide +kernel
theorem tyX1_ok : ∀ k, k < 6 → parseFieldDescriptor (TX1 k).2.2.1 = some (tyX1 k) := by decide +kernel
def RX2 : String := "BrotliWords$Bytes"
def TX2 : u_T := fun k => match k with
  | 0 => ("BrotliWords$Bytes", "row", "[B", true)
  | 1 => ("BrotliWords$Bytes", "size", "I", false)
  | _ => ("BrotliWords$Bytes", "bitSize", "I", false)
def tyX2 : Nat → FieldType := fun k => match k with
  | 0 => .array .byte
  | 1 => .int
  | _ => .int
abbrev wsX20 : List Cond := u_ws RX2 TX2 3
theorem nmX2 : ∀ a, a < 3 → ∀ b, b < 3 → a ≠ b → (TX2 a).2.1 ≠ (TX2 b).2.1 := by decide +kernel
theorem tyX2_ok : ∀ k, k < 3 → parseFieldDescriptor (TX2 k).2.2.1 = some (tyX2 k) := by decide +kernel
def RX3 : String := "BrotliWords$Code"
def TX3 : u_T := fun k => match k with
  | 0 => ("BrotliWords$Code", "signs", "[I", true)
  | 1 => ("BrotliWords$Code", "many", "[I", true)
  | _ => ("BrotliWords$Code", "used", "I", false)
def tyX3 : Nat → FieldType := fun k => match k with
  | 0 => .array .int
  | 1 => .array .int
  | _ => .int
abbrev wsX30 : List Cond := u_ws RX3 TX3 3
theorem nmX3 : ∀ a, a < 3 → ∀ b, b < 3 → a ≠ b → (TX3 a).2.1 ≠ (TX3 b).2.1 := by decide +kernel
theorem tyX3_ok : ∀ k, k < 3 → parseFieldDescriptor (TX3 k).2.2.1 = some (tyX3 k) := by decide +kernel
def RX4 : String := "BrotliWords$CodeReader"
def TX4 : u_T := fun k => match k with
  | 0 => ("BrotliWords$CodeReader", "reader", "LBrotliWords$BitReader;", true)
  | 1 => ("BrotliWords$CodeReader", "lengths", "[I", true)
  | 2 => ("BrotliWords$CodeReader", "markLengths", "[I", true)
  | 3 => ("BrotliWords$CodeReader", "toldSigns", "[I", true)
  | 4 => ("BrotliWords$CodeReader", "marks", "LBrotliWords$Code;", true)
  | 5 => ("BrotliWords$CodeReader", "filled", "I", false)
  | 6 => ("BrotliWords$CodeReader", "sum", "I", false)
  | _ => ("BrotliWords$CodeReader", "latest", "I", false)
def tyX4 : Nat → FieldType := fun k => match k with
  | 0 => .object "BrotliWords$BitReader"
  | 1 => .array .int
  | 2 => .array .int
  | 3 => .array .int
  | 4 => .object "BrotliWords$Code"
  | 5 => .int
  | 6 => .int
  | _ => .int
abbrev wsX40 : List Cond := u_ws RX4 TX4 8
theorem nmX4 : ∀ a, a < 8 → ∀ b, b < 8 → a ≠ b → (TX4 a).2.1 ≠ (TX4 b).2.1 := by decide +kernel
theorem tyX4_ok : ∀ k, k < 8 → parseFieldDescriptor (TX4 k).2.2.1 = some (tyX4 k) := by decide +kernel
def RX5 : String := "BrotliWords$CodeWriter"
def TX5 : u_T := fun k => match k with
  | 0 => ("BrotliWords$CodeWriter", "weights", "[I", true)
  | 1 => ("BrotliWords$CodeWriter", "lengths", "[I", true)
  | 2 => ("BrotliWords$CodeWriter", "codes", "[I", true)
  | 3 => ("BrotliWords$CodeWriter", "order", "[I", true)
  | 4 => ("BrotliWords$CodeWriter", "marks", "[I", true)
  | 5 => ("BrotliWords$CodeWriter", "runs", "[I", true)
  | 6 => ("BrotliWords$CodeWriter", "nodeWeights", "[I", true)
  | 7 => ("BrotliWords$CodeWriter", "parents", "[I", true)
  | 8 => ("BrotliWords$CodeWriter", "depths", "[I", true)
  | 9 => ("BrotliWords$CodeWriter", "used", "I", false)
  | _ => ("BrotliWords$CodeWriter", "markCount", "I", false)
def tyX5 : Nat → FieldType := fun k => match k with
  | 0 => .array .int
  | 1 => .array .int
  | 2 => .array .int
  | 3 => .array .int
  | 4 => .array .int
  | 5 => .array .int
  | 6 => .array .int
  | 7 => .array .int
  | 8 => .array .int
  | 9 => .int
  | _ => .int
abbrev wsX50 : List Cond := u_ws RX5 TX5 11
theorem nmX5 : ∀ a, a < 11 → ∀ b, b < 11 → a ≠ b → (TX5 a).2.1 ≠ (TX5 b).2.1 := by decide +kernel
theorem tyX5_ok : ∀ k, k < 11 → parseFieldDescriptor (TX5 k).2.2.1 = some (tyX5 k) := by decide +kernel
def RX6 : String := "BrotliWords$Finder"
def TX6 : u_T := fun k => match k with
  | 0 => ("BrotliWords$Finder", "copyMade", "[I", true)
  | 1 => ("BrotliWords$Finder", "copyBack", "[I", true)
  | 2 => ("BrotliWords$Finder", "wordMade", "[I", true)
  | 3 => ("BrotliWords$Finder", "wordKey", "[I", true)
  | 4 => ("BrotliWords$Finder", "tape", "LBrotliWords$Bytes;", true)
  | 5 => ("BrotliWords$Finder", "words", "LBrotliWords$Words;", true)
  | 6 => ("BrotliWords$Finder", "placeHead", "[I", true)
  | 7 => ("BrotliWords$Finder", "placeBefore", "[I", true)
  | 8 => ("BrotliWords$Finder", "coreHead", "[I", true)
  | 9 => ("BrotliWords$Finder", "coreBefore", "[I", true)
  | 10 => ("BrotliWords$Finder", "known", "I", false)
  | _ => ("BrotliWords$Finder", "size", "I", false)
def tyX6 : Nat → FieldType := fun k => match k with
  | 0 => .array .int
  | 1 => .array .int
  | 2 => .array .int
  | 3 => .array .int
  | 4 => .object "BrotliWords$Bytes"
  | 5 => .object "BrotliWords$Words"
  | 6 => .array .int
  | 7 => .array .int
  | 8 => .array .int
  | 9 => .array .int
  | 10 => .int
  | _ => .int
abbrev wsX60 : List Cond := u_ws RX6 TX6 12
theorem nmX6 : ∀ a, a < 12 → ∀ b, b < 12 → a ≠ b → (TX6 a).2.1 ≠ (TX6 b).2.1 := by decide +kernel
theorem tyX6_ok : ∀ k, k < 12 → parseFieldDescriptor (TX6 k).2.2.1 = some (tyX6 k) := by decide +kernel
def RX7 : String := "BrotliWords$Layout"
def TX7 : u_T := fun k => match k with
  | 0 => ("BrotliWords$Layout", "kinds", "[I", true)
  | 1 => ("BrotliWords$Layout", "trees", "[I", true)
  | 2 => ("BrotliWords$Layout", "modes", "[I", true)
  | 3 => ("BrotliWords$Layout", "literalMap", "[I", true)
  | 4 => ("BrotliWords$Layout", "distanceMap", "[I", true)
  | 5 => ("BrotliWords$Layout", "literals", "[LBrotliWords$Code;", true)
  | 6 => ("BrotliWords$Layout", "commands", "[LBrotliWords$Code;", true)
  | 7 => ("BrotliWords$Layout", "distances", "[LBrotliWords$Code;", true)
  | 8 => ("BrotliWords$Layout", "postfix", "I", false)
  | _ => ("BrotliWords$Layout", "direct", "I", false)
def tyX7 : Nat → FieldType := fun k => match k with
  | 0 => .array .int
  | 1 => .array .int
  | 2 => .array .int
  | 3 => .array .int
  | 4 => .array .int
  | 5 => .array (.object "BrotliWords$Code")
  | 6 => .array (.object "BrotliWords$Code")
  | 7 => .array (.object "BrotliWords$Code")
  | 8 => .int
  | _ => .int
abbrev wsX70 : List Cond := u_ws RX7 TX7 10
theorem nmX7 : ∀ a, a < 10 → ∀ b, b < 10 → a ≠ b → (TX7 a).2.1 ≠ (TX7 b).2.1 := by decide +kernel
theorem tyX7_ok : ∀ k, k < 10 → parseFieldDescriptor (TX7 k).2.2.1 = some (tyX7 k) := by decide +kernel
def RX8 : String := "BrotliWords$Opener"
def TX8 : u_T := fun k => match k with
  | 0 => ("BrotliWords$Opener", "reader", "LBrotliWords$BitReader;", true)
  | 1 => ("BrotliWords$Opener", "lastFour", "[I", true)
  | 2 => ("BrotliWords$Opener", "parts", "[I", true)
  | 3 => ("BrotliWords$Opener", "partCount", "I", false)
  | 4 => ("BrotliWords$Opener", "told", "LBrotliWords$Layout;", false)
  | 5 => ("BrotliWords$Opener", "anyTold", "Z", false)
  | 6 => ("BrotliWords$Opener", "coming", "LBrotliWords$Layout;", false)
  | 7 => ("BrotliWords$Opener", "made", "LBrotliWords$Bytes;", true)
  | 8 => ("BrotliWords$Opener", "words", "LBrotliWords$Words;", true)
  | 9 => ("BrotliWords$Opener", "codes", "LBrotliWords$CodeReader;", true)
  | 10 => ("BrotliWords$Opener", "mapCode", "LBrotliWords$Code;", true)
  | 11 => ("BrotliWords$Opener", "front", "[I", true)
  | 12 => ("BrotliWords$Opener", "blocks", "[LBrotliWords$Blocks;", true)
  | 13 => ("BrotliWords$Opener", "range", "I", false)
  | 14 => ("BrotliWords$Opener", "goal", "I", false)
  | _ => ("BrotliWords$Opener", "last", "Z", false)
def tyX8 : Nat → FieldType := fun k => match k with
  | 0 => .object "BrotliWords$BitReader"
  | 1 => .array .int
  | 2 => .array .int
  | 3 => .int
  | 4 => .object "BrotliWords$Layout"
  | 5 => .boolean
  | 6 => .object "BrotliWords$Layout"
  | 7 => .object "BrotliWords$Bytes"
  | 8 => .object "BrotliWords$Words"
  | 9 => .object "BrotliWords$CodeReader"
  | 10 => .object "BrotliWords$Code"
  | 11 => .array .int
  | 12 => .array (.object "BrotliWords$Blocks")
  | 13 => .int
  | 14 => .int
  | _ => .boolean
abbrev wsX80 : List Cond := u_ws RX8 TX8 16
theorem nmX8 : ∀ a, a < 16 → ∀ b, b < 16 → a ≠ b → (TX8 a).2.1 ≠ (TX8 b).2.1 := by decide +kernel
theorem tyX8_ok : ∀ k, k < 16 → parseFieldDescriptor (TX8 k).2.2.1 = some (tyX8 k) := by decide +kernel
def RX9 : String := "BrotliWords$Packer"
def TX9 : u_T := fun k => match k with
  | 0 => ("BrotliWords$Packer", "inserts", "[I", true)
  | 1 => ("BrotliWords$Packer", "copies", "[I", true)
  | 2 => ("BrotliWords$Packer", "backs", "[I", true)
  | 3 => ("BrotliWords$Packer", "signs", "[I", true)
  | 4 => ("BrotliWords$Packer", "many", "I", false)
  | 5 => ("BrotliWords$Packer", "backSigns", "[I", true)
  | 6 => ("BrotliWords$Packer", "makes", "[I", true)
  | 7 => ("BrotliWords$Packer", "choice", "[I", true)
  | 8 => ("BrotliWords$Packer", "cost", "[I", true)
  | 9 => ("BrotliWords$Packer", "lastFour", "[I", true)
  | 10 => ("BrotliWords$Packer", "tape", "LBrotliWords$Bytes;", true)
  | 11 => ("BrotliWords$Packer", "to", "LBrotliWords$Bytes;", true)
  | 12 => ("BrotliWords$Packer", "words", "LBrotliWords$Words;", true)
  | 13 => ("BrotliWords$Packer", "finder", "LBrotliWords$Finder;", true)
  | 14 => ("BrotliWords$Packer", "literalCode", "LBrotliWords$CodeWriter;", true)
  | 15 => ("BrotliWords$Packer", "commandCode", "LBrotliWords$CodeWriter;", true)
  | 16 => ("BrotliWords$Packer", "distanceCode", "LBrotliWords$CodeWriter;", true)
  | _ => ("BrotliWords$Packer", "markCode", "LBrotliWords$CodeWriter;", true)
def tyX9 : Nat → FieldType := fun k => match k with
  | 0 => .array .int
  | 1 => .array .int
  | 2 => .array .int
  | 3 => .array .int
  | 4 => .int
  | 5 => .array .int
  | 6 => .array .int
  | 7 => .array .int
  | 8 => .array .int
  | 9 => .array .int
  | 10 => .object "BrotliWords$Bytes"
  | 11 => .object "BrotliWords$Bytes"
  | 12 => .object "BrotliWords$Words"
  | 13 => .object "BrotliWords$Finder"
  | 14 => .object "BrotliWords$CodeWriter"
  | 15 => .object "BrotliWords$CodeWriter"
  | 16 => .object "BrotliWords$CodeWriter"
  | _ => .object "BrotliWords$CodeWriter"
abbrev wsX90 : List Cond := u_ws RX9 TX9 18
theorem nmX9 : ∀ a, a < 18 → ∀ b, b < 18 → a ≠ b → (TX9 a).2.1 ≠ (TX9 b).2.1 := by decide +kernel
theorem tyX9_ok : ∀ k, k < 18 → parseFieldDescriptor (TX9 k).2.2.1 = some (tyX9 k) := by decide +kernel
def RX10 : String := "BrotliWords$Words"
def TX10 : u_T := fun k => match k with
  | 0 => ("BrotliWords$Words", "row", "[B", true)
  | _ => ("BrotliWords$Words", "many", "[I", true)
def tyX10 : Nat → FieldType := fun k => match k with
  | 0 => .array .byte
  | _ => .array .int
abbrev wsX100 : List Cond := u_ws RX10 TX10 2
theorem nmX10 : ∀ a, a < 2 → ∀ b, b < 2 → a ≠ b → (TX10 a).2.1 ≠ (TX10 b).2.1 := by decide +kernel
theorem tyX10_ok : ∀ k, k < 2 → parseFieldDescriptor (TX10 k).2.2.1 = some (tyX10 k) := by decide +kernel
def RX11 : String := "BrotliWords"
def TX11 : u_T := fun k => match k with
  | 0 => ("BrotliWords", "tape", "LBrotliWords$Bytes;", true)
  | 1 => ("BrotliWords", "made", "LBrotliWords$Bytes;", true)
  | 2 => ("BrotliWords", "words", "LBrotliWords$Words;", true)
  | 3 => ("BrotliWords", "opener", "LBrotliWords$Opener;", true)
  | _ => ("BrotliWords", "packer", "LBrotliWords$Packer;", true)
def tyX11 : Nat → FieldType := fun k => match k with
  | 0 => .object "BrotliWords$Bytes"
  | 1 => .object "BrotliWords$Bytes"
  | 2 => .object "BrotliWords$Words"
  | 3 => .object "BrotliWords$Opener"
  | _ => .object "BrotliWords$Packer"
abbrev wsX110 : List Cond := u_ws RX11 TX11 5
theorem nmX11 : ∀ a, a < 5 → ∀ b, b < 5 → a ≠ b → (TX11 a).2.1 ≠ (TX11 b).2.1 := by decide +kernel
theorem tyX11_ok : ∀ k, k < 5 → parseFieldDescriptor (TX11 k).2.2.1 = some (tyX11 k) := by decide +kernel
def RX12 : String := "BrotliWordsModel$Stop"
def TX12 : u_T := fun k => match k with
  | 0 => ("java/lang/Throwable", "cause", "Ljava/lang/Throwable;", false)
  | 1 => ("java/lang/Throwable", "stackTrace", "[Ljava/lang/StackTraceElement;", false)
  | 2 => ("java/lang/Throwable", "suppressedExceptions", "Ljava/util/List;", false)
  | 3 => ("java/lang/Throwable", "detailMessage", "Ljava/lang/String;", false)
  | 4 => ("java/lang/Throwable", "backtrace", "Ljava/lang/Object;", false)
  | 5 => ("java/lang/Throwable", "depth", "I", false)
  | _ => ("BrotliWordsModel$Stop", "rule", "I", false)
def tyX12 : Nat → FieldType := fun k => match k with
  | 0 => .object "java/lang/Throwable"
  | 1 => .array (.object "java/lang/StackTraceElement")
  | 2 => .object "java/util/List"
  | 3 => .object "java/lang/String"
  | 4 => .object "java/lang/Object"
  | 5 => .int
  | _ => .int
abbrev wsX120 : List Cond := u_ws RX12 TX12 7
theorem nmX12 : ∀ a, a < 7 → ∀ b, b < 7 → a ≠ b → (TX12 a).2.1 ≠ (TX12 b).2.1 := by decide +kernel
theorem tyX12_ok : ∀ k, k < 7 → parseFieldDescriptor (TX12 k).2.2.1 = some (tyX12 k) := by decide +kernel
def RX13 : String := "BrotliWordsModel"
def TX13 : u_T := fun k => match k with
  | 0 => ("BrotliWordsModel", "thrown", "I", false)
  | 1 => ("BrotliWordsModel", "stop", "LBrotliWordsModel$Stop;", true)
  | 2 => ("BrotliWordsModel", "tape", "[B", true)
  | 3 => ("BrotliWordsModel", "tapeSize", "I", false)
  | 4 => ("BrotliWordsModel", "bitsAt", "I", false)
  | 5 => ("BrotliWordsModel", "out", "[B", true)
  | 6 => ("BrotliWordsModel", "outSize", "I", false)
  | 7 => ("BrotliWordsModel", "words", "[B", true)
  | 8 => ("BrotliWordsModel", "wordCount", "[I", true)
  | 9 => ("BrotliWordsModel", "changedWord", "[B", true)
  | 10 => ("BrotliWordsModel", "changedSize", "I", false)
  | 11 => ("BrotliWordsModel", "len", "[I", true)
  | 12 => ("BrotliWordsModel", "code", "[I", true)
  | 13 => ("BrotliWordsModel", "lone", "[I", true)
  | 14 => ("BrotliWordsModel", "in", "[B", true)
  | 15 => ("BrotliWordsModel", "inSize", "I", false)
  | 16 => ("BrotliWordsModel", "pos", "I", false)
  | 17 => ("BrotliWordsModel", "few", "[I", true)
  | 18 => ("BrotliWordsModel", "parts", "[I", true)
  | 19 => ("BrotliWordsModel", "partCount", "I", false)
  | 20 => ("BrotliWordsModel", "posRead", "I", false)
  | 21 => ("BrotliWordsModel", "ring", "[I", true)
  | 22 => ("BrotliWordsModel", "postfix", "I", false)
  | 23 => ("BrotliWordsModel", "direct", "I", false)
  | 24 => ("BrotliWordsModel", "kinds", "[I", true)
  | 25 => ("BrotliWordsModel", "kind", "[I", true)
  | 26 => ("BrotliWordsModel", "kindBefore", "[I", true)
  | 27 => ("BrotliWordsModel", "left", "[I", true)
  | 28 => ("BrotliWordsModel", "mode", "[I", true)
  | 29 => ("BrotliWordsModel", "literalTrees", "I", false)
  | 30 => ("BrotliWordsModel", "distanceTrees", "I", false)
  | 31 => ("BrotliWordsModel", "literalMap", "[I", true)
  | 32 => ("BrotliWordsModel", "distanceMap", "[I", true)
  | 33 => ("BrotliWordsModel", "hasCodes", "Z", false)
  | 34 => ("BrotliWordsModel", "keptKinds", "[I", true)
  | 35 => ("BrotliWordsModel", "keptLiteralTrees", "I", false)
  | 36 => ("BrotliWordsModel", "keptDistanceTrees", "I", false)
  | 37 => ("BrotliWordsModel", "keptDistanceSigns", "I", false)
  | 38 => ("BrotliWordsModel", "keptLength", "[I", true)
  | 39 => ("BrotliWordsModel", "keptLiteralMap", "[I", true)
  | 40 => ("BrotliWordsModel", "keptDistanceMap", "[I", true)
  | 41 => ("BrotliWordsModel", "front", "[I", true)
  | 42 => ("BrotliWordsModel", "range", "I", false)
  | 43 => ("BrotliWordsModel", "outBits", "I", false)
  | 44 => ("BrotliWordsModel", "weight", "[I", true)
  | 45 => ("BrotliWordsModel", "above", "[I", true)
  | 46 => ("BrotliWordsModel", "isOpen", "[Z", true)
  | 47 => ("BrotliWordsModel", "often", "[I", true)
  | 48 => ("BrotliWordsModel", "mark", "[I", true)
  | 49 => ("BrotliWordsModel", "zeros", "[I", true)
  | 50 => ("BrotliWordsModel", "marks", "I", false)
  | 51 => ("BrotliWordsModel", "copyMany", "[I", true)
  | 52 => ("BrotliWordsModel", "copyBack", "[I", true)
  | 53 => ("BrotliWordsModel", "wordMany", "[I", true)
  | 54 => ("BrotliWordsModel", "wordLength", "[I", true)
  | 55 => ("BrotliWordsModel", "wordNumber", "[I", true)
  | 56 => ("BrotliWordsModel", "wordChange", "[I", true)
  | 57 => ("BrotliWordsModel", "way", "[I", true)
  | 58 => ("BrotliWordsModel", "cost", "[I", true)
  | 59 => ("BrotliWordsModel", "packSize", "I", false)
  | 60 => ("BrotliWordsModel", "command", "[I", true)
  | 61 => ("BrotliWordsModel", "distanceSign", "[I", true)
  | 62 => ("BrotliWordsModel", "copyOf", "[I", true)
  | 63 => ("BrotliWordsModel", "commands", "I", false)
  | _ => ("BrotliWordsModel", "ringOfPack", "[I", true)
def tyX13 : Nat → FieldType := fun k => match k with
  | 0 => .int
  | 1 => .object "BrotliWordsModel$Stop"
  | 2 => .array .byte
  | 3 => .int
  | 4 => .int
  | 5 => .array .byte
  | 6 => .int
  | 7 => .array .byte
  | 8 => .array .int
  | 9 => .array .byte
  | 10 => .int
  | 11 => .array .int
  | 12 => .array .int
  | 13 => .array .int
  | 14 => .array .byte
  | 15 => .int
  | 16 => .int
  | 17 => .array .int
  | 18 => .array .int
  | 19 => .int
  | 20 => .int
  | 21 => .array .int
  | 22 => .int
  | 23 => .int
  | 24 => .array .int
  | 25 => .array .int
  | 26 => .array .int
  | 27 => .array .int
  | 28 => .array .int
  | 29 => .int
  | 30 => .int
  | 31 => .array .int
  | 32 => .array .int
  | 33 => .boolean
  | 34 => .array .int
  | 35 => .int
  | 36 => .int
  | 37 => .int
  | 38 => .array .int
  | 39 => .array .int
  | 40 => .array .int
  | 41 => .array .int
  | 42 => .int
  | 43 => .int
  | 44 => .array .int
  | 45 => .array .int
  | 46 => .array .boolean
  | 47 => .array .int
  | 48 => .array .int
  | 49 => .array .int
  | 50 => .int
  | 51 => .array .int
  | 52 => .array .int
  | 53 => .array .int
  | 54 => .array .int
  | 55 => .array .int
  | 56 => .array .int
  | 57 => .array .int
  | 58 => .array .int
  | 59 => .int
  | 60 => .array .int
  | 61 => .array .int
  | 62 => .array .int
  | 63 => .int
  | _ => .array .int
abbrev wsX130 : List Cond := u_ws RX13 TX13 65
theorem nmX13 : ∀ a, a < 65 → ∀ b, b < 65 → a ≠ b → (TX13 a).2.1 ≠ (TX13 b).2.1 := by decide +kernel
theorem tyX13_ok : ∀ k, k < 65 → parseFieldDescriptor (TX13 k).2.2.1 = some (tyX13 k) := by decide +kernel
def RL : String := "BrotliWordsLaw"
abbrev vwCl : List vw_C := [(RX0, TX0, 4), (RX1, TX1, 6), (RX2, TX2, 3), (RX3, TX3, 3), (RX4, TX4, 8), (RX5, TX5, 11), (RX6, TX6, 12), (RX7, TX7, 10), (RX8, TX8, 16), (RX9, TX9, 18), (RX10, TX10, 2), (RX11, TX11, 5), (RX12, TX12, 7), (RX13, TX13, 65)]
