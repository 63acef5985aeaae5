-- ===== PART A: goes FIRST, ahead of the names: the tables' words, and 'selects' of the private methods out of them =====
/-- a private method of a class that the tables say can be made, by its rows of tables_1 -/
def lw_okq (q : MethodName × Nat) : Prop := (q.1.cls ≠ "java/lang/invoke/MethodHandle" ∧ q.1.cls ≠ "java/lang/invoke/VarHandle") ∧ Cond.instantiable q.1.cls q.2 ∈ tables_1 ∧ Cond.privateMethod q.1 ∈ tables_1 ∧ Cond.instanceMethod q.1 ∈ tables_1
set_option maxRecDepth 100000 in
theorem lw_p0 : lw_okq (⟨"FrameWalks$Tape", "nextToken", "()V"⟩, 9) := ⟨⟨by decide +kernel, by decide +kernel⟩, List.mem_of_getElem? (i := 88) rfl, List.mem_of_getElem? (i := 281) rfl, List.mem_of_getElem? (i := 282) rfl⟩
set_option maxRecDepth 100000 in
theorem lw_p1 : lw_okq (⟨"FrameWalks$Tape", "readName", "()V"⟩, 9) := ⟨⟨by decide +kernel, by decide +kernel⟩, List.mem_of_getElem? (i := 88) rfl, List.mem_of_getElem? (i := 288) rfl, List.mem_of_getElem? (i := 289) rfl⟩
set_option maxRecDepth 100000 in
theorem lw_p2 : lw_okq (⟨"FrameWalks$Tape", "readNumber", "()V"⟩, 9) := ⟨⟨by decide +kernel, by decide +kernel⟩, List.mem_of_getElem? (i := 88) rfl, List.mem_of_getElem? (i := 295) rfl, List.mem_of_getElem? (i := 296) rfl⟩
set_option maxRecDepth 100000 in
theorem lw_p3 : lw_okq (⟨"FrameWalks$Tape", "refuse", "(II)V"⟩, 9) := ⟨⟨by decide +kernel, by decide +kernel⟩, List.mem_of_getElem? (i := 88) rfl, List.mem_of_getElem? (i := 299) rfl, List.mem_of_getElem? (i := 300) rfl⟩
set_option maxRecDepth 100000 in
theorem lw_p4 : lw_okq (⟨"FrameWalks$Tape", "tellLine", "(LFrameWalks$World;)V"⟩, 9) := ⟨⟨by decide +kernel, by decide +kernel⟩, List.mem_of_getElem? (i := 88) rfl, List.mem_of_getElem? (i := 303) rfl, List.mem_of_getElem? (i := 304) rfl⟩
set_option maxRecDepth 100000 in
theorem lw_p5 : lw_okq (⟨"FrameWalks$Tape", "lineNamed", "()I"⟩, 9) := ⟨⟨by decide +kernel, by decide +kernel⟩, List.mem_of_getElem? (i := 88) rfl, List.mem_of_getElem? (i := 307) rfl, List.mem_of_getElem? (i := 308) rfl⟩
set_option maxRecDepth 100000 in
theorem lw_p6 : lw_okq (⟨"FrameWalks$Tape", "isNamed", "(Ljava/lang/String;)Z"⟩, 9) := ⟨⟨by decide +kernel, by decide +kernel⟩, List.mem_of_getElem? (i := 88) rfl, List.mem_of_getElem? (i := 327) rfl, List.mem_of_getElem? (i := 328) rfl⟩
set_option maxRecDepth 100000 in
theorem lw_p7 : lw_okq (⟨"FrameWalks$Tape", "refuseUnless", "(Z)V"⟩, 9) := ⟨⟨by decide +kernel, by decide +kernel⟩, List.mem_of_getElem? (i := 88) rfl, List.mem_of_getElem? (i := 379) rfl, List.mem_of_getElem? (i := 380) rfl⟩
set_option maxRecDepth 100000 in
theorem lw_p8 : lw_okq (⟨"FrameWalks$Tape", "refuseTooMany", "(LFrameWalks$World;I)V"⟩, 9) := ⟨⟨by decide +kernel, by decide +kernel⟩, List.mem_of_getElem? (i := 88) rfl, List.mem_of_getElem? (i := 383) rfl, List.mem_of_getElem? (i := 384) rfl⟩
set_option maxRecDepth 100000 in
theorem lw_p9 : lw_okq (⟨"FrameWalks$Tape", "takeOperand", "(II)V"⟩, 9) := ⟨⟨by decide +kernel, by decide +kernel⟩, List.mem_of_getElem? (i := 88) rfl, List.mem_of_getElem? (i := 396) rfl, List.mem_of_getElem? (i := 397) rfl⟩
set_option maxRecDepth 100000 in
theorem lw_p10 : lw_okq (⟨"FrameWalks$Tape", "registerNamed", "()I"⟩, 9) := ⟨⟨by decide +kernel, by decide +kernel⟩, List.mem_of_getElem? (i := 88) rfl, List.mem_of_getElem? (i := 400) rfl, List.mem_of_getElem? (i := 401) rfl⟩
set_option maxRecDepth 100000 in
theorem lw_p11 : lw_okq (⟨"FrameWalks$Tape", "isWithin", "(III)Z"⟩, 9) := ⟨⟨by decide +kernel, by decide +kernel⟩, List.mem_of_getElem? (i := 88) rfl, List.mem_of_getElem? (i := 404) rfl, List.mem_of_getElem? (i := 405) rfl⟩
set_option maxRecDepth 100000 in
theorem lw_p12 : lw_okq (⟨"FrameWalks$Tape", "addLine", "(LFrameWalks$World;I)V"⟩, 9) := ⟨⟨by decide +kernel, by decide +kernel⟩, List.mem_of_getElem? (i := 88) rfl, List.mem_of_getElem? (i := 408) rfl, List.mem_of_getElem? (i := 409) rfl⟩
set_option maxRecDepth 100000 in
theorem lw_p13 : lw_okq (⟨"FrameWalks$Row", "becomeFirst", "()V"⟩, 3) := ⟨⟨by decide +kernel, by decide +kernel⟩, List.mem_of_getElem? (i := 126) rfl, List.mem_of_getElem? (i := 515) rfl, List.mem_of_getElem? (i := 516) rfl⟩
set_option maxRecDepth 100000 in
theorem lw_p14 : lw_okq (⟨"FrameWalks$Row", "becomes", "(III)V"⟩, 3) := ⟨⟨by decide +kernel, by decide +kernel⟩, List.mem_of_getElem? (i := 126) rfl, List.mem_of_getElem? (i := 522) rfl, List.mem_of_getElem? (i := 523) rfl⟩
set_option maxRecDepth 100000 in
theorem lw_p15 : lw_okq (⟨"FrameWalks$Row", "obey", "(III)V"⟩, 3) := ⟨⟨by decide +kernel, by decide +kernel⟩, List.mem_of_getElem? (i := 126) rfl, List.mem_of_getElem? (i := 530) rfl, List.mem_of_getElem? (i := 531) rfl⟩
def lw_privs_1 : List (MethodName × Nat) := [(⟨"FrameWalks$Tape", "nextToken", "()V"⟩, 9), (⟨"FrameWalks$Tape", "readName", "()V"⟩, 9), (⟨"FrameWalks$Tape", "readNumber", "()V"⟩, 9), (⟨"FrameWalks$Tape", "refuse", "(II)V"⟩, 9), (⟨"FrameWalks$Tape", "tellLine", "(LFrameWalks$World;)V"⟩, 9), (⟨"FrameWalks$Tape", "lineNamed", "()I"⟩, 9), (⟨"FrameWalks$Tape", "isNamed", "(Ljava/lang/String;)Z"⟩, 9), (⟨"FrameWalks$Tape", "refuseUnless", "(Z)V"⟩, 9), (⟨"FrameWalks$Tape", "refuseTooMany", "(LFrameWalks$World;I)V"⟩, 9), (⟨"FrameWalks$Tape", "takeOperand", "(II)V"⟩, 9), (⟨"FrameWalks$Tape", "registerNamed", "()I"⟩, 9), (⟨"FrameWalks$Tape", "isWithin", "(III)Z"⟩, 9), (⟨"FrameWalks$Tape", "addLine", "(LFrameWalks$World;I)V"⟩, 9), (⟨"FrameWalks$Row", "becomeFirst", "()V"⟩, 3), (⟨"FrameWalks$Row", "becomes", "(III)V"⟩, 3), (⟨"FrameWalks$Row", "obey", "(III)V"⟩, 3)]
theorem lw_r1 : ∀ q ∈ lw_privs_1, lw_okq q := List.forall_mem_cons.mpr ⟨lw_p0, List.forall_mem_cons.mpr ⟨lw_p1, List.forall_mem_cons.mpr ⟨lw_p2, List.forall_mem_cons.mpr ⟨lw_p3, List.forall_mem_cons.mpr ⟨lw_p4, List.forall_mem_cons.mpr ⟨lw_p5, List.forall_mem_cons.mpr ⟨lw_p6, List.forall_mem_cons.mpr ⟨lw_p7, List.forall_mem_cons.mpr ⟨lw_p8, List.forall_mem_cons.mpr ⟨lw_p9, List.forall_mem_cons.mpr ⟨lw_p10, List.forall_mem_cons.mpr ⟨lw_p11, List.forall_mem_cons.mpr ⟨lw_p12, List.forall_mem_cons.mpr ⟨lw_p13, List.forall_mem_cons.mpr ⟨lw_p14, List.forall_mem_cons.mpr ⟨lw_p15, fun _ h => absurd h List.not_mem_nil⟩⟩⟩⟩⟩⟩⟩⟩⟩⟩⟩⟩⟩⟩⟩⟩
set_option maxRecDepth 100000 in
theorem lw_p16 : lw_okq (⟨"FrameWalks$Row", "layAside", "()V"⟩, 3) := ⟨⟨by decide +kernel, by decide +kernel⟩, List.mem_of_getElem? (i := 126) rfl, List.mem_of_getElem? (i := 534) rfl, List.mem_of_getElem? (i := 535) rfl⟩
set_option maxRecDepth 100000 in
theorem lw_p17 : lw_okq (⟨"FrameWalks$Row", "takeBack", "()V"⟩, 3) := ⟨⟨by decide +kernel, by decide +kernel⟩, List.mem_of_getElem? (i := 126) rfl, List.mem_of_getElem? (i := 539) rfl, List.mem_of_getElem? (i := 540) rfl⟩
set_option maxRecDepth 100000 in
theorem lw_p18 : lw_okq (⟨"FrameWalks$Track", "add", "(I)V"⟩, 9) := ⟨⟨by decide +kernel, by decide +kernel⟩, List.mem_of_getElem? (i := 143) rfl, List.mem_of_getElem? (i := 594) rfl, List.mem_of_getElem? (i := 595) rfl⟩
set_option maxRecDepth 100000 in
theorem lw_p19 : lw_okq (⟨"FrameWalks", "endAt", "(I)I"⟩, 11) := ⟨⟨by decide +kernel, by decide +kernel⟩, List.mem_of_getElem? (i := 19) rfl, List.mem_of_getElem? (i := 613) rfl, List.mem_of_getElem? (i := 614) rfl⟩
set_option maxRecDepth 100000 in
theorem lw_p20 : lw_okq (⟨"FrameWalks", "findGuesses", "(I)I"⟩, 11) := ⟨⟨by decide +kernel, by decide +kernel⟩, List.mem_of_getElem? (i := 19) rfl, List.mem_of_getElem? (i := 627) rfl, List.mem_of_getElem? (i := 628) rfl⟩
set_option maxRecDepth 100000 in
theorem lw_p21 : lw_okq (⟨"FrameWalks$Hunt", "enter", "(II)V"⟩, 3) := ⟨⟨by decide +kernel, by decide +kernel⟩, List.mem_of_getElem? (i := 184) rfl, List.mem_of_getElem? (i := 649) rfl, List.mem_of_getElem? (i := 650) rfl⟩
set_option maxRecDepth 100000 in
theorem lw_p22 : lw_okq (⟨"FrameWalks$Track", "callers", "(IILFrameWalks$Row;[I)I"⟩, 9) := ⟨⟨by decide +kernel, by decide +kernel⟩, List.mem_of_getElem? (i := 143) rfl, List.mem_of_getElem? (i := 669) rfl, List.mem_of_getElem? (i := 670) rfl⟩
set_option maxRecDepth 100000 in
theorem lw_p23 : lw_okq (⟨"FrameWalks", "catcherOf", "(I)I"⟩, 11) := ⟨⟨by decide +kernel, by decide +kernel⟩, List.mem_of_getElem? (i := 19) rfl, List.mem_of_getElem? (i := 695) rfl, List.mem_of_getElem? (i := 696) rfl⟩
set_option maxRecDepth 100000 in
theorem lw_p24 : lw_okq (⟨"FrameWalks", "catchIn", "(II)I"⟩, 11) := ⟨⟨by decide +kernel, by decide +kernel⟩, List.mem_of_getElem? (i := 19) rfl, List.mem_of_getElem? (i := 699) rfl, List.mem_of_getElem? (i := 700) rfl⟩
set_option maxRecDepth 100000 in
theorem lw_p25 : lw_okq (⟨"FrameWalks", "landsIn", "(II)Z"⟩, 11) := ⟨⟨by decide +kernel, by decide +kernel⟩, List.mem_of_getElem? (i := 19) rfl, List.mem_of_getElem? (i := 703) rfl, List.mem_of_getElem? (i := 704) rfl⟩
set_option maxRecDepth 100000 in
theorem lw_p26 : lw_okq (⟨"FrameWalksModel", "readsOn", "()V"⟩, 28) := ⟨⟨by decide +kernel, by decide +kernel⟩, List.mem_of_getElem? (i := 777) rfl, List.mem_of_getElem? (i := 884) rfl, List.mem_of_getElem? (i := 885) rfl⟩
set_option maxRecDepth 100000 in
theorem lw_p27 : lw_okq (⟨"FrameWalksModel", "byteAt", "(I)I"⟩, 28) := ⟨⟨by decide +kernel, by decide +kernel⟩, List.mem_of_getElem? (i := 777) rfl, List.mem_of_getElem? (i := 888) rfl, List.mem_of_getElem? (i := 889) rfl⟩
set_option maxRecDepth 100000 in
theorem lw_p28 : lw_okq (⟨"FrameWalksModel", "fails", "(I)V"⟩, 28) := ⟨⟨by decide +kernel, by decide +kernel⟩, List.mem_of_getElem? (i := 777) rfl, List.mem_of_getElem? (i := 896) rfl, List.mem_of_getElem? (i := 897) rfl⟩
set_option maxRecDepth 100000 in
theorem lw_p29 : lw_okq (⟨"FrameWalksModel", "readLine", "()V"⟩, 28) := ⟨⟨by decide +kernel, by decide +kernel⟩, List.mem_of_getElem? (i := 777) rfl, List.mem_of_getElem? (i := 900) rfl, List.mem_of_getElem? (i := 901) rfl⟩
set_option maxRecDepth 100000 in
theorem lw_p30 : lw_okq (⟨"FrameWalksModel", "nameHere", "()I"⟩, 28) := ⟨⟨by decide +kernel, by decide +kernel⟩, List.mem_of_getElem? (i := 777) rfl, List.mem_of_getElem? (i := 904) rfl, List.mem_of_getElem? (i := 905) rfl⟩
set_option maxRecDepth 100000 in
theorem lw_p31 : lw_okq (⟨"FrameWalksModel", "readRoutine", "(I)V"⟩, 28) := ⟨⟨by decide +kernel, by decide +kernel⟩, List.mem_of_getElem? (i := 777) rfl, List.mem_of_getElem? (i := 908) rfl, List.mem_of_getElem? (i := 909) rfl⟩
def lw_privs_2 : List (MethodName × Nat) := [(⟨"FrameWalks$Row", "layAside", "()V"⟩, 3), (⟨"FrameWalks$Row", "takeBack", "()V"⟩, 3), (⟨"FrameWalks$Track", "add", "(I)V"⟩, 9), (⟨"FrameWalks", "endAt", "(I)I"⟩, 11), (⟨"FrameWalks", "findGuesses", "(I)I"⟩, 11), (⟨"FrameWalks$Hunt", "enter", "(II)V"⟩, 3), (⟨"FrameWalks$Track", "callers", "(IILFrameWalks$Row;[I)I"⟩, 9), (⟨"FrameWalks", "catcherOf", "(I)I"⟩, 11), (⟨"FrameWalks", "catchIn", "(II)I"⟩, 11), (⟨"FrameWalks", "landsIn", "(II)Z"⟩, 11), (⟨"FrameWalksModel", "readsOn", "()V"⟩, 28), (⟨"FrameWalksModel", "byteAt", "(I)I"⟩, 28), (⟨"FrameWalksModel", "fails", "(I)V"⟩, 28), (⟨"FrameWalksModel", "readLine", "()V"⟩, 28), (⟨"FrameWalksModel", "nameHere", "()I"⟩, 28), (⟨"FrameWalksModel", "readRoutine", "(I)V"⟩, 28)]
theorem lw_r2 : ∀ q ∈ lw_privs_2, lw_okq q := List.forall_mem_cons.mpr ⟨lw_p16, List.forall_mem_cons.mpr ⟨lw_p17, List.forall_mem_cons.mpr ⟨lw_p18, List.forall_mem_cons.mpr ⟨lw_p19, List.forall_mem_cons.mpr ⟨lw_p20, List.forall_mem_cons.mpr ⟨lw_p21, List.forall_mem_cons.mpr ⟨lw_p22, List.forall_mem_cons.mpr ⟨lw_p23, List.forall_mem_cons.mpr ⟨lw_p24, List.forall_mem_cons.mpr ⟨lw_p25, List.forall_mem_cons.mpr ⟨lw_p26, List.forall_mem_cons.mpr ⟨lw_p27, List.forall_mem_cons.mpr ⟨lw_p28, List.forall_mem_cons.mpr ⟨lw_p29, List.forall_mem_cons.mpr ⟨lw_p30, List.forall_mem_cons.mpr ⟨lw_p31, fun _ h => absurd h List.not_mem_nil⟩⟩⟩⟩⟩⟩⟩⟩⟩⟩⟩⟩⟩⟩⟩⟩
set_option maxRecDepth 100000 in
theorem lw_p32 : lw_okq (⟨"FrameWalksModel", "numberRead", "(II)I"⟩, 28) := ⟨⟨by decide +kernel, by decide +kernel⟩, List.mem_of_getElem? (i := 777) rfl, List.mem_of_getElem? (i := 912) rfl, List.mem_of_getElem? (i := 913) rfl⟩
set_option maxRecDepth 100000 in
theorem lw_p33 : lw_okq (⟨"FrameWalksModel", "readOp", "(I)V"⟩, 28) := ⟨⟨by decide +kernel, by decide +kernel⟩, List.mem_of_getElem? (i := 777) rfl, List.mem_of_getElem? (i := 918) rfl, List.mem_of_getElem? (i := 919) rfl⟩
set_option maxRecDepth 100000 in
theorem lw_p34 : lw_okq (⟨"FrameWalksModel", "registerRead", "(I)I"⟩, 28) := ⟨⟨by decide +kernel, by decide +kernel⟩, List.mem_of_getElem? (i := 777) rfl, List.mem_of_getElem? (i := 924) rfl, List.mem_of_getElem? (i := 925) rfl⟩
set_option maxRecDepth 100000 in
theorem lw_p35 : lw_okq (⟨"FrameWalksModel", "readLanding", "()V"⟩, 28) := ⟨⟨by decide +kernel, by decide +kernel⟩, List.mem_of_getElem? (i := 777) rfl, List.mem_of_getElem? (i := 929) rfl, List.mem_of_getElem? (i := 930) rfl⟩
set_option maxRecDepth 100000 in
theorem lw_p36 : lw_okq (⟨"FrameWalksModel", "readCall", "()V"⟩, 28) := ⟨⟨by decide +kernel, by decide +kernel⟩, List.mem_of_getElem? (i := 777) rfl, List.mem_of_getElem? (i := 933) rfl, List.mem_of_getElem? (i := 934) rfl⟩
set_option maxRecDepth 100000 in
theorem lw_p37 : lw_okq (⟨"FrameWalksModel", "isApart", "(I)Z"⟩, 28) := ⟨⟨by decide +kernel, by decide +kernel⟩, List.mem_of_getElem? (i := 777) rfl, List.mem_of_getElem? (i := 937) rfl, List.mem_of_getElem? (i := 938) rfl⟩
set_option maxRecDepth 100000 in
theorem lw_p38 : lw_okq (⟨"FrameWalksModel", "whoseOf", "(I)I"⟩, 28) := ⟨⟨by decide +kernel, by decide +kernel⟩, List.mem_of_getElem? (i := 777) rfl, List.mem_of_getElem? (i := 949) rfl, List.mem_of_getElem? (i := 950) rfl⟩
set_option maxRecDepth 100000 in
theorem lw_p39 : lw_okq (⟨"FrameWalksModel", "routines", "()I"⟩, 28) := ⟨⟨by decide +kernel, by decide +kernel⟩, List.mem_of_getElem? (i := 777) rfl, List.mem_of_getElem? (i := 953) rfl, List.mem_of_getElem? (i := 954) rfl⟩
set_option maxRecDepth 100000 in
theorem lw_p40 : lw_okq (⟨"FrameWalksModel", "isOf", "(II)Z"⟩, 28) := ⟨⟨by decide +kernel, by decide +kernel⟩, List.mem_of_getElem? (i := 777) rfl, List.mem_of_getElem? (i := 957) rfl, List.mem_of_getElem? (i := 958) rfl⟩
set_option maxRecDepth 100000 in
theorem lw_p41 : lw_okq (⟨"FrameWalksModel", "guessed", "()I"⟩, 28) := ⟨⟨by decide +kernel, by decide +kernel⟩, List.mem_of_getElem? (i := 777) rfl, List.mem_of_getElem? (i := 967) rfl, List.mem_of_getElem? (i := 968) rfl⟩
set_option maxRecDepth 100000 in
theorem lw_p42 : lw_okq (⟨"FrameWalksModel", "addresses", "()I"⟩, 28) := ⟨⟨by decide +kernel, by decide +kernel⟩, List.mem_of_getElem? (i := 777) rfl, List.mem_of_getElem? (i := 971) rfl, List.mem_of_getElem? (i := 972) rfl⟩
set_option maxRecDepth 100000 in
theorem lw_p43 : lw_okq (⟨"FrameWalksModel", "isRoutine", "(I)Z"⟩, 28) := ⟨⟨by decide +kernel, by decide +kernel⟩, List.mem_of_getElem? (i := 777) rfl, List.mem_of_getElem? (i := 979) rfl, List.mem_of_getElem? (i := 980) rfl⟩
set_option maxRecDepth 100000 in
theorem lw_p44 : lw_okq (⟨"FrameWalksModel", "ofRoutine", "(II)I"⟩, 28) := ⟨⟨by decide +kernel, by decide +kernel⟩, List.mem_of_getElem? (i := 777) rfl, List.mem_of_getElem? (i := 983) rfl, List.mem_of_getElem? (i := 984) rfl⟩
set_option maxRecDepth 100000 in
theorem lw_p45 : lw_okq (⟨"FrameWalksModel", "aheadOf", "(I)I"⟩, 28) := ⟨⟨by decide +kernel, by decide +kernel⟩, List.mem_of_getElem? (i := 777) rfl, List.mem_of_getElem? (i := 999) rfl, List.mem_of_getElem? (i := 1000) rfl⟩
set_option maxRecDepth 100000 in
theorem lw_p46 : lw_okq (⟨"FrameWalksModel", "rows", "(II)V"⟩, 28) := ⟨⟨by decide +kernel, by decide +kernel⟩, List.mem_of_getElem? (i := 777) rfl, List.mem_of_getElem? (i := 1007) rfl, List.mem_of_getElem? (i := 1008) rfl⟩
set_option maxRecDepth 100000 in
theorem lw_p47 : lw_okq (⟨"FrameWalksModel", "begins", "()V"⟩, 28) := ⟨⟨by decide +kernel, by decide +kernel⟩, List.mem_of_getElem? (i := 777) rfl, List.mem_of_getElem? (i := 1011) rfl, List.mem_of_getElem? (i := 1012) rfl⟩
def lw_privs_3 : List (MethodName × Nat) := [(⟨"FrameWalksModel", "numberRead", "(II)I"⟩, 28), (⟨"FrameWalksModel", "readOp", "(I)V"⟩, 28), (⟨"FrameWalksModel", "registerRead", "(I)I"⟩, 28), (⟨"FrameWalksModel", "readLanding", "()V"⟩, 28), (⟨"FrameWalksModel", "readCall", "()V"⟩, 28), (⟨"FrameWalksModel", "isApart", "(I)Z"⟩, 28), (⟨"FrameWalksModel", "whoseOf", "(I)I"⟩, 28), (⟨"FrameWalksModel", "routines", "()I"⟩, 28), (⟨"FrameWalksModel", "isOf", "(II)Z"⟩, 28), (⟨"FrameWalksModel", "guessed", "()I"⟩, 28), (⟨"FrameWalksModel", "addresses", "()I"⟩, 28), (⟨"FrameWalksModel", "isRoutine", "(I)Z"⟩, 28), (⟨"FrameWalksModel", "ofRoutine", "(II)I"⟩, 28), (⟨"FrameWalksModel", "aheadOf", "(I)I"⟩, 28), (⟨"FrameWalksModel", "rows", "(II)V"⟩, 28), (⟨"FrameWalksModel", "begins", "()V"⟩, 28)]
theorem lw_r3 : ∀ q ∈ lw_privs_3, lw_okq q := List.forall_mem_cons.mpr ⟨lw_p32, List.forall_mem_cons.mpr ⟨lw_p33, List.forall_mem_cons.mpr ⟨lw_p34, List.forall_mem_cons.mpr ⟨lw_p35, List.forall_mem_cons.mpr ⟨lw_p36, List.forall_mem_cons.mpr ⟨lw_p37, List.forall_mem_cons.mpr ⟨lw_p38, List.forall_mem_cons.mpr ⟨lw_p39, List.forall_mem_cons.mpr ⟨lw_p40, List.forall_mem_cons.mpr ⟨lw_p41, List.forall_mem_cons.mpr ⟨lw_p42, List.forall_mem_cons.mpr ⟨lw_p43, List.forall_mem_cons.mpr ⟨lw_p44, List.forall_mem_cons.mpr ⟨lw_p45, List.forall_mem_cons.mpr ⟨lw_p46, List.forall_mem_cons.mpr ⟨lw_p47, fun _ h => absurd h List.not_mem_nil⟩⟩⟩⟩⟩⟩⟩⟩⟩⟩⟩⟩⟩⟩⟩⟩
set_option maxRecDepth 100000 in
theorem lw_p48 : lw_okq (⟨"FrameWalksModel", "does", "(I)V"⟩, 28) := ⟨⟨by decide +kernel, by decide +kernel⟩, List.mem_of_getElem? (i := 777) rfl, List.mem_of_getElem? (i := 1015) rfl, List.mem_of_getElem? (i := 1016) rfl⟩
set_option maxRecDepth 100000 in
theorem lw_p49 : lw_okq (⟨"FrameWalksModel", "ruled", "(III)V"⟩, 28) := ⟨⟨by decide +kernel, by decide +kernel⟩, List.mem_of_getElem? (i := 777) rfl, List.mem_of_getElem? (i := 1019) rfl, List.mem_of_getElem? (i := 1020) rfl⟩
set_option maxRecDepth 100000 in
theorem lw_p50 : lw_okq (⟨"FrameWalksModel", "marks", "()V"⟩, 28) := ⟨⟨by decide +kernel, by decide +kernel⟩, List.mem_of_getElem? (i := 777) rfl, List.mem_of_getElem? (i := 1023) rfl, List.mem_of_getElem? (i := 1024) rfl⟩
set_option maxRecDepth 100000 in
theorem lw_p51 : lw_okq (⟨"FrameWalksModel", "resets", "()V"⟩, 28) := ⟨⟨by decide +kernel, by decide +kernel⟩, List.mem_of_getElem? (i := 777) rfl, List.mem_of_getElem? (i := 1027) rfl, List.mem_of_getElem? (i := 1028) rfl⟩
set_option maxRecDepth 100000 in
theorem lw_p52 : lw_okq (⟨"FrameWalksModel", "becomes", "(ZII)I"⟩, 28) := ⟨⟨by decide +kernel, by decide +kernel⟩, List.mem_of_getElem? (i := 777) rfl, List.mem_of_getElem? (i := 1042) rfl, List.mem_of_getElem? (i := 1043) rfl⟩
set_option maxRecDepth 100000 in
theorem lw_p53 : lw_okq (⟨"FrameWalksModel", "bestOf", "(III)I"⟩, 28) := ⟨⟨by decide +kernel, by decide +kernel⟩, List.mem_of_getElem? (i := 777) rfl, List.mem_of_getElem? (i := 1067) rfl, List.mem_of_getElem? (i := 1068) rfl⟩
set_option maxRecDepth 100000 in
theorem lw_p54 : lw_okq (⟨"FrameWalksModel", "scoreOf", "(II)I"⟩, 28) := ⟨⟨by decide +kernel, by decide +kernel⟩, List.mem_of_getElem? (i := 777) rfl, List.mem_of_getElem? (i := 1071) rfl, List.mem_of_getElem? (i := 1072) rfl⟩
set_option maxRecDepth 100000 in
theorem lw_p55 : lw_okq (⟨"FrameWalksModel", "stands", "(II)V"⟩, 28) := ⟨⟨by decide +kernel, by decide +kernel⟩, List.mem_of_getElem? (i := 777) rfl, List.mem_of_getElem? (i := 1079) rfl, List.mem_of_getElem? (i := 1080) rfl⟩
set_option maxRecDepth 100000 in
theorem lw_p56 : lw_okq (⟨"FrameWalksModel", "nextOf", "(I)I"⟩, 28) := ⟨⟨by decide +kernel, by decide +kernel⟩, List.mem_of_getElem? (i := 777) rfl, List.mem_of_getElem? (i := 1083) rfl, List.mem_of_getElem? (i := 1084) rfl⟩
set_option maxRecDepth 100000 in
theorem lw_p57 : lw_okq (⟨"FrameWalksModel", "isGuessed", "(I)Z"⟩, 28) := ⟨⟨by decide +kernel, by decide +kernel⟩, List.mem_of_getElem? (i := 777) rfl, List.mem_of_getElem? (i := 1087) rfl, List.mem_of_getElem? (i := 1088) rfl⟩
set_option maxRecDepth 100000 in
theorem lw_p58 : lw_okq (⟨"FrameWalksModel", "isFrame", "(I)Z"⟩, 28) := ⟨⟨by decide +kernel, by decide +kernel⟩, List.mem_of_getElem? (i := 777) rfl, List.mem_of_getElem? (i := 1095) rfl, List.mem_of_getElem? (i := 1096) rfl⟩
set_option maxRecDepth 100000 in
theorem lw_p59 : lw_okq (⟨"FrameWalksModel", "catcher", "(I)I"⟩, 28) := ⟨⟨by decide +kernel, by decide +kernel⟩, List.mem_of_getElem? (i := 777) rfl, List.mem_of_getElem? (i := 1107) rfl, List.mem_of_getElem? (i := 1108) rfl⟩
set_option maxRecDepth 100000 in
theorem lw_p60 : lw_okq (⟨"FrameWalksModel", "catches", "(II)I"⟩, 28) := ⟨⟨by decide +kernel, by decide +kernel⟩, List.mem_of_getElem? (i := 777) rfl, List.mem_of_getElem? (i := 1111) rfl, List.mem_of_getElem? (i := 1112) rfl⟩
set_option maxRecDepth 100000 in
theorem lw_p61 : lw_okq (⟨"FrameWalksModel", "isLandingOf", "(II)Z"⟩, 28) := ⟨⟨by decide +kernel, by decide +kernel⟩, List.mem_of_getElem? (i := 777) rfl, List.mem_of_getElem? (i := 1115) rfl, List.mem_of_getElem? (i := 1116) rfl⟩
set_option maxRecDepth 100000 in
theorem lw_p62 : lw_okq (⟨"FrameWalksModel", "copies", "(II)V"⟩, 28) := ⟨⟨by decide +kernel, by decide +kernel⟩, List.mem_of_getElem? (i := 777) rfl, List.mem_of_getElem? (i := 1137) rfl, List.mem_of_getElem? (i := 1138) rfl⟩
set_option maxRecDepth 100000 in
theorem lw_p63 : lw_okq (⟨"FrameWalksModel", "wordsAside", "(Z)V"⟩, 28) := ⟨⟨by decide +kernel, by decide +kernel⟩, List.mem_of_getElem? (i := 777) rfl, List.mem_of_getElem? (i := 1158) rfl, List.mem_of_getElem? (i := 1159) rfl⟩
def lw_privs_4 : List (MethodName × Nat) := [(⟨"FrameWalksModel", "does", "(I)V"⟩, 28), (⟨"FrameWalksModel", "ruled", "(III)V"⟩, 28), (⟨"FrameWalksModel", "marks", "()V"⟩, 28), (⟨"FrameWalksModel", "resets", "()V"⟩, 28), (⟨"FrameWalksModel", "becomes", "(ZII)I"⟩, 28), (⟨"FrameWalksModel", "bestOf", "(III)I"⟩, 28), (⟨"FrameWalksModel", "scoreOf", "(II)I"⟩, 28), (⟨"FrameWalksModel", "stands", "(II)V"⟩, 28), (⟨"FrameWalksModel", "nextOf", "(I)I"⟩, 28), (⟨"FrameWalksModel", "isGuessed", "(I)Z"⟩, 28), (⟨"FrameWalksModel", "isFrame", "(I)Z"⟩, 28), (⟨"FrameWalksModel", "catcher", "(I)I"⟩, 28), (⟨"FrameWalksModel", "catches", "(II)I"⟩, 28), (⟨"FrameWalksModel", "isLandingOf", "(II)Z"⟩, 28), (⟨"FrameWalksModel", "copies", "(II)V"⟩, 28), (⟨"FrameWalksModel", "wordsAside", "(Z)V"⟩, 28)]
theorem lw_r4 : ∀ q ∈ lw_privs_4, lw_okq q := List.forall_mem_cons.mpr ⟨lw_p48, List.forall_mem_cons.mpr ⟨lw_p49, List.forall_mem_cons.mpr ⟨lw_p50, List.forall_mem_cons.mpr ⟨lw_p51, List.forall_mem_cons.mpr ⟨lw_p52, List.forall_mem_cons.mpr ⟨lw_p53, List.forall_mem_cons.mpr ⟨lw_p54, List.forall_mem_cons.mpr ⟨lw_p55, List.forall_mem_cons.mpr ⟨lw_p56, List.forall_mem_cons.mpr ⟨lw_p57, List.forall_mem_cons.mpr ⟨lw_p58, List.forall_mem_cons.mpr ⟨lw_p59, List.forall_mem_cons.mpr ⟨lw_p60, List.forall_mem_cons.mpr ⟨lw_p61, List.forall_mem_cons.mpr ⟨lw_p62, List.forall_mem_cons.mpr ⟨lw_p63, fun _ h => absurd h List.not_mem_nil⟩⟩⟩⟩⟩⟩⟩⟩⟩⟩⟩⟩⟩⟩⟩⟩
set_option maxRecDepth 100000 in
theorem lw_p64 : lw_okq (⟨"FrameWalksModel", "isPoked", "(JI)Z"⟩, 28) := ⟨⟨by decide +kernel, by decide +kernel⟩, List.mem_of_getElem? (i := 777) rfl, List.mem_of_getElem? (i := 1162) rfl, List.mem_of_getElem? (i := 1163) rfl⟩
def lw_privs_5 : List (MethodName × Nat) := [(⟨"FrameWalksModel", "isPoked", "(JI)Z"⟩, 28)]
theorem lw_r5 : ∀ q ∈ lw_privs_5, lw_okq q := List.forall_mem_cons.mpr ⟨lw_p64, fun _ h => absurd h List.not_mem_nil⟩
def lw_privs : List (MethodName × Nat) := lw_privs_1 ++ (lw_privs_2 ++ (lw_privs_3 ++ (lw_privs_4 ++ (lw_privs_5))))
def lw_tbl : List Cond := k2_sels lw_privs ++ tables_1
theorem lw_privs_ok : ∀ q ∈ lw_privs, lw_okq q := by
  show ∀ q ∈ lw_privs_1 ++ (lw_privs_2 ++ (lw_privs_3 ++ (lw_privs_4 ++ (lw_privs_5)))), lw_okq q
  exact List.forall_mem_append.mpr ⟨lw_r1, List.forall_mem_append.mpr ⟨lw_r2, List.forall_mem_append.mpr ⟨lw_r3, List.forall_mem_append.mpr ⟨lw_r4, lw_r5⟩⟩⟩⟩
/-! ===== BEGIN words of one list among another's, by their places ===== -/
theorem goodIn_r {big : List Cond} (ws : List Cond) (ps : List Nat) (hp : ws = ps.filterMap (fun i => big[i]?)) (h : ws.all goodWord = true) : GoodIn big ws := by
  intro w hw
  have h1 := List.all_eq_true.mp h w hw
  rw [hp] at hw
  obtain ⟨i, -, hi⟩ := List.mem_filterMap.mp hw
  have hm : w ∈ big := by first | exact List.mem_of_getElem? hi | exact List.getElem?_mem hi
  exact ⟨hm, good_of_word h1⟩
theorem goodIn_app {big a b : List Cond} (ha : GoodIn big a) (hb : GoodIn big b) : GoodIn big (a ++ b) := fun w h => (List.mem_append.mp h).elim (ha w) (hb w)
theorem goodIn_ca {big a b : List Cond} {c : Cond} (ha : GoodIn big (c :: a)) (hb : GoodIn big b) : GoodIn big (c :: (a ++ b)) := fun w h => (List.mem_cons.mp h).elim (fun e => ha w (List.mem_cons.mpr (Or.inl e))) (fun h => (List.mem_append.mp h).elim (fun h => ha w (List.mem_cons.mpr (Or.inr h))) (hb w))
theorem goodIn_sub {big ws : List Cond} (hm : ∀ w ∈ ws, w ∈ big) (h : ws.all goodWord = true) : GoodIn big ws := fun w hw => ⟨hm w hw, good_of_word (List.all_eq_true.mp h w hw)⟩
/-! ===== END ===== -/

/-! ===== BEGIN printed: names, fields, word lists, decode rows ===== -/
def RX0 : String := "FrameWalks$Hunt"
def TX0 : u_T := fun k => match k with
  | 0 => ("FrameWalks$Hunt", "places", "[I", true)
  | 1 => ("FrameWalks$Hunt", "scores", "[I", true)
  | _ => ("FrameWalks$Hunt", "size", "I", false)
def tyX0 : Nat → FieldType := fun k => match k with
  | 0 => .array .int
  | 1 => .array .int
  | _ => .int
abbrev wsX00 : List Cond := u_ws RX0 TX0 3
theorem nmX0 : ∀ a, a < 3 → ∀ b, b < 3 → a ≠ b → (TX0 a).2.1 ≠ (TX0 b).2.1 := by decide +kernel
theorem tyX0_ok : ∀ k, k < 3 → parseFieldDescriptor (TX0 k).2.2.1 = some (tyX0 k) := by decide +kernel
abbrev cX0_init : ByteArray := prog_2_method_1_code
def yX0_init : MethodName := ⟨RX0, "<init>", "()V"⟩
abbrev cX0_lookThrough : ByteArray := prog_2_method_2_code
def yX0_lookThrough : MethodName := ⟨RX0, "lookThrough", "(LFrameWalks$World;II)V"⟩
abbrev cX0_bestWord : ByteArray := prog_2_method_3_code
def yX0_bestWord : MethodName := ⟨RX0, "bestWord", "()I"⟩
abbrev cX0_scoreOf : ByteArray := prog_2_method_4_code
def yX0_scoreOf : MethodName := ⟨RX0, "scoreOf", "(LFrameWalks$World;II)I"⟩
abbrev cX0_enter : ByteArray := prog_2_method_5_code
def yX0_enter : MethodName := ⟨RX0, "enter", "(II)V"⟩
def RX1 : String := "FrameWalks$Row"
def TX1 : u_T := fun k => match k with
  | 0 => ("FrameWalks$Row", "cells", "[I", true)
  | 1 => ("FrameWalks$Row", "aside", "[I", true)
  | _ => ("FrameWalks$Row", "asideSize", "I", false)
def tyX1 : Nat → FieldType := fun k => match k with
  | 0 => .array .int
  | 1 => .array .int
  | _ => .int
abbrev wsX10 : List Cond := u_ws RX1 TX1 3
theorem nmX1 : ∀ a, a < 3 → ∀ b, b < 3 → a ≠ b → (TX1 a).2.1 ≠ (TX1 b).2.1 := by decide +kernel
theorem tyX1_ok : ∀ k, k < 3 → parseFieldDescriptor (TX1 k).2.2.1 = some (tyX1 k) := by decide +kernel
abbrev cX1_init : ByteArray := prog_3_method_1_code
def yX1_init : MethodName := ⟨RX1, "<init>", "()V"⟩
abbrev cX1_base : ByteArray := prog_3_method_2_code
def yX1_base : MethodName := ⟨RX1, "base", "()I"⟩
abbrev cX1_off : ByteArray := prog_3_method_3_code
def yX1_off : MethodName := ⟨RX1, "off", "()I"⟩
abbrev cX1_which : ByteArray := prog_3_method_4_code
def yX1_which : MethodName := ⟨RX1, "which", "(I)I"⟩
abbrev cX1_number : ByteArray := prog_3_method_5_code
def yX1_number : MethodName := ⟨RX1, "number", "(I)I"⟩
abbrev cX1_goTo : ByteArray := prog_3_method_6_code
def yX1_goTo : MethodName := ⟨RX1, "goTo", "(LFrameWalks$World;II)V"⟩
abbrev cX1_obey : ByteArray := prog_3_method_7_code
def yX1_obey : MethodName := ⟨RX1, "obey", "(III)V"⟩
abbrev cX1_becomeFirst : ByteArray := prog_3_method_8_code
def yX1_becomeFirst : MethodName := ⟨RX1, "becomeFirst", "()V"⟩
abbrev cX1_becomes : ByteArray := prog_3_method_9_code
def yX1_becomes : MethodName := ⟨RX1, "becomes", "(III)V"⟩
abbrev cX1_layAside : ByteArray := prog_3_method_10_code
def yX1_layAside : MethodName := ⟨RX1, "layAside", "()V"⟩
abbrev cX1_takeBack : ByteArray := prog_3_method_11_code
def yX1_takeBack : MethodName := ⟨RX1, "takeBack", "()V"⟩
def RX2 : String := "FrameWalks$Sheet"
def TX2 : u_T := fun k => match k with
  | 0 => ("FrameWalks$Sheet", "cells", "[I", true)
  | 1 => ("FrameWalks$Sheet", "isThere", "Z", false)
  | 2 => ("FrameWalks$Sheet", "lane", "I", false)
  | _ => ("FrameWalks$Sheet", "size", "I", false)
def tyX2 : Nat → FieldType := fun k => match k with
  | 0 => .array .int
  | 1 => .boolean
  | 2 => .int
  | _ => .int
abbrev wsX20 : List Cond := u_ws RX2 TX2 4
theorem nmX2 : ∀ a, a < 4 → ∀ b, b < 4 → a ≠ b → (TX2 a).2.1 ≠ (TX2 b).2.1 := by decide +kernel
theorem tyX2_ok : ∀ k, k < 4 → parseFieldDescriptor (TX2 k).2.2.1 = some (tyX2 k) := by decide +kernel
abbrev cX2_init : ByteArray := prog_4_method_1_code
def yX2_init : MethodName := ⟨RX2, "<init>", "()V"⟩
abbrev cX2_becomeNew : ByteArray := prog_4_method_2_code
def yX2_becomeNew : MethodName := ⟨RX2, "becomeNew", "(II)V"⟩
abbrev cX2_refusal : ByteArray := prog_4_method_3_code
def yX2_refusal : MethodName := ⟨RX2, "refusal", "(II)I"⟩
abbrev cX2_become : ByteArray := prog_4_method_4_code
def yX2_become : MethodName := ⟨RX2, "become", "(II)V"⟩
def RX3 : String := "FrameWalks$Table"
def TX3 : u_T := fun k => match k with
  | 0 => ("FrameWalks$Table", "width", "I", true)
  | 1 => ("FrameWalks$Table", "cells", "[I", true)
  | _ => ("FrameWalks$Table", "size", "I", false)
def tyX3 : Nat → FieldType := fun k => match k with
  | 0 => .int
  | 1 => .array .int
  | _ => .int
abbrev wsX30 : List Cond := u_ws RX3 TX3 3
theorem nmX3 : ∀ a, a < 3 → ∀ b, b < 3 → a ≠ b → (TX3 a).2.1 ≠ (TX3 b).2.1 := by decide +kernel
theorem tyX3_ok : ∀ k, k < 3 → parseFieldDescriptor (TX3 k).2.2.1 = some (tyX3 k) := by decide +kernel
abbrev cX3_init : ByteArray := prog_5_method_1_code
def yX3_init : MethodName := ⟨RX3, "<init>", "(II)V"⟩
abbrev cX3_has : ByteArray := prog_5_method_2_code
def yX3_has : MethodName := ⟨RX3, "has", "(I)Z"⟩
abbrev cX3_isFull : ByteArray := prog_5_method_3_code
def yX3_isFull : MethodName := ⟨RX3, "isFull", "()Z"⟩
abbrev cX3_at : ByteArray := prog_5_method_4_code
def yX3_at : MethodName := ⟨RX3, "at", "(II)I"⟩
abbrev cX3_set : ByteArray := prog_5_method_5_code
def yX3_set : MethodName := ⟨RX3, "set", "(III)V"⟩
abbrev cX3_addOne : ByteArray := prog_5_method_6_code
def yX3_addOne : MethodName := ⟨RX3, "addOne", "()V"⟩
abbrev cX3_takeOver : ByteArray := prog_5_method_7_code
def yX3_takeOver : MethodName := ⟨RX3, "takeOver", "(LFrameWalks$Table;)V"⟩
abbrev cX3_howMany : ByteArray := prog_5_method_8_code
def yX3_howMany : MethodName := ⟨RX3, "howMany", "(II)I"⟩
abbrev cX3_rankOf : ByteArray := prog_5_method_9_code
def yX3_rankOf : MethodName := ⟨RX3, "rankOf", "(II)I"⟩
abbrev cX3_ranked : ByteArray := prog_5_method_10_code
def yX3_ranked : MethodName := ⟨RX3, "ranked", "(II)I"⟩
def RX4 : String := "FrameWalks$Tape"
def TX4 : u_T := fun k => match k with
  | 0 => ("FrameWalks$Tape", "bytes", "[I", true)
  | 1 => ("FrameWalks$Tape", "length", "I", false)
  | 2 => ("FrameWalks$Tape", "faulty", "I", false)
  | 3 => ("FrameWalks$Tape", "faultPlace", "I", false)
  | 4 => ("FrameWalks$Tape", "tokenKind", "I", false)
  | 5 => ("FrameWalks$Tape", "tokenFrom", "I", false)
  | 6 => ("FrameWalks$Tape", "tokenTo", "I", false)
  | 7 => ("FrameWalks$Tape", "tokenNumber", "I", false)
  | _ => ("FrameWalks$Tape", "operands", "[I", true)
def tyX4 : Nat → FieldType := fun k => match k with
  | 0 => .array .int
  | 1 => .int
  | 2 => .int
  | 3 => .int
  | 4 => .int
  | 5 => .int
  | 6 => .int
  | 7 => .int
  | _ => .array .int
abbrev wsX40 : List Cond := u_ws RX4 TX4 9
theorem nmX4 : ∀ a, a < 9 → ∀ b, b < 9 → a ≠ b → (TX4 a).2.1 ≠ (TX4 b).2.1 := by decide +kernel
theorem tyX4_ok : ∀ k, k < 9 → parseFieldDescriptor (TX4 k).2.2.1 = some (tyX4 k) := by decide +kernel
abbrev cX4_init : ByteArray := prog_6_method_1_code
def yX4_init : MethodName := ⟨RX4, "<init>", "()V"⟩
abbrev cX4_tellAll : ByteArray := prog_6_method_2_code
def yX4_tellAll : MethodName := ⟨RX4, "tellAll", "(LFrameWalks$World;)I"⟩
abbrev cX4_tellLine : ByteArray := prog_6_method_3_code
def yX4_tellLine : MethodName := ⟨RX4, "tellLine", "(LFrameWalks$World;)V"⟩
abbrev cX4_lineNamed : ByteArray := prog_6_method_4_code
def yX4_lineNamed : MethodName := ⟨RX4, "lineNamed", "()I"⟩
abbrev cX4_nameOf : ByteArray := prog_6_method_5_code
def yX4_nameOf : MethodName := ⟨RX4, "nameOf", "(I)Ljava/lang/String;"⟩
abbrev cX4_isNamed : ByteArray := prog_6_method_6_code
def yX4_isNamed : MethodName := ⟨RX4, "isNamed", "(Ljava/lang/String;)Z"⟩
abbrev cX4_refuseTooMany : ByteArray := prog_6_method_7_code
def yX4_refuseTooMany : MethodName := ⟨RX4, "refuseTooMany", "(LFrameWalks$World;I)V"⟩
abbrev cX4_tableOf : ByteArray := prog_6_method_8_code
def yX4_tableOf : MethodName := ⟨RX4, "tableOf", "(LFrameWalks$World;I)LFrameWalks$Table;"⟩
abbrev cX4_takeOperand : ByteArray := prog_6_method_9_code
def yX4_takeOperand : MethodName := ⟨RX4, "takeOperand", "(II)V"⟩
abbrev cX4_isWithin : ByteArray := prog_6_method_10_code
def yX4_isWithin : MethodName := ⟨RX4, "isWithin", "(III)Z"⟩
abbrev cX4_registerNamed : ByteArray := prog_6_method_11_code
def yX4_registerNamed : MethodName := ⟨RX4, "registerNamed", "()I"⟩
abbrev cX4_addLine : ByteArray := prog_6_method_12_code
def yX4_addLine : MethodName := ⟨RX4, "addLine", "(LFrameWalks$World;I)V"⟩
abbrev cX4_nextToken : ByteArray := prog_6_method_13_code
def yX4_nextToken : MethodName := ⟨RX4, "nextToken", "()V"⟩
abbrev cX4_readName : ByteArray := prog_6_method_14_code
def yX4_readName : MethodName := ⟨RX4, "readName", "()V"⟩
abbrev cX4_readNumber : ByteArray := prog_6_method_15_code
def yX4_readNumber : MethodName := ⟨RX4, "readNumber", "()V"⟩
abbrev cX4_isLetter : ByteArray := prog_6_method_16_code
def yX4_isLetter : MethodName := ⟨RX4, "isLetter", "(I)Z"⟩
abbrev cX4_isFigure : ByteArray := prog_6_method_17_code
def yX4_isFigure : MethodName := ⟨RX4, "isFigure", "(I)Z"⟩
abbrev cX4_refuseUnless : ByteArray := prog_6_method_18_code
def yX4_refuseUnless : MethodName := ⟨RX4, "refuseUnless", "(Z)V"⟩
abbrev cX4_refuse : ByteArray := prog_6_method_19_code
def yX4_refuse : MethodName := ⟨RX4, "refuse", "(II)V"⟩
def RX5 : String := "FrameWalks$Track"
def TX5 : u_T := fun k => match k with
  | 0 => ("FrameWalks$Track", "registers", "[I", true)
  | 1 => ("FrameWalks$Track", "owners", "[I", true)
  | 2 => ("FrameWalks$Track", "looked", "[I", true)
  | 3 => ("FrameWalks$Track", "ways", "[I", true)
  | 4 => ("FrameWalks$Track", "taken", "Z", false)
  | 5 => ("FrameWalks$Track", "leftSignal", "Z", false)
  | 6 => ("FrameWalks$Track", "size", "I", false)
  | 7 => ("FrameWalks$Track", "ended", "I", false)
  | _ => ("FrameWalks$Track", "guessed", "I", false)
def tyX5 : Nat → FieldType := fun k => match k with
  | 0 => .array .int
  | 1 => .array .int
  | 2 => .array .int
  | 3 => .array .int
  | 4 => .boolean
  | 5 => .boolean
  | 6 => .int
  | 7 => .int
  | _ => .int
abbrev wsX50 : List Cond := u_ws RX5 TX5 9
theorem nmX5 : ∀ a, a < 9 → ∀ b, b < 9 → a ≠ b → (TX5 a).2.1 ≠ (TX5 b).2.1 := by decide +kernel
theorem tyX5_ok : ∀ k, k < 9 → parseFieldDescriptor (TX5 k).2.2.1 = some (tyX5 k) := by decide +kernel
abbrev cX5_init : ByteArray := prog_7_method_1_code
def yX5_init : MethodName := ⟨RX5, "<init>", "()V"⟩
abbrev cX5_forget : ByteArray := prog_7_method_2_code
def yX5_forget : MethodName := ⟨RX5, "forget", "()V"⟩
abbrev cX5_begin : ByteArray := prog_7_method_3_code
def yX5_begin : MethodName := ⟨RX5, "begin", "([I)V"⟩
abbrev cX5_has : ByteArray := prog_7_method_4_code
def yX5_has : MethodName := ⟨RX5, "has", "(I)Z"⟩
abbrev cX5_register : ByteArray := prog_7_method_5_code
def yX5_register : MethodName := ⟨RX5, "register", "(II)I"⟩
abbrev cX5_lookUp : ByteArray := prog_7_method_6_code
def yX5_lookUp : MethodName := ⟨RX5, "lookUp", "(ILFrameWalks$World;)V"⟩
abbrev cX5_topOf : ByteArray := prog_7_method_7_code
def yX5_topOf : MethodName := ⟨RX5, "topOf", "(ILFrameWalks$Row;)I"⟩
abbrev cX5_addGuessed : ByteArray := prog_7_method_8_code
def yX5_addGuessed : MethodName := ⟨RX5, "addGuessed", "(III)V"⟩
abbrev cX5_addByRow : ByteArray := prog_7_method_9_code
def yX5_addByRow : MethodName := ⟨RX5, "addByRow", "(ILFrameWalks$Row;[I)V"⟩
abbrev cX5_callers : ByteArray := prog_7_method_10_code
def yX5_callers : MethodName := ⟨RX5, "callers", "(IILFrameWalks$Row;[I)I"⟩
abbrev cX5_add : ByteArray := prog_7_method_11_code
def yX5_add : MethodName := ⟨RX5, "add", "(I)V"⟩
def RX6 : String := "FrameWalks$World"
def TX6 : u_T := fun k => match k with
  | 0 => ("FrameWalks$World", "routines", "LFrameWalks$Table;", true)
  | 1 => ("FrameWalks$World", "ops", "LFrameWalks$Table;", true)
  | 2 => ("FrameWalks$World", "landings", "LFrameWalks$Table;", true)
  | 3 => ("FrameWalks$World", "calls", "LFrameWalks$Table;", true)
  | 4 => ("FrameWalks$World", "registers", "[I", true)
  | _ => ("FrameWalks$World", "words", "[I", true)
def tyX6 : Nat → FieldType := fun k => match k with
  | 0 => .object "FrameWalks$Table"
  | 1 => .object "FrameWalks$Table"
  | 2 => .object "FrameWalks$Table"
  | 3 => .object "FrameWalks$Table"
  | 4 => .array .int
  | _ => .array .int
abbrev wsX60 : List Cond := u_ws RX6 TX6 6
theorem nmX6 : ∀ a, a < 6 → ∀ b, b < 6 → a ≠ b → (TX6 a).2.1 ≠ (TX6 b).2.1 := by decide +kernel
theorem tyX6_ok : ∀ k, k < 6 → parseFieldDescriptor (TX6 k).2.2.1 = some (tyX6 k) := by decide +kernel
abbrev cX6_init : ByteArray := prog_8_method_1_code
def yX6_init : MethodName := ⟨RX6, "<init>", "()V"⟩
abbrev cX6_clearTables : ByteArray := prog_8_method_2_code
def yX6_clearTables : MethodName := ⟨RX6, "clearTables", "()V"⟩
abbrev cX6_takeTables : ByteArray := prog_8_method_3_code
def yX6_takeTables : MethodName := ⟨RX6, "takeTables", "(LFrameWalks$World;)V"⟩
abbrev cX6_takeAll : ByteArray := prog_8_method_4_code
def yX6_takeAll : MethodName := ⟨RX6, "takeAll", "(LFrameWalks$World;)V"⟩
abbrev cX6_meets : ByteArray := prog_8_method_5_code
def yX6_meets : MethodName := ⟨RX6, "meets", "(III)Z"⟩
abbrev cX6_ownerOf : ByteArray := prog_8_method_6_code
def yX6_ownerOf : MethodName := ⟨RX6, "ownerOf", "(I)I"⟩
abbrev cX6_sharesAddresses : ByteArray := prog_8_method_7_code
def yX6_sharesAddresses : MethodName := ⟨RX6, "sharesAddresses", "()Z"⟩
abbrev cX6_addressesHad : ByteArray := prog_8_method_8_code
def yX6_addressesHad : MethodName := ⟨RX6, "addressesHad", "()I"⟩
abbrev cX6_isCallAt : ByteArray := prog_8_method_9_code
def yX6_isCallAt : MethodName := ⟨RX6, "isCallAt", "(I)Z"⟩
abbrev cX6_isCallInto : ByteArray := prog_8_method_10_code
def yX6_isCallInto : MethodName := ⟨RX6, "isCallInto", "(II)Z"⟩
def RX7 : String := "FrameWalks"
def TX7 : u_T := fun k => match k with
  | 0 => ("FrameWalks", "now", "LFrameWalks$World;", true)
  | 1 => ("FrameWalks", "draft", "LFrameWalks$World;", true)
  | 2 => ("FrameWalks", "images", "[LFrameWalks$World;", true)
  | 3 => ("FrameWalks", "kept", "[Z", true)
  | 4 => ("FrameWalks", "tape", "LFrameWalks$Tape;", true)
  | 5 => ("FrameWalks", "ruled", "LFrameWalks$Row;", true)
  | 6 => ("FrameWalks", "track", "LFrameWalks$Track;", true)
  | 7 => ("FrameWalks", "hunt", "LFrameWalks$Hunt;", true)
  | 8 => ("FrameWalks", "sheets", "[LFrameWalks$Sheet;", true)
  | 9 => ("FrameWalks", "coming", "[I", true)
  | _ => ("FrameWalks", "tornBy", "I", false)
def tyX7 : Nat → FieldType := fun k => match k with
  | 0 => .object "FrameWalks$World"
  | 1 => .object "FrameWalks$World"
  | 2 => .array (.object "FrameWalks$World")
  | 3 => .array .boolean
  | 4 => .object "FrameWalks$Tape"
  | 5 => .object "FrameWalks$Row"
  | 6 => .object "FrameWalks$Track"
  | 7 => .object "FrameWalks$Hunt"
  | 8 => .array (.object "FrameWalks$Sheet")
  | 9 => .array .int
  | _ => .int
abbrev wsX70 : List Cond := u_ws RX7 TX7 11
theorem nmX7 : ∀ a, a < 11 → ∀ b, b < 11 → a ≠ b → (TX7 a).2.1 ≠ (TX7 b).2.1 := by decide +kernel
theorem tyX7_ok : ∀ k, k < 11 → parseFieldDescriptor (TX7 k).2.2.1 = some (tyX7 k) := by decide +kernel
abbrev cX7_init : ByteArray := prog_1_method_1_code
def yX7_init : MethodName := ⟨RX7, "<init>", "()V"⟩
abbrev cX7_feed : ByteArray := prog_1_method_2_code
def yX7_feed : MethodName := ⟨RX7, "feed", "(I)I"⟩
abbrev cX7_end : ByteArray := prog_1_method_3_code
def yX7_end : MethodName := ⟨RX7, "end", "(I)I"⟩
abbrev cX7_text : ByteArray := prog_1_method_4_code
def yX7_text : MethodName := ⟨RX7, "text", "()I"⟩
abbrev cX7_fault : ByteArray := prog_1_method_5_code
def yX7_fault : MethodName := ⟨RX7, "fault", "()I"⟩
abbrev cX7_rule : ByteArray := prog_1_method_6_code
def yX7_rule : MethodName := ⟨RX7, "rule", "(I)I"⟩
abbrev cX7_routine : ByteArray := prog_1_method_7_code
def yX7_routine : MethodName := ⟨RX7, "routine", "(II)I"⟩
abbrev cX7_op : ByteArray := prog_1_method_8_code
def yX7_op : MethodName := ⟨RX7, "op", "(II)I"⟩
abbrev cX7_landing : ByteArray := prog_1_method_9_code
def yX7_landing : MethodName := ⟨RX7, "landing", "(II)I"⟩
abbrev cX7_call : ByteArray := prog_1_method_10_code
def yX7_call : MethodName := ⟨RX7, "call", "(II)I"⟩
abbrev cX7_whose : ByteArray := prog_1_method_11_code
def yX7_whose : MethodName := ⟨RX7, "whose", "(I)I"⟩
abbrev cX7_row : ByteArray := prog_1_method_12_code
def yX7_row : MethodName := ⟨RX7, "row", "(II)I"⟩
abbrev cX7_ruleOf : ByteArray := prog_1_method_13_code
def yX7_ruleOf : MethodName := ⟨RX7, "ruleOf", "(III)I"⟩
abbrev cX7_put : ByteArray := prog_1_method_14_code
def yX7_put : MethodName := ⟨RX7, "put", "(II)I"⟩
abbrev cX7_poke : ByteArray := prog_1_method_15_code
def yX7_poke : MethodName := ⟨RX7, "poke", "(II)I"⟩
abbrev cX7_get : ByteArray := prog_1_method_16_code
def yX7_get : MethodName := ⟨RX7, "get", "(I)I"⟩
abbrev cX7_peek : ByteArray := prog_1_method_17_code
def yX7_peek : MethodName := ⟨RX7, "peek", "(I)I"⟩
abbrev cX7_walk : ByteArray := prog_1_method_18_code
def yX7_walk : MethodName := ⟨RX7, "walk", "(I)I"⟩
abbrev cX7_frame : ByteArray := prog_1_method_19_code
def yX7_frame : MethodName := ⟨RX7, "frame", "(II)I"⟩
abbrev cX7_came : ByteArray := prog_1_method_20_code
def yX7_came : MethodName := ⟨RX7, "came", "(II)I"⟩
abbrev cX7_guess : ByteArray := prog_1_method_21_code
def yX7_guess : MethodName := ⟨RX7, "guess", "(IIII)I"⟩
abbrev cX7_caught : ByteArray := prog_1_method_22_code
def yX7_caught : MethodName := ⟨RX7, "caught", "(II)I"⟩
abbrev cX7_cleaned : ByteArray := prog_1_method_23_code
def yX7_cleaned : MethodName := ⟨RX7, "cleaned", "(II)I"⟩
abbrev cX7_move : ByteArray := prog_1_method_24_code
def yX7_move : MethodName := ⟨RX7, "move", "(III)I"⟩
abbrev cX7_alter : ByteArray := prog_1_method_25_code
def yX7_alter : MethodName := ⟨RX7, "alter", "(II)I"⟩
abbrev cX7_keep : ByteArray := prog_1_method_26_code
def yX7_keep : MethodName := ⟨RX7, "keep", "(I)I"⟩
abbrev cX7_back : ByteArray := prog_1_method_27_code
def yX7_back : MethodName := ⟨RX7, "back", "(I)I"⟩
abbrev cX7_sheet : ByteArray := prog_1_method_28_code
def yX7_sheet : MethodName := ⟨RX7, "sheet", "(III)I"⟩
abbrev cX7_lay : ByteArray := prog_1_method_29_code
def yX7_lay : MethodName := ⟨RX7, "lay", "(III)I"⟩
abbrev cX7_read : ByteArray := prog_1_method_30_code
def yX7_read : MethodName := ⟨RX7, "read", "(IIIII)I"⟩
abbrev cX7_torn : ByteArray := prog_1_method_31_code
def yX7_torn : MethodName := ⟨RX7, "torn", "()I"⟩
abbrev cX7_count : ByteArray := prog_1_method_32_code
def yX7_count : MethodName := ⟨RX7, "count", "(I)I"⟩
abbrev cX7_isRegister : ByteArray := prog_1_method_33_code
def yX7_isRegister : MethodName := ⟨RX7, "isRegister", "(I)Z"⟩
abbrev cX7_isWord : ByteArray := prog_1_method_34_code
def yX7_isWord : MethodName := ⟨RX7, "isWord", "(I)Z"⟩
abbrev cX7_isNumber : ByteArray := prog_1_method_35_code
def yX7_isNumber : MethodName := ⟨RX7, "isNumber", "(I)Z"⟩
abbrev cX7_isSheet : ByteArray := prog_1_method_36_code
def yX7_isSheet : MethodName := ⟨RX7, "isSheet", "(I)Z"⟩
abbrev cX7_isLane : ByteArray := prog_1_method_37_code
def yX7_isLane : MethodName := ⟨RX7, "isLane", "(I)Z"⟩
abbrev cX7_isThrown : ByteArray := prog_1_method_38_code
def yX7_isThrown : MethodName := ⟨RX7, "isThrown", "(I)Z"⟩
abbrev cX7_isGuessable : ByteArray := prog_1_method_39_code
def yX7_isGuessable : MethodName := ⟨RX7, "isGuessable", "(I)Z"⟩
abbrev cX7_sumOf : ByteArray := prog_1_method_40_code
def yX7_sumOf : MethodName := ⟨RX7, "sumOf", "([I)I"⟩
abbrev cX7_endAt : ByteArray := prog_1_method_41_code
def yX7_endAt : MethodName := ⟨RX7, "endAt", "(I)I"⟩
abbrev cX7_findGuesses : ByteArray := prog_1_method_42_code
def yX7_findGuesses : MethodName := ⟨RX7, "findGuesses", "(I)I"⟩
abbrev cX7_landsIn : ByteArray := prog_1_method_43_code
def yX7_landsIn : MethodName := ⟨RX7, "landsIn", "(II)Z"⟩
abbrev cX7_catchIn : ByteArray := prog_1_method_44_code
def yX7_catchIn : MethodName := ⟨RX7, "catchIn", "(II)I"⟩
abbrev cX7_catcherOf : ByteArray := prog_1_method_45_code
def yX7_catcherOf : MethodName := ⟨RX7, "catcherOf", "(I)I"⟩
def RX8 : String := "FrameWalksModel"
def TX8 : u_T := fun k => match k with
  | 0 => ("FrameWalksModel", "state", "[I", true)
  | 1 => ("FrameWalksModel", "tape", "[I", true)
  | 2 => ("FrameWalksModel", "taped", "I", false)
  | 3 => ("FrameWalksModel", "fault", "I", false)
  | 4 => ("FrameWalksModel", "broken", "I", false)
  | 5 => ("FrameWalksModel", "brokenAt", "I", false)
  | 6 => ("FrameWalksModel", "spot", "I", false)
  | 7 => ("FrameWalksModel", "here", "I", false)
  | 8 => ("FrameWalksModel", "token", "I", false)
  | 9 => ("FrameWalksModel", "value", "I", false)
  | 10 => ("FrameWalksModel", "ends", "[I", true)
  | 11 => ("FrameWalksModel", "letters", "[I", true)
  | 12 => ("FrameWalksModel", "row", "[I", true)
  | 13 => ("FrameWalksModel", "laid", "[I", true)
  | 14 => ("FrameWalksModel", "laidMany", "I", false)
  | 15 => ("FrameWalksModel", "frames", "[I", true)
  | 16 => ("FrameWalksModel", "cameBy", "[I", true)
  | 17 => ("FrameWalksModel", "looked", "[I", true)
  | 18 => ("FrameWalksModel", "owners", "[I", true)
  | 19 => ("FrameWalksModel", "frameMany", "I", false)
  | 20 => ("FrameWalksModel", "ending", "I", false)
  | 21 => ("FrameWalksModel", "isWalked", "Z", false)
  | 22 => ("FrameWalksModel", "isKept", "[Z", true)
  | 23 => ("FrameWalksModel", "lanes", "[I", true)
  | 24 => ("FrameWalksModel", "lengths", "[I", true)
  | 25 => ("FrameWalksModel", "cells", "[I", true)
  | 26 => ("FrameWalksModel", "aside", "[I", true)
  | _ => ("FrameWalksModel", "torn", "I", false)
def tyX8 : Nat → FieldType := fun k => match k with
  | 0 => .array .int
  | 1 => .array .int
  | 2 => .int
  | 3 => .int
  | 4 => .int
  | 5 => .int
  | 6 => .int
  | 7 => .int
  | 8 => .int
  | 9 => .int
  | 10 => .array .int
  | 11 => .array .int
  | 12 => .array .int
  | 13 => .array .int
  | 14 => .int
  | 15 => .array .int
  | 16 => .array .int
  | 17 => .array .int
  | 18 => .array .int
  | 19 => .int
  | 20 => .int
  | 21 => .boolean
  | 22 => .array .boolean
  | 23 => .array .int
  | 24 => .array .int
  | 25 => .array .int
  | 26 => .array .int
  | _ => .int
abbrev wsX80 : List Cond := u_ws RX8 TX8 28
theorem nmX8 : ∀ a, a < 28 → ∀ b, b < 28 → a ≠ b → (TX8 a).2.1 ≠ (TX8 b).2.1 := by decide +kernel
theorem tyX8_ok : ∀ k, k < 28 → parseFieldDescriptor (TX8 k).2.2.1 = some (tyX8 k) := by decide +kernel
abbrev cX8_init : ByteArray := prog_10_method_1_code
def yX8_init : MethodName := ⟨RX8, "<init>", "()V"⟩
abbrev cX8_in : ByteArray := prog_10_method_3_code
def yX8_in : MethodName := ⟨RX8, "in", "(JJJ)Z"⟩
abbrev cX8_feed : ByteArray := prog_10_method_4_code
def yX8_feed : MethodName := ⟨RX8, "feed", "(I)I"⟩
abbrev cX8_end : ByteArray := prog_10_method_5_code
def yX8_end : MethodName := ⟨RX8, "end", "(I)I"⟩
abbrev cX8_byteAt : ByteArray := prog_10_method_6_code
def yX8_byteAt : MethodName := ⟨RX8, "byteAt", "(I)I"⟩
abbrev cX8_fails : ByteArray := prog_10_method_7_code
def yX8_fails : MethodName := ⟨RX8, "fails", "(I)V"⟩
abbrev cX8_nameHere : ByteArray := prog_10_method_8_code
def yX8_nameHere : MethodName := ⟨RX8, "nameHere", "()I"⟩
abbrev cX8_readsOn : ByteArray := prog_10_method_9_code
def yX8_readsOn : MethodName := ⟨RX8, "readsOn", "()V"⟩
abbrev cX8_numberRead : ByteArray := prog_10_method_10_code
def yX8_numberRead : MethodName := ⟨RX8, "numberRead", "(II)I"⟩
abbrev cX8_registerRead : ByteArray := prog_10_method_11_code
def yX8_registerRead : MethodName := ⟨RX8, "registerRead", "(I)I"⟩
abbrev cX8_readRoutine : ByteArray := prog_10_method_12_code
def yX8_readRoutine : MethodName := ⟨RX8, "readRoutine", "(I)V"⟩
abbrev cX8_readOp : ByteArray := prog_10_method_13_code
def yX8_readOp : MethodName := ⟨RX8, "readOp", "(I)V"⟩
abbrev cX8_readLanding : ByteArray := prog_10_method_14_code
def yX8_readLanding : MethodName := ⟨RX8, "readLanding", "()V"⟩
abbrev cX8_readCall : ByteArray := prog_10_method_15_code
def yX8_readCall : MethodName := ⟨RX8, "readCall", "()V"⟩
abbrev cX8_readLine : ByteArray := prog_10_method_16_code
def yX8_readLine : MethodName := ⟨RX8, "readLine", "()V"⟩
abbrev cX8_isApart : ByteArray := prog_10_method_17_code
def yX8_isApart : MethodName := ⟨RX8, "isApart", "(I)Z"⟩
abbrev cX8_text : ByteArray := prog_10_method_18_code
def yX8_text : MethodName := ⟨RX8, "text", "()I"⟩
abbrev cX8_fault : ByteArray := prog_10_method_19_code
def yX8_fault : MethodName := ⟨RX8, "fault", "()I"⟩
abbrev cX8_routines : ByteArray := prog_10_method_20_code
def yX8_routines : MethodName := ⟨RX8, "routines", "()I"⟩
abbrev cX8_isRoutine : ByteArray := prog_10_method_21_code
def yX8_isRoutine : MethodName := ⟨RX8, "isRoutine", "(I)Z"⟩
abbrev cX8_isOf : ByteArray := prog_10_method_22_code
def yX8_isOf : MethodName := ⟨RX8, "isOf", "(II)Z"⟩
abbrev cX8_whoseOf : ByteArray := prog_10_method_23_code
def yX8_whoseOf : MethodName := ⟨RX8, "whoseOf", "(I)I"⟩
abbrev cX8_whose : ByteArray := prog_10_method_24_code
def yX8_whose : MethodName := ⟨RX8, "whose", "(I)I"⟩
abbrev cX8_addresses : ByteArray := prog_10_method_25_code
def yX8_addresses : MethodName := ⟨RX8, "addresses", "()I"⟩
abbrev cX8_guessed : ByteArray := prog_10_method_26_code
def yX8_guessed : MethodName := ⟨RX8, "guessed", "()I"⟩
abbrev cX8_rule : ByteArray := prog_10_method_27_code
def yX8_rule : MethodName := ⟨RX8, "rule", "(I)I"⟩
abbrev cX8_ofRoutine : ByteArray := prog_10_method_28_code
def yX8_ofRoutine : MethodName := ⟨RX8, "ofRoutine", "(II)I"⟩
abbrev cX8_routine : ByteArray := prog_10_method_29_code
def yX8_routine : MethodName := ⟨RX8, "routine", "(II)I"⟩
abbrev cX8_op : ByteArray := prog_10_method_30_code
def yX8_op : MethodName := ⟨RX8, "op", "(II)I"⟩
abbrev cX8_landing : ByteArray := prog_10_method_31_code
def yX8_landing : MethodName := ⟨RX8, "landing", "(II)I"⟩
abbrev cX8_aheadOf : ByteArray := prog_10_method_32_code
def yX8_aheadOf : MethodName := ⟨RX8, "aheadOf", "(I)I"⟩
abbrev cX8_call : ByteArray := prog_10_method_33_code
def yX8_call : MethodName := ⟨RX8, "call", "(II)I"⟩
abbrev cX8_begins : ByteArray := prog_10_method_34_code
def yX8_begins : MethodName := ⟨RX8, "begins", "()V"⟩
abbrev cX8_ruled : ByteArray := prog_10_method_35_code
def yX8_ruled : MethodName := ⟨RX8, "ruled", "(III)V"⟩
abbrev cX8_marks : ByteArray := prog_10_method_36_code
def yX8_marks : MethodName := ⟨RX8, "marks", "()V"⟩
abbrev cX8_resets : ByteArray := prog_10_method_37_code
def yX8_resets : MethodName := ⟨RX8, "resets", "()V"⟩
abbrev cX8_does : ByteArray := prog_10_method_38_code
def yX8_does : MethodName := ⟨RX8, "does", "(I)V"⟩
abbrev cX8_rows : ByteArray := prog_10_method_39_code
def yX8_rows : MethodName := ⟨RX8, "rows", "(II)V"⟩
abbrev cX8_row : ByteArray := prog_10_method_40_code
def yX8_row : MethodName := ⟨RX8, "row", "(II)I"⟩
abbrev cX8_ruleOf : ByteArray := prog_10_method_41_code
def yX8_ruleOf : MethodName := ⟨RX8, "ruleOf", "(III)I"⟩
abbrev cX8_becomes : ByteArray := prog_10_method_42_code
def yX8_becomes : MethodName := ⟨RX8, "becomes", "(ZII)I"⟩
abbrev cX8_isRegister : ByteArray := prog_10_method_43_code
def yX8_isRegister : MethodName := ⟨RX8, "isRegister", "(I)Z"⟩
abbrev cX8_isWord : ByteArray := prog_10_method_44_code
def yX8_isWord : MethodName := ⟨RX8, "isWord", "(I)Z"⟩
abbrev cX8_put : ByteArray := prog_10_method_45_code
def yX8_put : MethodName := ⟨RX8, "put", "(II)I"⟩
abbrev cX8_poke : ByteArray := prog_10_method_46_code
def yX8_poke : MethodName := ⟨RX8, "poke", "(II)I"⟩
abbrev cX8_get : ByteArray := prog_10_method_47_code
def yX8_get : MethodName := ⟨RX8, "get", "(I)I"⟩
abbrev cX8_peek : ByteArray := prog_10_method_48_code
def yX8_peek : MethodName := ⟨RX8, "peek", "(I)I"⟩
abbrev cX8_scoreOf : ByteArray := prog_10_method_49_code
def yX8_scoreOf : MethodName := ⟨RX8, "scoreOf", "(II)I"⟩
abbrev cX8_bestOf : ByteArray := prog_10_method_50_code
def yX8_bestOf : MethodName := ⟨RX8, "bestOf", "(III)I"⟩
abbrev cX8_guess : ByteArray := prog_10_method_51_code
def yX8_guess : MethodName := ⟨RX8, "guess", "(IIII)I"⟩
abbrev cX8_stands : ByteArray := prog_10_method_52_code
def yX8_stands : MethodName := ⟨RX8, "stands", "(II)V"⟩
abbrev cX8_nextOf : ByteArray := prog_10_method_53_code
def yX8_nextOf : MethodName := ⟨RX8, "nextOf", "(I)I"⟩
abbrev cX8_isGuessed : ByteArray := prog_10_method_54_code
def yX8_isGuessed : MethodName := ⟨RX8, "isGuessed", "(I)Z"⟩
abbrev cX8_walk : ByteArray := prog_10_method_55_code
def yX8_walk : MethodName := ⟨RX8, "walk", "(I)I"⟩
abbrev cX8_isFrame : ByteArray := prog_10_method_56_code
def yX8_isFrame : MethodName := ⟨RX8, "isFrame", "(I)Z"⟩
abbrev cX8_frame : ByteArray := prog_10_method_57_code
def yX8_frame : MethodName := ⟨RX8, "frame", "(II)I"⟩
abbrev cX8_came : ByteArray := prog_10_method_58_code
def yX8_came : MethodName := ⟨RX8, "came", "(II)I"⟩
abbrev cX8_isLandingOf : ByteArray := prog_10_method_59_code
def yX8_isLandingOf : MethodName := ⟨RX8, "isLandingOf", "(II)Z"⟩
abbrev cX8_catches : ByteArray := prog_10_method_60_code
def yX8_catches : MethodName := ⟨RX8, "catches", "(II)I"⟩
abbrev cX8_catcher : ByteArray := prog_10_method_61_code
def yX8_catcher : MethodName := ⟨RX8, "catcher", "(I)I"⟩
abbrev cX8_caught : ByteArray := prog_10_method_62_code
def yX8_caught : MethodName := ⟨RX8, "caught", "(II)I"⟩
abbrev cX8_cleaned : ByteArray := prog_10_method_63_code
def yX8_cleaned : MethodName := ⟨RX8, "cleaned", "(II)I"⟩
abbrev cX8_move : ByteArray := prog_10_method_64_code
def yX8_move : MethodName := ⟨RX8, "move", "(III)I"⟩
abbrev cX8_alter : ByteArray := prog_10_method_65_code
def yX8_alter : MethodName := ⟨RX8, "alter", "(II)I"⟩
abbrev cX8_copies : ByteArray := prog_10_method_66_code
def yX8_copies : MethodName := ⟨RX8, "copies", "(II)V"⟩
abbrev cX8_keep : ByteArray := prog_10_method_67_code
def yX8_keep : MethodName := ⟨RX8, "keep", "(I)I"⟩
abbrev cX8_back : ByteArray := prog_10_method_68_code
def yX8_back : MethodName := ⟨RX8, "back", "(I)I"⟩
abbrev cX8_sheet : ByteArray := prog_10_method_69_code
def yX8_sheet : MethodName := ⟨RX8, "sheet", "(III)I"⟩
abbrev cX8_lay : ByteArray := prog_10_method_70_code
def yX8_lay : MethodName := ⟨RX8, "lay", "(III)I"⟩
abbrev cX8_wordsAside : ByteArray := prog_10_method_71_code
def yX8_wordsAside : MethodName := ⟨RX8, "wordsAside", "(Z)V"⟩
abbrev cX8_isPoked : ByteArray := prog_10_method_72_code
def yX8_isPoked : MethodName := ⟨RX8, "isPoked", "(JI)Z"⟩
abbrev cX8_read : ByteArray := prog_10_method_73_code
def yX8_read : MethodName := ⟨RX8, "read", "(IIIII)I"⟩
abbrev cX8_torn : ByteArray := prog_10_method_74_code
def yX8_torn : MethodName := ⟨RX8, "torn", "()I"⟩
abbrev cX8_count : ByteArray := prog_10_method_75_code
def yX8_count : MethodName := ⟨RX8, "count", "(I)I"⟩
def RJx145de : String := "java/io/Serializable"
def TJx145de : u_T := fun k => match k with
  | _ => ("", "", "", false)
def tyJx145de : Nat → FieldType := fun k => match k with
  | _ => .int
abbrev wsJx145de0 : List Cond := u_ws RJx145de TJx145de 0
theorem nmJx145de : ∀ a, a < 0 → ∀ b, b < 0 → a ≠ b → (TJx145de a).2.1 ≠ (TJx145de b).2.1 := by decide +kernel
theorem tyJx145de_ok : ∀ k, k < 0 → parseFieldDescriptor (TJx145de k).2.2.1 = some (tyJx145de k) := by decide +kernel
def RJx9f9b0 : String := "java/lang/CharSequence"
def TJx9f9b0 : u_T := fun k => match k with
  | _ => ("", "", "", false)
def tyJx9f9b0 : Nat → FieldType := fun k => match k with
  | _ => .int
abbrev wsJx9f9b00 : List Cond := u_ws RJx9f9b0 TJx9f9b0 0
theorem nmJx9f9b0 : ∀ a, a < 0 → ∀ b, b < 0 → a ≠ b → (TJx9f9b0 a).2.1 ≠ (TJx9f9b0 b).2.1 := by decide +kernel
theorem tyJx9f9b0_ok : ∀ k, k < 0 → parseFieldDescriptor (TJx9f9b0 k).2.2.1 = some (tyJx9f9b0 k) := by decide +kernel
def RJxb160c : String := "java/lang/Comparable"
def TJxb160c : u_T := fun k => match k with
  | _ => ("", "", "", false)
def tyJxb160c : Nat → FieldType := fun k => match k with
  | _ => .int
abbrev wsJxb160c0 : List Cond := u_ws RJxb160c TJxb160c 0
theorem nmJxb160c : ∀ a, a < 0 → ∀ b, b < 0 → a ≠ b → (TJxb160c a).2.1 ≠ (TJxb160c b).2.1 := by decide +kernel
theorem tyJxb160c_ok : ∀ k, k < 0 → parseFieldDescriptor (TJxb160c k).2.2.1 = some (tyJxb160c k) := by decide +kernel
def RJ6 : String := "java/lang/Integer"
def TJ6 : u_T := fun k => match k with
  | _ => ("", "", "", false)
def tyJ6 : Nat → FieldType := fun k => match k with
  | _ => .int
abbrev wsJ60 : List Cond := u_ws RJ6 TJ6 0
theorem nmJ6 : ∀ a, a < 0 → ∀ b, b < 0 → a ≠ b → (TJ6 a).2.1 ≠ (TJ6 b).2.1 := by decide +kernel
theorem tyJ6_ok : ∀ k, k < 0 → parseFieldDescriptor (TJ6 k).2.2.1 = some (tyJ6 k) := by decide +kernel
abbrev cJ6_compare_7cf53 : ByteArray := prog_11_method_40_code
def yJ6_compare_7cf53 : MethodName := ⟨RJ6, "compare", "(II)I"⟩
def RJ9 : String := "java/lang/Math"
def TJ9 : u_T := fun k => match k with
  | _ => ("", "", "", false)
def tyJ9 : Nat → FieldType := fun k => match k with
  | _ => .int
abbrev wsJ90 : List Cond := u_ws RJ9 TJ9 0
theorem nmJ9 : ∀ a, a < 0 → ∀ b, b < 0 → a ≠ b → (TJ9 a).2.1 ≠ (TJ9 b).2.1 := by decide +kernel
theorem tyJ9_ok : ∀ k, k < 0 → parseFieldDescriptor (TJ9 k).2.2.1 = some (tyJ9 k) := by decide +kernel
abbrev cJ9_min_7cf53 : ByteArray := prog_12_method_69_code
def yJ9_min_7cf53 : MethodName := ⟨RJ9, "min", "(II)I"⟩
def RJ0 : String := "java/lang/String"
def TJ0 : u_T := fun k => match k with
  | _ => ("", "", "", false)
def tyJ0 : Nat → FieldType := fun k => match k with
  | _ => .int
abbrev wsJ00 : List Cond := u_ws RJ0 TJ0 0
theorem nmJ0 : ∀ a, a < 0 → ∀ b, b < 0 → a ≠ b → (TJ0 a).2.1 ≠ (TJ0 b).2.1 := by decide +kernel
theorem tyJ0_ok : ∀ k, k < 0 → parseFieldDescriptor (TJ0 k).2.2.1 = some (tyJ0 k) := by decide +kernel
abbrev cJ0_length_8abf5 : ByteArray := prog_13_method_54_code
def yJ0_length_8abf5 : MethodName := ⟨RJ0, "length", "()I"⟩
abbrev cJ0_charAt_5068e : ByteArray := prog_13_method_56_code
def yJ0_charAt_5068e : MethodName := ⟨RJ0, "charAt", "(I)C"⟩
abbrev cJ0_coder_7d493 : ByteArray := prog_13_method_152_code
def yJ0_coder_7d493 : MethodName := ⟨RJ0, "coder", "()B"⟩
abbrev cJ0_isLatin1_aae02 : ByteArray := prog_13_method_154_code
def yJ0_isLatin1_aae02 : MethodName := ⟨RJ0, "isLatin1", "()Z"⟩
abbrev cJ0_checkIndex_df160 : ByteArray := prog_13_method_155_code
def yJ0_checkIndex_df160 : MethodName := ⟨RJ0, "checkIndex", "(II)V"⟩
def RJ1 : String := "java/lang/StringLatin1"
def TJ1 : u_T := fun k => match k with
  | _ => ("", "", "", false)
def tyJ1 : Nat → FieldType := fun k => match k with
  | _ => .int
abbrev wsJ10 : List Cond := u_ws RJ1 TJ1 0
theorem nmJ1 : ∀ a, a < 0 → ∀ b, b < 0 → a ≠ b → (TJ1 a).2.1 ≠ (TJ1 b).2.1 := by decide +kernel
theorem tyJ1_ok : ∀ k, k < 0 → parseFieldDescriptor (TJ1 k).2.2.1 = some (tyJ1 k) := by decide +kernel
abbrev cJ1_charAt_3b067 : ByteArray := prog_14_method_2_code
def yJ1_charAt_3b067 : MethodName := ⟨RJ1, "charAt", "([BI)C"⟩
def RJ2 : String := "java/lang/StringUTF16"
def TJ2 : u_T := fun k => match k with
  | _ => ("", "", "", false)
def tyJ2 : Nat → FieldType := fun k => match k with
  | _ => .int
abbrev wsJ20 : List Cond := u_ws RJ2 TJ2 0
theorem nmJ2 : ∀ a, a < 0 → ∀ b, b < 0 → a ≠ b → (TJ2 a).2.1 ≠ (TJ2 b).2.1 := by decide +kernel
theorem tyJ2_ok : ∀ k, k < 0 → parseFieldDescriptor (TJ2 k).2.2.1 = some (tyJ2 k) := by decide +kernel
abbrev cJ2_getChar_3b067 : ByteArray := prog_15_method_5_code
def yJ2_getChar_3b067 : MethodName := ⟨RJ2, "getChar", "([BI)C"⟩
abbrev cJ2_length_9d52b : ByteArray := prog_15_method_6_code
def yJ2_length_9d52b : MethodName := ⟨RJ2, "length", "([B)I"⟩
abbrev cJ2_charAt_3b067 : ByteArray := prog_15_method_83_code
def yJ2_charAt_3b067 : MethodName := ⟨RJ2, "charAt", "([BI)C"⟩
abbrev cJ2_checkIndex_2214a : ByteArray := prog_15_method_91_code
def yJ2_checkIndex_2214a : MethodName := ⟨RJ2, "checkIndex", "(I[B)V"⟩
def RJ10 : String := "java/lang/System"
def TJ10 : u_T := fun k => match k with
  | _ => ("", "", "", false)
def tyJ10 : Nat → FieldType := fun k => match k with
  | _ => .int
abbrev wsJ100 : List Cond := u_ws RJ10 TJ10 0
theorem nmJ10 : ∀ a, a < 0 → ∀ b, b < 0 → a ≠ b → (TJ10 a).2.1 ≠ (TJ10 b).2.1 := by decide +kernel
theorem tyJ10_ok : ∀ k, k < 0 → parseFieldDescriptor (TJ10 k).2.2.1 = some (tyJ10 k) := by decide +kernel
def RJxfd54e : String := "java/lang/constant/Constable"
def TJxfd54e : u_T := fun k => match k with
  | _ => ("", "", "", false)
def tyJxfd54e : Nat → FieldType := fun k => match k with
  | _ => .int
abbrev wsJxfd54e0 : List Cond := u_ws RJxfd54e TJxfd54e 0
theorem nmJxfd54e : ∀ a, a < 0 → ∀ b, b < 0 → a ≠ b → (TJxfd54e a).2.1 ≠ (TJxfd54e b).2.1 := by decide +kernel
theorem tyJxfd54e_ok : ∀ k, k < 0 → parseFieldDescriptor (TJxfd54e k).2.2.1 = some (tyJxfd54e k) := by decide +kernel
def RJx3cf43 : String := "java/lang/constant/ConstantDesc"
def TJx3cf43 : u_T := fun k => match k with
  | _ => ("", "", "", false)
def tyJx3cf43 : Nat → FieldType := fun k => match k with
  | _ => .int
abbrev wsJx3cf430 : List Cond := u_ws RJx3cf43 TJx3cf43 0
theorem nmJx3cf43 : ∀ a, a < 0 → ∀ b, b < 0 → a ≠ b → (TJx3cf43 a).2.1 ≠ (TJx3cf43 b).2.1 := by decide +kernel
theorem tyJx3cf43_ok : ∀ k, k < 0 → parseFieldDescriptor (TJx3cf43 k).2.2.1 = some (tyJx3cf43 k) := by decide +kernel
def RJ7 : String := "java/util/Arrays"
def TJ7 : u_T := fun k => match k with
  | _ => ("", "", "", false)
def tyJ7 : Nat → FieldType := fun k => match k with
  | _ => .int
abbrev wsJ70 : List Cond := u_ws RJ7 TJ7 0
theorem nmJ7 : ∀ a, a < 0 → ∀ b, b < 0 → a ≠ b → (TJ7 a).2.1 ≠ (TJ7 b).2.1 := by decide +kernel
theorem tyJ7_ok : ∀ k, k < 0 → parseFieldDescriptor (TJ7 k).2.2.1 = some (tyJ7 k) := by decide +kernel
abbrev cJ7_fill_53178 : ByteArray := prog_17_method_103_code
def yJ7_fill_53178 : MethodName := ⟨RJ7, "fill", "([II)V"⟩
def RJ3 : String := "jdk/internal/util/Preconditions"
def TJ3 : u_T := fun k => match k with
  | _ => ("", "", "", false)
def tyJ3 : Nat → FieldType := fun k => match k with
  | _ => .int
abbrev wsJ30 : List Cond := u_ws RJ3 TJ3 0
theorem nmJ3 : ∀ a, a < 0 → ∀ b, b < 0 → a ≠ b → (TJ3 a).2.1 ≠ (TJ3 b).2.1 := by decide +kernel
theorem tyJ3_ok : ∀ k, k < 0 → parseFieldDescriptor (TJ3 k).2.2.1 = some (tyJ3 k) := by decide +kernel
abbrev cJ3_checkIndex_8e157 : ByteArray := prog_18_method_11_code
def yJ3_checkIndex_8e157 : MethodName := ⟨RJ3, "checkIndex", "(IILjava/util/function/BiFunction;)I"⟩
def RL : String := "FrameWalksLaw"
abbrev cL_law : ByteArray := code
def yL_law : MethodName := ⟨RL, "law", "([I)Z"⟩
def wsX0_init : List Cond := .code yX0_init cX0_init 1 none :: ([.methodLink RX0 3 objectInit, .instanceMethod objectInit, .code objectInit ⟨#[0xb1]⟩ 1 none, .arrayClass .int, .fieldLink RX0 9 "FrameWalks$Hunt" "places" "[I", .fieldLink RX0 15 "FrameWalks$Hunt" "scores" "[I", .fieldLink RX0 18 "FrameWalks$Hunt" "size" "I"] ++ wsX00)
def wsX7_isWord : List Cond := .code yX7_isWord cX7_isWord 1 (some .boolean) :: ([])
def wsX3_at : List Cond := .code yX3_at cX3_at 3 (some .int) :: ([.fieldLink RX3 9 "FrameWalks$Table" "size" "I", .fieldLink RX3 15 "FrameWalks$Table" "width" "I", .fieldLink RX3 18 "FrameWalks$Table" "cells" "[I"] ++ wsX30)
def wsX6_meets : List Cond := .code yX6_meets cX6_meets 4 (some .boolean) :: ([.fieldLink RX6 14 "FrameWalks$World" "routines" "LFrameWalks$Table;", .methodLink RX6 54 yX3_at, .instanceMethod yX3_at, .selects RX3 yX3_at yX3_at, .initialized RX3, .code yX3_at cX3_at 3 (some .int), .fieldLink RX3 9 "FrameWalks$Table" "size" "I", .fieldLink RX3 15 "FrameWalks$Table" "width" "I", .fieldLink RX3 18 "FrameWalks$Table" "cells" "[I"] ++ wsX60 ++ wsX30)
def wsX6_ownerOf : List Cond := .code yX6_ownerOf cX6_ownerOf 3 (some .int) :: ([.fieldLink RX6 14 "FrameWalks$World" "routines" "LFrameWalks$Table;", .methodLink RX6 58 yX6_meets, .instanceMethod yX6_meets, .selects RX6 yX6_meets yX6_meets, .initialized RX6, .code yX6_meets cX6_meets 4 (some .boolean), .methodLink RX6 54 yX3_at, .instanceMethod yX3_at, .selects RX3 yX3_at yX3_at, .initialized RX3, .code yX3_at cX3_at 3 (some .int), .fieldLink RX3 9 "FrameWalks$Table" "size" "I", .fieldLink RX3 15 "FrameWalks$Table" "width" "I", .fieldLink RX3 18 "FrameWalks$Table" "cells" "[I"] ++ wsX60 ++ wsX30)
def wsX3_howMany : List Cond := .code yX3_howMany cX3_howMany 5 (some .int) :: ([.fieldLink RX3 9 "FrameWalks$Table" "size" "I", .methodLink RX3 32 yX3_at, .instanceMethod yX3_at, .selects RX3 yX3_at yX3_at, .initialized RX3, .code yX3_at cX3_at 3 (some .int), .fieldLink RX3 15 "FrameWalks$Table" "width" "I", .fieldLink RX3 18 "FrameWalks$Table" "cells" "[I"] ++ wsX30)
def wsX6_isCallAt : List Cond := .code yX6_isCallAt cX6_isCallAt 2 (some .boolean) :: ([.fieldLink RX6 26 "FrameWalks$World" "calls" "LFrameWalks$Table;", .methodLink RX6 62 yX3_howMany, .instanceMethod yX3_howMany, .selects RX3 yX3_howMany yX3_howMany, .initialized RX3, .code yX3_howMany cX3_howMany 5 (some .int), .fieldLink RX3 9 "FrameWalks$Table" "size" "I", .methodLink RX3 32 yX3_at, .instanceMethod yX3_at, .selects RX3 yX3_at yX3_at, .code yX3_at cX3_at 3 (some .int), .fieldLink RX3 15 "FrameWalks$Table" "width" "I", .fieldLink RX3 18 "FrameWalks$Table" "cells" "[I"] ++ wsX60 ++ wsX30)
def wsX6_isCallInto : List Cond := .code yX6_isCallInto cX6_isCallInto 5 (some .boolean) :: ([.fieldLink RX6 26 "FrameWalks$World" "calls" "LFrameWalks$Table;", .methodLink RX6 54 yX3_at, .instanceMethod yX3_at, .selects RX3 yX3_at yX3_at, .initialized RX3, .code yX3_at cX3_at 3 (some .int), .fieldLink RX3 9 "FrameWalks$Table" "size" "I", .fieldLink RX3 15 "FrameWalks$Table" "width" "I", .fieldLink RX3 18 "FrameWalks$Table" "cells" "[I", .methodLink RX6 58 yX6_meets, .instanceMethod yX6_meets, .selects RX6 yX6_meets yX6_meets, .initialized RX6, .code yX6_meets cX6_meets 4 (some .boolean), .fieldLink RX6 14 "FrameWalks$World" "routines" "LFrameWalks$Table;"] ++ wsX60 ++ wsX30)
def wsX0_scoreOf_r1 : List Cond := [Cond.methodLink RX0 39 yX6_ownerOf, Cond.instanceMethod yX6_ownerOf, Cond.selects RX6 yX6_ownerOf yX6_ownerOf, Cond.initialized RX6, Cond.code yX6_ownerOf cX6_ownerOf 3 (some .int), Cond.fieldLink RX6 14 "FrameWalks$World" "routines" "LFrameWalks$Table;", Cond.methodLink RX6 58 yX6_meets, Cond.instanceMethod yX6_meets, Cond.selects RX6 yX6_meets yX6_meets, Cond.code yX6_meets cX6_meets 4 (some .boolean), Cond.methodLink RX6 54 yX3_at, Cond.instanceMethod yX3_at, Cond.selects RX3 yX3_at yX3_at, Cond.initialized RX3, Cond.code yX3_at cX3_at 3 (some .int), Cond.fieldLink RX3 9 "FrameWalks$Table" "size" "I", Cond.fieldLink RX3 15 "FrameWalks$Table" "width" "I", Cond.fieldLink RX3 18 "FrameWalks$Table" "cells" "[I", Cond.methodLink RX0 43 yX6_isCallAt, Cond.instanceMethod yX6_isCallAt, Cond.selects RX6 yX6_isCallAt yX6_isCallAt, Cond.code yX6_isCallAt cX6_isCallAt 2 (some .boolean), Cond.fieldLink RX6 26 "FrameWalks$World" "calls" "LFrameWalks$Table;", Cond.methodLink RX6 62 yX3_howMany]
def wsX0_scoreOf_r2 : List Cond := [Cond.instanceMethod yX3_howMany, Cond.selects RX3 yX3_howMany yX3_howMany, Cond.code yX3_howMany cX3_howMany 5 (some .int), Cond.methodLink RX3 32 yX3_at, Cond.methodLink RX0 46 yX6_isCallInto, Cond.instanceMethod yX6_isCallInto, Cond.selects RX6 yX6_isCallInto yX6_isCallInto, Cond.code yX6_isCallInto cX6_isCallInto 5 (some .boolean)]
def wsX0_scoreOf : List Cond := .code yX0_scoreOf cX0_scoreOf 4 (some .int) :: ((wsX0_scoreOf_r1 ++ wsX0_scoreOf_r2) ++ wsX60 ++ wsX30)
def wsX0_enter : List Cond := .code yX0_enter cX0_enter 4 none :: ([.fieldLink RX0 18 "FrameWalks$Hunt" "size" "I", .methodLink RX0 50 Lib.Math.min.name, .static Lib.Math.min.name, .initialized "java/lang/Math", .code Lib.Math.min.name Lib.Math.min.code 2 (some .int), .fieldLink RX0 15 "FrameWalks$Hunt" "scores" "[I", .fieldLink RX0 9 "FrameWalks$Hunt" "places" "[I"] ++ wsX00)
def wsX0_lookThrough_r1 : List Cond := [Cond.fieldLink RX0 18 "FrameWalks$Hunt" "size" "I", Cond.static yX7_isWord, Cond.initialized RX7, Cond.code yX7_isWord cX7_isWord 1 (some .boolean), Cond.methodLink RX0 31 yX0_scoreOf, Cond.static yX0_scoreOf, Cond.initialized RX0, Cond.code yX0_scoreOf cX0_scoreOf 4 (some .int), Cond.methodLink RX0 39 yX6_ownerOf, Cond.instanceMethod yX6_ownerOf, Cond.selects RX6 yX6_ownerOf yX6_ownerOf, Cond.initialized RX6, Cond.code yX6_ownerOf cX6_ownerOf 3 (some .int), Cond.fieldLink RX6 14 "FrameWalks$World" "routines" "LFrameWalks$Table;", Cond.methodLink RX6 58 yX6_meets, Cond.instanceMethod yX6_meets, Cond.selects RX6 yX6_meets yX6_meets, Cond.code yX6_meets cX6_meets 4 (some .boolean), Cond.methodLink RX6 54 yX3_at, Cond.instanceMethod yX3_at, Cond.selects RX3 yX3_at yX3_at, Cond.initialized RX3, Cond.code yX3_at cX3_at 3 (some .int), Cond.fieldLink RX3 9 "FrameWalks$Table" "size" "I"]
def wsX0_lookThrough_r2 : List Cond := [Cond.fieldLink RX3 15 "FrameWalks$Table" "width" "I", Cond.fieldLink RX3 18 "FrameWalks$Table" "cells" "[I", Cond.methodLink RX0 43 yX6_isCallAt, Cond.instanceMethod yX6_isCallAt, Cond.selects RX6 yX6_isCallAt yX6_isCallAt, Cond.code yX6_isCallAt cX6_isCallAt 2 (some .boolean), Cond.fieldLink RX6 26 "FrameWalks$World" "calls" "LFrameWalks$Table;", Cond.methodLink RX6 62 yX3_howMany, Cond.instanceMethod yX3_howMany, Cond.selects RX3 yX3_howMany yX3_howMany, Cond.code yX3_howMany cX3_howMany 5 (some .int), Cond.methodLink RX3 32 yX3_at, Cond.methodLink RX0 46 yX6_isCallInto, Cond.instanceMethod yX6_isCallInto, Cond.selects RX6 yX6_isCallInto yX6_isCallInto, Cond.code yX6_isCallInto cX6_isCallInto 5 (some .boolean), Cond.methodLink RX0 35 yX0_enter, Cond.instanceMethod yX0_enter, Cond.selects RX0 yX0_enter yX0_enter, Cond.code yX0_enter cX0_enter 4 none, Cond.methodLink RX0 50 Lib.Math.min.name, Cond.static Lib.Math.min.name, Cond.initialized "java/lang/Math", Cond.code Lib.Math.min.name Lib.Math.min.code 2 (some .int)]
def wsX0_lookThrough_r3 : List Cond := [Cond.fieldLink RX0 15 "FrameWalks$Hunt" "scores" "[I", Cond.fieldLink RX0 9 "FrameWalks$Hunt" "places" "[I"]
def wsX0_lookThrough : List Cond := .code yX0_lookThrough cX0_lookThrough 7 none :: ((wsX0_lookThrough_r1 ++ (wsX0_lookThrough_r2 ++ wsX0_lookThrough_r3)) ++ wsX00 ++ wsX60 ++ wsX30)
def wsX0_bestWord : List Cond := .code yX0_bestWord cX0_bestWord 1 (some .int) :: ([.fieldLink RX0 18 "FrameWalks$Hunt" "size" "I", .fieldLink RX0 9 "FrameWalks$Hunt" "places" "[I"] ++ wsX00)
def wsX1_init : List Cond := .code yX1_init cX1_init 1 none :: ([.methodLink RX1 3 objectInit, .instanceMethod objectInit, .code objectInit ⟨#[0xb1]⟩ 1 none, .arrayClass .int, .fieldLink RX1 11 "FrameWalks$Row" "cells" "[I", .fieldLink RX1 15 "FrameWalks$Row" "aside" "[I", .fieldLink RX1 18 "FrameWalks$Row" "asideSize" "I"] ++ wsX10)
def wsX1_base : List Cond := .code yX1_base cX1_base 1 (some .int) :: ([.fieldLink RX1 11 "FrameWalks$Row" "cells" "[I"] ++ wsX10)
def wsX1_off : List Cond := .code yX1_off cX1_off 1 (some .int) :: ([.fieldLink RX1 11 "FrameWalks$Row" "cells" "[I"] ++ wsX10)
def wsX7_isRegister : List Cond := .code yX7_isRegister cX7_isRegister 1 (some .boolean) :: ([])
def wsX1_which : List Cond := .code yX1_which cX1_which 2 (some .int) :: ([.fieldLink RX1 11 "FrameWalks$Row" "cells" "[I", .static yX7_isRegister, .initialized RX7, .code yX7_isRegister cX7_isRegister 1 (some .boolean)] ++ wsX10)
def wsX1_number : List Cond := .code yX1_number cX1_number 2 (some .int) :: ([.fieldLink RX1 11 "FrameWalks$Row" "cells" "[I", .static yX7_isRegister, .initialized RX7, .code yX7_isRegister cX7_isRegister 1 (some .boolean)] ++ wsX10)
def wsJ7_fill_53178 : List Cond := .code yJ7_fill_53178 cJ7_fill_53178 4 none :: ([])
def wsX1_becomes : List Cond := .code yX1_becomes cX1_becomes 4 none :: ([.fieldLink RX1 11 "FrameWalks$Row" "cells" "[I", .static yX7_isRegister, .initialized RX7, .code yX7_isRegister cX7_isRegister 1 (some .boolean)] ++ wsX10)
def wsX1_becomeFirst : List Cond := .code yX1_becomeFirst cX1_becomeFirst 1 none :: ([.fieldLink RX1 11 "FrameWalks$Row" "cells" "[I", .methodLink RX1 60 yJ7_fill_53178, .static yJ7_fill_53178, .initialized RJ7, .code yJ7_fill_53178 cJ7_fill_53178 4 none, .methodLink RX1 51 yX1_becomes, .instanceMethod yX1_becomes, .selects RX1 yX1_becomes yX1_becomes, .initialized RX1, .code yX1_becomes cX1_becomes 4 none, .static yX7_isRegister, .initialized RX7, .code yX7_isRegister cX7_isRegister 1 (some .boolean)] ++ wsX10)
def wsX1_layAside : List Cond := .code yX1_layAside cX1_layAside 1 none :: ([.fieldLink RX1 18 "FrameWalks$Row" "asideSize" "I", .fieldLink RX1 11 "FrameWalks$Row" "cells" "[I", .fieldLink RX1 15 "FrameWalks$Row" "aside" "[I", .methodLink RX1 66 arraycopyName, .native arraycopyName, .static arraycopyName, .initialized "java/lang/System"] ++ wsX10)
def wsX1_takeBack : List Cond := .code yX1_takeBack cX1_takeBack 1 none :: ([.fieldLink RX1 18 "FrameWalks$Row" "asideSize" "I", .fieldLink RX1 15 "FrameWalks$Row" "aside" "[I", .fieldLink RX1 11 "FrameWalks$Row" "cells" "[I", .methodLink RX1 66 arraycopyName, .native arraycopyName, .static arraycopyName, .initialized "java/lang/System", .methodLink RX1 26 yX1_becomeFirst, .instanceMethod yX1_becomeFirst, .selects RX1 yX1_becomeFirst yX1_becomeFirst, .initialized RX1, .code yX1_becomeFirst cX1_becomeFirst 1 none, .methodLink RX1 60 yJ7_fill_53178, .static yJ7_fill_53178, .initialized RJ7, .code yJ7_fill_53178 cJ7_fill_53178 4 none, .methodLink RX1 51 yX1_becomes, .instanceMethod yX1_becomes, .selects RX1 yX1_becomes yX1_becomes, .code yX1_becomes cX1_becomes 4 none, .static yX7_isRegister, .initialized RX7, .code yX7_isRegister cX7_isRegister 1 (some .boolean)] ++ wsX10)
def wsX1_obey_r1 : List Cond := [Cond.fieldLink RX1 11 "FrameWalks$Row" "cells" "[I", Cond.methodLink RX1 51 yX1_becomes, Cond.instanceMethod yX1_becomes, Cond.selects RX1 yX1_becomes yX1_becomes, Cond.initialized RX1, Cond.code yX1_becomes cX1_becomes 4 none, Cond.static yX7_isRegister, Cond.initialized RX7, Cond.code yX7_isRegister cX7_isRegister 1 (some .boolean), Cond.methodLink RX1 54 yX1_layAside, Cond.instanceMethod yX1_layAside, Cond.selects RX1 yX1_layAside yX1_layAside, Cond.code yX1_layAside cX1_layAside 1 none, Cond.fieldLink RX1 18 "FrameWalks$Row" "asideSize" "I", Cond.fieldLink RX1 15 "FrameWalks$Row" "aside" "[I", Cond.methodLink RX1 66 arraycopyName, Cond.native arraycopyName, Cond.static arraycopyName, Cond.initialized "java/lang/System", Cond.methodLink RX1 57 yX1_takeBack, Cond.instanceMethod yX1_takeBack, Cond.selects RX1 yX1_takeBack yX1_takeBack, Cond.code yX1_takeBack cX1_takeBack 1 none, Cond.methodLink RX1 26 yX1_becomeFirst]
def wsX1_obey_r2 : List Cond := [Cond.instanceMethod yX1_becomeFirst, Cond.selects RX1 yX1_becomeFirst yX1_becomeFirst, Cond.code yX1_becomeFirst cX1_becomeFirst 1 none, Cond.methodLink RX1 60 yJ7_fill_53178, Cond.static yJ7_fill_53178, Cond.initialized RJ7, Cond.code yJ7_fill_53178 cJ7_fill_53178 4 none]
def wsX1_obey : List Cond := .code yX1_obey cX1_obey 4 none :: ((wsX1_obey_r1 ++ wsX1_obey_r2) ++ wsX10)
def wsX1_goTo_r1 : List Cond := [Cond.fieldLink RX1 18 "FrameWalks$Row" "asideSize" "I", Cond.methodLink RX1 26 yX1_becomeFirst, Cond.instanceMethod yX1_becomeFirst, Cond.selects RX1 yX1_becomeFirst yX1_becomeFirst, Cond.initialized RX1, Cond.code yX1_becomeFirst cX1_becomeFirst 1 none, Cond.fieldLink RX1 11 "FrameWalks$Row" "cells" "[I", Cond.methodLink RX1 60 yJ7_fill_53178, Cond.static yJ7_fill_53178, Cond.initialized RJ7, Cond.code yJ7_fill_53178 cJ7_fill_53178 4 none, Cond.methodLink RX1 51 yX1_becomes, Cond.instanceMethod yX1_becomes, Cond.selects RX1 yX1_becomes yX1_becomes, Cond.code yX1_becomes cX1_becomes 4 none, Cond.static yX7_isRegister, Cond.initialized RX7, Cond.code yX7_isRegister cX7_isRegister 1 (some .boolean), Cond.methodLink RX1 35 yX3_at, Cond.instanceMethod yX3_at, Cond.selects RX3 yX3_at yX3_at, Cond.initialized RX3, Cond.code yX3_at cX3_at 3 (some .int), Cond.fieldLink RX3 9 "FrameWalks$Table" "size" "I"]
def wsX1_goTo_r2 : List Cond := [Cond.fieldLink RX3 15 "FrameWalks$Table" "width" "I", Cond.fieldLink RX3 18 "FrameWalks$Table" "cells" "[I", Cond.methodLink RX1 47 yX1_obey, Cond.instanceMethod yX1_obey, Cond.selects RX1 yX1_obey yX1_obey, Cond.code yX1_obey cX1_obey 4 none, Cond.methodLink RX1 54 yX1_layAside, Cond.instanceMethod yX1_layAside, Cond.selects RX1 yX1_layAside yX1_layAside, Cond.code yX1_layAside cX1_layAside 1 none, Cond.fieldLink RX1 15 "FrameWalks$Row" "aside" "[I", Cond.methodLink RX1 66 arraycopyName, Cond.native arraycopyName, Cond.static arraycopyName, Cond.initialized "java/lang/System", Cond.methodLink RX1 57 yX1_takeBack, Cond.instanceMethod yX1_takeBack, Cond.selects RX1 yX1_takeBack yX1_takeBack, Cond.code yX1_takeBack cX1_takeBack 1 none]
def wsX1_goTo : List Cond := .code yX1_goTo cX1_goTo 7 none :: ((wsX1_goTo_r1 ++ wsX1_goTo_r2) ++ wsX10 ++ wsX60 ++ wsX30)
def wsX2_init : List Cond := .code yX2_init cX2_init 1 none :: ([.methodLink RX2 3 objectInit, .instanceMethod objectInit, .code objectInit ⟨#[0xb1]⟩ 1 none, .arrayClass .int, .fieldLink RX2 9 "FrameWalks$Sheet" "cells" "[I", .fieldLink RX2 15 "FrameWalks$Sheet" "isThere" "Z", .fieldLink RX2 19 "FrameWalks$Sheet" "lane" "I", .fieldLink RX2 23 "FrameWalks$Sheet" "size" "I"] ++ wsX20)
def wsX2_becomeNew : List Cond := .code yX2_becomeNew cX2_becomeNew 3 none :: ([.fieldLink RX2 9 "FrameWalks$Sheet" "cells" "[I", .fieldLink RX2 15 "FrameWalks$Sheet" "isThere" "Z", .fieldLink RX2 19 "FrameWalks$Sheet" "lane" "I", .fieldLink RX2 23 "FrameWalks$Sheet" "size" "I", .methodLink RX2 26 yJ7_fill_53178, .static yJ7_fill_53178, .initialized RJ7, .code yJ7_fill_53178 cJ7_fill_53178 4 none] ++ wsX20)
def wsX2_refusal : List Cond := .code yX2_refusal cX2_refusal 3 (some .int) :: ([.fieldLink RX2 15 "FrameWalks$Sheet" "isThere" "Z", .fieldLink RX2 19 "FrameWalks$Sheet" "lane" "I", .fieldLink RX2 23 "FrameWalks$Sheet" "size" "I"] ++ wsX20)
def wsX2_become : List Cond := .code yX2_become cX2_become 3 none :: ([.fieldLink RX2 23 "FrameWalks$Sheet" "size" "I", .fieldLink RX2 19 "FrameWalks$Sheet" "lane" "I", .fieldLink RX2 9 "FrameWalks$Sheet" "cells" "[I"] ++ wsX20)
def wsX3_init : List Cond := .code yX3_init cX3_init 3 none :: ([.methodLink RX3 3 objectInit, .instanceMethod objectInit, .code objectInit ⟨#[0xb1]⟩ 1 none, .fieldLink RX3 9 "FrameWalks$Table" "size" "I", .fieldLink RX3 15 "FrameWalks$Table" "width" "I", .arrayClass .int, .fieldLink RX3 18 "FrameWalks$Table" "cells" "[I"] ++ wsX30)
def wsX3_has : List Cond := .code yX3_has cX3_has 2 (some .boolean) :: ([.fieldLink RX3 9 "FrameWalks$Table" "size" "I"] ++ wsX30)
def wsX3_isFull : List Cond := .code yX3_isFull cX3_isFull 1 (some .boolean) :: ([.fieldLink RX3 9 "FrameWalks$Table" "size" "I", .fieldLink RX3 15 "FrameWalks$Table" "width" "I", .fieldLink RX3 18 "FrameWalks$Table" "cells" "[I"] ++ wsX30)
def wsX3_set : List Cond := .code yX3_set cX3_set 4 none :: ([.fieldLink RX3 9 "FrameWalks$Table" "size" "I", .fieldLink RX3 15 "FrameWalks$Table" "width" "I", .fieldLink RX3 18 "FrameWalks$Table" "cells" "[I"] ++ wsX30)
def wsX3_addOne : List Cond := .code yX3_addOne cX3_addOne 1 none :: ([.fieldLink RX3 9 "FrameWalks$Table" "size" "I", .methodLink RX3 22 yX3_isFull, .instanceMethod yX3_isFull, .selects RX3 yX3_isFull yX3_isFull, .initialized RX3, .code yX3_isFull cX3_isFull 1 (some .boolean), .fieldLink RX3 15 "FrameWalks$Table" "width" "I", .fieldLink RX3 18 "FrameWalks$Table" "cells" "[I"] ++ wsX30)
def wsX3_takeOver : List Cond := .code yX3_takeOver cX3_takeOver 2 none :: ([.fieldLink RX3 18 "FrameWalks$Table" "cells" "[I", .methodLink RX3 26 arraycopyName, .native arraycopyName, .static arraycopyName, .initialized "java/lang/System", .fieldLink RX3 9 "FrameWalks$Table" "size" "I"] ++ wsX30)
def wsJ6_compare_7cf53 : List Cond := .code yJ6_compare_7cf53 cJ6_compare_7cf53 2 (some .int) :: ([])
def wsX3_rankOf : List Cond := .code yX3_rankOf cX3_rankOf 6 (some .int) :: ([.fieldLink RX3 9 "FrameWalks$Table" "size" "I", .methodLink RX3 32 yX3_at, .instanceMethod yX3_at, .selects RX3 yX3_at yX3_at, .initialized RX3, .code yX3_at cX3_at 3 (some .int), .fieldLink RX3 15 "FrameWalks$Table" "width" "I", .fieldLink RX3 18 "FrameWalks$Table" "cells" "[I", .methodLink RX3 36 yJ6_compare_7cf53, .static yJ6_compare_7cf53, .initialized RJ6, .code yJ6_compare_7cf53 cJ6_compare_7cf53 2 (some .int)] ++ wsX30)
def wsX3_ranked : List Cond := .code yX3_ranked cX3_ranked 4 (some .int) :: ([.fieldLink RX3 9 "FrameWalks$Table" "size" "I", .methodLink RX3 41 yX3_rankOf, .instanceMethod yX3_rankOf, .selects RX3 yX3_rankOf yX3_rankOf, .initialized RX3, .code yX3_rankOf cX3_rankOf 6 (some .int), .methodLink RX3 32 yX3_at, .instanceMethod yX3_at, .selects RX3 yX3_at yX3_at, .code yX3_at cX3_at 3 (some .int), .fieldLink RX3 15 "FrameWalks$Table" "width" "I", .fieldLink RX3 18 "FrameWalks$Table" "cells" "[I", .methodLink RX3 36 yJ6_compare_7cf53, .static yJ6_compare_7cf53, .initialized RJ6, .code yJ6_compare_7cf53 cJ6_compare_7cf53 2 (some .int)] ++ wsX30)
def wsX4_init : List Cond := .code yX4_init cX4_init 1 none :: ([.methodLink RX4 3 objectInit, .instanceMethod objectInit, .code objectInit ⟨#[0xb1]⟩ 1 none, .arrayClass .int, .fieldLink RX4 9 "FrameWalks$Tape" "bytes" "[I", .fieldLink RX4 15 "FrameWalks$Tape" "length" "I", .fieldLink RX4 19 "FrameWalks$Tape" "faulty" "I", .fieldLink RX4 22 "FrameWalks$Tape" "faultPlace" "I", .fieldLink RX4 25 "FrameWalks$Tape" "tokenKind" "I", .fieldLink RX4 28 "FrameWalks$Tape" "tokenFrom" "I", .fieldLink RX4 31 "FrameWalks$Tape" "tokenTo" "I", .fieldLink RX4 34 "FrameWalks$Tape" "tokenNumber" "I", .fieldLink RX4 37 "FrameWalks$Tape" "operands" "[I"] ++ wsX40)
def wsX6_clearTables : List Cond := .code yX6_clearTables cX6_clearTables 1 none :: ([.fieldLink RX6 14 "FrameWalks$World" "routines" "LFrameWalks$Table;", .fieldLink RX6 20 "FrameWalks$World" "ops" "LFrameWalks$Table;", .fieldLink RX6 23 "FrameWalks$World" "landings" "LFrameWalks$Table;", .fieldLink RX6 26 "FrameWalks$World" "calls" "LFrameWalks$Table;"] ++ wsX60 ++ wsX30)
def wsX4_isLetter : List Cond := .code yX4_isLetter cX4_isLetter 1 (some .boolean) :: ([])
def wsX4_readName : List Cond := .code yX4_readName cX4_readName 1 none :: ([.fieldLink RX4 25 "FrameWalks$Tape" "tokenKind" "I", .fieldLink RX4 31 "FrameWalks$Tape" "tokenTo" "I", .fieldLink RX4 15 "FrameWalks$Tape" "length" "I", .fieldLink RX4 9 "FrameWalks$Tape" "bytes" "[I", .methodLink RX4 162 yX4_isLetter, .static yX4_isLetter, .initialized RX4, .code yX4_isLetter cX4_isLetter 1 (some .boolean)] ++ wsX40)
def wsX4_isFigure : List Cond := .code yX4_isFigure cX4_isFigure 1 (some .boolean) :: ([])
def wsX4_readNumber : List Cond := .code yX4_readNumber cX4_readNumber 1 none :: ([.fieldLink RX4 31 "FrameWalks$Tape" "tokenTo" "I", .fieldLink RX4 15 "FrameWalks$Tape" "length" "I", .fieldLink RX4 9 "FrameWalks$Tape" "bytes" "[I", .fieldLink RX4 28 "FrameWalks$Tape" "tokenFrom" "I", .fieldLink RX4 34 "FrameWalks$Tape" "tokenNumber" "I", .fieldLink RX4 25 "FrameWalks$Tape" "tokenKind" "I", .methodLink RX4 169 yX4_isFigure, .static yX4_isFigure, .initialized RX4, .code yX4_isFigure cX4_isFigure 1 (some .boolean)] ++ wsX40)
def wsX4_refuse : List Cond := .code yX4_refuse cX4_refuse 3 none :: ([.fieldLink RX4 19 "FrameWalks$Tape" "faulty" "I", .fieldLink RX4 22 "FrameWalks$Tape" "faultPlace" "I"] ++ wsX40)
def wsX4_nextToken_r1 : List Cond := [Cond.fieldLink RX4 31 "FrameWalks$Tape" "tokenTo" "I", Cond.fieldLink RX4 15 "FrameWalks$Tape" "length" "I", Cond.fieldLink RX4 9 "FrameWalks$Tape" "bytes" "[I", Cond.fieldLink RX4 28 "FrameWalks$Tape" "tokenFrom" "I", Cond.fieldLink RX4 34 "FrameWalks$Tape" "tokenNumber" "I", Cond.fieldLink RX4 25 "FrameWalks$Tape" "tokenKind" "I", Cond.methodLink RX4 162 yX4_isLetter, Cond.static yX4_isLetter, Cond.initialized RX4, Cond.code yX4_isLetter cX4_isLetter 1 (some .boolean), Cond.methodLink RX4 166 yX4_readName, Cond.instanceMethod yX4_readName, Cond.selects RX4 yX4_readName yX4_readName, Cond.code yX4_readName cX4_readName 1 none, Cond.methodLink RX4 169 yX4_isFigure, Cond.static yX4_isFigure, Cond.code yX4_isFigure cX4_isFigure 1 (some .boolean), Cond.methodLink RX4 172 yX4_readNumber, Cond.instanceMethod yX4_readNumber, Cond.selects RX4 yX4_readNumber yX4_readNumber, Cond.code yX4_readNumber cX4_readNumber 1 none, Cond.methodLink RX4 56 yX4_refuse, Cond.instanceMethod yX4_refuse, Cond.selects RX4 yX4_refuse yX4_refuse]
def wsX4_nextToken_r2 : List Cond := [Cond.code yX4_refuse cX4_refuse 3 none, Cond.fieldLink RX4 19 "FrameWalks$Tape" "faulty" "I", Cond.fieldLink RX4 22 "FrameWalks$Tape" "faultPlace" "I"]
def wsX4_nextToken : List Cond := .code yX4_nextToken cX4_nextToken 2 none :: ((wsX4_nextToken_r1 ++ wsX4_nextToken_r2) ++ wsX40)
def wsX4_nameOf : List Cond := .code yX4_nameOf cX4_nameOf 1 (some (.object "java/lang/String")) :: ([])
def wsJ0_coder_7d493 : List Cond := .code yJ0_coder_7d493 cJ0_coder_7d493 1 (some .byte) :: ([.fieldLink RJ0 38 "java/lang/String" "COMPACT_STRINGS" "Z", .fieldLink RJ0 15 "java/lang/String" "coder" "B"])
def wsJ0_length_8abf5 : List Cond := .code yJ0_length_8abf5 cJ0_length_8abf5 1 (some .int) :: ([.fieldLink RJ0 9 "java/lang/String" "value" "[B", .methodLink RJ0 335 yJ0_coder_7d493, .instanceMethod yJ0_coder_7d493, .selects RJ0 yJ0_coder_7d493 yJ0_coder_7d493, .initialized RJ0, .code yJ0_coder_7d493 cJ0_coder_7d493 1 (some .byte), .fieldLink RJ0 38 "java/lang/String" "COMPACT_STRINGS" "Z", .fieldLink RJ0 15 "java/lang/String" "coder" "B"])
def wsJ0_isLatin1_aae02 : List Cond := .code yJ0_isLatin1_aae02 cJ0_isLatin1_aae02 1 (some .boolean) :: ([.fieldLink RJ0 38 "java/lang/String" "COMPACT_STRINGS" "Z", .fieldLink RJ0 15 "java/lang/String" "coder" "B"])
def wsJ3_checkIndex_8e157 : List Cond := .code yJ3_checkIndex_8e157 cJ3_checkIndex_8e157 3 (some .int) :: ([])
def wsJ0_checkIndex_df160 : List Cond := .code yJ0_checkIndex_df160 cJ0_checkIndex_df160 2 none :: ([.fieldLink RJ0 1053 "jdk/internal/util/Preconditions" "SIOOBE_FORMATTER" "Ljava/util/function/BiFunction;", .methodLink RJ0 1059 yJ3_checkIndex_8e157, .static yJ3_checkIndex_8e157, .initialized RJ3, .code yJ3_checkIndex_8e157 cJ3_checkIndex_8e157 3 (some .int)])
def wsJ1_charAt_3b067 : List Cond := .code yJ1_charAt_3b067 cJ1_charAt_3b067 2 (some .char) :: ([.methodLink RJ1 9 yJ0_checkIndex_df160, .static yJ0_checkIndex_df160, .initialized RJ0, .code yJ0_checkIndex_df160 cJ0_checkIndex_df160 2 none, .fieldLink RJ0 1053 "jdk/internal/util/Preconditions" "SIOOBE_FORMATTER" "Ljava/util/function/BiFunction;", .methodLink RJ0 1059 yJ3_checkIndex_8e157, .static yJ3_checkIndex_8e157, .initialized RJ3, .code yJ3_checkIndex_8e157 cJ3_checkIndex_8e157 3 (some .int)])
def wsJ2_length_9d52b : List Cond := .code yJ2_length_9d52b cJ2_length_9d52b 1 (some .int) :: ([])
def wsJ2_checkIndex_2214a : List Cond := .code yJ2_checkIndex_2214a cJ2_checkIndex_2214a 2 none :: ([.methodLink RJ2 48 yJ2_length_9d52b, .static yJ2_length_9d52b, .initialized RJ2, .code yJ2_length_9d52b cJ2_length_9d52b 1 (some .int), .methodLink RJ2 414 yJ0_checkIndex_df160, .static yJ0_checkIndex_df160, .initialized RJ0, .code yJ0_checkIndex_df160 cJ0_checkIndex_df160 2 none, .fieldLink RJ0 1053 "jdk/internal/util/Preconditions" "SIOOBE_FORMATTER" "Ljava/util/function/BiFunction;", .methodLink RJ0 1059 yJ3_checkIndex_8e157, .static yJ3_checkIndex_8e157, .initialized RJ3, .code yJ3_checkIndex_8e157 cJ3_checkIndex_8e157 3 (some .int)])
def wsJ2_getChar_3b067 : List Cond := .code yJ2_getChar_3b067 cJ2_getChar_3b067 2 (some .char) :: ([.fieldLink RJ2 44 "java/lang/StringUTF16" "$assertionsDisabled" "Z", .fieldLink RJ2 59 "java/lang/StringUTF16" "HI_BYTE_SHIFT" "I", .fieldLink RJ2 63 "java/lang/StringUTF16" "LO_BYTE_SHIFT" "I", .methodLink RJ2 48 yJ2_length_9d52b, .static yJ2_length_9d52b, .initialized RJ2, .code yJ2_length_9d52b cJ2_length_9d52b 1 (some .int)])
def wsJ2_charAt_3b067 : List Cond := .code yJ2_charAt_3b067 cJ2_charAt_3b067 2 (some .char) :: ([.methodLink RJ2 67 yJ2_checkIndex_2214a, .static yJ2_checkIndex_2214a, .initialized RJ2, .code yJ2_checkIndex_2214a cJ2_checkIndex_2214a 2 none, .methodLink RJ2 48 yJ2_length_9d52b, .static yJ2_length_9d52b, .code yJ2_length_9d52b cJ2_length_9d52b 1 (some .int), .methodLink RJ2 414 yJ0_checkIndex_df160, .static yJ0_checkIndex_df160, .initialized RJ0, .code yJ0_checkIndex_df160 cJ0_checkIndex_df160 2 none, .fieldLink RJ0 1053 "jdk/internal/util/Preconditions" "SIOOBE_FORMATTER" "Ljava/util/function/BiFunction;", .methodLink RJ0 1059 yJ3_checkIndex_8e157, .static yJ3_checkIndex_8e157, .initialized RJ3, .code yJ3_checkIndex_8e157 cJ3_checkIndex_8e157 3 (some .int), .methodLink RJ2 71 yJ2_getChar_3b067, .static yJ2_getChar_3b067, .code yJ2_getChar_3b067 cJ2_getChar_3b067 2 (some .char), .fieldLink RJ2 44 "java/lang/StringUTF16" "$assertionsDisabled" "Z", .fieldLink RJ2 59 "java/lang/StringUTF16" "HI_BYTE_SHIFT" "I", .fieldLink RJ2 63 "java/lang/StringUTF16" "LO_BYTE_SHIFT" "I"])
def wsJ0_charAt_5068e_r1 : List Cond := [Cond.fieldLink RJ0 9 "java/lang/String" "value" "[B", Cond.methodLink RJ0 492 yJ0_isLatin1_aae02, Cond.instanceMethod yJ0_isLatin1_aae02, Cond.selects RJ0 yJ0_isLatin1_aae02 yJ0_isLatin1_aae02, Cond.initialized RJ0, Cond.code yJ0_isLatin1_aae02 cJ0_isLatin1_aae02 1 (some .boolean), Cond.fieldLink RJ0 38 "java/lang/String" "COMPACT_STRINGS" "Z", Cond.fieldLink RJ0 15 "java/lang/String" "coder" "B", Cond.methodLink RJ0 495 yJ1_charAt_3b067, Cond.static yJ1_charAt_3b067, Cond.initialized RJ1, Cond.code yJ1_charAt_3b067 cJ1_charAt_3b067 2 (some .char), Cond.methodLink RJ1 9 yJ0_checkIndex_df160, Cond.static yJ0_checkIndex_df160, Cond.code yJ0_checkIndex_df160 cJ0_checkIndex_df160 2 none, Cond.fieldLink RJ0 1053 "jdk/internal/util/Preconditions" "SIOOBE_FORMATTER" "Ljava/util/function/BiFunction;", Cond.methodLink RJ0 1059 yJ3_checkIndex_8e157, Cond.static yJ3_checkIndex_8e157, Cond.initialized RJ3, Cond.code yJ3_checkIndex_8e157 cJ3_checkIndex_8e157 3 (some .int), Cond.methodLink RJ0 498 yJ2_charAt_3b067, Cond.static yJ2_charAt_3b067, Cond.initialized RJ2, Cond.code yJ2_charAt_3b067 cJ2_charAt_3b067 2 (some .char)]
def wsJ0_charAt_5068e_r2 : List Cond := [Cond.methodLink RJ2 67 yJ2_checkIndex_2214a, Cond.static yJ2_checkIndex_2214a, Cond.code yJ2_checkIndex_2214a cJ2_checkIndex_2214a 2 none, Cond.methodLink RJ2 48 yJ2_length_9d52b, Cond.static yJ2_length_9d52b, Cond.code yJ2_length_9d52b cJ2_length_9d52b 1 (some .int), Cond.methodLink RJ2 414 yJ0_checkIndex_df160, Cond.methodLink RJ2 71 yJ2_getChar_3b067, Cond.static yJ2_getChar_3b067, Cond.code yJ2_getChar_3b067 cJ2_getChar_3b067 2 (some .char), Cond.fieldLink RJ2 44 "java/lang/StringUTF16" "$assertionsDisabled" "Z", Cond.fieldLink RJ2 59 "java/lang/StringUTF16" "HI_BYTE_SHIFT" "I", Cond.fieldLink RJ2 63 "java/lang/StringUTF16" "LO_BYTE_SHIFT" "I"]
def wsJ0_charAt_5068e : List Cond := .code yJ0_charAt_5068e cJ0_charAt_5068e 2 (some .char) :: ((wsJ0_charAt_5068e_r1 ++ wsJ0_charAt_5068e_r2))
def wsX4_isNamed_r1 : List Cond := [Cond.fieldLink RX4 25 "FrameWalks$Tape" "tokenKind" "I", Cond.fieldLink RX4 31 "FrameWalks$Tape" "tokenTo" "I", Cond.fieldLink RX4 28 "FrameWalks$Tape" "tokenFrom" "I", Cond.fieldLink RX4 9 "FrameWalks$Tape" "bytes" "[I", Cond.methodLink RX4 115 yJ0_length_8abf5, Cond.instanceMethod yJ0_length_8abf5, Cond.selects RJ0 yJ0_length_8abf5 yJ0_length_8abf5, Cond.initialized RJ0, Cond.code yJ0_length_8abf5 cJ0_length_8abf5 1 (some .int), Cond.fieldLink RJ0 9 "java/lang/String" "value" "[B", Cond.methodLink RJ0 335 yJ0_coder_7d493, Cond.instanceMethod yJ0_coder_7d493, Cond.selects RJ0 yJ0_coder_7d493 yJ0_coder_7d493, Cond.code yJ0_coder_7d493 cJ0_coder_7d493 1 (some .byte), Cond.fieldLink RJ0 38 "java/lang/String" "COMPACT_STRINGS" "Z", Cond.fieldLink RJ0 15 "java/lang/String" "coder" "B", Cond.methodLink RX4 119 yJ0_charAt_5068e, Cond.instanceMethod yJ0_charAt_5068e, Cond.selects RJ0 yJ0_charAt_5068e yJ0_charAt_5068e, Cond.code yJ0_charAt_5068e cJ0_charAt_5068e 2 (some .char), Cond.methodLink RJ0 492 yJ0_isLatin1_aae02, Cond.instanceMethod yJ0_isLatin1_aae02, Cond.selects RJ0 yJ0_isLatin1_aae02 yJ0_isLatin1_aae02, Cond.code yJ0_isLatin1_aae02 cJ0_isLatin1_aae02 1 (some .boolean)]
def wsX4_isNamed_r2 : List Cond := [Cond.methodLink RJ0 495 yJ1_charAt_3b067, Cond.static yJ1_charAt_3b067, Cond.initialized RJ1, Cond.code yJ1_charAt_3b067 cJ1_charAt_3b067 2 (some .char), Cond.methodLink RJ1 9 yJ0_checkIndex_df160, Cond.static yJ0_checkIndex_df160, Cond.code yJ0_checkIndex_df160 cJ0_checkIndex_df160 2 none, Cond.fieldLink RJ0 1053 "jdk/internal/util/Preconditions" "SIOOBE_FORMATTER" "Ljava/util/function/BiFunction;", Cond.methodLink RJ0 1059 yJ3_checkIndex_8e157, Cond.static yJ3_checkIndex_8e157, Cond.initialized RJ3, Cond.code yJ3_checkIndex_8e157 cJ3_checkIndex_8e157 3 (some .int), Cond.methodLink RJ0 498 yJ2_charAt_3b067, Cond.static yJ2_charAt_3b067, Cond.initialized RJ2, Cond.code yJ2_charAt_3b067 cJ2_charAt_3b067 2 (some .char), Cond.methodLink RJ2 67 yJ2_checkIndex_2214a, Cond.static yJ2_checkIndex_2214a, Cond.code yJ2_checkIndex_2214a cJ2_checkIndex_2214a 2 none, Cond.methodLink RJ2 48 yJ2_length_9d52b, Cond.static yJ2_length_9d52b, Cond.code yJ2_length_9d52b cJ2_length_9d52b 1 (some .int), Cond.methodLink RJ2 414 yJ0_checkIndex_df160, Cond.methodLink RJ2 71 yJ2_getChar_3b067]
def wsX4_isNamed_r3 : List Cond := [Cond.static yJ2_getChar_3b067, Cond.code yJ2_getChar_3b067 cJ2_getChar_3b067 2 (some .char), Cond.fieldLink RJ2 44 "java/lang/StringUTF16" "$assertionsDisabled" "Z", Cond.fieldLink RJ2 59 "java/lang/StringUTF16" "HI_BYTE_SHIFT" "I", Cond.fieldLink RJ2 63 "java/lang/StringUTF16" "LO_BYTE_SHIFT" "I"]
def wsX4_isNamed : List Cond := .code yX4_isNamed cX4_isNamed 3 (some .boolean) :: ((wsX4_isNamed_r1 ++ (wsX4_isNamed_r2 ++ wsX4_isNamed_r3)) ++ wsX40)
def wsX4_refuseUnless : List Cond := .code yX4_refuseUnless cX4_refuseUnless 2 none :: ([.fieldLink RX4 28 "FrameWalks$Tape" "tokenFrom" "I", .methodLink RX4 56 yX4_refuse, .instanceMethod yX4_refuse, .selects RX4 yX4_refuse yX4_refuse, .initialized RX4, .code yX4_refuse cX4_refuse 3 none, .fieldLink RX4 19 "FrameWalks$Tape" "faulty" "I", .fieldLink RX4 22 "FrameWalks$Tape" "faultPlace" "I"] ++ wsX40)
def wsX4_lineNamed_r1 : List Cond := [Cond.methodLink RX4 81 yX4_nameOf, Cond.static yX4_nameOf, Cond.initialized RX4, Cond.code yX4_nameOf cX4_nameOf 1 (some (.object "java/lang/String")), Cond.methodLink RX4 85 yX4_isNamed, Cond.instanceMethod yX4_isNamed, Cond.selects RX4 yX4_isNamed yX4_isNamed, Cond.code yX4_isNamed cX4_isNamed 3 (some .boolean), Cond.fieldLink RX4 25 "FrameWalks$Tape" "tokenKind" "I", Cond.fieldLink RX4 31 "FrameWalks$Tape" "tokenTo" "I", Cond.fieldLink RX4 28 "FrameWalks$Tape" "tokenFrom" "I", Cond.fieldLink RX4 9 "FrameWalks$Tape" "bytes" "[I", Cond.methodLink RX4 115 yJ0_length_8abf5, Cond.instanceMethod yJ0_length_8abf5, Cond.selects RJ0 yJ0_length_8abf5 yJ0_length_8abf5, Cond.initialized RJ0, Cond.code yJ0_length_8abf5 cJ0_length_8abf5 1 (some .int), Cond.fieldLink RJ0 9 "java/lang/String" "value" "[B", Cond.methodLink RJ0 335 yJ0_coder_7d493, Cond.instanceMethod yJ0_coder_7d493, Cond.selects RJ0 yJ0_coder_7d493 yJ0_coder_7d493, Cond.code yJ0_coder_7d493 cJ0_coder_7d493 1 (some .byte), Cond.fieldLink RJ0 38 "java/lang/String" "COMPACT_STRINGS" "Z", Cond.fieldLink RJ0 15 "java/lang/String" "coder" "B"]
def wsX4_lineNamed_r2 : List Cond := [Cond.methodLink RX4 119 yJ0_charAt_5068e, Cond.instanceMethod yJ0_charAt_5068e, Cond.selects RJ0 yJ0_charAt_5068e yJ0_charAt_5068e, Cond.code yJ0_charAt_5068e cJ0_charAt_5068e 2 (some .char), Cond.methodLink RJ0 492 yJ0_isLatin1_aae02, Cond.instanceMethod yJ0_isLatin1_aae02, Cond.selects RJ0 yJ0_isLatin1_aae02 yJ0_isLatin1_aae02, Cond.code yJ0_isLatin1_aae02 cJ0_isLatin1_aae02 1 (some .boolean), Cond.methodLink RJ0 495 yJ1_charAt_3b067, Cond.static yJ1_charAt_3b067, Cond.initialized RJ1, Cond.code yJ1_charAt_3b067 cJ1_charAt_3b067 2 (some .char), Cond.methodLink RJ1 9 yJ0_checkIndex_df160, Cond.static yJ0_checkIndex_df160, Cond.code yJ0_checkIndex_df160 cJ0_checkIndex_df160 2 none, Cond.fieldLink RJ0 1053 "jdk/internal/util/Preconditions" "SIOOBE_FORMATTER" "Ljava/util/function/BiFunction;", Cond.methodLink RJ0 1059 yJ3_checkIndex_8e157, Cond.static yJ3_checkIndex_8e157, Cond.initialized RJ3, Cond.code yJ3_checkIndex_8e157 cJ3_checkIndex_8e157 3 (some .int), Cond.methodLink RJ0 498 yJ2_charAt_3b067, Cond.static yJ2_charAt_3b067, Cond.initialized RJ2, Cond.code yJ2_charAt_3b067 cJ2_charAt_3b067 2 (some .char)]
def wsX4_lineNamed_r3 : List Cond := [Cond.methodLink RJ2 67 yJ2_checkIndex_2214a, Cond.static yJ2_checkIndex_2214a, Cond.code yJ2_checkIndex_2214a cJ2_checkIndex_2214a 2 none, Cond.methodLink RJ2 48 yJ2_length_9d52b, Cond.static yJ2_length_9d52b, Cond.code yJ2_length_9d52b cJ2_length_9d52b 1 (some .int), Cond.methodLink RJ2 414 yJ0_checkIndex_df160, Cond.methodLink RJ2 71 yJ2_getChar_3b067, Cond.static yJ2_getChar_3b067, Cond.code yJ2_getChar_3b067 cJ2_getChar_3b067 2 (some .char), Cond.fieldLink RJ2 44 "java/lang/StringUTF16" "$assertionsDisabled" "Z", Cond.fieldLink RJ2 59 "java/lang/StringUTF16" "HI_BYTE_SHIFT" "I", Cond.fieldLink RJ2 63 "java/lang/StringUTF16" "LO_BYTE_SHIFT" "I", Cond.methodLink RX4 74 yX4_refuseUnless, Cond.instanceMethod yX4_refuseUnless, Cond.selects RX4 yX4_refuseUnless yX4_refuseUnless, Cond.code yX4_refuseUnless cX4_refuseUnless 2 none, Cond.methodLink RX4 56 yX4_refuse, Cond.instanceMethod yX4_refuse, Cond.selects RX4 yX4_refuse yX4_refuse, Cond.code yX4_refuse cX4_refuse 3 none, Cond.fieldLink RX4 19 "FrameWalks$Tape" "faulty" "I", Cond.fieldLink RX4 22 "FrameWalks$Tape" "faultPlace" "I"]
def wsX4_lineNamed : List Cond := .code yX4_lineNamed cX4_lineNamed 2 (some .int) :: ((wsX4_lineNamed_r1 ++ (wsX4_lineNamed_r2 ++ wsX4_lineNamed_r3)) ++ wsX40)
def wsX4_tableOf : List Cond := .code yX4_tableOf cX4_tableOf 2 (some (.object "FrameWalks$Table")) :: ([] ++ wsX60)
def wsX4_refuseTooMany : List Cond := .code yX4_refuseTooMany cX4_refuseTooMany 4 none :: ([.fieldLink RX4 28 "FrameWalks$Tape" "tokenFrom" "I", .methodLink RX4 132 yX4_tableOf, .static yX4_tableOf, .initialized RX4, .code yX4_tableOf cX4_tableOf 2 (some (.object "FrameWalks$Table")), .methodLink RX4 136 yX3_isFull, .instanceMethod yX3_isFull, .selects RX3 yX3_isFull yX3_isFull, .initialized RX3, .code yX3_isFull cX3_isFull 1 (some .boolean), .fieldLink RX3 9 "FrameWalks$Table" "size" "I", .fieldLink RX3 15 "FrameWalks$Table" "width" "I", .fieldLink RX3 18 "FrameWalks$Table" "cells" "[I", .methodLink RX4 56 yX4_refuse, .instanceMethod yX4_refuse, .selects RX4 yX4_refuse yX4_refuse, .code yX4_refuse cX4_refuse 3 none, .fieldLink RX4 19 "FrameWalks$Tape" "faulty" "I", .fieldLink RX4 22 "FrameWalks$Tape" "faultPlace" "I"] ++ wsX60 ++ wsX30 ++ wsX40)
def wsX4_registerNamed : List Cond := .code yX4_registerNamed cX4_registerNamed 2 (some .int) :: ([.fieldLink RX4 25 "FrameWalks$Tape" "tokenKind" "I", .fieldLink RX4 31 "FrameWalks$Tape" "tokenTo" "I", .fieldLink RX4 28 "FrameWalks$Tape" "tokenFrom" "I", .fieldLink RX4 9 "FrameWalks$Tape" "bytes" "[I"] ++ wsX40)
def wsX4_isWithin : List Cond := .code yX4_isWithin cX4_isWithin 4 (some .boolean) :: ([.fieldLink RX4 37 "FrameWalks$Tape" "operands" "[I"] ++ wsX40)
def wsX4_takeOperand_r1 : List Cond := [Cond.fieldLink RX4 28 "FrameWalks$Tape" "tokenFrom" "I", Cond.fieldLink RX4 37 "FrameWalks$Tape" "operands" "[I", Cond.fieldLink RX4 25 "FrameWalks$Tape" "tokenKind" "I", Cond.fieldLink RX4 19 "FrameWalks$Tape" "faulty" "I", Cond.fieldLink RX4 34 "FrameWalks$Tape" "tokenNumber" "I", Cond.methodLink RX4 148 yX4_registerNamed, Cond.instanceMethod yX4_registerNamed, Cond.selects RX4 yX4_registerNamed yX4_registerNamed, Cond.initialized RX4, Cond.code yX4_registerNamed cX4_registerNamed 2 (some .int), Cond.fieldLink RX4 31 "FrameWalks$Tape" "tokenTo" "I", Cond.fieldLink RX4 9 "FrameWalks$Tape" "bytes" "[I", Cond.methodLink RX4 74 yX4_refuseUnless, Cond.instanceMethod yX4_refuseUnless, Cond.selects RX4 yX4_refuseUnless yX4_refuseUnless, Cond.code yX4_refuseUnless cX4_refuseUnless 2 none, Cond.methodLink RX4 56 yX4_refuse, Cond.instanceMethod yX4_refuse, Cond.selects RX4 yX4_refuse yX4_refuse, Cond.code yX4_refuse cX4_refuse 3 none, Cond.fieldLink RX4 22 "FrameWalks$Tape" "faultPlace" "I", Cond.methodLink RX4 151 yX4_isWithin, Cond.instanceMethod yX4_isWithin, Cond.selects RX4 yX4_isWithin yX4_isWithin]
def wsX4_takeOperand_r2 : List Cond := [Cond.code yX4_isWithin cX4_isWithin 4 (some .boolean)]
def wsX4_takeOperand : List Cond := .code yX4_takeOperand cX4_takeOperand 5 none :: ((wsX4_takeOperand_r1 ++ wsX4_takeOperand_r2) ++ wsX40)
def wsX4_addLine : List Cond := .code yX4_addLine cX4_addLine 8 none :: ([.fieldLink RX4 37 "FrameWalks$Tape" "operands" "[I", .methodLink RX4 132 yX4_tableOf, .static yX4_tableOf, .initialized RX4, .code yX4_tableOf cX4_tableOf 2 (some (.object "FrameWalks$Table")), .methodLink RX4 155 yX3_addOne, .instanceMethod yX3_addOne, .selects RX3 yX3_addOne yX3_addOne, .initialized RX3, .code yX3_addOne cX3_addOne 1 none, .fieldLink RX3 9 "FrameWalks$Table" "size" "I", .methodLink RX3 22 yX3_isFull, .instanceMethod yX3_isFull, .selects RX3 yX3_isFull yX3_isFull, .code yX3_isFull cX3_isFull 1 (some .boolean), .fieldLink RX3 15 "FrameWalks$Table" "width" "I", .fieldLink RX3 18 "FrameWalks$Table" "cells" "[I", .methodLink RX4 158 yX3_set, .instanceMethod yX3_set, .selects RX3 yX3_set yX3_set, .code yX3_set cX3_set 4 none] ++ wsX30 ++ wsX60 ++ wsX40)
def wsX4_tellLine_r1 : List Cond := [Cond.fieldLink RX4 19 "FrameWalks$Tape" "faulty" "I", Cond.fieldLink RX4 25 "FrameWalks$Tape" "tokenKind" "I", Cond.methodLink RX4 60 yX4_lineNamed, Cond.instanceMethod yX4_lineNamed, Cond.selects RX4 yX4_lineNamed yX4_lineNamed, Cond.initialized RX4, Cond.code yX4_lineNamed cX4_lineNamed 2 (some .int), Cond.methodLink RX4 81 yX4_nameOf, Cond.static yX4_nameOf, Cond.code yX4_nameOf cX4_nameOf 1 (some (.object "java/lang/String")), Cond.methodLink RX4 85 yX4_isNamed, Cond.instanceMethod yX4_isNamed, Cond.selects RX4 yX4_isNamed yX4_isNamed, Cond.code yX4_isNamed cX4_isNamed 3 (some .boolean), Cond.fieldLink RX4 31 "FrameWalks$Tape" "tokenTo" "I", Cond.fieldLink RX4 28 "FrameWalks$Tape" "tokenFrom" "I", Cond.fieldLink RX4 9 "FrameWalks$Tape" "bytes" "[I", Cond.methodLink RX4 115 yJ0_length_8abf5, Cond.instanceMethod yJ0_length_8abf5, Cond.selects RJ0 yJ0_length_8abf5 yJ0_length_8abf5, Cond.initialized RJ0, Cond.code yJ0_length_8abf5 cJ0_length_8abf5 1 (some .int), Cond.fieldLink RJ0 9 "java/lang/String" "value" "[B", Cond.methodLink RJ0 335 yJ0_coder_7d493]
def wsX4_tellLine_r2 : List Cond := [Cond.instanceMethod yJ0_coder_7d493, Cond.selects RJ0 yJ0_coder_7d493 yJ0_coder_7d493, Cond.code yJ0_coder_7d493 cJ0_coder_7d493 1 (some .byte), Cond.fieldLink RJ0 38 "java/lang/String" "COMPACT_STRINGS" "Z", Cond.fieldLink RJ0 15 "java/lang/String" "coder" "B", Cond.methodLink RX4 119 yJ0_charAt_5068e, Cond.instanceMethod yJ0_charAt_5068e, Cond.selects RJ0 yJ0_charAt_5068e yJ0_charAt_5068e, Cond.code yJ0_charAt_5068e cJ0_charAt_5068e 2 (some .char), Cond.methodLink RJ0 492 yJ0_isLatin1_aae02, Cond.instanceMethod yJ0_isLatin1_aae02, Cond.selects RJ0 yJ0_isLatin1_aae02 yJ0_isLatin1_aae02, Cond.code yJ0_isLatin1_aae02 cJ0_isLatin1_aae02 1 (some .boolean), Cond.methodLink RJ0 495 yJ1_charAt_3b067, Cond.static yJ1_charAt_3b067, Cond.initialized RJ1, Cond.code yJ1_charAt_3b067 cJ1_charAt_3b067 2 (some .char), Cond.methodLink RJ1 9 yJ0_checkIndex_df160, Cond.static yJ0_checkIndex_df160, Cond.code yJ0_checkIndex_df160 cJ0_checkIndex_df160 2 none, Cond.fieldLink RJ0 1053 "jdk/internal/util/Preconditions" "SIOOBE_FORMATTER" "Ljava/util/function/BiFunction;", Cond.methodLink RJ0 1059 yJ3_checkIndex_8e157, Cond.static yJ3_checkIndex_8e157, Cond.initialized RJ3]
def wsX4_tellLine_r3 : List Cond := [Cond.code yJ3_checkIndex_8e157 cJ3_checkIndex_8e157 3 (some .int), Cond.methodLink RJ0 498 yJ2_charAt_3b067, Cond.static yJ2_charAt_3b067, Cond.initialized RJ2, Cond.code yJ2_charAt_3b067 cJ2_charAt_3b067 2 (some .char), Cond.methodLink RJ2 67 yJ2_checkIndex_2214a, Cond.static yJ2_checkIndex_2214a, Cond.code yJ2_checkIndex_2214a cJ2_checkIndex_2214a 2 none, Cond.methodLink RJ2 48 yJ2_length_9d52b, Cond.static yJ2_length_9d52b, Cond.code yJ2_length_9d52b cJ2_length_9d52b 1 (some .int), Cond.methodLink RJ2 414 yJ0_checkIndex_df160, Cond.methodLink RJ2 71 yJ2_getChar_3b067, Cond.static yJ2_getChar_3b067, Cond.code yJ2_getChar_3b067 cJ2_getChar_3b067 2 (some .char), Cond.fieldLink RJ2 44 "java/lang/StringUTF16" "$assertionsDisabled" "Z", Cond.fieldLink RJ2 59 "java/lang/StringUTF16" "HI_BYTE_SHIFT" "I", Cond.fieldLink RJ2 63 "java/lang/StringUTF16" "LO_BYTE_SHIFT" "I", Cond.methodLink RX4 74 yX4_refuseUnless, Cond.instanceMethod yX4_refuseUnless, Cond.selects RX4 yX4_refuseUnless yX4_refuseUnless, Cond.code yX4_refuseUnless cX4_refuseUnless 2 none, Cond.methodLink RX4 56 yX4_refuse, Cond.instanceMethod yX4_refuse]
def wsX4_tellLine_r4 : List Cond := [Cond.selects RX4 yX4_refuse yX4_refuse, Cond.code yX4_refuse cX4_refuse 3 none, Cond.fieldLink RX4 22 "FrameWalks$Tape" "faultPlace" "I", Cond.methodLink RX4 64 yX4_refuseTooMany, Cond.instanceMethod yX4_refuseTooMany, Cond.selects RX4 yX4_refuseTooMany yX4_refuseTooMany, Cond.code yX4_refuseTooMany cX4_refuseTooMany 4 none, Cond.methodLink RX4 132 yX4_tableOf, Cond.static yX4_tableOf, Cond.code yX4_tableOf cX4_tableOf 2 (some (.object "FrameWalks$Table")), Cond.methodLink RX4 136 yX3_isFull, Cond.instanceMethod yX3_isFull, Cond.selects RX3 yX3_isFull yX3_isFull, Cond.initialized RX3, Cond.code yX3_isFull cX3_isFull 1 (some .boolean), Cond.fieldLink RX3 9 "FrameWalks$Table" "size" "I", Cond.fieldLink RX3 15 "FrameWalks$Table" "width" "I", Cond.fieldLink RX3 18 "FrameWalks$Table" "cells" "[I", Cond.methodLink RX4 45 yX4_nextToken, Cond.instanceMethod yX4_nextToken, Cond.selects RX4 yX4_nextToken yX4_nextToken, Cond.code yX4_nextToken cX4_nextToken 2 none, Cond.fieldLink RX4 15 "FrameWalks$Tape" "length" "I", Cond.fieldLink RX4 34 "FrameWalks$Tape" "tokenNumber" "I"]
def wsX4_tellLine_r5 : List Cond := [Cond.methodLink RX4 162 yX4_isLetter, Cond.static yX4_isLetter, Cond.code yX4_isLetter cX4_isLetter 1 (some .boolean), Cond.methodLink RX4 166 yX4_readName, Cond.instanceMethod yX4_readName, Cond.selects RX4 yX4_readName yX4_readName, Cond.code yX4_readName cX4_readName 1 none, Cond.methodLink RX4 169 yX4_isFigure, Cond.static yX4_isFigure, Cond.code yX4_isFigure cX4_isFigure 1 (some .boolean), Cond.methodLink RX4 172 yX4_readNumber, Cond.instanceMethod yX4_readNumber, Cond.selects RX4 yX4_readNumber yX4_readNumber, Cond.code yX4_readNumber cX4_readNumber 1 none, Cond.methodLink RX4 71 yX4_takeOperand, Cond.instanceMethod yX4_takeOperand, Cond.selects RX4 yX4_takeOperand yX4_takeOperand, Cond.code yX4_takeOperand cX4_takeOperand 5 none, Cond.fieldLink RX4 37 "FrameWalks$Tape" "operands" "[I", Cond.methodLink RX4 148 yX4_registerNamed, Cond.instanceMethod yX4_registerNamed, Cond.selects RX4 yX4_registerNamed yX4_registerNamed, Cond.code yX4_registerNamed cX4_registerNamed 2 (some .int), Cond.methodLink RX4 151 yX4_isWithin]
def wsX4_tellLine_r6 : List Cond := [Cond.instanceMethod yX4_isWithin, Cond.selects RX4 yX4_isWithin yX4_isWithin, Cond.code yX4_isWithin cX4_isWithin 4 (some .boolean), Cond.methodLink RX4 78 yX4_addLine, Cond.instanceMethod yX4_addLine, Cond.selects RX4 yX4_addLine yX4_addLine, Cond.code yX4_addLine cX4_addLine 8 none, Cond.methodLink RX4 155 yX3_addOne, Cond.instanceMethod yX3_addOne, Cond.selects RX3 yX3_addOne yX3_addOne, Cond.code yX3_addOne cX3_addOne 1 none, Cond.methodLink RX3 22 yX3_isFull, Cond.methodLink RX4 158 yX3_set, Cond.instanceMethod yX3_set, Cond.selects RX3 yX3_set yX3_set, Cond.code yX3_set cX3_set 4 none]
def wsX4_tellLine : List Cond := .code yX4_tellLine cX4_tellLine 5 none :: ((wsX4_tellLine_r1 ++ (wsX4_tellLine_r2 ++ (wsX4_tellLine_r3 ++ (wsX4_tellLine_r4 ++ (wsX4_tellLine_r5 ++ wsX4_tellLine_r6))))) ++ wsX40 ++ wsX60 ++ wsX30)
def wsX6_sharesAddresses : List Cond := .code yX6_sharesAddresses cX6_sharesAddresses 3 (some .boolean) :: ([.fieldLink RX6 14 "FrameWalks$World" "routines" "LFrameWalks$Table;", .methodLink RX6 54 yX3_at, .instanceMethod yX3_at, .selects RX3 yX3_at yX3_at, .initialized RX3, .code yX3_at cX3_at 3 (some .int), .fieldLink RX3 9 "FrameWalks$Table" "size" "I", .fieldLink RX3 15 "FrameWalks$Table" "width" "I", .fieldLink RX3 18 "FrameWalks$Table" "cells" "[I", .methodLink RX6 58 yX6_meets, .instanceMethod yX6_meets, .selects RX6 yX6_meets yX6_meets, .initialized RX6, .code yX6_meets cX6_meets 4 (some .boolean)] ++ wsX60 ++ wsX30)
def wsX4_tellAll_r1 : List Cond := [Cond.fieldLink RX4 19 "FrameWalks$Tape" "faulty" "I", Cond.fieldLink RX4 22 "FrameWalks$Tape" "faultPlace" "I", Cond.fieldLink RX4 31 "FrameWalks$Tape" "tokenTo" "I", Cond.fieldLink RX4 25 "FrameWalks$Tape" "tokenKind" "I", Cond.fieldLink RX4 15 "FrameWalks$Tape" "length" "I", Cond.methodLink RX4 40 yX6_clearTables, Cond.instanceMethod yX6_clearTables, Cond.selects RX6 yX6_clearTables yX6_clearTables, Cond.initialized RX6, Cond.code yX6_clearTables cX6_clearTables 1 none, Cond.fieldLink RX6 14 "FrameWalks$World" "routines" "LFrameWalks$Table;", Cond.fieldLink RX6 20 "FrameWalks$World" "ops" "LFrameWalks$Table;", Cond.fieldLink RX6 23 "FrameWalks$World" "landings" "LFrameWalks$Table;", Cond.fieldLink RX6 26 "FrameWalks$World" "calls" "LFrameWalks$Table;", Cond.methodLink RX4 45 yX4_nextToken, Cond.instanceMethod yX4_nextToken, Cond.selects RX4 yX4_nextToken yX4_nextToken, Cond.initialized RX4, Cond.code yX4_nextToken cX4_nextToken 2 none, Cond.fieldLink RX4 9 "FrameWalks$Tape" "bytes" "[I", Cond.fieldLink RX4 28 "FrameWalks$Tape" "tokenFrom" "I", Cond.fieldLink RX4 34 "FrameWalks$Tape" "tokenNumber" "I", Cond.methodLink RX4 162 yX4_isLetter, Cond.static yX4_isLetter]
def wsX4_tellAll_r2 : List Cond := [Cond.code yX4_isLetter cX4_isLetter 1 (some .boolean), Cond.methodLink RX4 166 yX4_readName, Cond.instanceMethod yX4_readName, Cond.selects RX4 yX4_readName yX4_readName, Cond.code yX4_readName cX4_readName 1 none, Cond.methodLink RX4 169 yX4_isFigure, Cond.static yX4_isFigure, Cond.code yX4_isFigure cX4_isFigure 1 (some .boolean), Cond.methodLink RX4 172 yX4_readNumber, Cond.instanceMethod yX4_readNumber, Cond.selects RX4 yX4_readNumber yX4_readNumber, Cond.code yX4_readNumber cX4_readNumber 1 none, Cond.methodLink RX4 56 yX4_refuse, Cond.instanceMethod yX4_refuse, Cond.selects RX4 yX4_refuse yX4_refuse, Cond.code yX4_refuse cX4_refuse 3 none, Cond.methodLink RX4 48 yX4_tellLine, Cond.instanceMethod yX4_tellLine, Cond.selects RX4 yX4_tellLine yX4_tellLine, Cond.code yX4_tellLine cX4_tellLine 5 none, Cond.methodLink RX4 60 yX4_lineNamed, Cond.instanceMethod yX4_lineNamed, Cond.selects RX4 yX4_lineNamed yX4_lineNamed, Cond.code yX4_lineNamed cX4_lineNamed 2 (some .int)]
def wsX4_tellAll_r3 : List Cond := [Cond.methodLink RX4 81 yX4_nameOf, Cond.static yX4_nameOf, Cond.code yX4_nameOf cX4_nameOf 1 (some (.object "java/lang/String")), Cond.methodLink RX4 85 yX4_isNamed, Cond.instanceMethod yX4_isNamed, Cond.selects RX4 yX4_isNamed yX4_isNamed, Cond.code yX4_isNamed cX4_isNamed 3 (some .boolean), Cond.methodLink RX4 115 yJ0_length_8abf5, Cond.instanceMethod yJ0_length_8abf5, Cond.selects RJ0 yJ0_length_8abf5 yJ0_length_8abf5, Cond.initialized RJ0, Cond.code yJ0_length_8abf5 cJ0_length_8abf5 1 (some .int), Cond.fieldLink RJ0 9 "java/lang/String" "value" "[B", Cond.methodLink RJ0 335 yJ0_coder_7d493, Cond.instanceMethod yJ0_coder_7d493, Cond.selects RJ0 yJ0_coder_7d493 yJ0_coder_7d493, Cond.code yJ0_coder_7d493 cJ0_coder_7d493 1 (some .byte), Cond.fieldLink RJ0 38 "java/lang/String" "COMPACT_STRINGS" "Z", Cond.fieldLink RJ0 15 "java/lang/String" "coder" "B", Cond.methodLink RX4 119 yJ0_charAt_5068e, Cond.instanceMethod yJ0_charAt_5068e, Cond.selects RJ0 yJ0_charAt_5068e yJ0_charAt_5068e, Cond.code yJ0_charAt_5068e cJ0_charAt_5068e 2 (some .char), Cond.methodLink RJ0 492 yJ0_isLatin1_aae02]
def wsX4_tellAll_r4 : List Cond := [Cond.instanceMethod yJ0_isLatin1_aae02, Cond.selects RJ0 yJ0_isLatin1_aae02 yJ0_isLatin1_aae02, Cond.code yJ0_isLatin1_aae02 cJ0_isLatin1_aae02 1 (some .boolean), Cond.methodLink RJ0 495 yJ1_charAt_3b067, Cond.static yJ1_charAt_3b067, Cond.initialized RJ1, Cond.code yJ1_charAt_3b067 cJ1_charAt_3b067 2 (some .char), Cond.methodLink RJ1 9 yJ0_checkIndex_df160, Cond.static yJ0_checkIndex_df160, Cond.code yJ0_checkIndex_df160 cJ0_checkIndex_df160 2 none, Cond.fieldLink RJ0 1053 "jdk/internal/util/Preconditions" "SIOOBE_FORMATTER" "Ljava/util/function/BiFunction;", Cond.methodLink RJ0 1059 yJ3_checkIndex_8e157, Cond.static yJ3_checkIndex_8e157, Cond.initialized RJ3, Cond.code yJ3_checkIndex_8e157 cJ3_checkIndex_8e157 3 (some .int), Cond.methodLink RJ0 498 yJ2_charAt_3b067, Cond.static yJ2_charAt_3b067, Cond.initialized RJ2, Cond.code yJ2_charAt_3b067 cJ2_charAt_3b067 2 (some .char), Cond.methodLink RJ2 67 yJ2_checkIndex_2214a, Cond.static yJ2_checkIndex_2214a, Cond.code yJ2_checkIndex_2214a cJ2_checkIndex_2214a 2 none, Cond.methodLink RJ2 48 yJ2_length_9d52b, Cond.static yJ2_length_9d52b]
def wsX4_tellAll_r5 : List Cond := [Cond.code yJ2_length_9d52b cJ2_length_9d52b 1 (some .int), Cond.methodLink RJ2 414 yJ0_checkIndex_df160, Cond.methodLink RJ2 71 yJ2_getChar_3b067, Cond.static yJ2_getChar_3b067, Cond.code yJ2_getChar_3b067 cJ2_getChar_3b067 2 (some .char), Cond.fieldLink RJ2 44 "java/lang/StringUTF16" "$assertionsDisabled" "Z", Cond.fieldLink RJ2 59 "java/lang/StringUTF16" "HI_BYTE_SHIFT" "I", Cond.fieldLink RJ2 63 "java/lang/StringUTF16" "LO_BYTE_SHIFT" "I", Cond.methodLink RX4 74 yX4_refuseUnless, Cond.instanceMethod yX4_refuseUnless, Cond.selects RX4 yX4_refuseUnless yX4_refuseUnless, Cond.code yX4_refuseUnless cX4_refuseUnless 2 none, Cond.methodLink RX4 64 yX4_refuseTooMany, Cond.instanceMethod yX4_refuseTooMany, Cond.selects RX4 yX4_refuseTooMany yX4_refuseTooMany, Cond.code yX4_refuseTooMany cX4_refuseTooMany 4 none, Cond.methodLink RX4 132 yX4_tableOf, Cond.static yX4_tableOf, Cond.code yX4_tableOf cX4_tableOf 2 (some (.object "FrameWalks$Table")), Cond.methodLink RX4 136 yX3_isFull, Cond.instanceMethod yX3_isFull, Cond.selects RX3 yX3_isFull yX3_isFull, Cond.initialized RX3, Cond.code yX3_isFull cX3_isFull 1 (some .boolean)]
def wsX4_tellAll_r6 : List Cond := [Cond.fieldLink RX3 9 "FrameWalks$Table" "size" "I", Cond.fieldLink RX3 15 "FrameWalks$Table" "width" "I", Cond.fieldLink RX3 18 "FrameWalks$Table" "cells" "[I", Cond.methodLink RX4 71 yX4_takeOperand, Cond.instanceMethod yX4_takeOperand, Cond.selects RX4 yX4_takeOperand yX4_takeOperand, Cond.code yX4_takeOperand cX4_takeOperand 5 none, Cond.fieldLink RX4 37 "FrameWalks$Tape" "operands" "[I", Cond.methodLink RX4 148 yX4_registerNamed, Cond.instanceMethod yX4_registerNamed, Cond.selects RX4 yX4_registerNamed yX4_registerNamed, Cond.code yX4_registerNamed cX4_registerNamed 2 (some .int), Cond.methodLink RX4 151 yX4_isWithin, Cond.instanceMethod yX4_isWithin, Cond.selects RX4 yX4_isWithin yX4_isWithin, Cond.code yX4_isWithin cX4_isWithin 4 (some .boolean), Cond.methodLink RX4 78 yX4_addLine, Cond.instanceMethod yX4_addLine, Cond.selects RX4 yX4_addLine yX4_addLine, Cond.code yX4_addLine cX4_addLine 8 none, Cond.methodLink RX4 155 yX3_addOne, Cond.instanceMethod yX3_addOne, Cond.selects RX3 yX3_addOne yX3_addOne, Cond.code yX3_addOne cX3_addOne 1 none]
def wsX4_tellAll_r7 : List Cond := [Cond.methodLink RX3 22 yX3_isFull, Cond.methodLink RX4 158 yX3_set, Cond.instanceMethod yX3_set, Cond.selects RX3 yX3_set yX3_set, Cond.code yX3_set cX3_set 4 none, Cond.methodLink RX4 52 yX6_sharesAddresses, Cond.instanceMethod yX6_sharesAddresses, Cond.selects RX6 yX6_sharesAddresses yX6_sharesAddresses, Cond.code yX6_sharesAddresses cX6_sharesAddresses 3 (some .boolean), Cond.methodLink RX6 54 yX3_at, Cond.instanceMethod yX3_at, Cond.selects RX3 yX3_at yX3_at, Cond.code yX3_at cX3_at 3 (some .int), Cond.methodLink RX6 58 yX6_meets, Cond.instanceMethod yX6_meets, Cond.selects RX6 yX6_meets yX6_meets, Cond.code yX6_meets cX6_meets 4 (some .boolean)]
def wsX4_tellAll : List Cond := .code yX4_tellAll cX4_tellAll 3 (some .int) :: ((wsX4_tellAll_r1 ++ (wsX4_tellAll_r2 ++ (wsX4_tellAll_r3 ++ (wsX4_tellAll_r4 ++ (wsX4_tellAll_r5 ++ (wsX4_tellAll_r6 ++ wsX4_tellAll_r7)))))) ++ wsX40 ++ wsX60 ++ wsX30)
def wsX5_init : List Cond := .code yX5_init cX5_init 1 none :: ([.methodLink RX5 3 objectInit, .instanceMethod objectInit, .code objectInit ⟨#[0xb1]⟩ 1 none, .arrayClass .int, .fieldLink RX5 9 "FrameWalks$Track" "registers" "[I", .fieldLink RX5 15 "FrameWalks$Track" "owners" "[I", .fieldLink RX5 18 "FrameWalks$Track" "looked" "[I", .fieldLink RX5 21 "FrameWalks$Track" "ways" "[I", .fieldLink RX5 24 "FrameWalks$Track" "taken" "Z", .fieldLink RX5 28 "FrameWalks$Track" "leftSignal" "Z", .fieldLink RX5 31 "FrameWalks$Track" "size" "I", .fieldLink RX5 35 "FrameWalks$Track" "ended" "I", .fieldLink RX5 38 "FrameWalks$Track" "guessed" "I"] ++ wsX50)
def wsX5_forget : List Cond := .code yX5_forget cX5_forget 1 none :: ([.fieldLink RX5 24 "FrameWalks$Track" "taken" "Z", .fieldLink RX5 31 "FrameWalks$Track" "size" "I"] ++ wsX50)
def wsX5_add : List Cond := .code yX5_add cX5_add 2 none :: ([.fieldLink RX5 31 "FrameWalks$Track" "size" "I", .fieldLink RX5 21 "FrameWalks$Track" "ways" "[I"] ++ wsX50)
def wsX5_begin : List Cond := .code yX5_begin cX5_begin 3 none :: ([.fieldLink RX5 24 "FrameWalks$Track" "taken" "Z", .fieldLink RX5 28 "FrameWalks$Track" "leftSignal" "Z", .fieldLink RX5 31 "FrameWalks$Track" "size" "I", .fieldLink RX5 35 "FrameWalks$Track" "ended" "I", .fieldLink RX5 38 "FrameWalks$Track" "guessed" "I", .fieldLink RX5 9 "FrameWalks$Track" "registers" "[I", .methodLink RX5 41 yX5_add, .instanceMethod yX5_add, .selects RX5 yX5_add yX5_add, .initialized RX5, .code yX5_add cX5_add 2 none, .fieldLink RX5 21 "FrameWalks$Track" "ways" "[I"] ++ wsX50)
def wsX5_has : List Cond := .code yX5_has cX5_has 2 (some .boolean) :: ([.fieldLink RX5 31 "FrameWalks$Track" "size" "I"] ++ wsX50)
def wsX5_register : List Cond := .code yX5_register cX5_register 3 (some .int) :: ([.fieldLink RX5 9 "FrameWalks$Track" "registers" "[I", .methodLink RX5 45 yX5_has, .instanceMethod yX5_has, .selects RX5 yX5_has yX5_has, .initialized RX5, .code yX5_has cX5_has 2 (some .boolean), .fieldLink RX5 31 "FrameWalks$Track" "size" "I", .static yX7_isRegister, .initialized RX7, .code yX7_isRegister cX7_isRegister 1 (some .boolean)] ++ wsX50)
def wsX5_lookUp_r1 : List Cond := [Cond.fieldLink RX5 21 "FrameWalks$Track" "ways" "[I", Cond.fieldLink RX5 28 "FrameWalks$Track" "leftSignal" "Z", Cond.fieldLink RX5 18 "FrameWalks$Track" "looked" "[I", Cond.fieldLink RX5 15 "FrameWalks$Track" "owners" "[I", Cond.methodLink RX5 45 yX5_has, Cond.instanceMethod yX5_has, Cond.selects RX5 yX5_has yX5_has, Cond.initialized RX5, Cond.code yX5_has cX5_has 2 (some .boolean), Cond.fieldLink RX5 31 "FrameWalks$Track" "size" "I", Cond.methodLink RX5 52 yX5_register, Cond.instanceMethod yX5_register, Cond.selects RX5 yX5_register yX5_register, Cond.code yX5_register cX5_register 3 (some .int), Cond.fieldLink RX5 9 "FrameWalks$Track" "registers" "[I", Cond.static yX7_isRegister, Cond.initialized RX7, Cond.code yX7_isRegister cX7_isRegister 1 (some .boolean), Cond.methodLink RX5 56 yX6_ownerOf, Cond.instanceMethod yX6_ownerOf, Cond.selects RX6 yX6_ownerOf yX6_ownerOf, Cond.initialized RX6, Cond.code yX6_ownerOf cX6_ownerOf 3 (some .int), Cond.fieldLink RX6 14 "FrameWalks$World" "routines" "LFrameWalks$Table;"]
def wsX5_lookUp_r2 : List Cond := [Cond.methodLink RX6 58 yX6_meets, Cond.instanceMethod yX6_meets, Cond.selects RX6 yX6_meets yX6_meets, Cond.code yX6_meets cX6_meets 4 (some .boolean), Cond.methodLink RX6 54 yX3_at, Cond.instanceMethod yX3_at, Cond.selects RX3 yX3_at yX3_at, Cond.initialized RX3, Cond.code yX3_at cX3_at 3 (some .int), Cond.fieldLink RX3 9 "FrameWalks$Table" "size" "I", Cond.fieldLink RX3 15 "FrameWalks$Table" "width" "I", Cond.fieldLink RX3 18 "FrameWalks$Table" "cells" "[I", Cond.methodLink RX5 66 yX3_at]
def wsX5_lookUp : List Cond := .code yX5_lookUp cX5_lookUp 4 none :: ((wsX5_lookUp_r1 ++ wsX5_lookUp_r2) ++ wsX50 ++ wsX60 ++ wsX30)
def wsX5_topOf : List Cond := .code yX5_topOf cX5_topOf 3 (some .int) :: ([.methodLink RX5 71 yX1_base, .instanceMethod yX1_base, .selects RX1 yX1_base yX1_base, .initialized RX1, .code yX1_base cX1_base 1 (some .int), .fieldLink RX1 11 "FrameWalks$Row" "cells" "[I", .methodLink RX5 52 yX5_register, .instanceMethod yX5_register, .selects RX5 yX5_register yX5_register, .initialized RX5, .code yX5_register cX5_register 3 (some .int), .fieldLink RX5 9 "FrameWalks$Track" "registers" "[I", .methodLink RX5 45 yX5_has, .instanceMethod yX5_has, .selects RX5 yX5_has yX5_has, .code yX5_has cX5_has 2 (some .boolean), .fieldLink RX5 31 "FrameWalks$Track" "size" "I", .static yX7_isRegister, .initialized RX7, .code yX7_isRegister cX7_isRegister 1 (some .boolean), .methodLink RX5 77 yX1_off, .instanceMethod yX1_off, .selects RX1 yX1_off yX1_off, .code yX1_off cX1_off 1 (some .int)] ++ wsX10 ++ wsX50)
def wsX5_addGuessed : List Cond := .code yX5_addGuessed cX5_addGuessed 6 none :: ([.fieldLink RX5 31 "FrameWalks$Track" "size" "I", .fieldLink RX5 9 "FrameWalks$Track" "registers" "[I", .fieldLink RX5 38 "FrameWalks$Track" "guessed" "I", .methodLink RX5 52 yX5_register, .instanceMethod yX5_register, .selects RX5 yX5_register yX5_register, .initialized RX5, .code yX5_register cX5_register 3 (some .int), .methodLink RX5 45 yX5_has, .instanceMethod yX5_has, .selects RX5 yX5_has yX5_has, .code yX5_has cX5_has 2 (some .boolean), .static yX7_isRegister, .initialized RX7, .code yX7_isRegister cX7_isRegister 1 (some .boolean), .methodLink RX5 41 yX5_add, .instanceMethod yX5_add, .selects RX5 yX5_add yX5_add, .code yX5_add cX5_add 2 none, .fieldLink RX5 21 "FrameWalks$Track" "ways" "[I"] ++ wsX50)
def wsX5_callers_r1 : List Cond := [Cond.methodLink RX5 88 yX1_which, Cond.instanceMethod yX1_which, Cond.selects RX1 yX1_which yX1_which, Cond.initialized RX1, Cond.code yX1_which cX1_which 2 (some .int), Cond.fieldLink RX1 11 "FrameWalks$Row" "cells" "[I", Cond.static yX7_isRegister, Cond.initialized RX7, Cond.code yX7_isRegister cX7_isRegister 1 (some .boolean), Cond.methodLink RX5 91 yX1_number, Cond.instanceMethod yX1_number, Cond.selects RX1 yX1_number yX1_number, Cond.code yX1_number cX1_number 2 (some .int), Cond.methodLink RX5 52 yX5_register, Cond.instanceMethod yX5_register, Cond.selects RX5 yX5_register yX5_register, Cond.initialized RX5, Cond.code yX5_register cX5_register 3 (some .int), Cond.fieldLink RX5 9 "FrameWalks$Track" "registers" "[I", Cond.methodLink RX5 45 yX5_has, Cond.instanceMethod yX5_has, Cond.selects RX5 yX5_has yX5_has, Cond.code yX5_has cX5_has 2 (some .boolean), Cond.fieldLink RX5 31 "FrameWalks$Track" "size" "I"]
def wsX5_callers_r2 : List Cond := [Cond.methodLink RX5 80 yX5_topOf, Cond.instanceMethod yX5_topOf, Cond.selects RX5 yX5_topOf yX5_topOf, Cond.code yX5_topOf cX5_topOf 3 (some .int), Cond.methodLink RX5 71 yX1_base, Cond.instanceMethod yX1_base, Cond.selects RX1 yX1_base yX1_base, Cond.code yX1_base cX1_base 1 (some .int), Cond.methodLink RX5 77 yX1_off, Cond.instanceMethod yX1_off, Cond.selects RX1 yX1_off yX1_off, Cond.code yX1_off cX1_off 1 (some .int)]
def wsX5_callers : List Cond := .code yX5_callers cX5_callers 6 (some .int) :: ((wsX5_callers_r1 ++ wsX5_callers_r2) ++ wsX10 ++ wsX50)
def wsX5_addByRow_r1 : List Cond := [Cond.fieldLink RX5 31 "FrameWalks$Track" "size" "I", Cond.fieldLink RX5 9 "FrameWalks$Track" "registers" "[I", Cond.methodLink RX5 80 yX5_topOf, Cond.instanceMethod yX5_topOf, Cond.selects RX5 yX5_topOf yX5_topOf, Cond.initialized RX5, Cond.code yX5_topOf cX5_topOf 3 (some .int), Cond.methodLink RX5 71 yX1_base, Cond.instanceMethod yX1_base, Cond.selects RX1 yX1_base yX1_base, Cond.initialized RX1, Cond.code yX1_base cX1_base 1 (some .int), Cond.fieldLink RX1 11 "FrameWalks$Row" "cells" "[I", Cond.methodLink RX5 52 yX5_register, Cond.instanceMethod yX5_register, Cond.selects RX5 yX5_register yX5_register, Cond.code yX5_register cX5_register 3 (some .int), Cond.methodLink RX5 45 yX5_has, Cond.instanceMethod yX5_has, Cond.selects RX5 yX5_has yX5_has, Cond.code yX5_has cX5_has 2 (some .boolean), Cond.static yX7_isRegister, Cond.initialized RX7, Cond.code yX7_isRegister cX7_isRegister 1 (some .boolean)]
def wsX5_addByRow_r2 : List Cond := [Cond.methodLink RX5 77 yX1_off, Cond.instanceMethod yX1_off, Cond.selects RX1 yX1_off yX1_off, Cond.code yX1_off cX1_off 1 (some .int), Cond.methodLink RX5 84 yX5_callers, Cond.instanceMethod yX5_callers, Cond.selects RX5 yX5_callers yX5_callers, Cond.code yX5_callers cX5_callers 6 (some .int), Cond.methodLink RX5 88 yX1_which, Cond.instanceMethod yX1_which, Cond.selects RX1 yX1_which yX1_which, Cond.code yX1_which cX1_which 2 (some .int), Cond.methodLink RX5 91 yX1_number, Cond.instanceMethod yX1_number, Cond.selects RX1 yX1_number yX1_number, Cond.code yX1_number cX1_number 2 (some .int), Cond.methodLink RX5 41 yX5_add, Cond.instanceMethod yX5_add, Cond.selects RX5 yX5_add yX5_add, Cond.code yX5_add cX5_add 2 none, Cond.fieldLink RX5 21 "FrameWalks$Track" "ways" "[I"]
def wsX5_addByRow : List Cond := .code yX5_addByRow cX5_addByRow 7 none :: ((wsX5_addByRow_r1 ++ wsX5_addByRow_r2) ++ wsX50 ++ wsX10)
def wsX6_init : List Cond := .code yX6_init cX6_init 1 none :: ([.methodLink RX6 3 objectInit, .instanceMethod objectInit, .code objectInit ⟨#[0xb1]⟩ 1 none, .classLink RX6 9 RX3, .instantiable RX3 3, .initialized RX3, .fieldLink RX6 14 "FrameWalks$World" "routines" "LFrameWalks$Table;", .fieldLink RX6 20 "FrameWalks$World" "ops" "LFrameWalks$Table;", .fieldLink RX6 23 "FrameWalks$World" "landings" "LFrameWalks$Table;", .fieldLink RX6 26 "FrameWalks$World" "calls" "LFrameWalks$Table;", .arrayClass .int, .fieldLink RX6 29 "FrameWalks$World" "registers" "[I", .fieldLink RX6 33 "FrameWalks$World" "words" "[I", .methodLink RX6 11 yX3_init, .instanceMethod yX3_init, .code yX3_init cX3_init 3 none, .methodLink RX3 3 objectInit, .fieldLink RX3 9 "FrameWalks$Table" "size" "I", .fieldLink RX3 15 "FrameWalks$Table" "width" "I", .fieldLink RX3 18 "FrameWalks$Table" "cells" "[I"] ++ wsX30 ++ wsX60)
def wsX6_takeTables : List Cond := .code yX6_takeTables cX6_takeTables 2 none :: ([.fieldLink RX6 14 "FrameWalks$World" "routines" "LFrameWalks$Table;", .fieldLink RX6 20 "FrameWalks$World" "ops" "LFrameWalks$Table;", .fieldLink RX6 23 "FrameWalks$World" "landings" "LFrameWalks$Table;", .fieldLink RX6 26 "FrameWalks$World" "calls" "LFrameWalks$Table;", .methodLink RX6 40 yX3_takeOver, .instanceMethod yX3_takeOver, .selects RX3 yX3_takeOver yX3_takeOver, .initialized RX3, .code yX3_takeOver cX3_takeOver 2 none, .fieldLink RX3 18 "FrameWalks$Table" "cells" "[I", .methodLink RX3 26 arraycopyName, .native arraycopyName, .static arraycopyName, .initialized "java/lang/System", .fieldLink RX3 9 "FrameWalks$Table" "size" "I"] ++ wsX60 ++ wsX30)
def wsX6_takeAll : List Cond := .code yX6_takeAll cX6_takeAll 2 none :: ([.fieldLink RX6 29 "FrameWalks$World" "registers" "[I", .methodLink RX6 48 arraycopyName, .native arraycopyName, .static arraycopyName, .initialized "java/lang/System", .fieldLink RX6 33 "FrameWalks$World" "words" "[I", .methodLink RX6 44 yX6_takeTables, .instanceMethod yX6_takeTables, .selects RX6 yX6_takeTables yX6_takeTables, .initialized RX6, .code yX6_takeTables cX6_takeTables 2 none, .fieldLink RX6 14 "FrameWalks$World" "routines" "LFrameWalks$Table;", .fieldLink RX6 20 "FrameWalks$World" "ops" "LFrameWalks$Table;", .fieldLink RX6 23 "FrameWalks$World" "landings" "LFrameWalks$Table;", .fieldLink RX6 26 "FrameWalks$World" "calls" "LFrameWalks$Table;", .methodLink RX6 40 yX3_takeOver, .instanceMethod yX3_takeOver, .selects RX3 yX3_takeOver yX3_takeOver, .initialized RX3, .code yX3_takeOver cX3_takeOver 2 none, .fieldLink RX3 18 "FrameWalks$Table" "cells" "[I", .methodLink RX3 26 arraycopyName, .fieldLink RX3 9 "FrameWalks$Table" "size" "I"] ++ wsX60 ++ wsX30)
def wsX6_addressesHad : List Cond := .code yX6_addressesHad cX6_addressesHad 3 (some .int) :: ([.fieldLink RX6 14 "FrameWalks$World" "routines" "LFrameWalks$Table;", .methodLink RX6 54 yX3_at, .instanceMethod yX3_at, .selects RX3 yX3_at yX3_at, .initialized RX3, .code yX3_at cX3_at 3 (some .int), .fieldLink RX3 9 "FrameWalks$Table" "size" "I", .fieldLink RX3 15 "FrameWalks$Table" "width" "I", .fieldLink RX3 18 "FrameWalks$Table" "cells" "[I"] ++ wsX60 ++ wsX30)
def wsX7_init_r1 : List Cond := [Cond.methodLink RX7 1 objectInit, Cond.instanceMethod objectInit, Cond.code objectInit ⟨#[0xb1]⟩ 1 none, Cond.classLink RX7 7 RX6, Cond.instantiable RX6 6, Cond.initialized RX6, Cond.fieldLink RX7 10 "FrameWalks" "now" "LFrameWalks$World;", Cond.fieldLink RX7 16 "FrameWalks" "draft" "LFrameWalks$World;", Cond.fieldLink RX7 19 "FrameWalks" "images" "[LFrameWalks$World;", Cond.arrayClass .boolean, Cond.fieldLink RX7 23 "FrameWalks" "kept" "[Z", Cond.classLink RX7 27 RX4, Cond.instantiable RX4 9, Cond.initialized RX4, Cond.fieldLink RX7 30 "FrameWalks" "tape" "LFrameWalks$Tape;", Cond.classLink RX7 34 RX1, Cond.instantiable RX1 3, Cond.initialized RX1, Cond.fieldLink RX7 37 "FrameWalks" "ruled" "LFrameWalks$Row;", Cond.classLink RX7 41 RX5, Cond.instantiable RX5 9, Cond.initialized RX5, Cond.fieldLink RX7 44 "FrameWalks" "track" "LFrameWalks$Track;", Cond.classLink RX7 48 RX0]
def wsX7_init_r2 : List Cond := [Cond.instantiable RX0 3, Cond.initialized RX0, Cond.fieldLink RX7 51 "FrameWalks" "hunt" "LFrameWalks$Hunt;", Cond.classLink RX7 55 RX2, Cond.fieldLink RX7 57 "FrameWalks" "sheets" "[LFrameWalks$Sheet;", Cond.arrayClass .int, Cond.fieldLink RX7 61 "FrameWalks" "coming" "[I", Cond.fieldLink RX7 65 "FrameWalks" "tornBy" "I", Cond.instantiable RX2 4, Cond.initialized RX2, Cond.instanceMethod yX6_init, Cond.code yX6_init cX6_init 1 none, Cond.methodLink RX6 3 objectInit, Cond.classLink RX6 9 RX3, Cond.instantiable RX3 3, Cond.initialized RX3, Cond.fieldLink RX6 14 "FrameWalks$World" "routines" "LFrameWalks$Table;", Cond.fieldLink RX6 20 "FrameWalks$World" "ops" "LFrameWalks$Table;", Cond.fieldLink RX6 23 "FrameWalks$World" "landings" "LFrameWalks$Table;", Cond.fieldLink RX6 26 "FrameWalks$World" "calls" "LFrameWalks$Table;", Cond.fieldLink RX6 29 "FrameWalks$World" "registers" "[I", Cond.fieldLink RX6 33 "FrameWalks$World" "words" "[I", Cond.methodLink RX6 11 yX3_init, Cond.instanceMethod yX3_init]
def wsX7_init_r3 : List Cond := [Cond.code yX3_init cX3_init 3 none, Cond.methodLink RX3 3 objectInit, Cond.fieldLink RX3 9 "FrameWalks$Table" "size" "I", Cond.fieldLink RX3 15 "FrameWalks$Table" "width" "I", Cond.fieldLink RX3 18 "FrameWalks$Table" "cells" "[I", Cond.instanceMethod yX4_init, Cond.code yX4_init cX4_init 1 none, Cond.methodLink RX4 3 objectInit, Cond.fieldLink RX4 9 "FrameWalks$Tape" "bytes" "[I", Cond.fieldLink RX4 15 "FrameWalks$Tape" "length" "I", Cond.fieldLink RX4 19 "FrameWalks$Tape" "faulty" "I", Cond.fieldLink RX4 22 "FrameWalks$Tape" "faultPlace" "I", Cond.fieldLink RX4 25 "FrameWalks$Tape" "tokenKind" "I", Cond.fieldLink RX4 28 "FrameWalks$Tape" "tokenFrom" "I", Cond.fieldLink RX4 31 "FrameWalks$Tape" "tokenTo" "I", Cond.fieldLink RX4 34 "FrameWalks$Tape" "tokenNumber" "I", Cond.fieldLink RX4 37 "FrameWalks$Tape" "operands" "[I", Cond.instanceMethod yX1_init, Cond.code yX1_init cX1_init 1 none, Cond.methodLink RX1 3 objectInit, Cond.fieldLink RX1 11 "FrameWalks$Row" "cells" "[I", Cond.fieldLink RX1 15 "FrameWalks$Row" "aside" "[I", Cond.fieldLink RX1 18 "FrameWalks$Row" "asideSize" "I", Cond.instanceMethod yX5_init]
def wsX7_init_r4 : List Cond := [Cond.code yX5_init cX5_init 1 none, Cond.methodLink RX5 3 objectInit, Cond.fieldLink RX5 9 "FrameWalks$Track" "registers" "[I", Cond.fieldLink RX5 15 "FrameWalks$Track" "owners" "[I", Cond.fieldLink RX5 18 "FrameWalks$Track" "looked" "[I", Cond.fieldLink RX5 21 "FrameWalks$Track" "ways" "[I", Cond.fieldLink RX5 24 "FrameWalks$Track" "taken" "Z", Cond.fieldLink RX5 28 "FrameWalks$Track" "leftSignal" "Z", Cond.fieldLink RX5 31 "FrameWalks$Track" "size" "I", Cond.fieldLink RX5 35 "FrameWalks$Track" "ended" "I", Cond.fieldLink RX5 38 "FrameWalks$Track" "guessed" "I", Cond.instanceMethod yX0_init, Cond.code yX0_init cX0_init 1 none, Cond.methodLink RX0 3 objectInit, Cond.fieldLink RX0 9 "FrameWalks$Hunt" "places" "[I", Cond.fieldLink RX0 15 "FrameWalks$Hunt" "scores" "[I", Cond.fieldLink RX0 18 "FrameWalks$Hunt" "size" "I", Cond.instanceMethod yX2_init, Cond.code yX2_init cX2_init 1 none, Cond.methodLink RX2 3 objectInit, Cond.fieldLink RX2 9 "FrameWalks$Sheet" "cells" "[I", Cond.fieldLink RX2 15 "FrameWalks$Sheet" "isThere" "Z", Cond.fieldLink RX2 19 "FrameWalks$Sheet" "lane" "I", Cond.fieldLink RX2 23 "FrameWalks$Sheet" "size" "I"]
def wsX7_init : List Cond := .code yX7_init cX7_init 2 none :: ((wsX7_init_r1 ++ (wsX7_init_r2 ++ (wsX7_init_r3 ++ wsX7_init_r4))) ++ wsX60 ++ wsX70 ++ wsX40 ++ wsX10 ++ wsX50 ++ wsX00 ++ wsX20 ++ wsX30)
def wsX7_feed : List Cond := .code yX7_feed cX7_feed 2 (some .int) :: ([.fieldLink RX7 30 "FrameWalks" "tape" "LFrameWalks$Tape;"] ++ wsX70 ++ wsX40)
def wsX7_end : List Cond := .code yX7_end cX7_end 3 (some .int) :: ([.fieldLink RX7 30 "FrameWalks" "tape" "LFrameWalks$Tape;"] ++ wsX70 ++ wsX40)
def wsX7_text_r1 : List Cond := [Cond.fieldLink RX7 30 "FrameWalks" "tape" "LFrameWalks$Tape;", Cond.fieldLink RX7 16 "FrameWalks" "draft" "LFrameWalks$World;", Cond.fieldLink RX7 10 "FrameWalks" "now" "LFrameWalks$World;", Cond.fieldLink RX7 44 "FrameWalks" "track" "LFrameWalks$Track;", Cond.fieldLink RX7 23 "FrameWalks" "kept" "[Z", Cond.methodLink RX7 76 yX4_tellAll, Cond.instanceMethod yX4_tellAll, Cond.selects RX4 yX4_tellAll yX4_tellAll, Cond.initialized RX4, Cond.code yX4_tellAll cX4_tellAll 3 (some .int), Cond.fieldLink RX4 19 "FrameWalks$Tape" "faulty" "I", Cond.fieldLink RX4 22 "FrameWalks$Tape" "faultPlace" "I", Cond.fieldLink RX4 31 "FrameWalks$Tape" "tokenTo" "I", Cond.fieldLink RX4 25 "FrameWalks$Tape" "tokenKind" "I", Cond.fieldLink RX4 15 "FrameWalks$Tape" "length" "I", Cond.methodLink RX4 40 yX6_clearTables, Cond.instanceMethod yX6_clearTables, Cond.selects RX6 yX6_clearTables yX6_clearTables, Cond.initialized RX6, Cond.code yX6_clearTables cX6_clearTables 1 none, Cond.fieldLink RX6 14 "FrameWalks$World" "routines" "LFrameWalks$Table;", Cond.fieldLink RX6 20 "FrameWalks$World" "ops" "LFrameWalks$Table;", Cond.fieldLink RX6 23 "FrameWalks$World" "landings" "LFrameWalks$Table;", Cond.fieldLink RX6 26 "FrameWalks$World" "calls" "LFrameWalks$Table;"]
def wsX7_text_r2 : List Cond := [Cond.methodLink RX4 45 yX4_nextToken, Cond.instanceMethod yX4_nextToken, Cond.selects RX4 yX4_nextToken yX4_nextToken, Cond.code yX4_nextToken cX4_nextToken 2 none, Cond.fieldLink RX4 9 "FrameWalks$Tape" "bytes" "[I", Cond.fieldLink RX4 28 "FrameWalks$Tape" "tokenFrom" "I", Cond.fieldLink RX4 34 "FrameWalks$Tape" "tokenNumber" "I", Cond.methodLink RX4 162 yX4_isLetter, Cond.static yX4_isLetter, Cond.code yX4_isLetter cX4_isLetter 1 (some .boolean), Cond.methodLink RX4 166 yX4_readName, Cond.instanceMethod yX4_readName, Cond.selects RX4 yX4_readName yX4_readName, Cond.code yX4_readName cX4_readName 1 none, Cond.methodLink RX4 169 yX4_isFigure, Cond.static yX4_isFigure, Cond.code yX4_isFigure cX4_isFigure 1 (some .boolean), Cond.methodLink RX4 172 yX4_readNumber, Cond.instanceMethod yX4_readNumber, Cond.selects RX4 yX4_readNumber yX4_readNumber, Cond.code yX4_readNumber cX4_readNumber 1 none, Cond.methodLink RX4 56 yX4_refuse, Cond.instanceMethod yX4_refuse, Cond.selects RX4 yX4_refuse yX4_refuse]
def wsX7_text_r3 : List Cond := [Cond.code yX4_refuse cX4_refuse 3 none, Cond.methodLink RX4 48 yX4_tellLine, Cond.instanceMethod yX4_tellLine, Cond.selects RX4 yX4_tellLine yX4_tellLine, Cond.code yX4_tellLine cX4_tellLine 5 none, Cond.methodLink RX4 60 yX4_lineNamed, Cond.instanceMethod yX4_lineNamed, Cond.selects RX4 yX4_lineNamed yX4_lineNamed, Cond.code yX4_lineNamed cX4_lineNamed 2 (some .int), Cond.methodLink RX4 81 yX4_nameOf, Cond.static yX4_nameOf, Cond.code yX4_nameOf cX4_nameOf 1 (some (.object "java/lang/String")), Cond.methodLink RX4 85 yX4_isNamed, Cond.instanceMethod yX4_isNamed, Cond.selects RX4 yX4_isNamed yX4_isNamed, Cond.code yX4_isNamed cX4_isNamed 3 (some .boolean), Cond.methodLink RX4 115 yJ0_length_8abf5, Cond.instanceMethod yJ0_length_8abf5, Cond.selects RJ0 yJ0_length_8abf5 yJ0_length_8abf5, Cond.initialized RJ0, Cond.code yJ0_length_8abf5 cJ0_length_8abf5 1 (some .int), Cond.fieldLink RJ0 9 "java/lang/String" "value" "[B", Cond.methodLink RJ0 335 yJ0_coder_7d493, Cond.instanceMethod yJ0_coder_7d493]
def wsX7_text_r4 : List Cond := [Cond.selects RJ0 yJ0_coder_7d493 yJ0_coder_7d493, Cond.code yJ0_coder_7d493 cJ0_coder_7d493 1 (some .byte), Cond.fieldLink RJ0 38 "java/lang/String" "COMPACT_STRINGS" "Z", Cond.fieldLink RJ0 15 "java/lang/String" "coder" "B", Cond.methodLink RX4 119 yJ0_charAt_5068e, Cond.instanceMethod yJ0_charAt_5068e, Cond.selects RJ0 yJ0_charAt_5068e yJ0_charAt_5068e, Cond.code yJ0_charAt_5068e cJ0_charAt_5068e 2 (some .char), Cond.methodLink RJ0 492 yJ0_isLatin1_aae02, Cond.instanceMethod yJ0_isLatin1_aae02, Cond.selects RJ0 yJ0_isLatin1_aae02 yJ0_isLatin1_aae02, Cond.code yJ0_isLatin1_aae02 cJ0_isLatin1_aae02 1 (some .boolean), Cond.methodLink RJ0 495 yJ1_charAt_3b067, Cond.static yJ1_charAt_3b067, Cond.initialized RJ1, Cond.code yJ1_charAt_3b067 cJ1_charAt_3b067 2 (some .char), Cond.methodLink RJ1 9 yJ0_checkIndex_df160, Cond.static yJ0_checkIndex_df160, Cond.code yJ0_checkIndex_df160 cJ0_checkIndex_df160 2 none, Cond.fieldLink RJ0 1053 "jdk/internal/util/Preconditions" "SIOOBE_FORMATTER" "Ljava/util/function/BiFunction;", Cond.methodLink RJ0 1059 yJ3_checkIndex_8e157, Cond.static yJ3_checkIndex_8e157, Cond.initialized RJ3, Cond.code yJ3_checkIndex_8e157 cJ3_checkIndex_8e157 3 (some .int)]
def wsX7_text_r5 : List Cond := [Cond.methodLink RJ0 498 yJ2_charAt_3b067, Cond.static yJ2_charAt_3b067, Cond.initialized RJ2, Cond.code yJ2_charAt_3b067 cJ2_charAt_3b067 2 (some .char), Cond.methodLink RJ2 67 yJ2_checkIndex_2214a, Cond.static yJ2_checkIndex_2214a, Cond.code yJ2_checkIndex_2214a cJ2_checkIndex_2214a 2 none, Cond.methodLink RJ2 48 yJ2_length_9d52b, Cond.static yJ2_length_9d52b, Cond.code yJ2_length_9d52b cJ2_length_9d52b 1 (some .int), Cond.methodLink RJ2 414 yJ0_checkIndex_df160, Cond.methodLink RJ2 71 yJ2_getChar_3b067, Cond.static yJ2_getChar_3b067, Cond.code yJ2_getChar_3b067 cJ2_getChar_3b067 2 (some .char), Cond.fieldLink RJ2 44 "java/lang/StringUTF16" "$assertionsDisabled" "Z", Cond.fieldLink RJ2 59 "java/lang/StringUTF16" "HI_BYTE_SHIFT" "I", Cond.fieldLink RJ2 63 "java/lang/StringUTF16" "LO_BYTE_SHIFT" "I", Cond.methodLink RX4 74 yX4_refuseUnless, Cond.instanceMethod yX4_refuseUnless, Cond.selects RX4 yX4_refuseUnless yX4_refuseUnless, Cond.code yX4_refuseUnless cX4_refuseUnless 2 none, Cond.methodLink RX4 64 yX4_refuseTooMany, Cond.instanceMethod yX4_refuseTooMany, Cond.selects RX4 yX4_refuseTooMany yX4_refuseTooMany]
def wsX7_text_r6 : List Cond := [Cond.code yX4_refuseTooMany cX4_refuseTooMany 4 none, Cond.methodLink RX4 132 yX4_tableOf, Cond.static yX4_tableOf, Cond.code yX4_tableOf cX4_tableOf 2 (some (.object "FrameWalks$Table")), Cond.methodLink RX4 136 yX3_isFull, Cond.instanceMethod yX3_isFull, Cond.selects RX3 yX3_isFull yX3_isFull, Cond.initialized RX3, Cond.code yX3_isFull cX3_isFull 1 (some .boolean), Cond.fieldLink RX3 9 "FrameWalks$Table" "size" "I", Cond.fieldLink RX3 15 "FrameWalks$Table" "width" "I", Cond.fieldLink RX3 18 "FrameWalks$Table" "cells" "[I", Cond.methodLink RX4 71 yX4_takeOperand, Cond.instanceMethod yX4_takeOperand, Cond.selects RX4 yX4_takeOperand yX4_takeOperand, Cond.code yX4_takeOperand cX4_takeOperand 5 none, Cond.fieldLink RX4 37 "FrameWalks$Tape" "operands" "[I", Cond.methodLink RX4 148 yX4_registerNamed, Cond.instanceMethod yX4_registerNamed, Cond.selects RX4 yX4_registerNamed yX4_registerNamed, Cond.code yX4_registerNamed cX4_registerNamed 2 (some .int), Cond.methodLink RX4 151 yX4_isWithin, Cond.instanceMethod yX4_isWithin, Cond.selects RX4 yX4_isWithin yX4_isWithin]
def wsX7_text_r7 : List Cond := [Cond.code yX4_isWithin cX4_isWithin 4 (some .boolean), Cond.methodLink RX4 78 yX4_addLine, Cond.instanceMethod yX4_addLine, Cond.selects RX4 yX4_addLine yX4_addLine, Cond.code yX4_addLine cX4_addLine 8 none, Cond.methodLink RX4 155 yX3_addOne, Cond.instanceMethod yX3_addOne, Cond.selects RX3 yX3_addOne yX3_addOne, Cond.code yX3_addOne cX3_addOne 1 none, Cond.methodLink RX3 22 yX3_isFull, Cond.methodLink RX4 158 yX3_set, Cond.instanceMethod yX3_set, Cond.selects RX3 yX3_set yX3_set, Cond.code yX3_set cX3_set 4 none, Cond.methodLink RX4 52 yX6_sharesAddresses, Cond.instanceMethod yX6_sharesAddresses, Cond.selects RX6 yX6_sharesAddresses yX6_sharesAddresses, Cond.code yX6_sharesAddresses cX6_sharesAddresses 3 (some .boolean), Cond.methodLink RX6 54 yX3_at, Cond.instanceMethod yX3_at, Cond.selects RX3 yX3_at yX3_at, Cond.code yX3_at cX3_at 3 (some .int), Cond.methodLink RX6 58 yX6_meets, Cond.instanceMethod yX6_meets]
def wsX7_text_r8 : List Cond := [Cond.selects RX6 yX6_meets yX6_meets, Cond.code yX6_meets cX6_meets 4 (some .boolean), Cond.methodLink RX7 80 yX6_takeTables, Cond.instanceMethod yX6_takeTables, Cond.selects RX6 yX6_takeTables yX6_takeTables, Cond.code yX6_takeTables cX6_takeTables 2 none, Cond.methodLink RX6 40 yX3_takeOver, Cond.instanceMethod yX3_takeOver, Cond.selects RX3 yX3_takeOver yX3_takeOver, Cond.code yX3_takeOver cX3_takeOver 2 none, Cond.methodLink RX3 26 arraycopyName, Cond.native arraycopyName, Cond.static arraycopyName, Cond.initialized "java/lang/System", Cond.methodLink RX7 84 yX5_forget, Cond.instanceMethod yX5_forget, Cond.selects RX5 yX5_forget yX5_forget, Cond.initialized RX5, Cond.code yX5_forget cX5_forget 1 none, Cond.fieldLink RX5 24 "FrameWalks$Track" "taken" "Z", Cond.fieldLink RX5 31 "FrameWalks$Track" "size" "I"]
def wsX7_text : List Cond := .code yX7_text cX7_text 3 (some .int) :: ((wsX7_text_r1 ++ (wsX7_text_r2 ++ (wsX7_text_r3 ++ (wsX7_text_r4 ++ (wsX7_text_r5 ++ (wsX7_text_r6 ++ (wsX7_text_r7 ++ wsX7_text_r8))))))) ++ wsX70 ++ wsX40 ++ wsX60 ++ wsX30 ++ wsX50)
def wsX7_fault : List Cond := .code yX7_fault cX7_fault 1 (some .int) :: ([.fieldLink RX7 30 "FrameWalks" "tape" "LFrameWalks$Tape;"] ++ wsX70 ++ wsX40)
def wsX7_rule : List Cond := .code yX7_rule cX7_rule 2 (some .int) :: ([.fieldLink RX7 10 "FrameWalks" "now" "LFrameWalks$World;", .fieldLink RX7 44 "FrameWalks" "track" "LFrameWalks$Track;", .methodLink RX7 119 yX6_addressesHad, .instanceMethod yX6_addressesHad, .selects RX6 yX6_addressesHad yX6_addressesHad, .initialized RX6, .code yX6_addressesHad cX6_addressesHad 3 (some .int), .fieldLink RX6 14 "FrameWalks$World" "routines" "LFrameWalks$Table;", .methodLink RX6 54 yX3_at, .instanceMethod yX3_at, .selects RX3 yX3_at yX3_at, .initialized RX3, .code yX3_at cX3_at 3 (some .int), .fieldLink RX3 9 "FrameWalks$Table" "size" "I", .fieldLink RX3 15 "FrameWalks$Table" "width" "I", .fieldLink RX3 18 "FrameWalks$Table" "cells" "[I"] ++ wsX70 ++ wsX60 ++ wsX30 ++ wsX50)
def wsX7_routine_r1 : List Cond := [Cond.fieldLink RX7 10 "FrameWalks" "now" "LFrameWalks$World;", Cond.methodLink RX7 123 yX3_has, Cond.instanceMethod yX3_has, Cond.selects RX3 yX3_has yX3_has, Cond.initialized RX3, Cond.code yX3_has cX3_has 2 (some .boolean), Cond.fieldLink RX3 9 "FrameWalks$Table" "size" "I", Cond.methodLink RX7 127 yX3_at, Cond.instanceMethod yX3_at, Cond.selects RX3 yX3_at yX3_at, Cond.code yX3_at cX3_at 3 (some .int), Cond.fieldLink RX3 15 "FrameWalks$Table" "width" "I", Cond.fieldLink RX3 18 "FrameWalks$Table" "cells" "[I", Cond.methodLink RX7 131 yX3_howMany, Cond.instanceMethod yX3_howMany, Cond.selects RX3 yX3_howMany yX3_howMany, Cond.code yX3_howMany cX3_howMany 5 (some .int), Cond.methodLink RX3 32 yX3_at, Cond.methodLink RX7 134 yX3_rankOf, Cond.instanceMethod yX3_rankOf, Cond.selects RX3 yX3_rankOf yX3_rankOf, Cond.code yX3_rankOf cX3_rankOf 6 (some .int), Cond.methodLink RX3 36 yJ6_compare_7cf53, Cond.static yJ6_compare_7cf53]
def wsX7_routine_r2 : List Cond := [Cond.initialized RJ6, Cond.code yJ6_compare_7cf53 cJ6_compare_7cf53 2 (some .int)]
def wsX7_routine : List Cond := .code yX7_routine cX7_routine 3 (some .int) :: ((wsX7_routine_r1 ++ wsX7_routine_r2) ++ wsX70 ++ wsX60 ++ wsX30)
def wsX7_op : List Cond := .code yX7_op cX7_op 3 (some .int) :: ([.fieldLink RX7 10 "FrameWalks" "now" "LFrameWalks$World;", .methodLink RX7 123 yX3_has, .instanceMethod yX3_has, .selects RX3 yX3_has yX3_has, .initialized RX3, .code yX3_has cX3_has 2 (some .boolean), .fieldLink RX3 9 "FrameWalks$Table" "size" "I", .methodLink RX7 127 yX3_at, .instanceMethod yX3_at, .selects RX3 yX3_at yX3_at, .code yX3_at cX3_at 3 (some .int), .fieldLink RX3 15 "FrameWalks$Table" "width" "I", .fieldLink RX3 18 "FrameWalks$Table" "cells" "[I"] ++ wsX70 ++ wsX60 ++ wsX30)
def wsX7_landing : List Cond := .code yX7_landing cX7_landing 3 (some .int) :: ([.fieldLink RX7 10 "FrameWalks" "now" "LFrameWalks$World;", .methodLink RX7 123 yX3_has, .instanceMethod yX3_has, .selects RX3 yX3_has yX3_has, .initialized RX3, .code yX3_has cX3_has 2 (some .boolean), .fieldLink RX3 9 "FrameWalks$Table" "size" "I", .methodLink RX7 127 yX3_at, .instanceMethod yX3_at, .selects RX3 yX3_at yX3_at, .code yX3_at cX3_at 3 (some .int), .fieldLink RX3 15 "FrameWalks$Table" "width" "I", .fieldLink RX3 18 "FrameWalks$Table" "cells" "[I"] ++ wsX70 ++ wsX60 ++ wsX30)
def wsX7_call_r1 : List Cond := [Cond.fieldLink RX7 10 "FrameWalks" "now" "LFrameWalks$World;", Cond.methodLink RX7 123 yX3_has, Cond.instanceMethod yX3_has, Cond.selects RX3 yX3_has yX3_has, Cond.initialized RX3, Cond.code yX3_has cX3_has 2 (some .boolean), Cond.fieldLink RX3 9 "FrameWalks$Table" "size" "I", Cond.methodLink RX7 137 yX3_ranked, Cond.instanceMethod yX3_ranked, Cond.selects RX3 yX3_ranked yX3_ranked, Cond.code yX3_ranked cX3_ranked 4 (some .int), Cond.methodLink RX3 41 yX3_rankOf, Cond.instanceMethod yX3_rankOf, Cond.selects RX3 yX3_rankOf yX3_rankOf, Cond.code yX3_rankOf cX3_rankOf 6 (some .int), Cond.methodLink RX3 32 yX3_at, Cond.instanceMethod yX3_at, Cond.selects RX3 yX3_at yX3_at, Cond.code yX3_at cX3_at 3 (some .int), Cond.fieldLink RX3 15 "FrameWalks$Table" "width" "I", Cond.fieldLink RX3 18 "FrameWalks$Table" "cells" "[I", Cond.methodLink RX3 36 yJ6_compare_7cf53, Cond.static yJ6_compare_7cf53, Cond.initialized RJ6]
def wsX7_call_r2 : List Cond := [Cond.code yJ6_compare_7cf53 cJ6_compare_7cf53 2 (some .int), Cond.methodLink RX7 127 yX3_at]
def wsX7_call : List Cond := .code yX7_call cX7_call 4 (some .int) :: ((wsX7_call_r1 ++ wsX7_call_r2) ++ wsX70 ++ wsX60 ++ wsX30)
def wsX7_whose : List Cond := .code yX7_whose cX7_whose 2 (some .int) :: ([.fieldLink RX7 10 "FrameWalks" "now" "LFrameWalks$World;", .methodLink RX7 140 yX6_ownerOf, .instanceMethod yX6_ownerOf, .selects RX6 yX6_ownerOf yX6_ownerOf, .initialized RX6, .code yX6_ownerOf cX6_ownerOf 3 (some .int), .fieldLink RX6 14 "FrameWalks$World" "routines" "LFrameWalks$Table;", .methodLink RX6 58 yX6_meets, .instanceMethod yX6_meets, .selects RX6 yX6_meets yX6_meets, .code yX6_meets cX6_meets 4 (some .boolean), .methodLink RX6 54 yX3_at, .instanceMethod yX3_at, .selects RX3 yX3_at yX3_at, .initialized RX3, .code yX3_at cX3_at 3 (some .int), .fieldLink RX3 9 "FrameWalks$Table" "size" "I", .fieldLink RX3 15 "FrameWalks$Table" "width" "I", .fieldLink RX3 18 "FrameWalks$Table" "cells" "[I"] ++ wsX70 ++ wsX60 ++ wsX30)
def wsX7_row_r1 : List Cond := [Cond.fieldLink RX7 10 "FrameWalks" "now" "LFrameWalks$World;", Cond.fieldLink RX7 37 "FrameWalks" "ruled" "LFrameWalks$Row;", Cond.methodLink RX7 140 yX6_ownerOf, Cond.instanceMethod yX6_ownerOf, Cond.selects RX6 yX6_ownerOf yX6_ownerOf, Cond.initialized RX6, Cond.code yX6_ownerOf cX6_ownerOf 3 (some .int), Cond.fieldLink RX6 14 "FrameWalks$World" "routines" "LFrameWalks$Table;", Cond.methodLink RX6 58 yX6_meets, Cond.instanceMethod yX6_meets, Cond.selects RX6 yX6_meets yX6_meets, Cond.code yX6_meets cX6_meets 4 (some .boolean), Cond.methodLink RX6 54 yX3_at, Cond.instanceMethod yX3_at, Cond.selects RX3 yX3_at yX3_at, Cond.initialized RX3, Cond.code yX3_at cX3_at 3 (some .int), Cond.fieldLink RX3 9 "FrameWalks$Table" "size" "I", Cond.fieldLink RX3 15 "FrameWalks$Table" "width" "I", Cond.fieldLink RX3 18 "FrameWalks$Table" "cells" "[I", Cond.methodLink RX7 144 yX1_goTo, Cond.instanceMethod yX1_goTo, Cond.selects RX1 yX1_goTo yX1_goTo, Cond.initialized RX1]
def wsX7_row_r2 : List Cond := [Cond.code yX1_goTo cX1_goTo 7 none, Cond.fieldLink RX1 18 "FrameWalks$Row" "asideSize" "I", Cond.methodLink RX1 26 yX1_becomeFirst, Cond.instanceMethod yX1_becomeFirst, Cond.selects RX1 yX1_becomeFirst yX1_becomeFirst, Cond.code yX1_becomeFirst cX1_becomeFirst 1 none, Cond.fieldLink RX1 11 "FrameWalks$Row" "cells" "[I", Cond.methodLink RX1 60 yJ7_fill_53178, Cond.static yJ7_fill_53178, Cond.initialized RJ7, Cond.code yJ7_fill_53178 cJ7_fill_53178 4 none, Cond.methodLink RX1 51 yX1_becomes, Cond.instanceMethod yX1_becomes, Cond.selects RX1 yX1_becomes yX1_becomes, Cond.code yX1_becomes cX1_becomes 4 none, Cond.static yX7_isRegister, Cond.initialized RX7, Cond.code yX7_isRegister cX7_isRegister 1 (some .boolean), Cond.methodLink RX1 35 yX3_at, Cond.methodLink RX1 47 yX1_obey, Cond.instanceMethod yX1_obey, Cond.selects RX1 yX1_obey yX1_obey, Cond.code yX1_obey cX1_obey 4 none, Cond.methodLink RX1 54 yX1_layAside]
def wsX7_row_r3 : List Cond := [Cond.instanceMethod yX1_layAside, Cond.selects RX1 yX1_layAside yX1_layAside, Cond.code yX1_layAside cX1_layAside 1 none, Cond.fieldLink RX1 15 "FrameWalks$Row" "aside" "[I", Cond.methodLink RX1 66 arraycopyName, Cond.native arraycopyName, Cond.static arraycopyName, Cond.initialized "java/lang/System", Cond.methodLink RX1 57 yX1_takeBack, Cond.instanceMethod yX1_takeBack, Cond.selects RX1 yX1_takeBack yX1_takeBack, Cond.code yX1_takeBack cX1_takeBack 1 none, Cond.methodLink RX7 148 yX1_base, Cond.instanceMethod yX1_base, Cond.selects RX1 yX1_base yX1_base, Cond.code yX1_base cX1_base 1 (some .int), Cond.methodLink RX7 151 yX1_off, Cond.instanceMethod yX1_off, Cond.selects RX1 yX1_off yX1_off, Cond.code yX1_off cX1_off 1 (some .int)]
def wsX7_row : List Cond := .code yX7_row cX7_row 4 (some .int) :: ((wsX7_row_r1 ++ (wsX7_row_r2 ++ wsX7_row_r3)) ++ wsX70 ++ wsX10 ++ wsX60 ++ wsX30)
def wsX7_ruleOf_r1 : List Cond := [Cond.fieldLink RX7 10 "FrameWalks" "now" "LFrameWalks$World;", Cond.fieldLink RX7 37 "FrameWalks" "ruled" "LFrameWalks$Row;", Cond.methodLink RX7 157 yX7_isRegister, Cond.static yX7_isRegister, Cond.initialized RX7, Cond.code yX7_isRegister cX7_isRegister 1 (some .boolean), Cond.methodLink RX7 140 yX6_ownerOf, Cond.instanceMethod yX6_ownerOf, Cond.selects RX6 yX6_ownerOf yX6_ownerOf, Cond.initialized RX6, Cond.code yX6_ownerOf cX6_ownerOf 3 (some .int), Cond.fieldLink RX6 14 "FrameWalks$World" "routines" "LFrameWalks$Table;", Cond.methodLink RX6 58 yX6_meets, Cond.instanceMethod yX6_meets, Cond.selects RX6 yX6_meets yX6_meets, Cond.code yX6_meets cX6_meets 4 (some .boolean), Cond.methodLink RX6 54 yX3_at, Cond.instanceMethod yX3_at, Cond.selects RX3 yX3_at yX3_at, Cond.initialized RX3, Cond.code yX3_at cX3_at 3 (some .int), Cond.fieldLink RX3 9 "FrameWalks$Table" "size" "I", Cond.fieldLink RX3 15 "FrameWalks$Table" "width" "I", Cond.fieldLink RX3 18 "FrameWalks$Table" "cells" "[I"]
def wsX7_ruleOf_r2 : List Cond := [Cond.methodLink RX7 144 yX1_goTo, Cond.instanceMethod yX1_goTo, Cond.selects RX1 yX1_goTo yX1_goTo, Cond.initialized RX1, Cond.code yX1_goTo cX1_goTo 7 none, Cond.fieldLink RX1 18 "FrameWalks$Row" "asideSize" "I", Cond.methodLink RX1 26 yX1_becomeFirst, Cond.instanceMethod yX1_becomeFirst, Cond.selects RX1 yX1_becomeFirst yX1_becomeFirst, Cond.code yX1_becomeFirst cX1_becomeFirst 1 none, Cond.fieldLink RX1 11 "FrameWalks$Row" "cells" "[I", Cond.methodLink RX1 60 yJ7_fill_53178, Cond.static yJ7_fill_53178, Cond.initialized RJ7, Cond.code yJ7_fill_53178 cJ7_fill_53178 4 none, Cond.methodLink RX1 51 yX1_becomes, Cond.instanceMethod yX1_becomes, Cond.selects RX1 yX1_becomes yX1_becomes, Cond.code yX1_becomes cX1_becomes 4 none, Cond.methodLink RX1 35 yX3_at, Cond.methodLink RX1 47 yX1_obey, Cond.instanceMethod yX1_obey, Cond.selects RX1 yX1_obey yX1_obey, Cond.code yX1_obey cX1_obey 4 none]
def wsX7_ruleOf_r3 : List Cond := [Cond.methodLink RX1 54 yX1_layAside, Cond.instanceMethod yX1_layAside, Cond.selects RX1 yX1_layAside yX1_layAside, Cond.code yX1_layAside cX1_layAside 1 none, Cond.fieldLink RX1 15 "FrameWalks$Row" "aside" "[I", Cond.methodLink RX1 66 arraycopyName, Cond.native arraycopyName, Cond.static arraycopyName, Cond.initialized "java/lang/System", Cond.methodLink RX1 57 yX1_takeBack, Cond.instanceMethod yX1_takeBack, Cond.selects RX1 yX1_takeBack yX1_takeBack, Cond.code yX1_takeBack cX1_takeBack 1 none, Cond.methodLink RX7 160 yX1_which, Cond.instanceMethod yX1_which, Cond.selects RX1 yX1_which yX1_which, Cond.code yX1_which cX1_which 2 (some .int), Cond.methodLink RX7 163 yX1_number, Cond.instanceMethod yX1_number, Cond.selects RX1 yX1_number yX1_number, Cond.code yX1_number cX1_number 2 (some .int)]
def wsX7_ruleOf : List Cond := .code yX7_ruleOf cX7_ruleOf 6 (some .int) :: ((wsX7_ruleOf_r1 ++ (wsX7_ruleOf_r2 ++ wsX7_ruleOf_r3)) ++ wsX70 ++ wsX60 ++ wsX30 ++ wsX10)
def wsX7_isNumber : List Cond := .code yX7_isNumber cX7_isNumber 1 (some .boolean) :: ([])
def wsX7_put : List Cond := .code yX7_put cX7_put 4 (some .int) :: ([.fieldLink RX7 10 "FrameWalks" "now" "LFrameWalks$World;", .methodLink RX7 157 yX7_isRegister, .static yX7_isRegister, .initialized RX7, .code yX7_isRegister cX7_isRegister 1 (some .boolean), .methodLink RX7 166 yX7_isNumber, .static yX7_isNumber, .code yX7_isNumber cX7_isNumber 1 (some .boolean)] ++ wsX70 ++ wsX60)
def wsX7_poke : List Cond := .code yX7_poke cX7_poke 4 (some .int) :: ([.fieldLink RX7 10 "FrameWalks" "now" "LFrameWalks$World;", .methodLink RX7 172 yX7_isWord, .static yX7_isWord, .initialized RX7, .code yX7_isWord cX7_isWord 1 (some .boolean), .methodLink RX7 166 yX7_isNumber, .static yX7_isNumber, .code yX7_isNumber cX7_isNumber 1 (some .boolean)] ++ wsX70 ++ wsX60)
def wsX7_get : List Cond := .code yX7_get cX7_get 2 (some .int) :: ([.fieldLink RX7 10 "FrameWalks" "now" "LFrameWalks$World;", .methodLink RX7 157 yX7_isRegister, .static yX7_isRegister, .initialized RX7, .code yX7_isRegister cX7_isRegister 1 (some .boolean)] ++ wsX70 ++ wsX60)
def wsX7_peek : List Cond := .code yX7_peek cX7_peek 2 (some .int) :: ([.fieldLink RX7 10 "FrameWalks" "now" "LFrameWalks$World;", .methodLink RX7 172 yX7_isWord, .static yX7_isWord, .initialized RX7, .code yX7_isWord cX7_isWord 1 (some .boolean)] ++ wsX70 ++ wsX60)
def wsX7_endAt_r1 : List Cond := [Cond.fieldLink RX7 44 "FrameWalks" "track" "LFrameWalks$Track;", Cond.fieldLink RX7 37 "FrameWalks" "ruled" "LFrameWalks$Row;", Cond.fieldLink RX7 10 "FrameWalks" "now" "LFrameWalks$World;", Cond.methodLink RX7 207 yX5_register, Cond.instanceMethod yX5_register, Cond.selects RX5 yX5_register yX5_register, Cond.initialized RX5, Cond.code yX5_register cX5_register 3 (some .int), Cond.fieldLink RX5 9 "FrameWalks$Track" "registers" "[I", Cond.methodLink RX5 45 yX5_has, Cond.instanceMethod yX5_has, Cond.selects RX5 yX5_has yX5_has, Cond.code yX5_has cX5_has 2 (some .boolean), Cond.fieldLink RX5 31 "FrameWalks$Track" "size" "I", Cond.static yX7_isRegister, Cond.initialized RX7, Cond.code yX7_isRegister cX7_isRegister 1 (some .boolean), Cond.methodLink RX7 144 yX1_goTo, Cond.instanceMethod yX1_goTo, Cond.selects RX1 yX1_goTo yX1_goTo, Cond.initialized RX1, Cond.code yX1_goTo cX1_goTo 7 none, Cond.fieldLink RX1 18 "FrameWalks$Row" "asideSize" "I", Cond.methodLink RX1 26 yX1_becomeFirst]
def wsX7_endAt_r2 : List Cond := [Cond.instanceMethod yX1_becomeFirst, Cond.selects RX1 yX1_becomeFirst yX1_becomeFirst, Cond.code yX1_becomeFirst cX1_becomeFirst 1 none, Cond.fieldLink RX1 11 "FrameWalks$Row" "cells" "[I", Cond.methodLink RX1 60 yJ7_fill_53178, Cond.static yJ7_fill_53178, Cond.initialized RJ7, Cond.code yJ7_fill_53178 cJ7_fill_53178 4 none, Cond.methodLink RX1 51 yX1_becomes, Cond.instanceMethod yX1_becomes, Cond.selects RX1 yX1_becomes yX1_becomes, Cond.code yX1_becomes cX1_becomes 4 none, Cond.methodLink RX1 35 yX3_at, Cond.instanceMethod yX3_at, Cond.selects RX3 yX3_at yX3_at, Cond.initialized RX3, Cond.code yX3_at cX3_at 3 (some .int), Cond.fieldLink RX3 9 "FrameWalks$Table" "size" "I", Cond.fieldLink RX3 15 "FrameWalks$Table" "width" "I", Cond.fieldLink RX3 18 "FrameWalks$Table" "cells" "[I", Cond.methodLink RX1 47 yX1_obey, Cond.instanceMethod yX1_obey, Cond.selects RX1 yX1_obey yX1_obey, Cond.code yX1_obey cX1_obey 4 none]
def wsX7_endAt_r3 : List Cond := [Cond.methodLink RX1 54 yX1_layAside, Cond.instanceMethod yX1_layAside, Cond.selects RX1 yX1_layAside yX1_layAside, Cond.code yX1_layAside cX1_layAside 1 none, Cond.fieldLink RX1 15 "FrameWalks$Row" "aside" "[I", Cond.methodLink RX1 66 arraycopyName, Cond.native arraycopyName, Cond.static arraycopyName, Cond.initialized "java/lang/System", Cond.methodLink RX1 57 yX1_takeBack, Cond.instanceMethod yX1_takeBack, Cond.selects RX1 yX1_takeBack yX1_takeBack, Cond.code yX1_takeBack cX1_takeBack 1 none, Cond.methodLink RX7 282 yX5_topOf, Cond.instanceMethod yX5_topOf, Cond.selects RX5 yX5_topOf yX5_topOf, Cond.code yX5_topOf cX5_topOf 3 (some .int), Cond.methodLink RX5 71 yX1_base, Cond.instanceMethod yX1_base, Cond.selects RX1 yX1_base yX1_base, Cond.code yX1_base cX1_base 1 (some .int), Cond.methodLink RX5 52 yX5_register, Cond.methodLink RX5 77 yX1_off, Cond.instanceMethod yX1_off]
def wsX7_endAt_r4 : List Cond := [Cond.selects RX1 yX1_off yX1_off, Cond.code yX1_off cX1_off 1 (some .int), Cond.methodLink RX7 160 yX1_which, Cond.instanceMethod yX1_which, Cond.selects RX1 yX1_which yX1_which, Cond.code yX1_which cX1_which 2 (some .int), Cond.methodLink RX7 163 yX1_number, Cond.instanceMethod yX1_number, Cond.selects RX1 yX1_number yX1_number, Cond.code yX1_number cX1_number 2 (some .int), Cond.methodLink RX7 172 yX7_isWord, Cond.static yX7_isWord, Cond.code yX7_isWord cX7_isWord 1 (some .boolean)]
def wsX7_endAt : List Cond := .code yX7_endAt cX7_endAt 4 (some .int) :: ((wsX7_endAt_r1 ++ (wsX7_endAt_r2 ++ (wsX7_endAt_r3 ++ wsX7_endAt_r4))) ++ wsX70 ++ wsX50 ++ wsX10 ++ wsX60 ++ wsX30)
def wsX7_isGuessable : List Cond := .code yX7_isGuessable cX7_isGuessable 1 (some .boolean) :: ([])
def wsX7_findGuesses_r1 : List Cond := [Cond.fieldLink RX7 51 "FrameWalks" "hunt" "LFrameWalks$Hunt;", Cond.fieldLink RX7 10 "FrameWalks" "now" "LFrameWalks$World;", Cond.fieldLink RX7 44 "FrameWalks" "track" "LFrameWalks$Track;", Cond.methodLink RX7 207 yX5_register, Cond.instanceMethod yX5_register, Cond.selects RX5 yX5_register yX5_register, Cond.initialized RX5, Cond.code yX5_register cX5_register 3 (some .int), Cond.fieldLink RX5 9 "FrameWalks$Track" "registers" "[I", Cond.methodLink RX5 45 yX5_has, Cond.instanceMethod yX5_has, Cond.selects RX5 yX5_has yX5_has, Cond.code yX5_has cX5_has 2 (some .boolean), Cond.fieldLink RX5 31 "FrameWalks$Track" "size" "I", Cond.static yX7_isRegister, Cond.initialized RX7, Cond.code yX7_isRegister cX7_isRegister 1 (some .boolean), Cond.methodLink RX7 219 yX0_lookThrough, Cond.instanceMethod yX0_lookThrough, Cond.selects RX0 yX0_lookThrough yX0_lookThrough, Cond.initialized RX0, Cond.code yX0_lookThrough cX0_lookThrough 7 none, Cond.fieldLink RX0 18 "FrameWalks$Hunt" "size" "I", Cond.static yX7_isWord]
def wsX7_findGuesses_r2 : List Cond := [Cond.code yX7_isWord cX7_isWord 1 (some .boolean), Cond.methodLink RX0 31 yX0_scoreOf, Cond.static yX0_scoreOf, Cond.code yX0_scoreOf cX0_scoreOf 4 (some .int), Cond.methodLink RX0 39 yX6_ownerOf, Cond.instanceMethod yX6_ownerOf, Cond.selects RX6 yX6_ownerOf yX6_ownerOf, Cond.initialized RX6, Cond.code yX6_ownerOf cX6_ownerOf 3 (some .int), Cond.fieldLink RX6 14 "FrameWalks$World" "routines" "LFrameWalks$Table;", Cond.methodLink RX6 58 yX6_meets, Cond.instanceMethod yX6_meets, Cond.selects RX6 yX6_meets yX6_meets, Cond.code yX6_meets cX6_meets 4 (some .boolean), Cond.methodLink RX6 54 yX3_at, Cond.instanceMethod yX3_at, Cond.selects RX3 yX3_at yX3_at, Cond.initialized RX3, Cond.code yX3_at cX3_at 3 (some .int), Cond.fieldLink RX3 9 "FrameWalks$Table" "size" "I", Cond.fieldLink RX3 15 "FrameWalks$Table" "width" "I", Cond.fieldLink RX3 18 "FrameWalks$Table" "cells" "[I", Cond.methodLink RX0 43 yX6_isCallAt, Cond.instanceMethod yX6_isCallAt]
def wsX7_findGuesses_r3 : List Cond := [Cond.selects RX6 yX6_isCallAt yX6_isCallAt, Cond.code yX6_isCallAt cX6_isCallAt 2 (some .boolean), Cond.fieldLink RX6 26 "FrameWalks$World" "calls" "LFrameWalks$Table;", Cond.methodLink RX6 62 yX3_howMany, Cond.instanceMethod yX3_howMany, Cond.selects RX3 yX3_howMany yX3_howMany, Cond.code yX3_howMany cX3_howMany 5 (some .int), Cond.methodLink RX3 32 yX3_at, Cond.methodLink RX0 46 yX6_isCallInto, Cond.instanceMethod yX6_isCallInto, Cond.selects RX6 yX6_isCallInto yX6_isCallInto, Cond.code yX6_isCallInto cX6_isCallInto 5 (some .boolean), Cond.methodLink RX0 35 yX0_enter, Cond.instanceMethod yX0_enter, Cond.selects RX0 yX0_enter yX0_enter, Cond.code yX0_enter cX0_enter 4 none, Cond.methodLink RX0 50 Lib.Math.min.name, Cond.static Lib.Math.min.name, Cond.initialized "java/lang/Math", Cond.code Lib.Math.min.name Lib.Math.min.code 2 (some .int), Cond.fieldLink RX0 15 "FrameWalks$Hunt" "scores" "[I", Cond.fieldLink RX0 9 "FrameWalks$Hunt" "places" "[I"]
def wsX7_findGuesses : List Cond := .code yX7_findGuesses cX7_findGuesses 2 (some .int) :: ((wsX7_findGuesses_r1 ++ (wsX7_findGuesses_r2 ++ wsX7_findGuesses_r3)) ++ wsX70 ++ wsX50 ++ wsX00 ++ wsX60 ++ wsX30)
def wsX7_walk_r1 : List Cond := [Cond.fieldLink RX7 44 "FrameWalks" "track" "LFrameWalks$Track;", Cond.fieldLink RX7 10 "FrameWalks" "now" "LFrameWalks$World;", Cond.fieldLink RX7 51 "FrameWalks" "hunt" "LFrameWalks$Hunt;", Cond.fieldLink RX7 37 "FrameWalks" "ruled" "LFrameWalks$Row;", Cond.methodLink RX7 178 yX5_begin, Cond.instanceMethod yX5_begin, Cond.selects RX5 yX5_begin yX5_begin, Cond.initialized RX5, Cond.code yX5_begin cX5_begin 3 none, Cond.fieldLink RX5 24 "FrameWalks$Track" "taken" "Z", Cond.fieldLink RX5 28 "FrameWalks$Track" "leftSignal" "Z", Cond.fieldLink RX5 31 "FrameWalks$Track" "size" "I", Cond.fieldLink RX5 35 "FrameWalks$Track" "ended" "I", Cond.fieldLink RX5 38 "FrameWalks$Track" "guessed" "I", Cond.fieldLink RX5 9 "FrameWalks$Track" "registers" "[I", Cond.methodLink RX5 41 yX5_add, Cond.instanceMethod yX5_add, Cond.selects RX5 yX5_add yX5_add, Cond.code yX5_add cX5_add 2 none, Cond.fieldLink RX5 21 "FrameWalks$Track" "ways" "[I", Cond.methodLink RX7 182 yX5_lookUp, Cond.instanceMethod yX5_lookUp, Cond.selects RX5 yX5_lookUp yX5_lookUp, Cond.code yX5_lookUp cX5_lookUp 4 none]
def wsX7_walk_r2 : List Cond := [Cond.fieldLink RX5 18 "FrameWalks$Track" "looked" "[I", Cond.fieldLink RX5 15 "FrameWalks$Track" "owners" "[I", Cond.methodLink RX5 45 yX5_has, Cond.instanceMethod yX5_has, Cond.selects RX5 yX5_has yX5_has, Cond.code yX5_has cX5_has 2 (some .boolean), Cond.methodLink RX5 52 yX5_register, Cond.instanceMethod yX5_register, Cond.selects RX5 yX5_register yX5_register, Cond.code yX5_register cX5_register 3 (some .int), Cond.static yX7_isRegister, Cond.initialized RX7, Cond.code yX7_isRegister cX7_isRegister 1 (some .boolean), Cond.methodLink RX5 56 yX6_ownerOf, Cond.instanceMethod yX6_ownerOf, Cond.selects RX6 yX6_ownerOf yX6_ownerOf, Cond.initialized RX6, Cond.code yX6_ownerOf cX6_ownerOf 3 (some .int), Cond.fieldLink RX6 14 "FrameWalks$World" "routines" "LFrameWalks$Table;", Cond.methodLink RX6 58 yX6_meets, Cond.instanceMethod yX6_meets, Cond.selects RX6 yX6_meets yX6_meets, Cond.code yX6_meets cX6_meets 4 (some .boolean), Cond.methodLink RX6 54 yX3_at]
def wsX7_walk_r3 : List Cond := [Cond.instanceMethod yX3_at, Cond.selects RX3 yX3_at yX3_at, Cond.initialized RX3, Cond.code yX3_at cX3_at 3 (some .int), Cond.fieldLink RX3 9 "FrameWalks$Table" "size" "I", Cond.fieldLink RX3 15 "FrameWalks$Table" "width" "I", Cond.fieldLink RX3 18 "FrameWalks$Table" "cells" "[I", Cond.methodLink RX5 66 yX3_at, Cond.methodLink RX7 186 yX7_endAt, Cond.instanceMethod yX7_endAt, Cond.selects RX7 yX7_endAt yX7_endAt, Cond.code yX7_endAt cX7_endAt 4 (some .int), Cond.methodLink RX7 207 yX5_register, Cond.methodLink RX7 144 yX1_goTo, Cond.instanceMethod yX1_goTo, Cond.selects RX1 yX1_goTo yX1_goTo, Cond.initialized RX1, Cond.code yX1_goTo cX1_goTo 7 none, Cond.fieldLink RX1 18 "FrameWalks$Row" "asideSize" "I", Cond.methodLink RX1 26 yX1_becomeFirst, Cond.instanceMethod yX1_becomeFirst, Cond.selects RX1 yX1_becomeFirst yX1_becomeFirst, Cond.code yX1_becomeFirst cX1_becomeFirst 1 none, Cond.fieldLink RX1 11 "FrameWalks$Row" "cells" "[I"]
def wsX7_walk_r4 : List Cond := [Cond.methodLink RX1 60 yJ7_fill_53178, Cond.static yJ7_fill_53178, Cond.initialized RJ7, Cond.code yJ7_fill_53178 cJ7_fill_53178 4 none, Cond.methodLink RX1 51 yX1_becomes, Cond.instanceMethod yX1_becomes, Cond.selects RX1 yX1_becomes yX1_becomes, Cond.code yX1_becomes cX1_becomes 4 none, Cond.methodLink RX1 35 yX3_at, Cond.methodLink RX1 47 yX1_obey, Cond.instanceMethod yX1_obey, Cond.selects RX1 yX1_obey yX1_obey, Cond.code yX1_obey cX1_obey 4 none, Cond.methodLink RX1 54 yX1_layAside, Cond.instanceMethod yX1_layAside, Cond.selects RX1 yX1_layAside yX1_layAside, Cond.code yX1_layAside cX1_layAside 1 none, Cond.fieldLink RX1 15 "FrameWalks$Row" "aside" "[I", Cond.methodLink RX1 66 arraycopyName, Cond.native arraycopyName, Cond.static arraycopyName, Cond.initialized "java/lang/System", Cond.methodLink RX1 57 yX1_takeBack, Cond.instanceMethod yX1_takeBack]
def wsX7_walk_r5 : List Cond := [Cond.selects RX1 yX1_takeBack yX1_takeBack, Cond.code yX1_takeBack cX1_takeBack 1 none, Cond.methodLink RX7 282 yX5_topOf, Cond.instanceMethod yX5_topOf, Cond.selects RX5 yX5_topOf yX5_topOf, Cond.code yX5_topOf cX5_topOf 3 (some .int), Cond.methodLink RX5 71 yX1_base, Cond.instanceMethod yX1_base, Cond.selects RX1 yX1_base yX1_base, Cond.code yX1_base cX1_base 1 (some .int), Cond.methodLink RX5 77 yX1_off, Cond.instanceMethod yX1_off, Cond.selects RX1 yX1_off yX1_off, Cond.code yX1_off cX1_off 1 (some .int), Cond.methodLink RX7 160 yX1_which, Cond.instanceMethod yX1_which, Cond.selects RX1 yX1_which yX1_which, Cond.code yX1_which cX1_which 2 (some .int), Cond.methodLink RX7 163 yX1_number, Cond.instanceMethod yX1_number, Cond.selects RX1 yX1_number yX1_number, Cond.code yX1_number cX1_number 2 (some .int), Cond.methodLink RX7 172 yX7_isWord, Cond.static yX7_isWord]
def wsX7_walk_r6 : List Cond := [Cond.code yX7_isWord cX7_isWord 1 (some .boolean), Cond.methodLink RX7 189 yX7_isGuessable, Cond.static yX7_isGuessable, Cond.code yX7_isGuessable cX7_isGuessable 1 (some .boolean), Cond.methodLink RX7 192 yX7_findGuesses, Cond.instanceMethod yX7_findGuesses, Cond.selects RX7 yX7_findGuesses yX7_findGuesses, Cond.code yX7_findGuesses cX7_findGuesses 2 (some .int), Cond.methodLink RX7 219 yX0_lookThrough, Cond.instanceMethod yX0_lookThrough, Cond.selects RX0 yX0_lookThrough yX0_lookThrough, Cond.initialized RX0, Cond.code yX0_lookThrough cX0_lookThrough 7 none, Cond.fieldLink RX0 18 "FrameWalks$Hunt" "size" "I", Cond.methodLink RX0 31 yX0_scoreOf, Cond.static yX0_scoreOf, Cond.code yX0_scoreOf cX0_scoreOf 4 (some .int), Cond.methodLink RX0 39 yX6_ownerOf, Cond.methodLink RX0 43 yX6_isCallAt, Cond.instanceMethod yX6_isCallAt, Cond.selects RX6 yX6_isCallAt yX6_isCallAt, Cond.code yX6_isCallAt cX6_isCallAt 2 (some .boolean), Cond.fieldLink RX6 26 "FrameWalks$World" "calls" "LFrameWalks$Table;", Cond.methodLink RX6 62 yX3_howMany]
def wsX7_walk_r7 : List Cond := [Cond.instanceMethod yX3_howMany, Cond.selects RX3 yX3_howMany yX3_howMany, Cond.code yX3_howMany cX3_howMany 5 (some .int), Cond.methodLink RX3 32 yX3_at, Cond.methodLink RX0 46 yX6_isCallInto, Cond.instanceMethod yX6_isCallInto, Cond.selects RX6 yX6_isCallInto yX6_isCallInto, Cond.code yX6_isCallInto cX6_isCallInto 5 (some .boolean), Cond.methodLink RX0 35 yX0_enter, Cond.instanceMethod yX0_enter, Cond.selects RX0 yX0_enter yX0_enter, Cond.code yX0_enter cX0_enter 4 none, Cond.methodLink RX0 50 Lib.Math.min.name, Cond.static Lib.Math.min.name, Cond.initialized "java/lang/Math", Cond.code Lib.Math.min.name Lib.Math.min.code 2 (some .int), Cond.fieldLink RX0 15 "FrameWalks$Hunt" "scores" "[I", Cond.fieldLink RX0 9 "FrameWalks$Hunt" "places" "[I", Cond.methodLink RX7 195 yX0_bestWord, Cond.instanceMethod yX0_bestWord, Cond.selects RX0 yX0_bestWord yX0_bestWord, Cond.code yX0_bestWord cX0_bestWord 1 (some .int), Cond.methodLink RX7 198 yX5_addGuessed, Cond.instanceMethod yX5_addGuessed]
def wsX7_walk_r8 : List Cond := [Cond.selects RX5 yX5_addGuessed yX5_addGuessed, Cond.code yX5_addGuessed cX5_addGuessed 6 none, Cond.methodLink RX7 202 yX5_addByRow, Cond.instanceMethod yX5_addByRow, Cond.selects RX5 yX5_addByRow yX5_addByRow, Cond.code yX5_addByRow cX5_addByRow 7 none, Cond.methodLink RX5 80 yX5_topOf, Cond.methodLink RX5 84 yX5_callers, Cond.instanceMethod yX5_callers, Cond.selects RX5 yX5_callers yX5_callers, Cond.code yX5_callers cX5_callers 6 (some .int), Cond.methodLink RX5 88 yX1_which, Cond.methodLink RX5 91 yX1_number]
def wsX7_walk : List Cond := .code yX7_walk cX7_walk 6 (some .int) :: ((wsX7_walk_r1 ++ (wsX7_walk_r2 ++ (wsX7_walk_r3 ++ (wsX7_walk_r4 ++ (wsX7_walk_r5 ++ (wsX7_walk_r6 ++ (wsX7_walk_r7 ++ wsX7_walk_r8))))))) ++ wsX70 ++ wsX60 ++ wsX50 ++ wsX30 ++ wsX10 ++ wsX00)
def wsX7_frame : List Cond := .code yX7_frame cX7_frame 3 (some .int) :: ([.fieldLink RX7 44 "FrameWalks" "track" "LFrameWalks$Track;", .methodLink RX7 206 yX5_has, .instanceMethod yX5_has, .selects RX5 yX5_has yX5_has, .initialized RX5, .code yX5_has cX5_has 2 (some .boolean), .fieldLink RX5 31 "FrameWalks$Track" "size" "I", .methodLink RX7 157 yX7_isRegister, .static yX7_isRegister, .initialized RX7, .code yX7_isRegister cX7_isRegister 1 (some .boolean), .methodLink RX7 207 yX5_register, .instanceMethod yX5_register, .selects RX5 yX5_register yX5_register, .code yX5_register cX5_register 3 (some .int), .fieldLink RX5 9 "FrameWalks$Track" "registers" "[I", .methodLink RX5 45 yX5_has] ++ wsX70 ++ wsX50)
def wsX7_came : List Cond := .code yX7_came cX7_came 3 (some .int) :: ([.fieldLink RX7 44 "FrameWalks" "track" "LFrameWalks$Track;", .methodLink RX7 206 yX5_has, .instanceMethod yX5_has, .selects RX5 yX5_has yX5_has, .initialized RX5, .code yX5_has cX5_has 2 (some .boolean), .fieldLink RX5 31 "FrameWalks$Track" "size" "I"] ++ wsX70 ++ wsX50)
def wsX7_guess_r1 : List Cond := [Cond.fieldLink RX7 10 "FrameWalks" "now" "LFrameWalks$World;", Cond.fieldLink RX7 51 "FrameWalks" "hunt" "LFrameWalks$Hunt;", Cond.methodLink RX7 172 yX7_isWord, Cond.static yX7_isWord, Cond.initialized RX7, Cond.code yX7_isWord cX7_isWord 1 (some .boolean), Cond.methodLink RX7 123 yX3_has, Cond.instanceMethod yX3_has, Cond.selects RX3 yX3_has yX3_has, Cond.initialized RX3, Cond.code yX3_has cX3_has 2 (some .boolean), Cond.fieldLink RX3 9 "FrameWalks$Table" "size" "I", Cond.methodLink RX7 219 yX0_lookThrough, Cond.instanceMethod yX0_lookThrough, Cond.selects RX0 yX0_lookThrough yX0_lookThrough, Cond.initialized RX0, Cond.code yX0_lookThrough cX0_lookThrough 7 none, Cond.fieldLink RX0 18 "FrameWalks$Hunt" "size" "I", Cond.methodLink RX0 31 yX0_scoreOf, Cond.static yX0_scoreOf, Cond.code yX0_scoreOf cX0_scoreOf 4 (some .int), Cond.methodLink RX0 39 yX6_ownerOf, Cond.instanceMethod yX6_ownerOf, Cond.selects RX6 yX6_ownerOf yX6_ownerOf]
def wsX7_guess_r2 : List Cond := [Cond.initialized RX6, Cond.code yX6_ownerOf cX6_ownerOf 3 (some .int), Cond.fieldLink RX6 14 "FrameWalks$World" "routines" "LFrameWalks$Table;", Cond.methodLink RX6 58 yX6_meets, Cond.instanceMethod yX6_meets, Cond.selects RX6 yX6_meets yX6_meets, Cond.code yX6_meets cX6_meets 4 (some .boolean), Cond.methodLink RX6 54 yX3_at, Cond.instanceMethod yX3_at, Cond.selects RX3 yX3_at yX3_at, Cond.code yX3_at cX3_at 3 (some .int), Cond.fieldLink RX3 15 "FrameWalks$Table" "width" "I", Cond.fieldLink RX3 18 "FrameWalks$Table" "cells" "[I", Cond.methodLink RX0 43 yX6_isCallAt, Cond.instanceMethod yX6_isCallAt, Cond.selects RX6 yX6_isCallAt yX6_isCallAt, Cond.code yX6_isCallAt cX6_isCallAt 2 (some .boolean), Cond.fieldLink RX6 26 "FrameWalks$World" "calls" "LFrameWalks$Table;", Cond.methodLink RX6 62 yX3_howMany, Cond.instanceMethod yX3_howMany, Cond.selects RX3 yX3_howMany yX3_howMany, Cond.code yX3_howMany cX3_howMany 5 (some .int), Cond.methodLink RX3 32 yX3_at, Cond.methodLink RX0 46 yX6_isCallInto]
def wsX7_guess_r3 : List Cond := [Cond.instanceMethod yX6_isCallInto, Cond.selects RX6 yX6_isCallInto yX6_isCallInto, Cond.code yX6_isCallInto cX6_isCallInto 5 (some .boolean), Cond.methodLink RX0 35 yX0_enter, Cond.instanceMethod yX0_enter, Cond.selects RX0 yX0_enter yX0_enter, Cond.code yX0_enter cX0_enter 4 none, Cond.methodLink RX0 50 Lib.Math.min.name, Cond.static Lib.Math.min.name, Cond.initialized "java/lang/Math", Cond.code Lib.Math.min.name Lib.Math.min.code 2 (some .int), Cond.fieldLink RX0 15 "FrameWalks$Hunt" "scores" "[I", Cond.fieldLink RX0 9 "FrameWalks$Hunt" "places" "[I"]
def wsX7_guess : List Cond := .code yX7_guess cX7_guess 5 (some .int) :: ((wsX7_guess_r1 ++ (wsX7_guess_r2 ++ wsX7_guess_r3)) ++ wsX70 ++ wsX60 ++ wsX00 ++ wsX30)
def wsX7_isThrown : List Cond := .code yX7_isThrown cX7_isThrown 1 (some .boolean) :: ([])
def wsX7_landsIn : List Cond := .code yX7_landsIn cX7_landsIn 3 (some .boolean) :: ([.fieldLink RX7 10 "FrameWalks" "now" "LFrameWalks$World;", .fieldLink RX7 44 "FrameWalks" "track" "LFrameWalks$Track;", .methodLink RX7 127 yX3_at, .instanceMethod yX3_at, .selects RX3 yX3_at yX3_at, .initialized RX3, .code yX3_at cX3_at 3 (some .int), .fieldLink RX3 9 "FrameWalks$Table" "size" "I", .fieldLink RX3 15 "FrameWalks$Table" "width" "I", .fieldLink RX3 18 "FrameWalks$Table" "cells" "[I"] ++ wsX70 ++ wsX60 ++ wsX50 ++ wsX30)
def wsX7_catchIn : List Cond := .code yX7_catchIn cX7_catchIn 5 (some .int) :: ([.fieldLink RX7 10 "FrameWalks" "now" "LFrameWalks$World;", .methodLink RX7 127 yX3_at, .instanceMethod yX3_at, .selects RX3 yX3_at yX3_at, .initialized RX3, .code yX3_at cX3_at 3 (some .int), .fieldLink RX3 9 "FrameWalks$Table" "size" "I", .fieldLink RX3 15 "FrameWalks$Table" "width" "I", .fieldLink RX3 18 "FrameWalks$Table" "cells" "[I", .methodLink RX7 238 yX7_landsIn, .instanceMethod yX7_landsIn, .selects RX7 yX7_landsIn yX7_landsIn, .initialized RX7, .code yX7_landsIn cX7_landsIn 3 (some .boolean), .fieldLink RX7 44 "FrameWalks" "track" "LFrameWalks$Track;"] ++ wsX70 ++ wsX60 ++ wsX30 ++ wsX50)
def wsX7_catcherOf : List Cond := .code yX7_catcherOf cX7_catcherOf 3 (some .int) :: ([.fieldLink RX7 44 "FrameWalks" "track" "LFrameWalks$Track;", .methodLink RX7 235 yX7_catchIn, .instanceMethod yX7_catchIn, .selects RX7 yX7_catchIn yX7_catchIn, .initialized RX7, .code yX7_catchIn cX7_catchIn 5 (some .int), .fieldLink RX7 10 "FrameWalks" "now" "LFrameWalks$World;", .methodLink RX7 127 yX3_at, .instanceMethod yX3_at, .selects RX3 yX3_at yX3_at, .initialized RX3, .code yX3_at cX3_at 3 (some .int), .fieldLink RX3 9 "FrameWalks$Table" "size" "I", .fieldLink RX3 15 "FrameWalks$Table" "width" "I", .fieldLink RX3 18 "FrameWalks$Table" "cells" "[I", .methodLink RX7 238 yX7_landsIn, .instanceMethod yX7_landsIn, .selects RX7 yX7_landsIn yX7_landsIn, .code yX7_landsIn cX7_landsIn 3 (some .boolean)] ++ wsX70 ++ wsX50 ++ wsX60 ++ wsX30)
def wsX7_caught_r1 : List Cond := [Cond.fieldLink RX7 44 "FrameWalks" "track" "LFrameWalks$Track;", Cond.methodLink RX7 229 yX7_isThrown, Cond.static yX7_isThrown, Cond.initialized RX7, Cond.code yX7_isThrown cX7_isThrown 1 (some .boolean), Cond.methodLink RX7 232 yX7_catcherOf, Cond.instanceMethod yX7_catcherOf, Cond.selects RX7 yX7_catcherOf yX7_catcherOf, Cond.code yX7_catcherOf cX7_catcherOf 3 (some .int), Cond.methodLink RX7 235 yX7_catchIn, Cond.instanceMethod yX7_catchIn, Cond.selects RX7 yX7_catchIn yX7_catchIn, Cond.code yX7_catchIn cX7_catchIn 5 (some .int), Cond.fieldLink RX7 10 "FrameWalks" "now" "LFrameWalks$World;", Cond.methodLink RX7 127 yX3_at, Cond.instanceMethod yX3_at, Cond.selects RX3 yX3_at yX3_at, Cond.initialized RX3, Cond.code yX3_at cX3_at 3 (some .int), Cond.fieldLink RX3 9 "FrameWalks$Table" "size" "I", Cond.fieldLink RX3 15 "FrameWalks$Table" "width" "I", Cond.fieldLink RX3 18 "FrameWalks$Table" "cells" "[I", Cond.methodLink RX7 238 yX7_landsIn, Cond.instanceMethod yX7_landsIn]
def wsX7_caught_r2 : List Cond := [Cond.selects RX7 yX7_landsIn yX7_landsIn, Cond.code yX7_landsIn cX7_landsIn 3 (some .boolean)]
def wsX7_caught : List Cond := .code yX7_caught cX7_caught 4 (some .int) :: ((wsX7_caught_r1 ++ wsX7_caught_r2) ++ wsX70 ++ wsX50 ++ wsX60 ++ wsX30)
def wsX7_cleaned_r1 : List Cond := [Cond.fieldLink RX7 44 "FrameWalks" "track" "LFrameWalks$Track;", Cond.fieldLink RX7 10 "FrameWalks" "now" "LFrameWalks$World;", Cond.methodLink RX7 229 yX7_isThrown, Cond.static yX7_isThrown, Cond.initialized RX7, Cond.code yX7_isThrown cX7_isThrown 1 (some .boolean), Cond.methodLink RX7 232 yX7_catcherOf, Cond.instanceMethod yX7_catcherOf, Cond.selects RX7 yX7_catcherOf yX7_catcherOf, Cond.code yX7_catcherOf cX7_catcherOf 3 (some .int), Cond.methodLink RX7 235 yX7_catchIn, Cond.instanceMethod yX7_catchIn, Cond.selects RX7 yX7_catchIn yX7_catchIn, Cond.code yX7_catchIn cX7_catchIn 5 (some .int), Cond.methodLink RX7 127 yX3_at, Cond.instanceMethod yX3_at, Cond.selects RX3 yX3_at yX3_at, Cond.initialized RX3, Cond.code yX3_at cX3_at 3 (some .int), Cond.fieldLink RX3 9 "FrameWalks$Table" "size" "I", Cond.fieldLink RX3 15 "FrameWalks$Table" "width" "I", Cond.fieldLink RX3 18 "FrameWalks$Table" "cells" "[I", Cond.methodLink RX7 238 yX7_landsIn, Cond.instanceMethod yX7_landsIn]
def wsX7_cleaned_r2 : List Cond := [Cond.selects RX7 yX7_landsIn yX7_landsIn, Cond.code yX7_landsIn cX7_landsIn 3 (some .boolean)]
def wsX7_cleaned : List Cond := .code yX7_cleaned cX7_cleaned 7 (some .int) :: ((wsX7_cleaned_r1 ++ wsX7_cleaned_r2) ++ wsX70 ++ wsX50 ++ wsX60 ++ wsX30)
def wsX7_move : List Cond := .code yX7_move cX7_move 7 (some .int) :: ([.fieldLink RX7 10 "FrameWalks" "now" "LFrameWalks$World;", .methodLink RX7 123 yX3_has, .instanceMethod yX3_has, .selects RX3 yX3_has yX3_has, .initialized RX3, .code yX3_has cX3_has 2 (some .boolean), .fieldLink RX3 9 "FrameWalks$Table" "size" "I", .methodLink RX7 127 yX3_at, .instanceMethod yX3_at, .selects RX3 yX3_at yX3_at, .code yX3_at cX3_at 3 (some .int), .fieldLink RX3 15 "FrameWalks$Table" "width" "I", .fieldLink RX3 18 "FrameWalks$Table" "cells" "[I", .methodLink RX7 242 yX6_meets, .instanceMethod yX6_meets, .selects RX6 yX6_meets yX6_meets, .initialized RX6, .code yX6_meets cX6_meets 4 (some .boolean), .fieldLink RX6 14 "FrameWalks$World" "routines" "LFrameWalks$Table;", .methodLink RX6 54 yX3_at, .methodLink RX7 246 yX3_set, .instanceMethod yX3_set, .selects RX3 yX3_set yX3_set, .code yX3_set cX3_set 4 none] ++ wsX70 ++ wsX60 ++ wsX30)
def wsX7_alter : List Cond := .code yX7_alter cX7_alter 6 (some .int) :: ([.fieldLink RX7 10 "FrameWalks" "now" "LFrameWalks$World;", .methodLink RX7 123 yX3_has, .instanceMethod yX3_has, .selects RX3 yX3_has yX3_has, .initialized RX3, .code yX3_has cX3_has 2 (some .boolean), .fieldLink RX3 9 "FrameWalks$Table" "size" "I", .methodLink RX7 127 yX3_at, .instanceMethod yX3_at, .selects RX3 yX3_at yX3_at, .code yX3_at cX3_at 3 (some .int), .fieldLink RX3 15 "FrameWalks$Table" "width" "I", .fieldLink RX3 18 "FrameWalks$Table" "cells" "[I", .methodLink RX7 157 yX7_isRegister, .static yX7_isRegister, .initialized RX7, .code yX7_isRegister cX7_isRegister 1 (some .boolean), .methodLink RX7 246 yX3_set, .instanceMethod yX3_set, .selects RX3 yX3_set yX3_set, .code yX3_set cX3_set 4 none] ++ wsX70 ++ wsX60 ++ wsX30)
def wsX7_keep_r1 : List Cond := [Cond.fieldLink RX7 23 "FrameWalks" "kept" "[Z", Cond.fieldLink RX7 19 "FrameWalks" "images" "[LFrameWalks$World;", Cond.fieldLink RX7 10 "FrameWalks" "now" "LFrameWalks$World;", Cond.methodLink RX7 249 yX6_takeAll, Cond.instanceMethod yX6_takeAll, Cond.selects RX6 yX6_takeAll yX6_takeAll, Cond.initialized RX6, Cond.code yX6_takeAll cX6_takeAll 2 none, Cond.fieldLink RX6 29 "FrameWalks$World" "registers" "[I", Cond.methodLink RX6 48 arraycopyName, Cond.native arraycopyName, Cond.static arraycopyName, Cond.initialized "java/lang/System", Cond.fieldLink RX6 33 "FrameWalks$World" "words" "[I", Cond.methodLink RX6 44 yX6_takeTables, Cond.instanceMethod yX6_takeTables, Cond.selects RX6 yX6_takeTables yX6_takeTables, Cond.code yX6_takeTables cX6_takeTables 2 none, Cond.fieldLink RX6 14 "FrameWalks$World" "routines" "LFrameWalks$Table;", Cond.fieldLink RX6 20 "FrameWalks$World" "ops" "LFrameWalks$Table;", Cond.fieldLink RX6 23 "FrameWalks$World" "landings" "LFrameWalks$Table;", Cond.fieldLink RX6 26 "FrameWalks$World" "calls" "LFrameWalks$Table;", Cond.methodLink RX6 40 yX3_takeOver, Cond.instanceMethod yX3_takeOver]
def wsX7_keep_r2 : List Cond := [Cond.selects RX3 yX3_takeOver yX3_takeOver, Cond.initialized RX3, Cond.code yX3_takeOver cX3_takeOver 2 none, Cond.fieldLink RX3 18 "FrameWalks$Table" "cells" "[I", Cond.methodLink RX3 26 arraycopyName, Cond.fieldLink RX3 9 "FrameWalks$Table" "size" "I"]
def wsX7_keep : List Cond := .code yX7_keep cX7_keep 3 (some .int) :: ((wsX7_keep_r1 ++ wsX7_keep_r2) ++ wsX70 ++ wsX60 ++ wsX30)
def wsX7_back_r1 : List Cond := [Cond.fieldLink RX7 23 "FrameWalks" "kept" "[Z", Cond.fieldLink RX7 10 "FrameWalks" "now" "LFrameWalks$World;", Cond.fieldLink RX7 19 "FrameWalks" "images" "[LFrameWalks$World;", Cond.fieldLink RX7 44 "FrameWalks" "track" "LFrameWalks$Track;", Cond.methodLink RX7 249 yX6_takeAll, Cond.instanceMethod yX6_takeAll, Cond.selects RX6 yX6_takeAll yX6_takeAll, Cond.initialized RX6, Cond.code yX6_takeAll cX6_takeAll 2 none, Cond.fieldLink RX6 29 "FrameWalks$World" "registers" "[I", Cond.methodLink RX6 48 arraycopyName, Cond.native arraycopyName, Cond.static arraycopyName, Cond.initialized "java/lang/System", Cond.fieldLink RX6 33 "FrameWalks$World" "words" "[I", Cond.methodLink RX6 44 yX6_takeTables, Cond.instanceMethod yX6_takeTables, Cond.selects RX6 yX6_takeTables yX6_takeTables, Cond.code yX6_takeTables cX6_takeTables 2 none, Cond.fieldLink RX6 14 "FrameWalks$World" "routines" "LFrameWalks$Table;", Cond.fieldLink RX6 20 "FrameWalks$World" "ops" "LFrameWalks$Table;", Cond.fieldLink RX6 23 "FrameWalks$World" "landings" "LFrameWalks$Table;", Cond.fieldLink RX6 26 "FrameWalks$World" "calls" "LFrameWalks$Table;", Cond.methodLink RX6 40 yX3_takeOver]
def wsX7_back_r2 : List Cond := [Cond.instanceMethod yX3_takeOver, Cond.selects RX3 yX3_takeOver yX3_takeOver, Cond.initialized RX3, Cond.code yX3_takeOver cX3_takeOver 2 none, Cond.fieldLink RX3 18 "FrameWalks$Table" "cells" "[I", Cond.methodLink RX3 26 arraycopyName, Cond.fieldLink RX3 9 "FrameWalks$Table" "size" "I", Cond.methodLink RX7 84 yX5_forget, Cond.instanceMethod yX5_forget, Cond.selects RX5 yX5_forget yX5_forget, Cond.initialized RX5, Cond.code yX5_forget cX5_forget 1 none, Cond.fieldLink RX5 24 "FrameWalks$Track" "taken" "Z", Cond.fieldLink RX5 31 "FrameWalks$Track" "size" "I"]
def wsX7_back : List Cond := .code yX7_back cX7_back 2 (some .int) :: ((wsX7_back_r1 ++ wsX7_back_r2) ++ wsX70 ++ wsX60 ++ wsX30 ++ wsX50)
def wsX7_isSheet : List Cond := .code yX7_isSheet cX7_isSheet 1 (some .boolean) :: ([])
def wsX7_isLane : List Cond := .code yX7_isLane cX7_isLane 1 (some .boolean) :: ([])
def wsX7_sheet : List Cond := .code yX7_sheet cX7_sheet 4 (some .int) :: ([.fieldLink RX7 57 "FrameWalks" "sheets" "[LFrameWalks$Sheet;", .methodLink RX7 252 yX7_isSheet, .static yX7_isSheet, .initialized RX7, .code yX7_isSheet cX7_isSheet 1 (some .boolean), .methodLink RX7 255 yX7_isLane, .static yX7_isLane, .code yX7_isLane cX7_isLane 1 (some .boolean), .methodLink RX7 258 yX2_becomeNew, .instanceMethod yX2_becomeNew, .selects RX2 yX2_becomeNew yX2_becomeNew, .initialized RX2, .code yX2_becomeNew cX2_becomeNew 3 none, .fieldLink RX2 9 "FrameWalks$Sheet" "cells" "[I", .fieldLink RX2 15 "FrameWalks$Sheet" "isThere" "Z", .fieldLink RX2 19 "FrameWalks$Sheet" "lane" "I", .fieldLink RX2 23 "FrameWalks$Sheet" "size" "I", .methodLink RX2 26 yJ7_fill_53178, .static yJ7_fill_53178, .initialized RJ7, .code yJ7_fill_53178 cJ7_fill_53178 4 none] ++ wsX70 ++ wsX20)
def wsX7_lay : List Cond := .code yX7_lay cX7_lay 6 (some .int) :: ([.fieldLink RX7 57 "FrameWalks" "sheets" "[LFrameWalks$Sheet;", .methodLink RX7 252 yX7_isSheet, .static yX7_isSheet, .initialized RX7, .code yX7_isSheet cX7_isSheet 1 (some .boolean), .methodLink RX7 265 yX2_refusal, .instanceMethod yX2_refusal, .selects RX2 yX2_refusal yX2_refusal, .initialized RX2, .code yX2_refusal cX2_refusal 3 (some .int), .fieldLink RX2 15 "FrameWalks$Sheet" "isThere" "Z", .fieldLink RX2 19 "FrameWalks$Sheet" "lane" "I", .fieldLink RX2 23 "FrameWalks$Sheet" "size" "I", .methodLink RX7 268 yX2_become, .instanceMethod yX2_become, .selects RX2 yX2_become yX2_become, .code yX2_become cX2_become 3 none, .fieldLink RX2 9 "FrameWalks$Sheet" "cells" "[I"] ++ wsX70 ++ wsX20)
def wsX7_read_r1 : List Cond := [Cond.fieldLink RX7 57 "FrameWalks" "sheets" "[LFrameWalks$Sheet;", Cond.fieldLink RX7 61 "FrameWalks" "coming" "[I", Cond.fieldLink RX7 10 "FrameWalks" "now" "LFrameWalks$World;", Cond.fieldLink RX7 65 "FrameWalks" "tornBy" "I", Cond.methodLink RX7 252 yX7_isSheet, Cond.static yX7_isSheet, Cond.initialized RX7, Cond.code yX7_isSheet cX7_isSheet 1 (some .boolean), Cond.methodLink RX7 255 yX7_isLane, Cond.static yX7_isLane, Cond.code yX7_isLane cX7_isLane 1 (some .boolean), Cond.methodLink RX7 265 yX2_refusal, Cond.instanceMethod yX2_refusal, Cond.selects RX2 yX2_refusal yX2_refusal, Cond.initialized RX2, Cond.code yX2_refusal cX2_refusal 3 (some .int), Cond.fieldLink RX2 15 "FrameWalks$Sheet" "isThere" "Z", Cond.fieldLink RX2 19 "FrameWalks$Sheet" "lane" "I", Cond.fieldLink RX2 23 "FrameWalks$Sheet" "size" "I", Cond.methodLink RX7 172 yX7_isWord, Cond.static yX7_isWord, Cond.code yX7_isWord cX7_isWord 1 (some .boolean), Cond.methodLink RX7 166 yX7_isNumber, Cond.static yX7_isNumber]
def wsX7_read_r2 : List Cond := [Cond.code yX7_isNumber cX7_isNumber 1 (some .boolean)]
def wsX7_read : List Cond := .code yX7_read cX7_read 11 (some .int) :: ((wsX7_read_r1 ++ wsX7_read_r2) ++ wsX70 ++ wsX20 ++ wsX60)
def wsX7_torn : List Cond := .code yX7_torn cX7_torn 1 (some .int) :: ([.fieldLink RX7 65 "FrameWalks" "tornBy" "I"] ++ wsX70)
def wsX7_sumOf : List Cond := .code yX7_sumOf cX7_sumOf 6 (some .int) :: ([])
def wsX7_count : List Cond := .code yX7_count cX7_count 2 (some .int) :: ([.fieldLink RX7 23 "FrameWalks" "kept" "[Z", .fieldLink RX7 30 "FrameWalks" "tape" "LFrameWalks$Tape;", .fieldLink RX7 57 "FrameWalks" "sheets" "[LFrameWalks$Sheet;", .fieldLink RX7 10 "FrameWalks" "now" "LFrameWalks$World;", .methodLink RX7 278 yX7_sumOf, .static yX7_sumOf, .initialized RX7, .code yX7_sumOf cX7_sumOf 6 (some .int)] ++ wsX70 ++ wsX40 ++ wsX20 ++ wsX60)
def wsX8_init : List Cond := .code yX8_init cX8_init 1 none :: ([.methodLink RX8 1 objectInit, .instanceMethod objectInit, .code objectInit ⟨#[0xb1]⟩ 1 none, .arrayClass .int, .fieldLink RX8 7 "FrameWalksModel" "state" "[I", .fieldLink RX8 13 "FrameWalksModel" "tape" "[I", .fieldLink RX8 16 "FrameWalksModel" "ends" "[I", .fieldLink RX8 19 "FrameWalksModel" "letters" "[I", .fieldLink RX8 22 "FrameWalksModel" "row" "[I", .fieldLink RX8 25 "FrameWalksModel" "laid" "[I", .fieldLink RX8 28 "FrameWalksModel" "frames" "[I", .fieldLink RX8 31 "FrameWalksModel" "cameBy" "[I", .fieldLink RX8 34 "FrameWalksModel" "looked" "[I", .fieldLink RX8 37 "FrameWalksModel" "owners" "[I", .arrayClass .boolean, .fieldLink RX8 40 "FrameWalksModel" "isKept" "[Z", .fieldLink RX8 44 "FrameWalksModel" "lanes" "[I", .fieldLink RX8 47 "FrameWalksModel" "lengths" "[I", .fieldLink RX8 50 "FrameWalksModel" "cells" "[I", .fieldLink RX8 53 "FrameWalksModel" "aside" "[I"] ++ wsX80)
def wsX8_in : List Cond := .code yX8_in cX8_in 6 (some .boolean) :: ([])
def wsX8_feed : List Cond := .code yX8_feed cX8_feed 2 (some .int) :: ([.constantLong RX8 56 (127), .fieldLink RX8 62 "FrameWalksModel" "taped" "I", .fieldLink RX8 13 "FrameWalksModel" "tape" "[I", .methodLink RX8 58 yX8_in, .static yX8_in, .initialized RX8, .code yX8_in cX8_in 6 (some .boolean)] ++ wsX80)
def wsX8_end : List Cond := .code yX8_end cX8_end 3 (some .int) :: ([.fieldLink RX8 62 "FrameWalksModel" "taped" "I", .methodLink RX8 58 yX8_in, .static yX8_in, .initialized RX8, .code yX8_in cX8_in 6 (some .boolean)] ++ wsX80)
def wsX8_byteAt : List Cond := .code yX8_byteAt cX8_byteAt 2 (some .int) :: ([.fieldLink RX8 62 "FrameWalksModel" "taped" "I", .fieldLink RX8 13 "FrameWalksModel" "tape" "[I"] ++ wsX80)
def wsX8_fails : List Cond := .code yX8_fails cX8_fails 2 none :: ([.fieldLink RX8 66 "FrameWalksModel" "broken" "I", .fieldLink RX8 69 "FrameWalksModel" "here" "I", .fieldLink RX8 72 "FrameWalksModel" "brokenAt" "I"] ++ wsX80)
def wsX8_nameHere : List Cond := .code yX8_nameHere cX8_nameHere 4 (some .int) :: ([.fieldLink RX8 75 "FrameWalksModel" "token" "I", .fieldLink RX8 78 "FrameWalksModel" "spot" "I", .fieldLink RX8 69 "FrameWalksModel" "here" "I", .fieldLink RX8 16 "FrameWalksModel" "ends" "[I", .fieldLink RX8 19 "FrameWalksModel" "letters" "[I", .methodLink RX8 81 yX8_byteAt, .instanceMethod yX8_byteAt, .selects RX8 yX8_byteAt yX8_byteAt, .initialized RX8, .code yX8_byteAt cX8_byteAt 2 (some .int), .fieldLink RX8 62 "FrameWalksModel" "taped" "I", .fieldLink RX8 13 "FrameWalksModel" "tape" "[I"] ++ wsX80)
def wsX8_readsOn : List Cond := .code yX8_readsOn cX8_readsOn 2 none :: ([.fieldLink RX8 66 "FrameWalksModel" "broken" "I", .fieldLink RX8 78 "FrameWalksModel" "spot" "I", .fieldLink RX8 69 "FrameWalksModel" "here" "I", .fieldLink RX8 85 "FrameWalksModel" "value" "I", .fieldLink RX8 75 "FrameWalksModel" "token" "I", .constantLong RX8 88 (97), .constantLong RX8 90 (122), .constantLong RX8 92 (48), .constantLong RX8 94 (57), .methodLink RX8 81 yX8_byteAt, .instanceMethod yX8_byteAt, .selects RX8 yX8_byteAt yX8_byteAt, .initialized RX8, .code yX8_byteAt cX8_byteAt 2 (some .int), .fieldLink RX8 62 "FrameWalksModel" "taped" "I", .fieldLink RX8 13 "FrameWalksModel" "tape" "[I", .methodLink RX8 58 yX8_in, .static yX8_in, .code yX8_in cX8_in 6 (some .boolean), .methodLink RX8 96 yX8_fails, .instanceMethod yX8_fails, .selects RX8 yX8_fails yX8_fails, .code yX8_fails cX8_fails 2 none, .fieldLink RX8 72 "FrameWalksModel" "brokenAt" "I"] ++ wsX80)
def wsX8_numberRead_r1 : List Cond := [Cond.fieldLink RX8 66 "FrameWalksModel" "broken" "I", Cond.fieldLink RX8 75 "FrameWalksModel" "token" "I", Cond.fieldLink RX8 85 "FrameWalksModel" "value" "I", Cond.methodLink RX8 96 yX8_fails, Cond.instanceMethod yX8_fails, Cond.selects RX8 yX8_fails yX8_fails, Cond.initialized RX8, Cond.code yX8_fails cX8_fails 2 none, Cond.fieldLink RX8 69 "FrameWalksModel" "here" "I", Cond.fieldLink RX8 72 "FrameWalksModel" "brokenAt" "I", Cond.methodLink RX8 58 yX8_in, Cond.static yX8_in, Cond.code yX8_in cX8_in 6 (some .boolean), Cond.methodLink RX8 100 yX8_readsOn, Cond.instanceMethod yX8_readsOn, Cond.selects RX8 yX8_readsOn yX8_readsOn, Cond.code yX8_readsOn cX8_readsOn 2 none, Cond.fieldLink RX8 78 "FrameWalksModel" "spot" "I", Cond.constantLong RX8 88 (97), Cond.constantLong RX8 90 (122), Cond.constantLong RX8 92 (48), Cond.constantLong RX8 94 (57), Cond.methodLink RX8 81 yX8_byteAt, Cond.instanceMethod yX8_byteAt]
def wsX8_numberRead_r2 : List Cond := [Cond.selects RX8 yX8_byteAt yX8_byteAt, Cond.code yX8_byteAt cX8_byteAt 2 (some .int), Cond.fieldLink RX8 62 "FrameWalksModel" "taped" "I", Cond.fieldLink RX8 13 "FrameWalksModel" "tape" "[I"]
def wsX8_numberRead : List Cond := .code yX8_numberRead cX8_numberRead 4 (some .int) :: ((wsX8_numberRead_r1 ++ wsX8_numberRead_r2) ++ wsX80)
def wsX8_registerRead_r1 : List Cond := [Cond.fieldLink RX8 69 "FrameWalksModel" "here" "I", Cond.fieldLink RX8 75 "FrameWalksModel" "token" "I", Cond.fieldLink RX8 78 "FrameWalksModel" "spot" "I", Cond.constantLong RX8 88 (97), Cond.constantLong RX8 103 (100), Cond.fieldLink RX8 66 "FrameWalksModel" "broken" "I", Cond.methodLink RX8 81 yX8_byteAt, Cond.instanceMethod yX8_byteAt, Cond.selects RX8 yX8_byteAt yX8_byteAt, Cond.initialized RX8, Cond.code yX8_byteAt cX8_byteAt 2 (some .int), Cond.fieldLink RX8 62 "FrameWalksModel" "taped" "I", Cond.fieldLink RX8 13 "FrameWalksModel" "tape" "[I", Cond.methodLink RX8 58 yX8_in, Cond.static yX8_in, Cond.code yX8_in cX8_in 6 (some .boolean), Cond.methodLink RX8 96 yX8_fails, Cond.instanceMethod yX8_fails, Cond.selects RX8 yX8_fails yX8_fails, Cond.code yX8_fails cX8_fails 2 none, Cond.fieldLink RX8 72 "FrameWalksModel" "brokenAt" "I", Cond.methodLink RX8 100 yX8_readsOn, Cond.instanceMethod yX8_readsOn, Cond.selects RX8 yX8_readsOn yX8_readsOn]
def wsX8_registerRead_r2 : List Cond := [Cond.code yX8_readsOn cX8_readsOn 2 none, Cond.fieldLink RX8 85 "FrameWalksModel" "value" "I", Cond.constantLong RX8 90 (122), Cond.constantLong RX8 92 (48), Cond.constantLong RX8 94 (57)]
def wsX8_registerRead : List Cond := .code yX8_registerRead cX8_registerRead 5 (some .int) :: ((wsX8_registerRead_r1 ++ wsX8_registerRead_r2) ++ wsX80)
def wsX8_readRoutine_r1 : List Cond := [Cond.fieldLink RX8 7 "FrameWalksModel" "state" "[I", Cond.methodLink RX8 96 yX8_fails, Cond.instanceMethod yX8_fails, Cond.selects RX8 yX8_fails yX8_fails, Cond.initialized RX8, Cond.code yX8_fails cX8_fails 2 none, Cond.fieldLink RX8 66 "FrameWalksModel" "broken" "I", Cond.fieldLink RX8 69 "FrameWalksModel" "here" "I", Cond.fieldLink RX8 72 "FrameWalksModel" "brokenAt" "I", Cond.methodLink RX8 100 yX8_readsOn, Cond.instanceMethod yX8_readsOn, Cond.selects RX8 yX8_readsOn yX8_readsOn, Cond.code yX8_readsOn cX8_readsOn 2 none, Cond.fieldLink RX8 78 "FrameWalksModel" "spot" "I", Cond.fieldLink RX8 85 "FrameWalksModel" "value" "I", Cond.fieldLink RX8 75 "FrameWalksModel" "token" "I", Cond.constantLong RX8 88 (97), Cond.constantLong RX8 90 (122), Cond.constantLong RX8 92 (48), Cond.constantLong RX8 94 (57), Cond.methodLink RX8 81 yX8_byteAt, Cond.instanceMethod yX8_byteAt, Cond.selects RX8 yX8_byteAt yX8_byteAt, Cond.code yX8_byteAt cX8_byteAt 2 (some .int)]
def wsX8_readRoutine_r2 : List Cond := [Cond.fieldLink RX8 62 "FrameWalksModel" "taped" "I", Cond.fieldLink RX8 13 "FrameWalksModel" "tape" "[I", Cond.methodLink RX8 58 yX8_in, Cond.static yX8_in, Cond.code yX8_in cX8_in 6 (some .boolean), Cond.methodLink RX8 105 yX8_numberRead, Cond.instanceMethod yX8_numberRead, Cond.selects RX8 yX8_numberRead yX8_numberRead, Cond.code yX8_numberRead cX8_numberRead 4 (some .int)]
def wsX8_readRoutine : List Cond := .code yX8_readRoutine cX8_readRoutine 4 none :: ((wsX8_readRoutine_r1 ++ wsX8_readRoutine_r2) ++ wsX80)
def wsX8_readOp_r1 : List Cond := [Cond.fieldLink RX8 7 "FrameWalksModel" "state" "[I", Cond.constantLong RX8 109 (3), Cond.constantLong RX8 111 (5), Cond.methodLink RX8 96 yX8_fails, Cond.instanceMethod yX8_fails, Cond.selects RX8 yX8_fails yX8_fails, Cond.initialized RX8, Cond.code yX8_fails cX8_fails 2 none, Cond.fieldLink RX8 66 "FrameWalksModel" "broken" "I", Cond.fieldLink RX8 69 "FrameWalksModel" "here" "I", Cond.fieldLink RX8 72 "FrameWalksModel" "brokenAt" "I", Cond.methodLink RX8 100 yX8_readsOn, Cond.instanceMethod yX8_readsOn, Cond.selects RX8 yX8_readsOn yX8_readsOn, Cond.code yX8_readsOn cX8_readsOn 2 none, Cond.fieldLink RX8 78 "FrameWalksModel" "spot" "I", Cond.fieldLink RX8 85 "FrameWalksModel" "value" "I", Cond.fieldLink RX8 75 "FrameWalksModel" "token" "I", Cond.constantLong RX8 88 (97), Cond.constantLong RX8 90 (122), Cond.constantLong RX8 92 (48), Cond.constantLong RX8 94 (57), Cond.methodLink RX8 81 yX8_byteAt, Cond.instanceMethod yX8_byteAt]
def wsX8_readOp_r2 : List Cond := [Cond.selects RX8 yX8_byteAt yX8_byteAt, Cond.code yX8_byteAt cX8_byteAt 2 (some .int), Cond.fieldLink RX8 62 "FrameWalksModel" "taped" "I", Cond.fieldLink RX8 13 "FrameWalksModel" "tape" "[I", Cond.methodLink RX8 58 yX8_in, Cond.static yX8_in, Cond.code yX8_in cX8_in 6 (some .boolean), Cond.methodLink RX8 113 yX8_registerRead, Cond.instanceMethod yX8_registerRead, Cond.selects RX8 yX8_registerRead yX8_registerRead, Cond.code yX8_registerRead cX8_registerRead 5 (some .int), Cond.constantLong RX8 103 (100), Cond.methodLink RX8 105 yX8_numberRead, Cond.instanceMethod yX8_numberRead, Cond.selects RX8 yX8_numberRead yX8_numberRead, Cond.code yX8_numberRead cX8_numberRead 4 (some .int)]
def wsX8_readOp : List Cond := .code yX8_readOp cX8_readOp 4 none :: ((wsX8_readOp_r1 ++ wsX8_readOp_r2) ++ wsX80)
def wsX8_readLanding_r1 : List Cond := [Cond.fieldLink RX8 7 "FrameWalksModel" "state" "[I", Cond.methodLink RX8 96 yX8_fails, Cond.instanceMethod yX8_fails, Cond.selects RX8 yX8_fails yX8_fails, Cond.initialized RX8, Cond.code yX8_fails cX8_fails 2 none, Cond.fieldLink RX8 66 "FrameWalksModel" "broken" "I", Cond.fieldLink RX8 69 "FrameWalksModel" "here" "I", Cond.fieldLink RX8 72 "FrameWalksModel" "brokenAt" "I", Cond.methodLink RX8 100 yX8_readsOn, Cond.instanceMethod yX8_readsOn, Cond.selects RX8 yX8_readsOn yX8_readsOn, Cond.code yX8_readsOn cX8_readsOn 2 none, Cond.fieldLink RX8 78 "FrameWalksModel" "spot" "I", Cond.fieldLink RX8 85 "FrameWalksModel" "value" "I", Cond.fieldLink RX8 75 "FrameWalksModel" "token" "I", Cond.constantLong RX8 88 (97), Cond.constantLong RX8 90 (122), Cond.constantLong RX8 92 (48), Cond.constantLong RX8 94 (57), Cond.methodLink RX8 81 yX8_byteAt, Cond.instanceMethod yX8_byteAt, Cond.selects RX8 yX8_byteAt yX8_byteAt, Cond.code yX8_byteAt cX8_byteAt 2 (some .int)]
def wsX8_readLanding_r2 : List Cond := [Cond.fieldLink RX8 62 "FrameWalksModel" "taped" "I", Cond.fieldLink RX8 13 "FrameWalksModel" "tape" "[I", Cond.methodLink RX8 58 yX8_in, Cond.static yX8_in, Cond.code yX8_in cX8_in 6 (some .boolean), Cond.methodLink RX8 105 yX8_numberRead, Cond.instanceMethod yX8_numberRead, Cond.selects RX8 yX8_numberRead yX8_numberRead, Cond.code yX8_numberRead cX8_numberRead 4 (some .int)]
def wsX8_readLanding : List Cond := .code yX8_readLanding cX8_readLanding 4 none :: ((wsX8_readLanding_r1 ++ wsX8_readLanding_r2) ++ wsX80)
def wsX8_readCall_r1 : List Cond := [Cond.fieldLink RX8 7 "FrameWalksModel" "state" "[I", Cond.methodLink RX8 96 yX8_fails, Cond.instanceMethod yX8_fails, Cond.selects RX8 yX8_fails yX8_fails, Cond.initialized RX8, Cond.code yX8_fails cX8_fails 2 none, Cond.fieldLink RX8 66 "FrameWalksModel" "broken" "I", Cond.fieldLink RX8 69 "FrameWalksModel" "here" "I", Cond.fieldLink RX8 72 "FrameWalksModel" "brokenAt" "I", Cond.methodLink RX8 100 yX8_readsOn, Cond.instanceMethod yX8_readsOn, Cond.selects RX8 yX8_readsOn yX8_readsOn, Cond.code yX8_readsOn cX8_readsOn 2 none, Cond.fieldLink RX8 78 "FrameWalksModel" "spot" "I", Cond.fieldLink RX8 85 "FrameWalksModel" "value" "I", Cond.fieldLink RX8 75 "FrameWalksModel" "token" "I", Cond.constantLong RX8 88 (97), Cond.constantLong RX8 90 (122), Cond.constantLong RX8 92 (48), Cond.constantLong RX8 94 (57), Cond.methodLink RX8 81 yX8_byteAt, Cond.instanceMethod yX8_byteAt, Cond.selects RX8 yX8_byteAt yX8_byteAt, Cond.code yX8_byteAt cX8_byteAt 2 (some .int)]
def wsX8_readCall_r2 : List Cond := [Cond.fieldLink RX8 62 "FrameWalksModel" "taped" "I", Cond.fieldLink RX8 13 "FrameWalksModel" "tape" "[I", Cond.methodLink RX8 58 yX8_in, Cond.static yX8_in, Cond.code yX8_in cX8_in 6 (some .boolean), Cond.methodLink RX8 105 yX8_numberRead, Cond.instanceMethod yX8_numberRead, Cond.selects RX8 yX8_numberRead yX8_numberRead, Cond.code yX8_numberRead cX8_numberRead 4 (some .int)]
def wsX8_readCall : List Cond := .code yX8_readCall cX8_readCall 2 none :: ((wsX8_readCall_r1 ++ wsX8_readCall_r2) ++ wsX80)
def wsX8_readLine_r1 : List Cond := [Cond.constantLong RX8 123 (2), Cond.constantLong RX8 125 (9), Cond.fieldLink RX8 66 "FrameWalksModel" "broken" "I", Cond.fieldLink RX8 75 "FrameWalksModel" "token" "I", Cond.methodLink RX8 116 yX8_nameHere, Cond.instanceMethod yX8_nameHere, Cond.selects RX8 yX8_nameHere yX8_nameHere, Cond.initialized RX8, Cond.code yX8_nameHere cX8_nameHere 4 (some .int), Cond.fieldLink RX8 78 "FrameWalksModel" "spot" "I", Cond.fieldLink RX8 69 "FrameWalksModel" "here" "I", Cond.fieldLink RX8 16 "FrameWalksModel" "ends" "[I", Cond.fieldLink RX8 19 "FrameWalksModel" "letters" "[I", Cond.methodLink RX8 81 yX8_byteAt, Cond.instanceMethod yX8_byteAt, Cond.selects RX8 yX8_byteAt yX8_byteAt, Cond.code yX8_byteAt cX8_byteAt 2 (some .int), Cond.fieldLink RX8 62 "FrameWalksModel" "taped" "I", Cond.fieldLink RX8 13 "FrameWalksModel" "tape" "[I", Cond.methodLink RX8 96 yX8_fails, Cond.instanceMethod yX8_fails, Cond.selects RX8 yX8_fails yX8_fails, Cond.code yX8_fails cX8_fails 2 none, Cond.fieldLink RX8 72 "FrameWalksModel" "brokenAt" "I"]
def wsX8_readLine_r2 : List Cond := [Cond.methodLink RX8 120 yX8_readRoutine, Cond.instanceMethod yX8_readRoutine, Cond.selects RX8 yX8_readRoutine yX8_readRoutine, Cond.code yX8_readRoutine cX8_readRoutine 4 none, Cond.fieldLink RX8 7 "FrameWalksModel" "state" "[I", Cond.methodLink RX8 100 yX8_readsOn, Cond.instanceMethod yX8_readsOn, Cond.selects RX8 yX8_readsOn yX8_readsOn, Cond.code yX8_readsOn cX8_readsOn 2 none, Cond.fieldLink RX8 85 "FrameWalksModel" "value" "I", Cond.constantLong RX8 88 (97), Cond.constantLong RX8 90 (122), Cond.constantLong RX8 92 (48), Cond.constantLong RX8 94 (57), Cond.methodLink RX8 58 yX8_in, Cond.static yX8_in, Cond.code yX8_in cX8_in 6 (some .boolean), Cond.methodLink RX8 105 yX8_numberRead, Cond.instanceMethod yX8_numberRead, Cond.selects RX8 yX8_numberRead yX8_numberRead, Cond.code yX8_numberRead cX8_numberRead 4 (some .int), Cond.methodLink RX8 127 yX8_readOp, Cond.instanceMethod yX8_readOp, Cond.selects RX8 yX8_readOp yX8_readOp]
def wsX8_readLine_r3 : List Cond := [Cond.code yX8_readOp cX8_readOp 4 none, Cond.constantLong RX8 109 (3), Cond.constantLong RX8 111 (5), Cond.methodLink RX8 113 yX8_registerRead, Cond.instanceMethod yX8_registerRead, Cond.selects RX8 yX8_registerRead yX8_registerRead, Cond.code yX8_registerRead cX8_registerRead 5 (some .int), Cond.constantLong RX8 103 (100), Cond.methodLink RX8 130 yX8_readLanding, Cond.instanceMethod yX8_readLanding, Cond.selects RX8 yX8_readLanding yX8_readLanding, Cond.code yX8_readLanding cX8_readLanding 4 none, Cond.methodLink RX8 133 yX8_readCall, Cond.instanceMethod yX8_readCall, Cond.selects RX8 yX8_readCall yX8_readCall, Cond.code yX8_readCall cX8_readCall 2 none]
def wsX8_readLine : List Cond := .code yX8_readLine cX8_readLine 2 none :: ((wsX8_readLine_r1 ++ (wsX8_readLine_r2 ++ wsX8_readLine_r3)) ++ wsX80)
def wsX8_isApart : List Cond := .code yX8_isApart cX8_isApart 5 (some .boolean) :: ([.fieldLink RX8 7 "FrameWalksModel" "state" "[I"] ++ wsX80)
def wsX8_text_r1 : List Cond := [Cond.fieldLink RX8 66 "FrameWalksModel" "broken" "I", Cond.fieldLink RX8 78 "FrameWalksModel" "spot" "I", Cond.fieldLink RX8 7 "FrameWalksModel" "state" "[I", Cond.fieldLink RX8 75 "FrameWalksModel" "token" "I", Cond.fieldLink RX8 62 "FrameWalksModel" "taped" "I", Cond.fieldLink RX8 143 "FrameWalksModel" "fault" "I", Cond.fieldLink RX8 72 "FrameWalksModel" "brokenAt" "I", Cond.fieldLink RX8 146 "FrameWalksModel" "isWalked" "Z", Cond.fieldLink RX8 40 "FrameWalksModel" "isKept" "[Z", Cond.methodLink RX8 100 yX8_readsOn, Cond.instanceMethod yX8_readsOn, Cond.selects RX8 yX8_readsOn yX8_readsOn, Cond.initialized RX8, Cond.code yX8_readsOn cX8_readsOn 2 none, Cond.fieldLink RX8 69 "FrameWalksModel" "here" "I", Cond.fieldLink RX8 85 "FrameWalksModel" "value" "I", Cond.constantLong RX8 88 (97), Cond.constantLong RX8 90 (122), Cond.constantLong RX8 92 (48), Cond.constantLong RX8 94 (57), Cond.methodLink RX8 81 yX8_byteAt, Cond.instanceMethod yX8_byteAt, Cond.selects RX8 yX8_byteAt yX8_byteAt, Cond.code yX8_byteAt cX8_byteAt 2 (some .int)]
def wsX8_text_r2 : List Cond := [Cond.fieldLink RX8 13 "FrameWalksModel" "tape" "[I", Cond.methodLink RX8 58 yX8_in, Cond.static yX8_in, Cond.code yX8_in cX8_in 6 (some .boolean), Cond.methodLink RX8 96 yX8_fails, Cond.instanceMethod yX8_fails, Cond.selects RX8 yX8_fails yX8_fails, Cond.code yX8_fails cX8_fails 2 none, Cond.methodLink RX8 136 yX8_readLine, Cond.instanceMethod yX8_readLine, Cond.selects RX8 yX8_readLine yX8_readLine, Cond.code yX8_readLine cX8_readLine 2 none, Cond.constantLong RX8 123 (2), Cond.constantLong RX8 125 (9), Cond.methodLink RX8 116 yX8_nameHere, Cond.instanceMethod yX8_nameHere, Cond.selects RX8 yX8_nameHere yX8_nameHere, Cond.code yX8_nameHere cX8_nameHere 4 (some .int), Cond.fieldLink RX8 16 "FrameWalksModel" "ends" "[I", Cond.fieldLink RX8 19 "FrameWalksModel" "letters" "[I", Cond.methodLink RX8 120 yX8_readRoutine, Cond.instanceMethod yX8_readRoutine, Cond.selects RX8 yX8_readRoutine yX8_readRoutine, Cond.code yX8_readRoutine cX8_readRoutine 4 none]
def wsX8_text_r3 : List Cond := [Cond.methodLink RX8 105 yX8_numberRead, Cond.instanceMethod yX8_numberRead, Cond.selects RX8 yX8_numberRead yX8_numberRead, Cond.code yX8_numberRead cX8_numberRead 4 (some .int), Cond.methodLink RX8 127 yX8_readOp, Cond.instanceMethod yX8_readOp, Cond.selects RX8 yX8_readOp yX8_readOp, Cond.code yX8_readOp cX8_readOp 4 none, Cond.constantLong RX8 109 (3), Cond.constantLong RX8 111 (5), Cond.methodLink RX8 113 yX8_registerRead, Cond.instanceMethod yX8_registerRead, Cond.selects RX8 yX8_registerRead yX8_registerRead, Cond.code yX8_registerRead cX8_registerRead 5 (some .int), Cond.constantLong RX8 103 (100), Cond.methodLink RX8 130 yX8_readLanding, Cond.instanceMethod yX8_readLanding, Cond.selects RX8 yX8_readLanding yX8_readLanding, Cond.code yX8_readLanding cX8_readLanding 4 none, Cond.methodLink RX8 133 yX8_readCall, Cond.instanceMethod yX8_readCall, Cond.selects RX8 yX8_readCall yX8_readCall, Cond.code yX8_readCall cX8_readCall 2 none, Cond.methodLink RX8 139 yX8_isApart]
def wsX8_text_r4 : List Cond := [Cond.instanceMethod yX8_isApart, Cond.selects RX8 yX8_isApart yX8_isApart, Cond.code yX8_isApart cX8_isApart 5 (some .boolean)]
def wsX8_text : List Cond := .code yX8_text cX8_text 3 (some .int) :: ((wsX8_text_r1 ++ (wsX8_text_r2 ++ (wsX8_text_r3 ++ wsX8_text_r4))) ++ wsX80)
def wsX8_fault : List Cond := .code yX8_fault cX8_fault 1 (some .int) :: ([.fieldLink RX8 143 "FrameWalksModel" "fault" "I"] ++ wsX80)
def wsX8_routines : List Cond := .code yX8_routines cX8_routines 1 (some .int) :: ([.fieldLink RX8 7 "FrameWalksModel" "state" "[I"] ++ wsX80)
def wsX8_isRoutine : List Cond := .code yX8_isRoutine cX8_isRoutine 2 (some .boolean) :: ([.methodLink RX8 150 yX8_routines, .instanceMethod yX8_routines, .selects RX8 yX8_routines yX8_routines, .initialized RX8, .code yX8_routines cX8_routines 1 (some .int), .fieldLink RX8 7 "FrameWalksModel" "state" "[I", .methodLink RX8 58 yX8_in, .static yX8_in, .code yX8_in cX8_in 6 (some .boolean)] ++ wsX80)
def wsX8_isOf : List Cond := .code yX8_isOf cX8_isOf 3 (some .boolean) :: ([.fieldLink RX8 7 "FrameWalksModel" "state" "[I", .methodLink RX8 58 yX8_in, .static yX8_in, .initialized RX8, .code yX8_in cX8_in 6 (some .boolean)] ++ wsX80)
def wsX8_whoseOf : List Cond := .code yX8_whoseOf cX8_whoseOf 3 (some .int) :: ([.methodLink RX8 150 yX8_routines, .instanceMethod yX8_routines, .selects RX8 yX8_routines yX8_routines, .initialized RX8, .code yX8_routines cX8_routines 1 (some .int), .fieldLink RX8 7 "FrameWalksModel" "state" "[I", .methodLink RX8 153 yX8_isOf, .instanceMethod yX8_isOf, .selects RX8 yX8_isOf yX8_isOf, .code yX8_isOf cX8_isOf 3 (some .boolean), .methodLink RX8 58 yX8_in, .static yX8_in, .code yX8_in cX8_in 6 (some .boolean)] ++ wsX80)
def wsX8_whose : List Cond := .code yX8_whose cX8_whose 2 (some .int) :: ([.methodLink RX8 157 yX8_whoseOf, .instanceMethod yX8_whoseOf, .selects RX8 yX8_whoseOf yX8_whoseOf, .initialized RX8, .code yX8_whoseOf cX8_whoseOf 3 (some .int), .methodLink RX8 150 yX8_routines, .instanceMethod yX8_routines, .selects RX8 yX8_routines yX8_routines, .code yX8_routines cX8_routines 1 (some .int), .fieldLink RX8 7 "FrameWalksModel" "state" "[I", .methodLink RX8 153 yX8_isOf, .instanceMethod yX8_isOf, .selects RX8 yX8_isOf yX8_isOf, .code yX8_isOf cX8_isOf 3 (some .boolean), .methodLink RX8 58 yX8_in, .static yX8_in, .code yX8_in cX8_in 6 (some .boolean)] ++ wsX80)
def wsX8_addresses : List Cond := .code yX8_addresses cX8_addresses 3 (some .int) :: ([.fieldLink RX8 7 "FrameWalksModel" "state" "[I", .methodLink RX8 150 yX8_routines, .instanceMethod yX8_routines, .selects RX8 yX8_routines yX8_routines, .initialized RX8, .code yX8_routines cX8_routines 1 (some .int)] ++ wsX80)
def wsX8_guessed : List Cond := .code yX8_guessed cX8_guessed 3 (some .int) :: ([.fieldLink RX8 160 "FrameWalksModel" "frameMany" "I", .fieldLink RX8 31 "FrameWalksModel" "cameBy" "[I"] ++ wsX80)
def wsX8_rule : List Cond := .code yX8_rule cX8_rule 2 (some .int) :: ([.constantLong RX8 163 (4), .constantLong RX8 165 (6), .fieldLink RX8 146 "FrameWalksModel" "isWalked" "Z", .fieldLink RX8 7 "FrameWalksModel" "state" "[I", .fieldLink RX8 160 "FrameWalksModel" "frameMany" "I", .fieldLink RX8 167 "FrameWalksModel" "ending" "I", .methodLink RX8 58 yX8_in, .static yX8_in, .initialized RX8, .code yX8_in cX8_in 6 (some .boolean), .methodLink RX8 170 yX8_guessed, .instanceMethod yX8_guessed, .selects RX8 yX8_guessed yX8_guessed, .code yX8_guessed cX8_guessed 3 (some .int), .fieldLink RX8 31 "FrameWalksModel" "cameBy" "[I", .methodLink RX8 173 yX8_addresses, .instanceMethod yX8_addresses, .selects RX8 yX8_addresses yX8_addresses, .code yX8_addresses cX8_addresses 3 (some .int), .methodLink RX8 150 yX8_routines, .instanceMethod yX8_routines, .selects RX8 yX8_routines yX8_routines, .code yX8_routines cX8_routines 1 (some .int)] ++ wsX80)
def wsX8_ofRoutine : List Cond := .code yX8_ofRoutine cX8_ofRoutine 5 (some .int) :: ([.fieldLink RX8 7 "FrameWalksModel" "state" "[I", .methodLink RX8 150 yX8_routines, .instanceMethod yX8_routines, .selects RX8 yX8_routines yX8_routines, .initialized RX8, .code yX8_routines cX8_routines 1 (some .int)] ++ wsX80)
def wsX8_routine : List Cond := .code yX8_routine cX8_routine 3 (some .int) :: ([.constantLong RX8 111 (5), .fieldLink RX8 7 "FrameWalksModel" "state" "[I", .methodLink RX8 176 yX8_isRoutine, .instanceMethod yX8_isRoutine, .selects RX8 yX8_isRoutine yX8_isRoutine, .initialized RX8, .code yX8_isRoutine cX8_isRoutine 2 (some .boolean), .methodLink RX8 150 yX8_routines, .instanceMethod yX8_routines, .selects RX8 yX8_routines yX8_routines, .code yX8_routines cX8_routines 1 (some .int), .methodLink RX8 58 yX8_in, .static yX8_in, .code yX8_in cX8_in 6 (some .boolean), .methodLink RX8 179 yX8_ofRoutine, .instanceMethod yX8_ofRoutine, .selects RX8 yX8_ofRoutine yX8_ofRoutine, .code yX8_ofRoutine cX8_ofRoutine 5 (some .int)] ++ wsX80)
def wsX8_op : List Cond := .code yX8_op cX8_op 3 (some .int) :: ([.fieldLink RX8 7 "FrameWalksModel" "state" "[I", .constantLong RX8 109 (3), .methodLink RX8 58 yX8_in, .static yX8_in, .initialized RX8, .code yX8_in cX8_in 6 (some .boolean)] ++ wsX80)
def wsX8_landing : List Cond := .code yX8_landing cX8_landing 3 (some .int) :: ([.fieldLink RX8 7 "FrameWalksModel" "state" "[I", .constantLong RX8 163 (4), .methodLink RX8 58 yX8_in, .static yX8_in, .initialized RX8, .code yX8_in cX8_in 6 (some .boolean)] ++ wsX80)
def wsX8_aheadOf : List Cond := .code yX8_aheadOf cX8_aheadOf 6 (some .int) :: ([.fieldLink RX8 7 "FrameWalksModel" "state" "[I"] ++ wsX80)
def wsX8_call : List Cond := .code yX8_call cX8_call 4 (some .int) :: ([.fieldLink RX8 7 "FrameWalksModel" "state" "[I", .constantLong RX8 123 (2), .methodLink RX8 58 yX8_in, .static yX8_in, .initialized RX8, .code yX8_in cX8_in 6 (some .boolean), .methodLink RX8 182 yX8_aheadOf, .instanceMethod yX8_aheadOf, .selects RX8 yX8_aheadOf yX8_aheadOf, .code yX8_aheadOf cX8_aheadOf 6 (some .int)] ++ wsX80)
def wsX8_begins : List Cond := .code yX8_begins cX8_begins 2 none :: ([.fieldLink RX8 22 "FrameWalksModel" "row" "[I"] ++ wsX80)
def wsX8_ruled : List Cond := .code yX8_ruled cX8_ruled 4 none :: ([.fieldLink RX8 22 "FrameWalksModel" "row" "[I"] ++ wsX80)
def wsX8_marks : List Cond := .code yX8_marks cX8_marks 2 none :: ([.fieldLink RX8 185 "FrameWalksModel" "laidMany" "I", .fieldLink RX8 25 "FrameWalksModel" "laid" "[I", .fieldLink RX8 22 "FrameWalksModel" "row" "[I"] ++ wsX80)
def wsX8_resets : List Cond := .code yX8_resets cX8_resets 2 none :: ([.fieldLink RX8 185 "FrameWalksModel" "laidMany" "I", .fieldLink RX8 22 "FrameWalksModel" "row" "[I", .fieldLink RX8 25 "FrameWalksModel" "laid" "[I", .methodLink RX8 188 yX8_begins, .instanceMethod yX8_begins, .selects RX8 yX8_begins yX8_begins, .initialized RX8, .code yX8_begins cX8_begins 2 none] ++ wsX80)
def wsX8_does : List Cond := .code yX8_does cX8_does 4 none :: ([.fieldLink RX8 7 "FrameWalksModel" "state" "[I", .fieldLink RX8 22 "FrameWalksModel" "row" "[I", .methodLink RX8 191 yX8_ruled, .instanceMethod yX8_ruled, .selects RX8 yX8_ruled yX8_ruled, .initialized RX8, .code yX8_ruled cX8_ruled 4 none, .methodLink RX8 195 yX8_marks, .instanceMethod yX8_marks, .selects RX8 yX8_marks yX8_marks, .code yX8_marks cX8_marks 2 none, .fieldLink RX8 185 "FrameWalksModel" "laidMany" "I", .fieldLink RX8 25 "FrameWalksModel" "laid" "[I", .methodLink RX8 198 yX8_resets, .instanceMethod yX8_resets, .selects RX8 yX8_resets yX8_resets, .code yX8_resets cX8_resets 2 none, .methodLink RX8 188 yX8_begins, .instanceMethod yX8_begins, .selects RX8 yX8_begins yX8_begins, .code yX8_begins cX8_begins 2 none] ++ wsX80)
def wsX8_rows_r1 : List Cond := [Cond.fieldLink RX8 7 "FrameWalksModel" "state" "[I", Cond.fieldLink RX8 185 "FrameWalksModel" "laidMany" "I", Cond.methodLink RX8 188 yX8_begins, Cond.instanceMethod yX8_begins, Cond.selects RX8 yX8_begins yX8_begins, Cond.initialized RX8, Cond.code yX8_begins cX8_begins 2 none, Cond.fieldLink RX8 22 "FrameWalksModel" "row" "[I", Cond.methodLink RX8 201 yX8_does, Cond.instanceMethod yX8_does, Cond.selects RX8 yX8_does yX8_does, Cond.code yX8_does cX8_does 4 none, Cond.methodLink RX8 191 yX8_ruled, Cond.instanceMethod yX8_ruled, Cond.selects RX8 yX8_ruled yX8_ruled, Cond.code yX8_ruled cX8_ruled 4 none, Cond.methodLink RX8 195 yX8_marks, Cond.instanceMethod yX8_marks, Cond.selects RX8 yX8_marks yX8_marks, Cond.code yX8_marks cX8_marks 2 none, Cond.fieldLink RX8 25 "FrameWalksModel" "laid" "[I", Cond.methodLink RX8 198 yX8_resets, Cond.instanceMethod yX8_resets, Cond.selects RX8 yX8_resets yX8_resets]
def wsX8_rows_r2 : List Cond := [Cond.code yX8_resets cX8_resets 2 none]
def wsX8_rows : List Cond := .code yX8_rows cX8_rows 5 none :: ((wsX8_rows_r1 ++ wsX8_rows_r2) ++ wsX80)
def wsX8_row_r1 : List Cond := [Cond.constantLong RX8 123 (2), Cond.fieldLink RX8 185 "FrameWalksModel" "laidMany" "I", Cond.fieldLink RX8 22 "FrameWalksModel" "row" "[I", Cond.methodLink RX8 58 yX8_in, Cond.static yX8_in, Cond.initialized RX8, Cond.code yX8_in cX8_in 6 (some .boolean), Cond.methodLink RX8 157 yX8_whoseOf, Cond.instanceMethod yX8_whoseOf, Cond.selects RX8 yX8_whoseOf yX8_whoseOf, Cond.code yX8_whoseOf cX8_whoseOf 3 (some .int), Cond.methodLink RX8 150 yX8_routines, Cond.instanceMethod yX8_routines, Cond.selects RX8 yX8_routines yX8_routines, Cond.code yX8_routines cX8_routines 1 (some .int), Cond.fieldLink RX8 7 "FrameWalksModel" "state" "[I", Cond.methodLink RX8 153 yX8_isOf, Cond.instanceMethod yX8_isOf, Cond.selects RX8 yX8_isOf yX8_isOf, Cond.code yX8_isOf cX8_isOf 3 (some .boolean), Cond.methodLink RX8 204 yX8_rows, Cond.instanceMethod yX8_rows, Cond.selects RX8 yX8_rows yX8_rows, Cond.code yX8_rows cX8_rows 5 none]
def wsX8_row_r2 : List Cond := [Cond.methodLink RX8 188 yX8_begins, Cond.instanceMethod yX8_begins, Cond.selects RX8 yX8_begins yX8_begins, Cond.code yX8_begins cX8_begins 2 none, Cond.methodLink RX8 201 yX8_does, Cond.instanceMethod yX8_does, Cond.selects RX8 yX8_does yX8_does, Cond.code yX8_does cX8_does 4 none, Cond.methodLink RX8 191 yX8_ruled, Cond.instanceMethod yX8_ruled, Cond.selects RX8 yX8_ruled yX8_ruled, Cond.code yX8_ruled cX8_ruled 4 none, Cond.methodLink RX8 195 yX8_marks, Cond.instanceMethod yX8_marks, Cond.selects RX8 yX8_marks yX8_marks, Cond.code yX8_marks cX8_marks 2 none, Cond.fieldLink RX8 25 "FrameWalksModel" "laid" "[I", Cond.methodLink RX8 198 yX8_resets, Cond.instanceMethod yX8_resets, Cond.selects RX8 yX8_resets yX8_resets, Cond.code yX8_resets cX8_resets 2 none]
def wsX8_row : List Cond := .code yX8_row cX8_row 4 (some .int) :: ((wsX8_row_r1 ++ wsX8_row_r2) ++ wsX80)
def wsX8_ruleOf_r1 : List Cond := [Cond.constantLong RX8 111 (5), Cond.fieldLink RX8 22 "FrameWalksModel" "row" "[I", Cond.methodLink RX8 58 yX8_in, Cond.static yX8_in, Cond.initialized RX8, Cond.code yX8_in cX8_in 6 (some .boolean), Cond.methodLink RX8 157 yX8_whoseOf, Cond.instanceMethod yX8_whoseOf, Cond.selects RX8 yX8_whoseOf yX8_whoseOf, Cond.code yX8_whoseOf cX8_whoseOf 3 (some .int), Cond.methodLink RX8 150 yX8_routines, Cond.instanceMethod yX8_routines, Cond.selects RX8 yX8_routines yX8_routines, Cond.code yX8_routines cX8_routines 1 (some .int), Cond.fieldLink RX8 7 "FrameWalksModel" "state" "[I", Cond.methodLink RX8 153 yX8_isOf, Cond.instanceMethod yX8_isOf, Cond.selects RX8 yX8_isOf yX8_isOf, Cond.code yX8_isOf cX8_isOf 3 (some .boolean), Cond.methodLink RX8 204 yX8_rows, Cond.instanceMethod yX8_rows, Cond.selects RX8 yX8_rows yX8_rows, Cond.code yX8_rows cX8_rows 5 none, Cond.fieldLink RX8 185 "FrameWalksModel" "laidMany" "I"]
def wsX8_ruleOf_r2 : List Cond := [Cond.methodLink RX8 188 yX8_begins, Cond.instanceMethod yX8_begins, Cond.selects RX8 yX8_begins yX8_begins, Cond.code yX8_begins cX8_begins 2 none, Cond.methodLink RX8 201 yX8_does, Cond.instanceMethod yX8_does, Cond.selects RX8 yX8_does yX8_does, Cond.code yX8_does cX8_does 4 none, Cond.methodLink RX8 191 yX8_ruled, Cond.instanceMethod yX8_ruled, Cond.selects RX8 yX8_ruled yX8_ruled, Cond.code yX8_ruled cX8_ruled 4 none, Cond.methodLink RX8 195 yX8_marks, Cond.instanceMethod yX8_marks, Cond.selects RX8 yX8_marks yX8_marks, Cond.code yX8_marks cX8_marks 2 none, Cond.fieldLink RX8 25 "FrameWalksModel" "laid" "[I", Cond.methodLink RX8 198 yX8_resets, Cond.instanceMethod yX8_resets, Cond.selects RX8 yX8_resets yX8_resets, Cond.code yX8_resets cX8_resets 2 none]
def wsX8_ruleOf : List Cond := .code yX8_ruleOf cX8_ruleOf 5 (some .int) :: ((wsX8_ruleOf_r1 ++ wsX8_ruleOf_r2) ++ wsX80)
def wsX8_becomes : List Cond := .code yX8_becomes cX8_becomes 5 (some .int) :: ([.constantLong RX8 208 (9999), .fieldLink RX8 7 "FrameWalksModel" "state" "[I", .methodLink RX8 58 yX8_in, .static yX8_in, .initialized RX8, .code yX8_in cX8_in 6 (some .boolean)] ++ wsX80)
def wsX8_isRegister : List Cond := .code yX8_isRegister cX8_isRegister 1 (some .boolean) :: ([.constantLong RX8 111 (5), .methodLink RX8 58 yX8_in, .static yX8_in, .initialized RX8, .code yX8_in cX8_in 6 (some .boolean)])
def wsX8_isWord : List Cond := .code yX8_isWord cX8_isWord 1 (some .boolean) :: ([.constantLong RX8 210 (47), .methodLink RX8 58 yX8_in, .static yX8_in, .initialized RX8, .code yX8_in cX8_in 6 (some .boolean)])
def wsX8_put : List Cond := .code yX8_put cX8_put 3 (some .int) :: ([.methodLink RX8 212 yX8_isRegister, .static yX8_isRegister, .initialized RX8, .code yX8_isRegister cX8_isRegister 1 (some .boolean), .constantLong RX8 111 (5), .methodLink RX8 58 yX8_in, .static yX8_in, .code yX8_in cX8_in 6 (some .boolean), .methodLink RX8 215 yX8_becomes, .instanceMethod yX8_becomes, .selects RX8 yX8_becomes yX8_becomes, .code yX8_becomes cX8_becomes 5 (some .int), .constantLong RX8 208 (9999), .fieldLink RX8 7 "FrameWalksModel" "state" "[I"] ++ wsX80)
def wsX8_poke : List Cond := .code yX8_poke cX8_poke 3 (some .int) :: ([.methodLink RX8 219 yX8_isWord, .static yX8_isWord, .initialized RX8, .code yX8_isWord cX8_isWord 1 (some .boolean), .constantLong RX8 210 (47), .methodLink RX8 58 yX8_in, .static yX8_in, .code yX8_in cX8_in 6 (some .boolean), .methodLink RX8 215 yX8_becomes, .instanceMethod yX8_becomes, .selects RX8 yX8_becomes yX8_becomes, .code yX8_becomes cX8_becomes 5 (some .int), .constantLong RX8 208 (9999), .fieldLink RX8 7 "FrameWalksModel" "state" "[I"] ++ wsX80)
def wsX8_get : List Cond := .code yX8_get cX8_get 2 (some .int) :: ([.fieldLink RX8 7 "FrameWalksModel" "state" "[I", .methodLink RX8 212 yX8_isRegister, .static yX8_isRegister, .initialized RX8, .code yX8_isRegister cX8_isRegister 1 (some .boolean), .constantLong RX8 111 (5), .methodLink RX8 58 yX8_in, .static yX8_in, .code yX8_in cX8_in 6 (some .boolean)] ++ wsX80)
def wsX8_peek : List Cond := .code yX8_peek cX8_peek 2 (some .int) :: ([.fieldLink RX8 7 "FrameWalksModel" "state" "[I", .methodLink RX8 219 yX8_isWord, .static yX8_isWord, .initialized RX8, .code yX8_isWord cX8_isWord 1 (some .boolean), .constantLong RX8 210 (47), .methodLink RX8 58 yX8_in, .static yX8_in, .code yX8_in cX8_in 6 (some .boolean)] ++ wsX80)
def wsX8_scoreOf : List Cond := .code yX8_scoreOf cX8_scoreOf 8 (some .int) :: ([.fieldLink RX8 7 "FrameWalksModel" "state" "[I", .methodLink RX8 157 yX8_whoseOf, .instanceMethod yX8_whoseOf, .selects RX8 yX8_whoseOf yX8_whoseOf, .initialized RX8, .code yX8_whoseOf cX8_whoseOf 3 (some .int), .methodLink RX8 150 yX8_routines, .instanceMethod yX8_routines, .selects RX8 yX8_routines yX8_routines, .code yX8_routines cX8_routines 1 (some .int), .methodLink RX8 153 yX8_isOf, .instanceMethod yX8_isOf, .selects RX8 yX8_isOf yX8_isOf, .code yX8_isOf cX8_isOf 3 (some .boolean), .methodLink RX8 58 yX8_in, .static yX8_in, .code yX8_in cX8_in 6 (some .boolean)] ++ wsX80)
def wsX8_bestOf : List Cond := .code yX8_bestOf cX8_bestOf 7 (some .int) :: ([.methodLink RX8 222 yX8_scoreOf, .instanceMethod yX8_scoreOf, .selects RX8 yX8_scoreOf yX8_scoreOf, .initialized RX8, .code yX8_scoreOf cX8_scoreOf 8 (some .int), .fieldLink RX8 7 "FrameWalksModel" "state" "[I", .methodLink RX8 157 yX8_whoseOf, .instanceMethod yX8_whoseOf, .selects RX8 yX8_whoseOf yX8_whoseOf, .code yX8_whoseOf cX8_whoseOf 3 (some .int), .methodLink RX8 150 yX8_routines, .instanceMethod yX8_routines, .selects RX8 yX8_routines yX8_routines, .code yX8_routines cX8_routines 1 (some .int), .methodLink RX8 153 yX8_isOf, .instanceMethod yX8_isOf, .selects RX8 yX8_isOf yX8_isOf, .code yX8_isOf cX8_isOf 3 (some .boolean), .methodLink RX8 58 yX8_in, .static yX8_in, .code yX8_in cX8_in 6 (some .boolean)] ++ wsX80)
def wsX8_guess_r1 : List Cond := [Cond.methodLink RX8 219 yX8_isWord, Cond.static yX8_isWord, Cond.initialized RX8, Cond.code yX8_isWord cX8_isWord 1 (some .boolean), Cond.constantLong RX8 210 (47), Cond.methodLink RX8 58 yX8_in, Cond.static yX8_in, Cond.code yX8_in cX8_in 6 (some .boolean), Cond.methodLink RX8 176 yX8_isRoutine, Cond.instanceMethod yX8_isRoutine, Cond.selects RX8 yX8_isRoutine yX8_isRoutine, Cond.code yX8_isRoutine cX8_isRoutine 2 (some .boolean), Cond.methodLink RX8 150 yX8_routines, Cond.instanceMethod yX8_routines, Cond.selects RX8 yX8_routines yX8_routines, Cond.code yX8_routines cX8_routines 1 (some .int), Cond.fieldLink RX8 7 "FrameWalksModel" "state" "[I", Cond.methodLink RX8 225 yX8_bestOf, Cond.instanceMethod yX8_bestOf, Cond.selects RX8 yX8_bestOf yX8_bestOf, Cond.code yX8_bestOf cX8_bestOf 7 (some .int), Cond.methodLink RX8 222 yX8_scoreOf, Cond.instanceMethod yX8_scoreOf, Cond.selects RX8 yX8_scoreOf yX8_scoreOf]
def wsX8_guess_r2 : List Cond := [Cond.code yX8_scoreOf cX8_scoreOf 8 (some .int), Cond.methodLink RX8 157 yX8_whoseOf, Cond.instanceMethod yX8_whoseOf, Cond.selects RX8 yX8_whoseOf yX8_whoseOf, Cond.code yX8_whoseOf cX8_whoseOf 3 (some .int), Cond.methodLink RX8 153 yX8_isOf, Cond.instanceMethod yX8_isOf, Cond.selects RX8 yX8_isOf yX8_isOf, Cond.code yX8_isOf cX8_isOf 3 (some .boolean)]
def wsX8_guess : List Cond := .code yX8_guess cX8_guess 6 (some .int) :: ((wsX8_guess_r1 ++ wsX8_guess_r2) ++ wsX80)
def wsX8_stands : List Cond := .code yX8_stands cX8_stands 5 none :: ([.fieldLink RX8 28 "FrameWalksModel" "frames" "[I", .fieldLink RX8 7 "FrameWalksModel" "state" "[I", .fieldLink RX8 37 "FrameWalksModel" "owners" "[I", .fieldLink RX8 31 "FrameWalksModel" "cameBy" "[I", .fieldLink RX8 34 "FrameWalksModel" "looked" "[I", .methodLink RX8 157 yX8_whoseOf, .instanceMethod yX8_whoseOf, .selects RX8 yX8_whoseOf yX8_whoseOf, .initialized RX8, .code yX8_whoseOf cX8_whoseOf 3 (some .int), .methodLink RX8 150 yX8_routines, .instanceMethod yX8_routines, .selects RX8 yX8_routines yX8_routines, .code yX8_routines cX8_routines 1 (some .int), .methodLink RX8 153 yX8_isOf, .instanceMethod yX8_isOf, .selects RX8 yX8_isOf yX8_isOf, .code yX8_isOf cX8_isOf 3 (some .boolean), .methodLink RX8 58 yX8_in, .static yX8_in, .code yX8_in cX8_in 6 (some .boolean)] ++ wsX80)
def wsX8_nextOf_r1 : List Cond := [Cond.fieldLink RX8 28 "FrameWalksModel" "frames" "[I", Cond.fieldLink RX8 37 "FrameWalksModel" "owners" "[I", Cond.fieldLink RX8 34 "FrameWalksModel" "looked" "[I", Cond.fieldLink RX8 22 "FrameWalksModel" "row" "[I", Cond.fieldLink RX8 7 "FrameWalksModel" "state" "[I", Cond.methodLink RX8 204 yX8_rows, Cond.instanceMethod yX8_rows, Cond.selects RX8 yX8_rows yX8_rows, Cond.initialized RX8, Cond.code yX8_rows cX8_rows 5 none, Cond.fieldLink RX8 185 "FrameWalksModel" "laidMany" "I", Cond.methodLink RX8 188 yX8_begins, Cond.instanceMethod yX8_begins, Cond.selects RX8 yX8_begins yX8_begins, Cond.code yX8_begins cX8_begins 2 none, Cond.methodLink RX8 201 yX8_does, Cond.instanceMethod yX8_does, Cond.selects RX8 yX8_does yX8_does, Cond.code yX8_does cX8_does 4 none, Cond.methodLink RX8 191 yX8_ruled, Cond.instanceMethod yX8_ruled, Cond.selects RX8 yX8_ruled yX8_ruled, Cond.code yX8_ruled cX8_ruled 4 none, Cond.methodLink RX8 195 yX8_marks]
def wsX8_nextOf_r2 : List Cond := [Cond.instanceMethod yX8_marks, Cond.selects RX8 yX8_marks yX8_marks, Cond.code yX8_marks cX8_marks 2 none, Cond.fieldLink RX8 25 "FrameWalksModel" "laid" "[I", Cond.methodLink RX8 198 yX8_resets, Cond.instanceMethod yX8_resets, Cond.selects RX8 yX8_resets yX8_resets, Cond.code yX8_resets cX8_resets 2 none, Cond.methodLink RX8 219 yX8_isWord, Cond.static yX8_isWord, Cond.code yX8_isWord cX8_isWord 1 (some .boolean), Cond.constantLong RX8 210 (47), Cond.methodLink RX8 58 yX8_in, Cond.static yX8_in, Cond.code yX8_in cX8_in 6 (some .boolean)]
def wsX8_nextOf : List Cond := .code yX8_nextOf cX8_nextOf 7 (some .int) :: ((wsX8_nextOf_r1 ++ wsX8_nextOf_r2) ++ wsX80)
def wsX8_isGuessed_r1 : List Cond := [Cond.fieldLink RX8 28 "FrameWalksModel" "frames" "[I", Cond.fieldLink RX8 37 "FrameWalksModel" "owners" "[I", Cond.fieldLink RX8 7 "FrameWalksModel" "state" "[I", Cond.methodLink RX8 225 yX8_bestOf, Cond.instanceMethod yX8_bestOf, Cond.selects RX8 yX8_bestOf yX8_bestOf, Cond.initialized RX8, Cond.code yX8_bestOf cX8_bestOf 7 (some .int), Cond.methodLink RX8 222 yX8_scoreOf, Cond.instanceMethod yX8_scoreOf, Cond.selects RX8 yX8_scoreOf yX8_scoreOf, Cond.code yX8_scoreOf cX8_scoreOf 8 (some .int), Cond.methodLink RX8 157 yX8_whoseOf, Cond.instanceMethod yX8_whoseOf, Cond.selects RX8 yX8_whoseOf yX8_whoseOf, Cond.code yX8_whoseOf cX8_whoseOf 3 (some .int), Cond.methodLink RX8 150 yX8_routines, Cond.instanceMethod yX8_routines, Cond.selects RX8 yX8_routines yX8_routines, Cond.code yX8_routines cX8_routines 1 (some .int), Cond.methodLink RX8 153 yX8_isOf, Cond.instanceMethod yX8_isOf, Cond.selects RX8 yX8_isOf yX8_isOf, Cond.code yX8_isOf cX8_isOf 3 (some .boolean)]
def wsX8_isGuessed_r2 : List Cond := [Cond.methodLink RX8 58 yX8_in, Cond.static yX8_in, Cond.code yX8_in cX8_in 6 (some .boolean)]
def wsX8_isGuessed : List Cond := .code yX8_isGuessed cX8_isGuessed 5 (some .boolean) :: ((wsX8_isGuessed_r1 ++ wsX8_isGuessed_r2) ++ wsX80)
def wsX8_walk_r1 : List Cond := [Cond.fieldLink RX8 28 "FrameWalksModel" "frames" "[I", Cond.fieldLink RX8 7 "FrameWalksModel" "state" "[I", Cond.fieldLink RX8 160 "FrameWalksModel" "frameMany" "I", Cond.fieldLink RX8 167 "FrameWalksModel" "ending" "I", Cond.fieldLink RX8 146 "FrameWalksModel" "isWalked" "Z", Cond.methodLink RX8 58 yX8_in, Cond.static yX8_in, Cond.initialized RX8, Cond.code yX8_in cX8_in 6 (some .boolean), Cond.methodLink RX8 229 yX8_stands, Cond.instanceMethod yX8_stands, Cond.selects RX8 yX8_stands yX8_stands, Cond.code yX8_stands cX8_stands 5 none, Cond.fieldLink RX8 37 "FrameWalksModel" "owners" "[I", Cond.fieldLink RX8 31 "FrameWalksModel" "cameBy" "[I", Cond.fieldLink RX8 34 "FrameWalksModel" "looked" "[I", Cond.methodLink RX8 157 yX8_whoseOf, Cond.instanceMethod yX8_whoseOf, Cond.selects RX8 yX8_whoseOf yX8_whoseOf, Cond.code yX8_whoseOf cX8_whoseOf 3 (some .int), Cond.methodLink RX8 150 yX8_routines, Cond.instanceMethod yX8_routines, Cond.selects RX8 yX8_routines yX8_routines, Cond.code yX8_routines cX8_routines 1 (some .int)]
def wsX8_walk_r2 : List Cond := [Cond.methodLink RX8 153 yX8_isOf, Cond.instanceMethod yX8_isOf, Cond.selects RX8 yX8_isOf yX8_isOf, Cond.code yX8_isOf cX8_isOf 3 (some .boolean), Cond.methodLink RX8 232 yX8_nextOf, Cond.instanceMethod yX8_nextOf, Cond.selects RX8 yX8_nextOf yX8_nextOf, Cond.code yX8_nextOf cX8_nextOf 7 (some .int), Cond.fieldLink RX8 22 "FrameWalksModel" "row" "[I", Cond.methodLink RX8 204 yX8_rows, Cond.instanceMethod yX8_rows, Cond.selects RX8 yX8_rows yX8_rows, Cond.code yX8_rows cX8_rows 5 none, Cond.fieldLink RX8 185 "FrameWalksModel" "laidMany" "I", Cond.methodLink RX8 188 yX8_begins, Cond.instanceMethod yX8_begins, Cond.selects RX8 yX8_begins yX8_begins, Cond.code yX8_begins cX8_begins 2 none, Cond.methodLink RX8 201 yX8_does, Cond.instanceMethod yX8_does, Cond.selects RX8 yX8_does yX8_does, Cond.code yX8_does cX8_does 4 none, Cond.methodLink RX8 191 yX8_ruled, Cond.instanceMethod yX8_ruled]
def wsX8_walk_r3 : List Cond := [Cond.selects RX8 yX8_ruled yX8_ruled, Cond.code yX8_ruled cX8_ruled 4 none, Cond.methodLink RX8 195 yX8_marks, Cond.instanceMethod yX8_marks, Cond.selects RX8 yX8_marks yX8_marks, Cond.code yX8_marks cX8_marks 2 none, Cond.fieldLink RX8 25 "FrameWalksModel" "laid" "[I", Cond.methodLink RX8 198 yX8_resets, Cond.instanceMethod yX8_resets, Cond.selects RX8 yX8_resets yX8_resets, Cond.code yX8_resets cX8_resets 2 none, Cond.methodLink RX8 219 yX8_isWord, Cond.static yX8_isWord, Cond.code yX8_isWord cX8_isWord 1 (some .boolean), Cond.constantLong RX8 210 (47), Cond.methodLink RX8 235 yX8_isGuessed, Cond.instanceMethod yX8_isGuessed, Cond.selects RX8 yX8_isGuessed yX8_isGuessed, Cond.code yX8_isGuessed cX8_isGuessed 5 (some .boolean), Cond.methodLink RX8 225 yX8_bestOf, Cond.instanceMethod yX8_bestOf, Cond.selects RX8 yX8_bestOf yX8_bestOf, Cond.code yX8_bestOf cX8_bestOf 7 (some .int), Cond.methodLink RX8 222 yX8_scoreOf]
def wsX8_walk_r4 : List Cond := [Cond.instanceMethod yX8_scoreOf, Cond.selects RX8 yX8_scoreOf yX8_scoreOf, Cond.code yX8_scoreOf cX8_scoreOf 8 (some .int)]
def wsX8_walk : List Cond := .code yX8_walk cX8_walk 4 (some .int) :: ((wsX8_walk_r1 ++ (wsX8_walk_r2 ++ (wsX8_walk_r3 ++ wsX8_walk_r4))) ++ wsX80)
def wsX8_isFrame : List Cond := .code yX8_isFrame cX8_isFrame 2 (some .boolean) :: ([.fieldLink RX8 146 "FrameWalksModel" "isWalked" "Z", .fieldLink RX8 160 "FrameWalksModel" "frameMany" "I", .methodLink RX8 58 yX8_in, .static yX8_in, .initialized RX8, .code yX8_in cX8_in 6 (some .boolean)] ++ wsX80)
def wsX8_frame : List Cond := .code yX8_frame cX8_frame 3 (some .int) :: ([.fieldLink RX8 28 "FrameWalksModel" "frames" "[I", .methodLink RX8 238 yX8_isFrame, .instanceMethod yX8_isFrame, .selects RX8 yX8_isFrame yX8_isFrame, .initialized RX8, .code yX8_isFrame cX8_isFrame 2 (some .boolean), .fieldLink RX8 146 "FrameWalksModel" "isWalked" "Z", .fieldLink RX8 160 "FrameWalksModel" "frameMany" "I", .methodLink RX8 58 yX8_in, .static yX8_in, .code yX8_in cX8_in 6 (some .boolean), .methodLink RX8 212 yX8_isRegister, .static yX8_isRegister, .code yX8_isRegister cX8_isRegister 1 (some .boolean), .constantLong RX8 111 (5)] ++ wsX80)
def wsX8_came : List Cond := .code yX8_came cX8_came 3 (some .int) :: ([.constantLong RX8 123 (2), .fieldLink RX8 37 "FrameWalksModel" "owners" "[I", .fieldLink RX8 34 "FrameWalksModel" "looked" "[I", .fieldLink RX8 31 "FrameWalksModel" "cameBy" "[I", .methodLink RX8 238 yX8_isFrame, .instanceMethod yX8_isFrame, .selects RX8 yX8_isFrame yX8_isFrame, .initialized RX8, .code yX8_isFrame cX8_isFrame 2 (some .boolean), .fieldLink RX8 146 "FrameWalksModel" "isWalked" "Z", .fieldLink RX8 160 "FrameWalksModel" "frameMany" "I", .methodLink RX8 58 yX8_in, .static yX8_in, .code yX8_in cX8_in 6 (some .boolean)] ++ wsX80)
def wsX8_isLandingOf : List Cond := .code yX8_isLandingOf cX8_isLandingOf 4 (some .boolean) :: ([.fieldLink RX8 7 "FrameWalksModel" "state" "[I", .fieldLink RX8 37 "FrameWalksModel" "owners" "[I", .fieldLink RX8 34 "FrameWalksModel" "looked" "[I", .methodLink RX8 58 yX8_in, .static yX8_in, .initialized RX8, .code yX8_in cX8_in 6 (some .boolean)] ++ wsX80)
def wsX8_catches : List Cond := .code yX8_catches cX8_catches 5 (some .int) :: ([.fieldLink RX8 7 "FrameWalksModel" "state" "[I", .methodLink RX8 241 yX8_isLandingOf, .instanceMethod yX8_isLandingOf, .selects RX8 yX8_isLandingOf yX8_isLandingOf, .initialized RX8, .code yX8_isLandingOf cX8_isLandingOf 4 (some .boolean), .fieldLink RX8 37 "FrameWalksModel" "owners" "[I", .fieldLink RX8 34 "FrameWalksModel" "looked" "[I", .methodLink RX8 58 yX8_in, .static yX8_in, .code yX8_in cX8_in 6 (some .boolean)] ++ wsX80)
def wsX8_catcher : List Cond := .code yX8_catcher cX8_catcher 3 (some .int) :: ([.fieldLink RX8 160 "FrameWalksModel" "frameMany" "I", .methodLink RX8 244 yX8_catches, .instanceMethod yX8_catches, .selects RX8 yX8_catches yX8_catches, .initialized RX8, .code yX8_catches cX8_catches 5 (some .int), .fieldLink RX8 7 "FrameWalksModel" "state" "[I", .methodLink RX8 241 yX8_isLandingOf, .instanceMethod yX8_isLandingOf, .selects RX8 yX8_isLandingOf yX8_isLandingOf, .code yX8_isLandingOf cX8_isLandingOf 4 (some .boolean), .fieldLink RX8 37 "FrameWalksModel" "owners" "[I", .fieldLink RX8 34 "FrameWalksModel" "looked" "[I", .methodLink RX8 58 yX8_in, .static yX8_in, .code yX8_in cX8_in 6 (some .boolean)] ++ wsX80)
def wsX8_caught : List Cond := .code yX8_caught cX8_caught 4 (some .int) :: ([.constantLong RX8 125 (9), .fieldLink RX8 146 "FrameWalksModel" "isWalked" "Z", .methodLink RX8 58 yX8_in, .static yX8_in, .initialized RX8, .code yX8_in cX8_in 6 (some .boolean), .methodLink RX8 247 yX8_catcher, .instanceMethod yX8_catcher, .selects RX8 yX8_catcher yX8_catcher, .code yX8_catcher cX8_catcher 3 (some .int), .fieldLink RX8 160 "FrameWalksModel" "frameMany" "I", .methodLink RX8 244 yX8_catches, .instanceMethod yX8_catches, .selects RX8 yX8_catches yX8_catches, .code yX8_catches cX8_catches 5 (some .int), .fieldLink RX8 7 "FrameWalksModel" "state" "[I", .methodLink RX8 241 yX8_isLandingOf, .instanceMethod yX8_isLandingOf, .selects RX8 yX8_isLandingOf yX8_isLandingOf, .code yX8_isLandingOf cX8_isLandingOf 4 (some .boolean), .fieldLink RX8 37 "FrameWalksModel" "owners" "[I", .fieldLink RX8 34 "FrameWalksModel" "looked" "[I"] ++ wsX80)
def wsX8_cleaned : List Cond := .code yX8_cleaned cX8_cleaned 7 (some .int) :: ([.constantLong RX8 125 (9), .fieldLink RX8 146 "FrameWalksModel" "isWalked" "Z", .fieldLink RX8 7 "FrameWalksModel" "state" "[I", .methodLink RX8 58 yX8_in, .static yX8_in, .initialized RX8, .code yX8_in cX8_in 6 (some .boolean), .methodLink RX8 247 yX8_catcher, .instanceMethod yX8_catcher, .selects RX8 yX8_catcher yX8_catcher, .code yX8_catcher cX8_catcher 3 (some .int), .fieldLink RX8 160 "FrameWalksModel" "frameMany" "I", .methodLink RX8 244 yX8_catches, .instanceMethod yX8_catches, .selects RX8 yX8_catches yX8_catches, .code yX8_catches cX8_catches 5 (some .int), .methodLink RX8 241 yX8_isLandingOf, .instanceMethod yX8_isLandingOf, .selects RX8 yX8_isLandingOf yX8_isLandingOf, .code yX8_isLandingOf cX8_isLandingOf 4 (some .boolean), .fieldLink RX8 37 "FrameWalksModel" "owners" "[I", .fieldLink RX8 34 "FrameWalksModel" "looked" "[I"] ++ wsX80)
def wsX8_move : List Cond := .code yX8_move cX8_move 5 (some .int) :: ([.constantLong RX8 250 (999), .fieldLink RX8 7 "FrameWalksModel" "state" "[I", .methodLink RX8 176 yX8_isRoutine, .instanceMethod yX8_isRoutine, .selects RX8 yX8_isRoutine yX8_isRoutine, .initialized RX8, .code yX8_isRoutine cX8_isRoutine 2 (some .boolean), .methodLink RX8 150 yX8_routines, .instanceMethod yX8_routines, .selects RX8 yX8_routines yX8_routines, .code yX8_routines cX8_routines 1 (some .int), .methodLink RX8 58 yX8_in, .static yX8_in, .code yX8_in cX8_in 6 (some .boolean), .methodLink RX8 139 yX8_isApart, .instanceMethod yX8_isApart, .selects RX8 yX8_isApart yX8_isApart, .code yX8_isApart cX8_isApart 5 (some .boolean)] ++ wsX80)
def wsX8_alter : List Cond := .code yX8_alter cX8_alter 6 (some .int) :: ([.fieldLink RX8 7 "FrameWalksModel" "state" "[I", .constantLong RX8 109 (3), .constantLong RX8 252 (99), .methodLink RX8 58 yX8_in, .static yX8_in, .initialized RX8, .code yX8_in cX8_in 6 (some .boolean), .methodLink RX8 212 yX8_isRegister, .static yX8_isRegister, .code yX8_isRegister cX8_isRegister 1 (some .boolean), .constantLong RX8 111 (5)] ++ wsX80)
def wsX8_copies : List Cond := .code yX8_copies cX8_copies 4 none :: ([.fieldLink RX8 7 "FrameWalksModel" "state" "[I"] ++ wsX80)
def wsX8_keep : List Cond := .code yX8_keep cX8_keep 3 (some .int) :: ([.fieldLink RX8 40 "FrameWalksModel" "isKept" "[Z", .methodLink RX8 58 yX8_in, .static yX8_in, .initialized RX8, .code yX8_in cX8_in 6 (some .boolean), .methodLink RX8 254 yX8_copies, .instanceMethod yX8_copies, .selects RX8 yX8_copies yX8_copies, .code yX8_copies cX8_copies 4 none, .fieldLink RX8 7 "FrameWalksModel" "state" "[I"] ++ wsX80)
def wsX8_back : List Cond := .code yX8_back cX8_back 2 (some .int) :: ([.fieldLink RX8 40 "FrameWalksModel" "isKept" "[Z", .fieldLink RX8 146 "FrameWalksModel" "isWalked" "Z", .methodLink RX8 58 yX8_in, .static yX8_in, .initialized RX8, .code yX8_in cX8_in 6 (some .boolean), .methodLink RX8 254 yX8_copies, .instanceMethod yX8_copies, .selects RX8 yX8_copies yX8_copies, .code yX8_copies cX8_copies 4 none, .fieldLink RX8 7 "FrameWalksModel" "state" "[I", .methodLink RX8 150 yX8_routines, .instanceMethod yX8_routines, .selects RX8 yX8_routines yX8_routines, .code yX8_routines cX8_routines 1 (some .int)] ++ wsX80)
def wsX8_sheet : List Cond := .code yX8_sheet cX8_sheet 5 (some .int) :: ([.constantLong RX8 109 (3), .constantLong RX8 123 (2), .fieldLink RX8 44 "FrameWalksModel" "lanes" "[I", .fieldLink RX8 47 "FrameWalksModel" "lengths" "[I", .fieldLink RX8 50 "FrameWalksModel" "cells" "[I", .methodLink RX8 58 yX8_in, .static yX8_in, .initialized RX8, .code yX8_in cX8_in 6 (some .boolean)] ++ wsX80)
def wsX8_lay : List Cond := .code yX8_lay cX8_lay 4 (some .int) :: ([.constantLong RX8 109 (3), .fieldLink RX8 44 "FrameWalksModel" "lanes" "[I", .fieldLink RX8 47 "FrameWalksModel" "lengths" "[I", .fieldLink RX8 50 "FrameWalksModel" "cells" "[I", .methodLink RX8 58 yX8_in, .static yX8_in, .initialized RX8, .code yX8_in cX8_in 6 (some .boolean)] ++ wsX80)
def wsX8_wordsAside : List Cond := .code yX8_wordsAside cX8_wordsAside 3 none :: ([.fieldLink RX8 7 "FrameWalksModel" "state" "[I", .fieldLink RX8 53 "FrameWalksModel" "aside" "[I"] ++ wsX80)
def wsX8_isPoked : List Cond := .code yX8_isPoked cX8_isPoked 5 (some .boolean) :: ([.constantLong RX8 210 (47), .methodLink RX8 58 yX8_in, .static yX8_in, .initialized RX8, .code yX8_in cX8_in 6 (some .boolean), .methodLink RX8 215 yX8_becomes, .instanceMethod yX8_becomes, .selects RX8 yX8_becomes yX8_becomes, .code yX8_becomes cX8_becomes 5 (some .int), .constantLong RX8 208 (9999), .fieldLink RX8 7 "FrameWalksModel" "state" "[I"] ++ wsX80)
def wsX8_read_r1 : List Cond := [Cond.constantLong RX8 109 (3), Cond.constantLong RX8 123 (2), Cond.constantLong RX8 257 (40), Cond.fieldLink RX8 44 "FrameWalksModel" "lanes" "[I", Cond.fieldLink RX8 47 "FrameWalksModel" "lengths" "[I", Cond.fieldLink RX8 50 "FrameWalksModel" "cells" "[I", Cond.fieldLink RX8 267 "FrameWalksModel" "torn" "I", Cond.methodLink RX8 58 yX8_in, Cond.static yX8_in, Cond.initialized RX8, Cond.code yX8_in cX8_in 6 (some .boolean), Cond.methodLink RX8 259 yX8_wordsAside, Cond.instanceMethod yX8_wordsAside, Cond.selects RX8 yX8_wordsAside yX8_wordsAside, Cond.code yX8_wordsAside cX8_wordsAside 3 none, Cond.fieldLink RX8 7 "FrameWalksModel" "state" "[I", Cond.fieldLink RX8 53 "FrameWalksModel" "aside" "[I", Cond.methodLink RX8 263 yX8_isPoked, Cond.instanceMethod yX8_isPoked, Cond.selects RX8 yX8_isPoked yX8_isPoked, Cond.code yX8_isPoked cX8_isPoked 5 (some .boolean), Cond.constantLong RX8 210 (47), Cond.methodLink RX8 215 yX8_becomes, Cond.instanceMethod yX8_becomes]
def wsX8_read_r2 : List Cond := [Cond.selects RX8 yX8_becomes yX8_becomes, Cond.code yX8_becomes cX8_becomes 5 (some .int), Cond.constantLong RX8 208 (9999)]
def wsX8_read : List Cond := .code yX8_read cX8_read 10 (some .int) :: ((wsX8_read_r1 ++ wsX8_read_r2) ++ wsX80)
def wsX8_torn : List Cond := .code yX8_torn cX8_torn 1 (some .int) :: ([.fieldLink RX8 267 "FrameWalksModel" "torn" "I"] ++ wsX80)
def wsX8_count : List Cond := .code yX8_count cX8_count 5 (some .int) :: ([.fieldLink RX8 7 "FrameWalksModel" "state" "[I", .fieldLink RX8 40 "FrameWalksModel" "isKept" "[Z", .fieldLink RX8 62 "FrameWalksModel" "taped" "I", .fieldLink RX8 44 "FrameWalksModel" "lanes" "[I", .fieldLink RX8 47 "FrameWalksModel" "lengths" "[I"] ++ wsX80)
def wsJ9_min_7cf53 : List Cond := .code yJ9_min_7cf53 cJ9_min_7cf53 2 (some .int) :: ([])
abbrev vwCl : List vw_C := [(RX0, TX0, 3), (RX1, TX1, 3), (RX2, TX2, 4), (RX3, TX3, 3), (RX4, TX4, 9), (RX5, TX5, 9), (RX6, TX6, 6), (RX7, TX7, 11), (RX8, TX8, 28)]
