-- ===== PART A: goes FIRST, ahead of the names: the tables' words, and 'selects' of the private methods out of them =====
/-- a private method of a class that the tables say can be made, by its rows of tables_1 -/
def lw_okq (q : MethodName × Nat) : Prop := (q.1.cls ≠ "java/lang/invoke/MethodHandle" ∧ q.1.cls ≠ "java/lang/invoke/VarHandle") ∧ Cond.instantiable q.1.cls q.2 ∈ tables_1 ∧ Cond.privateMethod q.1 ∈ tables_1 ∧ Cond.instanceMethod q.1 ∈ tables_1
theorem lw_p0 : lw_okq (⟨"LuckShoes$Changes", "forgetOldest", "()V"⟩, 6) := ⟨⟨by decide +kernel, by decide +kernel⟩, List.mem_of_getElem? (i := 252) (by decide +kernel), List.mem_of_getElem? (i := 449) (by decide +kernel), List.mem_of_getElem? (i := 450) (by decide +kernel)⟩
theorem lw_p1 : lw_okq (⟨"LuckShoes$Town", "lookBelow", "(I)V"⟩, 5) := ⟨⟨by decide +kernel, by decide +kernel⟩, List.mem_of_getElem? (i := 31) (by decide +kernel), List.mem_of_getElem? (i := 464) (by decide +kernel), List.mem_of_getElem? (i := 465) (by decide +kernel)⟩
theorem lw_p2 : lw_okq (⟨"LuckShoes$Law", "readLines", "()Z"⟩, 14) := ⟨⟨by decide +kernel, by decide +kernel⟩, List.mem_of_getElem? (i := 122) (by decide +kernel), List.mem_of_getElem? (i := 491) (by decide +kernel), List.mem_of_getElem? (i := 492) (by decide +kernel)⟩
theorem lw_p3 : lw_okq (⟨"LuckShoes$Law", "readLine", "()Z"⟩, 14) := ⟨⟨by decide +kernel, by decide +kernel⟩, List.mem_of_getElem? (i := 122) (by decide +kernel), List.mem_of_getElem? (i := 495) (by decide +kernel), List.mem_of_getElem? (i := 496) (by decide +kernel)⟩
theorem lw_p4 : lw_okq (⟨"LuckShoes$Law", "readJoined", "(II)Z"⟩, 14) := ⟨⟨by decide +kernel, by decide +kernel⟩, List.mem_of_getElem? (i := 122) (by decide +kernel), List.mem_of_getElem? (i := 499) (by decide +kernel), List.mem_of_getElem? (i := 500) (by decide +kernel)⟩
theorem lw_p5 : lw_okq (⟨"LuckShoes$Law", "readOperand", "(I)Z"⟩, 14) := ⟨⟨by decide +kernel, by decide +kernel⟩, List.mem_of_getElem? (i := 122) (by decide +kernel), List.mem_of_getElem? (i := 503) (by decide +kernel), List.mem_of_getElem? (i := 504) (by decide +kernel)⟩
theorem lw_p6 : lw_okq (⟨"LuckShoes$Law", "sign", "()I"⟩, 14) := ⟨⟨by decide +kernel, by decide +kernel⟩, List.mem_of_getElem? (i := 122) (by decide +kernel), List.mem_of_getElem? (i := 507) (by decide +kernel), List.mem_of_getElem? (i := 508) (by decide +kernel)⟩
theorem lw_p7 : lw_okq (⟨"LuckShoes$Law", "readNumber", "()V"⟩, 14) := ⟨⟨by decide +kernel, by decide +kernel⟩, List.mem_of_getElem? (i := 122) (by decide +kernel), List.mem_of_getElem? (i := 514) (by decide +kernel), List.mem_of_getElem? (i := 515) (by decide +kernel)⟩
theorem lw_p8 : lw_okq (⟨"LuckShoes$Law", "step", "(I)V"⟩, 14) := ⟨⟨by decide +kernel, by decide +kernel⟩, List.mem_of_getElem? (i := 122) (by decide +kernel), List.mem_of_getElem? (i := 518) (by decide +kernel), List.mem_of_getElem? (i := 519) (by decide +kernel)⟩
theorem lw_p9 : lw_okq (⟨"LuckShoes$Law", "took", "(I)Z"⟩, 14) := ⟨⟨by decide +kernel, by decide +kernel⟩, List.mem_of_getElem? (i := 122) (by decide +kernel), List.mem_of_getElem? (i := 525) (by decide +kernel), List.mem_of_getElem? (i := 526) (by decide +kernel)⟩
theorem lw_p10 : lw_okq (⟨"LuckShoes$Street", "sitting", "(II)I"⟩, 9) := ⟨⟨by decide +kernel, by decide +kernel⟩, List.mem_of_getElem? (i := 69) (by decide +kernel), List.mem_of_getElem? (i := 555) (by decide +kernel), List.mem_of_getElem? (i := 556) (by decide +kernel)⟩
theorem lw_p11 : lw_okq (⟨"LuckShoes$Law", "named", "(I)I"⟩, 14) := ⟨⟨by decide +kernel, by decide +kernel⟩, List.mem_of_getElem? (i := 122) (by decide +kernel), List.mem_of_getElem? (i := 569) (by decide +kernel), List.mem_of_getElem? (i := 570) (by decide +kernel)⟩
theorem lw_p12 : lw_okq (⟨"LuckShoes$Thought", "begin", "(LLuckShoes$World;)V"⟩, 5) := ⟨⟨by decide +kernel, by decide +kernel⟩, List.mem_of_getElem? (i := 191) (by decide +kernel), List.mem_of_getElem? (i := 587) (by decide +kernel), List.mem_of_getElem? (i := 588) (by decide +kernel)⟩
theorem lw_p13 : lw_okq (⟨"LuckShoes$Thought", "spend", "(LLuckShoes$World;I)V"⟩, 5) := ⟨⟨by decide +kernel, by decide +kernel⟩, List.mem_of_getElem? (i := 191) (by decide +kernel), List.mem_of_getElem? (i := 596) (by decide +kernel), List.mem_of_getElem? (i := 597) (by decide +kernel)⟩
theorem lw_p14 : lw_okq (⟨"LuckShoes$Street", "drink", "(LLuckShoes$Town;)V"⟩, 9) := ⟨⟨by decide +kernel, by decide +kernel⟩, List.mem_of_getElem? (i := 69) (by decide +kernel), List.mem_of_getElem? (i := 604) (by decide +kernel), List.mem_of_getElem? (i := 605) (by decide +kernel)⟩
theorem lw_p15 : lw_okq (⟨"LuckShoes$Street", "layDown", "()V"⟩, 9) := ⟨⟨by decide +kernel, by decide +kernel⟩, List.mem_of_getElem? (i := 69) (by decide +kernel), List.mem_of_getElem? (i := 609) (by decide +kernel), List.mem_of_getElem? (i := 610) (by decide +kernel)⟩
def lw_privs_1 : List (MethodName × Nat) := [(⟨"LuckShoes$Changes", "forgetOldest", "()V"⟩, 6), (⟨"LuckShoes$Town", "lookBelow", "(I)V"⟩, 5), (⟨"LuckShoes$Law", "readLines", "()Z"⟩, 14), (⟨"LuckShoes$Law", "readLine", "()Z"⟩, 14), (⟨"LuckShoes$Law", "readJoined", "(II)Z"⟩, 14), (⟨"LuckShoes$Law", "readOperand", "(I)Z"⟩, 14), (⟨"LuckShoes$Law", "sign", "()I"⟩, 14), (⟨"LuckShoes$Law", "readNumber", "()V"⟩, 14), (⟨"LuckShoes$Law", "step", "(I)V"⟩, 14), (⟨"LuckShoes$Law", "took", "(I)Z"⟩, 14), (⟨"LuckShoes$Street", "sitting", "(II)I"⟩, 9), (⟨"LuckShoes$Law", "named", "(I)I"⟩, 14), (⟨"LuckShoes$Thought", "begin", "(LLuckShoes$World;)V"⟩, 5), (⟨"LuckShoes$Thought", "spend", "(LLuckShoes$World;I)V"⟩, 5), (⟨"LuckShoes$Street", "drink", "(LLuckShoes$Town;)V"⟩, 9), (⟨"LuckShoes$Street", "layDown", "()V"⟩, 9)]
theorem lw_r1 : ∀ q ∈ lw_privs_1, lw_okq q := List.forall_mem_cons.mpr ⟨lw_p0, List.forall_mem_cons.mpr ⟨lw_p1, List.forall_mem_cons.mpr ⟨lw_p2, List.forall_mem_cons.mpr ⟨lw_p3, List.forall_mem_cons.mpr ⟨lw_p4, List.forall_mem_cons.mpr ⟨lw_p5, List.forall_mem_cons.mpr ⟨lw_p6, List.forall_mem_cons.mpr ⟨lw_p7, List.forall_mem_cons.mpr ⟨lw_p8, List.forall_mem_cons.mpr ⟨lw_p9, List.forall_mem_cons.mpr ⟨lw_p10, List.forall_mem_cons.mpr ⟨lw_p11, List.forall_mem_cons.mpr ⟨lw_p12, List.forall_mem_cons.mpr ⟨lw_p13, List.forall_mem_cons.mpr ⟨lw_p14, List.forall_mem_cons.mpr ⟨lw_p15, fun _ h => absurd h List.not_mem_nil⟩⟩⟩⟩⟩⟩⟩⟩⟩⟩⟩⟩⟩⟩⟩⟩
theorem lw_p16 : lw_okq (⟨"LuckShoes$Thought", "luckOrHas", "(I)I"⟩, 5) := ⟨⟨by decide +kernel, by decide +kernel⟩, List.mem_of_getElem? (i := 191) (by decide +kernel), List.mem_of_getElem? (i := 682) (by decide +kernel), List.mem_of_getElem? (i := 683) (by decide +kernel)⟩
theorem lw_p17 : lw_okq (⟨"LuckShoes$Thought", "hasBy", "(LLuckShoes$World;IIII)I"⟩, 5) := ⟨⟨by decide +kernel, by decide +kernel⟩, List.mem_of_getElem? (i := 191) (by decide +kernel), List.mem_of_getElem? (i := 699) (by decide +kernel), List.mem_of_getElem? (i := 700) (by decide +kernel)⟩
theorem lw_p18 : lw_okq (⟨"LuckShoes$Thought", "candidatesFor", "(LLuckShoes$World;I)I"⟩, 5) := ⟨⟨by decide +kernel, by decide +kernel⟩, List.mem_of_getElem? (i := 191) (by decide +kernel), List.mem_of_getElem? (i := 703) (by decide +kernel), List.mem_of_getElem? (i := 704) (by decide +kernel)⟩
theorem lw_p19 : lw_okq (⟨"LuckShoes$Thought", "firstWrongFromThen", "(LLuckShoes$World;[JII)I"⟩, 5) := ⟨⟨by decide +kernel, by decide +kernel⟩, List.mem_of_getElem? (i := 191) (by decide +kernel), List.mem_of_getElem? (i := 733) (by decide +kernel), List.mem_of_getElem? (i := 734) (by decide +kernel)⟩
theorem lw_p20 : lw_okq (⟨"LuckShoes$Bets", "add", "(J)V"⟩, 3) := ⟨⟨by decide +kernel, by decide +kernel⟩, List.mem_of_getElem? (i := 327) (by decide +kernel), List.mem_of_getElem? (i := 762) (by decide +kernel), List.mem_of_getElem? (i := 763) (by decide +kernel)⟩
theorem lw_p21 : lw_okq (⟨"LuckShoes$Turns", "bestFrom", "(LLuckShoes$World;I)I"⟩, 8) := ⟨⟨by decide +kernel, by decide +kernel⟩, List.mem_of_getElem? (i := 218) (by decide +kernel), List.mem_of_getElem? (i := 787) (by decide +kernel), List.mem_of_getElem? (i := 788) (by decide +kernel)⟩
theorem lw_p22 : lw_okq (⟨"LuckShoes$Turns", "difference", "(LLuckShoes$World;)I"⟩, 8) := ⟨⟨by decide +kernel, by decide +kernel⟩, List.mem_of_getElem? (i := 218) (by decide +kernel), List.mem_of_getElem? (i := 791) (by decide +kernel), List.mem_of_getElem? (i := 792) (by decide +kernel)⟩
theorem lw_p23 : lw_okq (⟨"LuckShoes$Turns", "matters", "(LLuckShoes$World;I)Z"⟩, 8) := ⟨⟨by decide +kernel, by decide +kernel⟩, List.mem_of_getElem? (i := 218) (by decide +kernel), List.mem_of_getElem? (i := 796) (by decide +kernel), List.mem_of_getElem? (i := 797) (by decide +kernel)⟩
theorem lw_p24 : lw_okq (⟨"LuckShoes$Bodies", "from", "(IIIII)I"⟩, 4) := ⟨⟨by decide +kernel, by decide +kernel⟩, List.mem_of_getElem? (i := 282) (by decide +kernel), List.mem_of_getElem? (i := 893) (by decide +kernel), List.mem_of_getElem? (i := 894) (by decide +kernel)⟩
theorem lw_p25 : lw_okq (⟨"LuckShoes$Bodies", "byShoe", "(IIII)I"⟩, 4) := ⟨⟨by decide +kernel, by decide +kernel⟩, List.mem_of_getElem? (i := 282) (by decide +kernel), List.mem_of_getElem? (i := 901) (by decide +kernel), List.mem_of_getElem? (i := 902) (by decide +kernel)⟩
theorem lw_p26 : lw_okq (⟨"LuckShoes$Bodies", "own", "(IIII)I"⟩, 4) := ⟨⟨by decide +kernel, by decide +kernel⟩, List.mem_of_getElem? (i := 282) (by decide +kernel), List.mem_of_getElem? (i := 905) (by decide +kernel), List.mem_of_getElem? (i := 906) (by decide +kernel)⟩
theorem lw_p27 : lw_okq (⟨"LuckShoes$Bodies", "byKind", "(IIIII)I"⟩, 4) := ⟨⟨by decide +kernel, by decide +kernel⟩, List.mem_of_getElem? (i := 282) (by decide +kernel), List.mem_of_getElem? (i := 909) (by decide +kernel), List.mem_of_getElem? (i := 910) (by decide +kernel)⟩
theorem lw_p28 : lw_okq (⟨"LuckShoesModel", "newOne", "(III)I"⟩, 45) := ⟨⟨by decide +kernel, by decide +kernel⟩, List.mem_of_getElem? (i := 993) (by decide +kernel), List.mem_of_getElem? (i := 1145) (by decide +kernel), List.mem_of_getElem? (i := 1146) (by decide +kernel)⟩
theorem lw_p29 : lw_okq (⟨"LuckShoesModel", "toldAt", "(II)I"⟩, 45) := ⟨⟨by decide +kernel, by decide +kernel⟩, List.mem_of_getElem? (i := 993) (by decide +kernel), List.mem_of_getElem? (i := 1157) (by decide +kernel), List.mem_of_getElem? (i := 1158) (by decide +kernel)⟩
theorem lw_p30 : lw_okq (⟨"LuckShoesModel", "isOf", "(II)Z"⟩, 45) := ⟨⟨by decide +kernel, by decide +kernel⟩, List.mem_of_getElem? (i := 993) (by decide +kernel), List.mem_of_getElem? (i := 1165) (by decide +kernel), List.mem_of_getElem? (i := 1166) (by decide +kernel)⟩
theorem lw_p31 : lw_okq (⟨"LuckShoesModel", "isOne", "(I)Z"⟩, 45) := ⟨⟨by decide +kernel, by decide +kernel⟩, List.mem_of_getElem? (i := 993) (by decide +kernel), List.mem_of_getElem? (i := 1169) (by decide +kernel), List.mem_of_getElem? (i := 1170) (by decide +kernel)⟩
def lw_privs_2 : List (MethodName × Nat) := [(⟨"LuckShoes$Thought", "luckOrHas", "(I)I"⟩, 5), (⟨"LuckShoes$Thought", "hasBy", "(LLuckShoes$World;IIII)I"⟩, 5), (⟨"LuckShoes$Thought", "candidatesFor", "(LLuckShoes$World;I)I"⟩, 5), (⟨"LuckShoes$Thought", "firstWrongFromThen", "(LLuckShoes$World;[JII)I"⟩, 5), (⟨"LuckShoes$Bets", "add", "(J)V"⟩, 3), (⟨"LuckShoes$Turns", "bestFrom", "(LLuckShoes$World;I)I"⟩, 8), (⟨"LuckShoes$Turns", "difference", "(LLuckShoes$World;)I"⟩, 8), (⟨"LuckShoes$Turns", "matters", "(LLuckShoes$World;I)Z"⟩, 8), (⟨"LuckShoes$Bodies", "from", "(IIIII)I"⟩, 4), (⟨"LuckShoes$Bodies", "byShoe", "(IIII)I"⟩, 4), (⟨"LuckShoes$Bodies", "own", "(IIII)I"⟩, 4), (⟨"LuckShoes$Bodies", "byKind", "(IIIII)I"⟩, 4), (⟨"LuckShoesModel", "newOne", "(III)I"⟩, 45), (⟨"LuckShoesModel", "toldAt", "(II)I"⟩, 45), (⟨"LuckShoesModel", "isOf", "(II)Z"⟩, 45), (⟨"LuckShoesModel", "isOne", "(I)Z"⟩, 45)]
theorem lw_r2 : ∀ q ∈ lw_privs_2, lw_okq q := List.forall_mem_cons.mpr ⟨lw_p16, List.forall_mem_cons.mpr ⟨lw_p17, List.forall_mem_cons.mpr ⟨lw_p18, List.forall_mem_cons.mpr ⟨lw_p19, List.forall_mem_cons.mpr ⟨lw_p20, List.forall_mem_cons.mpr ⟨lw_p21, List.forall_mem_cons.mpr ⟨lw_p22, List.forall_mem_cons.mpr ⟨lw_p23, List.forall_mem_cons.mpr ⟨lw_p24, List.forall_mem_cons.mpr ⟨lw_p25, List.forall_mem_cons.mpr ⟨lw_p26, List.forall_mem_cons.mpr ⟨lw_p27, List.forall_mem_cons.mpr ⟨lw_p28, List.forall_mem_cons.mpr ⟨lw_p29, List.forall_mem_cons.mpr ⟨lw_p30, List.forall_mem_cons.mpr ⟨lw_p31, fun _ h => absurd h List.not_mem_nil⟩⟩⟩⟩⟩⟩⟩⟩⟩⟩⟩⟩⟩⟩⟩⟩
theorem lw_p32 : lw_okq (⟨"LuckShoesModel", "get", "(II)I"⟩, 45) := ⟨⟨by decide +kernel, by decide +kernel⟩, List.mem_of_getElem? (i := 993) (by decide +kernel), List.mem_of_getElem? (i := 1176) (by decide +kernel), List.mem_of_getElem? (i := 1177) (by decide +kernel)⟩
theorem lw_p33 : lw_okq (⟨"LuckShoesModel", "becomes", "(III)V"⟩, 45) := ⟨⟨by decide +kernel, by decide +kernel⟩, List.mem_of_getElem? (i := 993) (by decide +kernel), List.mem_of_getElem? (i := 1180) (by decide +kernel), List.mem_of_getElem? (i := 1181) (by decide +kernel)⟩
theorem lw_p34 : lw_okq (⟨"LuckShoesModel", "isLine", "()Z"⟩, 45) := ⟨⟨by decide +kernel, by decide +kernel⟩, List.mem_of_getElem? (i := 993) (by decide +kernel), List.mem_of_getElem? (i := 1204) (by decide +kernel), List.mem_of_getElem? (i := 1205) (by decide +kernel)⟩
theorem lw_p35 : lw_okq (⟨"LuckShoesModel", "isE", "()Z"⟩, 45) := ⟨⟨by decide +kernel, by decide +kernel⟩, List.mem_of_getElem? (i := 993) (by decide +kernel), List.mem_of_getElem? (i := 1208) (by decide +kernel), List.mem_of_getElem? (i := 1209) (by decide +kernel)⟩
theorem lw_p36 : lw_okq (⟨"LuckShoesModel", "isA", "()Z"⟩, 45) := ⟨⟨by decide +kernel, by decide +kernel⟩, List.mem_of_getElem? (i := 993) (by decide +kernel), List.mem_of_getElem? (i := 1212) (by decide +kernel), List.mem_of_getElem? (i := 1213) (by decide +kernel)⟩
theorem lw_p37 : lw_okq (⟨"LuckShoesModel", "isB", "()Z"⟩, 45) := ⟨⟨by decide +kernel, by decide +kernel⟩, List.mem_of_getElem? (i := 993) (by decide +kernel), List.mem_of_getElem? (i := 1216) (by decide +kernel), List.mem_of_getElem? (i := 1217) (by decide +kernel)⟩
theorem lw_p38 : lw_okq (⟨"LuckShoesModel", "isS", "()Z"⟩, 45) := ⟨⟨by decide +kernel, by decide +kernel⟩, List.mem_of_getElem? (i := 993) (by decide +kernel), List.mem_of_getElem? (i := 1220) (by decide +kernel), List.mem_of_getElem? (i := 1221) (by decide +kernel)⟩
theorem lw_p39 : lw_okq (⟨"LuckShoesModel", "isP", "()Z"⟩, 45) := ⟨⟨by decide +kernel, by decide +kernel⟩, List.mem_of_getElem? (i := 993) (by decide +kernel), List.mem_of_getElem? (i := 1224) (by decide +kernel), List.mem_of_getElem? (i := 1225) (by decide +kernel)⟩
theorem lw_p40 : lw_okq (⟨"LuckShoesModel", "isO", "()Z"⟩, 45) := ⟨⟨by decide +kernel, by decide +kernel⟩, List.mem_of_getElem? (i := 993) (by decide +kernel), List.mem_of_getElem? (i := 1228) (by decide +kernel), List.mem_of_getElem? (i := 1229) (by decide +kernel)⟩
theorem lw_p41 : lw_okq (⟨"LuckShoesModel", "isDigit", "()Z"⟩, 45) := ⟨⟨by decide +kernel, by decide +kernel⟩, List.mem_of_getElem? (i := 993) (by decide +kernel), List.mem_of_getElem? (i := 1232) (by decide +kernel), List.mem_of_getElem? (i := 1233) (by decide +kernel)⟩
theorem lw_p42 : lw_okq (⟨"LuckShoesModel", "sign", "()I"⟩, 45) := ⟨⟨by decide +kernel, by decide +kernel⟩, List.mem_of_getElem? (i := 993) (by decide +kernel), List.mem_of_getElem? (i := 1236) (by decide +kernel), List.mem_of_getElem? (i := 1237) (by decide +kernel)⟩
theorem lw_p43 : lw_okq (⟨"LuckShoesModel", "codes", "(I)Z"⟩, 45) := ⟨⟨by decide +kernel, by decide +kernel⟩, List.mem_of_getElem? (i := 993) (by decide +kernel), List.mem_of_getElem? (i := 1240) (by decide +kernel), List.mem_of_getElem? (i := 1241) (by decide +kernel)⟩
theorem lw_p44 : lw_okq (⟨"LuckShoesModel", "is", "(I)Z"⟩, 45) := ⟨⟨by decide +kernel, by decide +kernel⟩, List.mem_of_getElem? (i := 993) (by decide +kernel), List.mem_of_getElem? (i := 1247) (by decide +kernel), List.mem_of_getElem? (i := 1248) (by decide +kernel)⟩
theorem lw_p45 : lw_okq (⟨"LuckShoesModel", "below", "(I)I"⟩, 45) := ⟨⟨by decide +kernel, by decide +kernel⟩, List.mem_of_getElem? (i := 993) (by decide +kernel), List.mem_of_getElem? (i := 1255) (by decide +kernel), List.mem_of_getElem? (i := 1256) (by decide +kernel)⟩
theorem lw_p46 : lw_okq (⟨"LuckShoesModel", "runsOut", "(I)I"⟩, 45) := ⟨⟨by decide +kernel, by decide +kernel⟩, List.mem_of_getElem? (i := 993) (by decide +kernel), List.mem_of_getElem? (i := 1262) (by decide +kernel), List.mem_of_getElem? (i := 1263) (by decide +kernel)⟩
theorem lw_p47 : lw_okq (⟨"LuckShoesModel", "byLaw", "(I)I"⟩, 45) := ⟨⟨by decide +kernel, by decide +kernel⟩, List.mem_of_getElem? (i := 993) (by decide +kernel), List.mem_of_getElem? (i := 1266) (by decide +kernel), List.mem_of_getElem? (i := 1267) (by decide +kernel)⟩
def lw_privs_3 : List (MethodName × Nat) := [(⟨"LuckShoesModel", "get", "(II)I"⟩, 45), (⟨"LuckShoesModel", "becomes", "(III)V"⟩, 45), (⟨"LuckShoesModel", "isLine", "()Z"⟩, 45), (⟨"LuckShoesModel", "isE", "()Z"⟩, 45), (⟨"LuckShoesModel", "isA", "()Z"⟩, 45), (⟨"LuckShoesModel", "isB", "()Z"⟩, 45), (⟨"LuckShoesModel", "isS", "()Z"⟩, 45), (⟨"LuckShoesModel", "isP", "()Z"⟩, 45), (⟨"LuckShoesModel", "isO", "()Z"⟩, 45), (⟨"LuckShoesModel", "isDigit", "()Z"⟩, 45), (⟨"LuckShoesModel", "sign", "()I"⟩, 45), (⟨"LuckShoesModel", "codes", "(I)Z"⟩, 45), (⟨"LuckShoesModel", "is", "(I)Z"⟩, 45), (⟨"LuckShoesModel", "below", "(I)I"⟩, 45), (⟨"LuckShoesModel", "runsOut", "(I)I"⟩, 45), (⟨"LuckShoesModel", "byLaw", "(I)I"⟩, 45)]
theorem lw_r3 : ∀ q ∈ lw_privs_3, lw_okq q := List.forall_mem_cons.mpr ⟨lw_p32, List.forall_mem_cons.mpr ⟨lw_p33, List.forall_mem_cons.mpr ⟨lw_p34, List.forall_mem_cons.mpr ⟨lw_p35, List.forall_mem_cons.mpr ⟨lw_p36, List.forall_mem_cons.mpr ⟨lw_p37, List.forall_mem_cons.mpr ⟨lw_p38, List.forall_mem_cons.mpr ⟨lw_p39, List.forall_mem_cons.mpr ⟨lw_p40, List.forall_mem_cons.mpr ⟨lw_p41, List.forall_mem_cons.mpr ⟨lw_p42, List.forall_mem_cons.mpr ⟨lw_p43, List.forall_mem_cons.mpr ⟨lw_p44, List.forall_mem_cons.mpr ⟨lw_p45, List.forall_mem_cons.mpr ⟨lw_p46, List.forall_mem_cons.mpr ⟨lw_p47, fun _ h => absurd h List.not_mem_nil⟩⟩⟩⟩⟩⟩⟩⟩⟩⟩⟩⟩⟩⟩⟩⟩
theorem lw_p48 : lw_okq (⟨"LuckShoesModel", "sitting", "(I)I"⟩, 45) := ⟨⟨by decide +kernel, by decide +kernel⟩, List.mem_of_getElem? (i := 993) (by decide +kernel), List.mem_of_getElem? (i := 1270) (by decide +kernel), List.mem_of_getElem? (i := 1271) (by decide +kernel)⟩
theorem lw_p49 : lw_okq (⟨"LuckShoesModel", "worked", "(II)I"⟩, 45) := ⟨⟨by decide +kernel, by decide +kernel⟩, List.mem_of_getElem? (i := 993) (by decide +kernel), List.mem_of_getElem? (i := 1274) (by decide +kernel), List.mem_of_getElem? (i := 1275) (by decide +kernel)⟩
theorem lw_p50 : lw_okq (⟨"LuckShoesModel", "keeps", "([I)V"⟩, 45) := ⟨⟨by decide +kernel, by decide +kernel⟩, List.mem_of_getElem? (i := 993) (by decide +kernel), List.mem_of_getElem? (i := 1290) (by decide +kernel), List.mem_of_getElem? (i := 1291) (by decide +kernel)⟩
theorem lw_p51 : lw_okq (⟨"LuckShoesModel", "goesOn", "(I)V"⟩, 45) := ⟨⟨by decide +kernel, by decide +kernel⟩, List.mem_of_getElem? (i := 993) (by decide +kernel), List.mem_of_getElem? (i := 1294) (by decide +kernel), List.mem_of_getElem? (i := 1295) (by decide +kernel)⟩
theorem lw_p52 : lw_okq (⟨"LuckShoesModel", "passes", "()V"⟩, 45) := ⟨⟨by decide +kernel, by decide +kernel⟩, List.mem_of_getElem? (i := 993) (by decide +kernel), List.mem_of_getElem? (i := 1298) (by decide +kernel), List.mem_of_getElem? (i := 1299) (by decide +kernel)⟩
theorem lw_p53 : lw_okq (⟨"LuckShoesModel", "has", "(I)I"⟩, 45) := ⟨⟨by decide +kernel, by decide +kernel⟩, List.mem_of_getElem? (i := 993) (by decide +kernel), List.mem_of_getElem? (i := 1302) (by decide +kernel), List.mem_of_getElem? (i := 1303) (by decide +kernel)⟩
theorem lw_p54 : lw_okq (⟨"LuckShoesModel", "laysBack", "([I)V"⟩, 45) := ⟨⟨by decide +kernel, by decide +kernel⟩, List.mem_of_getElem? (i := 993) (by decide +kernel), List.mem_of_getElem? (i := 1306) (by decide +kernel), List.mem_of_getElem? (i := 1307) (by decide +kernel)⟩
theorem lw_p55 : lw_okq (⟨"LuckShoesModel", "allLuck", "()I"⟩, 45) := ⟨⟨by decide +kernel, by decide +kernel⟩, List.mem_of_getElem? (i := 993) (by decide +kernel), List.mem_of_getElem? (i := 1314) (by decide +kernel), List.mem_of_getElem? (i := 1315) (by decide +kernel)⟩
theorem lw_p56 : lw_okq (⟨"LuckShoesModel", "luckiest", "()I"⟩, 45) := ⟨⟨by decide +kernel, by decide +kernel⟩, List.mem_of_getElem? (i := 993) (by decide +kernel), List.mem_of_getElem? (i := 1318) (by decide +kernel), List.mem_of_getElem? (i := 1319) (by decide +kernel)⟩
theorem lw_p57 : lw_okq (⟨"LuckShoesModel", "isAsThen", "()Z"⟩, 45) := ⟨⟨by decide +kernel, by decide +kernel⟩, List.mem_of_getElem? (i := 993) (by decide +kernel), List.mem_of_getElem? (i := 1326) (by decide +kernel), List.mem_of_getElem? (i := 1327) (by decide +kernel)⟩
theorem lw_p58 : lw_okq (⟨"LuckShoesModel", "comesTo", "(II)Z"⟩, 45) := ⟨⟨by decide +kernel, by decide +kernel⟩, List.mem_of_getElem? (i := 993) (by decide +kernel), List.mem_of_getElem? (i := 1343) (by decide +kernel), List.mem_of_getElem? (i := 1344) (by decide +kernel)⟩
theorem lw_p59 : lw_okq (⟨"LuckShoesModel", "measured", "(I)I"⟩, 45) := ⟨⟨by decide +kernel, by decide +kernel⟩, List.mem_of_getElem? (i := 993) (by decide +kernel), List.mem_of_getElem? (i := 1352) (by decide +kernel), List.mem_of_getElem? (i := 1353) (by decide +kernel)⟩
theorem lw_p60 : lw_okq (⟨"LuckShoesModel", "howMany", "(II)I"⟩, 45) := ⟨⟨by decide +kernel, by decide +kernel⟩, List.mem_of_getElem? (i := 993) (by decide +kernel), List.mem_of_getElem? (i := 1360) (by decide +kernel), List.mem_of_getElem? (i := 1361) (by decide +kernel)⟩
theorem lw_p61 : lw_okq (⟨"LuckShoesModel", "isHung", "(IIII)Z"⟩, 45) := ⟨⟨by decide +kernel, by decide +kernel⟩, List.mem_of_getElem? (i := 993) (by decide +kernel), List.mem_of_getElem? (i := 1364) (by decide +kernel), List.mem_of_getElem? (i := 1365) (by decide +kernel)⟩
theorem lw_p62 : lw_okq (⟨"LuckShoesModel", "shoesFor", "(II)I"⟩, 45) := ⟨⟨by decide +kernel, by decide +kernel⟩, List.mem_of_getElem? (i := 993) (by decide +kernel), List.mem_of_getElem? (i := 1368) (by decide +kernel), List.mem_of_getElem? (i := 1369) (by decide +kernel)⟩
theorem lw_p63 : lw_okq (⟨"LuckShoesModel", "noShorts", "(I)I"⟩, 45) := ⟨⟨by decide +kernel, by decide +kernel⟩, List.mem_of_getElem? (i := 993) (by decide +kernel), List.mem_of_getElem? (i := 1380) (by decide +kernel), List.mem_of_getElem? (i := 1381) (by decide +kernel)⟩
def lw_privs_4 : List (MethodName × Nat) := [(⟨"LuckShoesModel", "sitting", "(I)I"⟩, 45), (⟨"LuckShoesModel", "worked", "(II)I"⟩, 45), (⟨"LuckShoesModel", "keeps", "([I)V"⟩, 45), (⟨"LuckShoesModel", "goesOn", "(I)V"⟩, 45), (⟨"LuckShoesModel", "passes", "()V"⟩, 45), (⟨"LuckShoesModel", "has", "(I)I"⟩, 45), (⟨"LuckShoesModel", "laysBack", "([I)V"⟩, 45), (⟨"LuckShoesModel", "allLuck", "()I"⟩, 45), (⟨"LuckShoesModel", "luckiest", "()I"⟩, 45), (⟨"LuckShoesModel", "isAsThen", "()Z"⟩, 45), (⟨"LuckShoesModel", "comesTo", "(II)Z"⟩, 45), (⟨"LuckShoesModel", "measured", "(I)I"⟩, 45), (⟨"LuckShoesModel", "howMany", "(II)I"⟩, 45), (⟨"LuckShoesModel", "isHung", "(IIII)Z"⟩, 45), (⟨"LuckShoesModel", "shoesFor", "(II)I"⟩, 45), (⟨"LuckShoesModel", "noShorts", "(I)I"⟩, 45)]
theorem lw_r4 : ∀ q ∈ lw_privs_4, lw_okq q := List.forall_mem_cons.mpr ⟨lw_p48, List.forall_mem_cons.mpr ⟨lw_p49, List.forall_mem_cons.mpr ⟨lw_p50, List.forall_mem_cons.mpr ⟨lw_p51, List.forall_mem_cons.mpr ⟨lw_p52, List.forall_mem_cons.mpr ⟨lw_p53, List.forall_mem_cons.mpr ⟨lw_p54, List.forall_mem_cons.mpr ⟨lw_p55, List.forall_mem_cons.mpr ⟨lw_p56, List.forall_mem_cons.mpr ⟨lw_p57, List.forall_mem_cons.mpr ⟨lw_p58, List.forall_mem_cons.mpr ⟨lw_p59, List.forall_mem_cons.mpr ⟨lw_p60, List.forall_mem_cons.mpr ⟨lw_p61, List.forall_mem_cons.mpr ⟨lw_p62, List.forall_mem_cons.mpr ⟨lw_p63, fun _ h => absurd h List.not_mem_nil⟩⟩⟩⟩⟩⟩⟩⟩⟩⟩⟩⟩⟩⟩⟩⟩
theorem lw_p64 : lw_okq (⟨"LuckShoesModel", "unlike", "(II)I"⟩, 45) := ⟨⟨by decide +kernel, by decide +kernel⟩, List.mem_of_getElem? (i := 993) (by decide +kernel), List.mem_of_getElem? (i := 1384) (by decide +kernel), List.mem_of_getElem? (i := 1385) (by decide +kernel)⟩
theorem lw_p65 : lw_okq (⟨"LuckShoesModel", "under", "(III)I"⟩, 45) := ⟨⟨by decide +kernel, by decide +kernel⟩, List.mem_of_getElem? (i := 993) (by decide +kernel), List.mem_of_getElem? (i := 1392) (by decide +kernel), List.mem_of_getElem? (i := 1393) (by decide +kernel)⟩
theorem lw_p66 : lw_okq (⟨"LuckShoesModel", "atFirst", "(IIII)I"⟩, 45) := ⟨⟨by decide +kernel, by decide +kernel⟩, List.mem_of_getElem? (i := 993) (by decide +kernel), List.mem_of_getElem? (i := 1396) (by decide +kernel), List.mem_of_getElem? (i := 1397) (by decide +kernel)⟩
theorem lw_p67 : lw_okq (⟨"LuckShoesModel", "waysOf", "(I)I"⟩, 45) := ⟨⟨by decide +kernel, by decide +kernel⟩, List.mem_of_getElem? (i := 993) (by decide +kernel), List.mem_of_getElem? (i := 1404) (by decide +kernel), List.mem_of_getElem? (i := 1405) (by decide +kernel)⟩
theorem lw_p68 : lw_okq (⟨"LuckShoesModel", "above", "(II)J"⟩, 45) := ⟨⟨by decide +kernel, by decide +kernel⟩, List.mem_of_getElem? (i := 993) (by decide +kernel), List.mem_of_getElem? (i := 1408) (by decide +kernel), List.mem_of_getElem? (i := 1409) (by decide +kernel)⟩
theorem lw_p69 : lw_okq (⟨"LuckShoesModel", "below", "(II)J"⟩, 45) := ⟨⟨by decide +kernel, by decide +kernel⟩, List.mem_of_getElem? (i := 993) (by decide +kernel), List.mem_of_getElem? (i := 1412) (by decide +kernel), List.mem_of_getElem? (i := 1413) (by decide +kernel)⟩
theorem lw_p70 : lw_okq (⟨"LuckShoesModel", "turnFrom", "(III)I"⟩, 45) := ⟨⟨by decide +kernel, by decide +kernel⟩, List.mem_of_getElem? (i := 993) (by decide +kernel), List.mem_of_getElem? (i := 1428) (by decide +kernel), List.mem_of_getElem? (i := 1429) (by decide +kernel)⟩
theorem lw_p71 : lw_okq (⟨"LuckShoesModel", "more", "(II)I"⟩, 45) := ⟨⟨by decide +kernel, by decide +kernel⟩, List.mem_of_getElem? (i := 993) (by decide +kernel), List.mem_of_getElem? (i := 1432) (by decide +kernel), List.mem_of_getElem? (i := 1433) (by decide +kernel)⟩
theorem lw_p72 : lw_okq (⟨"LuckShoesModel", "turns", "(II)V"⟩, 45) := ⟨⟨by decide +kernel, by decide +kernel⟩, List.mem_of_getElem? (i := 993) (by decide +kernel), List.mem_of_getElem? (i := 1436) (by decide +kernel), List.mem_of_getElem? (i := 1437) (by decide +kernel)⟩
theorem lw_p73 : lw_okq (⟨"LuckShoesModel", "runsBy", "(III)I"⟩, 45) := ⟨⟨by decide +kernel, by decide +kernel⟩, List.mem_of_getElem? (i := 993) (by decide +kernel), List.mem_of_getElem? (i := 1481) (by decide +kernel), List.mem_of_getElem? (i := 1482) (by decide +kernel)⟩
theorem lw_p74 : lw_okq (⟨"LuckShoesModel", "ran", "(I)V"⟩, 45) := ⟨⟨by decide +kernel, by decide +kernel⟩, List.mem_of_getElem? (i := 993) (by decide +kernel), List.mem_of_getElem? (i := 1485) (by decide +kernel), List.mem_of_getElem? (i := 1486) (by decide +kernel)⟩
theorem lw_p75 : lw_okq (⟨"LuckShoesModel", "holdsBy", "(III)I"⟩, 45) := ⟨⟨by decide +kernel, by decide +kernel⟩, List.mem_of_getElem? (i := 993) (by decide +kernel), List.mem_of_getElem? (i := 1492) (by decide +kernel), List.mem_of_getElem? (i := 1493) (by decide +kernel)⟩
theorem lw_p76 : lw_okq (⟨"LuckShoesModel", "drinksBy", "(III)I"⟩, 45) := ⟨⟨by decide +kernel, by decide +kernel⟩, List.mem_of_getElem? (i := 993) (by decide +kernel), List.mem_of_getElem? (i := 1496) (by decide +kernel), List.mem_of_getElem? (i := 1497) (by decide +kernel)⟩
theorem lw_p77 : lw_okq (⟨"LuckShoesModel", "tells", "(III)I"⟩, 45) := ⟨⟨by decide +kernel, by decide +kernel⟩, List.mem_of_getElem? (i := 993) (by decide +kernel), List.mem_of_getElem? (i := 1500) (by decide +kernel), List.mem_of_getElem? (i := 1501) (by decide +kernel)⟩
theorem lw_p78 : lw_okq (⟨"LuckShoesModel", "isRow", "(I)Z"⟩, 45) := ⟨⟨by decide +kernel, by decide +kernel⟩, List.mem_of_getElem? (i := 993) (by decide +kernel), List.mem_of_getElem? (i := 1520) (by decide +kernel), List.mem_of_getElem? (i := 1521) (by decide +kernel)⟩
def lw_privs_5 : List (MethodName × Nat) := [(⟨"LuckShoesModel", "unlike", "(II)I"⟩, 45), (⟨"LuckShoesModel", "under", "(III)I"⟩, 45), (⟨"LuckShoesModel", "atFirst", "(IIII)I"⟩, 45), (⟨"LuckShoesModel", "waysOf", "(I)I"⟩, 45), (⟨"LuckShoesModel", "above", "(II)J"⟩, 45), (⟨"LuckShoesModel", "below", "(II)J"⟩, 45), (⟨"LuckShoesModel", "turnFrom", "(III)I"⟩, 45), (⟨"LuckShoesModel", "more", "(II)I"⟩, 45), (⟨"LuckShoesModel", "turns", "(II)V"⟩, 45), (⟨"LuckShoesModel", "runsBy", "(III)I"⟩, 45), (⟨"LuckShoesModel", "ran", "(I)V"⟩, 45), (⟨"LuckShoesModel", "holdsBy", "(III)I"⟩, 45), (⟨"LuckShoesModel", "drinksBy", "(III)I"⟩, 45), (⟨"LuckShoesModel", "tells", "(III)I"⟩, 45), (⟨"LuckShoesModel", "isRow", "(I)Z"⟩, 45)]
theorem lw_r5 : ∀ q ∈ lw_privs_5, lw_okq q := List.forall_mem_cons.mpr ⟨lw_p64, List.forall_mem_cons.mpr ⟨lw_p65, List.forall_mem_cons.mpr ⟨lw_p66, List.forall_mem_cons.mpr ⟨lw_p67, List.forall_mem_cons.mpr ⟨lw_p68, List.forall_mem_cons.mpr ⟨lw_p69, List.forall_mem_cons.mpr ⟨lw_p70, List.forall_mem_cons.mpr ⟨lw_p71, List.forall_mem_cons.mpr ⟨lw_p72, List.forall_mem_cons.mpr ⟨lw_p73, List.forall_mem_cons.mpr ⟨lw_p74, List.forall_mem_cons.mpr ⟨lw_p75, List.forall_mem_cons.mpr ⟨lw_p76, List.forall_mem_cons.mpr ⟨lw_p77, List.forall_mem_cons.mpr ⟨lw_p78, fun _ h => absurd h List.not_mem_nil⟩⟩⟩⟩⟩⟩⟩⟩⟩⟩⟩⟩⟩⟩⟩
def lw_privs : List (MethodName × Nat) := lw_privs_1 ++ (lw_privs_2 ++ (lw_privs_3 ++ (lw_privs_4 ++ (lw_privs_5))))
def lw_tbl : List Cond := k2_sels lw_privs ++ tables_1
theorem lw_privs_ok : ∀ q ∈ lw_privs, lw_okq q := by
  show ∀ q ∈ lw_privs_1 ++ (lw_privs_2 ++ (lw_privs_3 ++ (lw_privs_4 ++ (lw_privs_5)))), lw_okq q
  exact List.forall_mem_append.mpr ⟨lw_r1, List.forall_mem_append.mpr ⟨lw_r2, List.forall_mem_append.mpr ⟨lw_r3, List.forall_mem_append.mpr ⟨lw_r4, lw_r5⟩⟩⟩⟩
-- names
def RX0 : String := "LuckShoes$Bets"
def TX0 : u_T := fun k => match k with
  | 0 => ("LuckShoes$Bets", "above", "J", false)
  | 1 => ("LuckShoes$Bets", "below", "J", false)
  | _ => ("LuckShoes$Bets", "best", "I", false)
def tyX0 : Nat → FieldType := fun k => match k with
  | 0 => .long
  | 1 => .long
  | _ => .int
abbrev wsX00 : List Cond := u_ws RX0 TX0 3
theorem nmX0 : ∀ a, a < 3 → ∀ b, b < 3 → a ≠ b → (TX0 a).2.1 ≠ (TX0 b).2.1 := by decide +kernel
theorem tyX0_ok : ∀ k, k < 3 → parseFieldDescriptor (TX0 k).2.2.1 = some (tyX0 k) := by decide +kernel
abbrev cX0_init : ByteArray := prog_2_method_1_code
def yX0_init : MethodName := ⟨RX0, "<init>", "()V"⟩
abbrev cX0_read : ByteArray := prog_2_method_2_code
def yX0_read : MethodName := ⟨RX0, "read", "([JI)V"⟩
abbrev cX0_isSure : ByteArray := prog_2_method_3_code
def yX0_isSure : MethodName := ⟨RX0, "isSure", "()Z"⟩
abbrev cX0_add : ByteArray := prog_2_method_4_code
def yX0_add : MethodName := ⟨RX0, "add", "(J)V"⟩
abbrev cX0_commonDivisor : ByteArray := prog_2_method_5_code
def yX0_commonDivisor : MethodName := ⟨RX0, "commonDivisor", "(JJ)J"⟩
def RX1 : String := "LuckShoes$Bodies"
def TX1 : u_T := fun k => match k with
  | 0 => ("LuckShoes$Bodies", "count", "I", false)
  | 1 => ("LuckShoes$Bodies", "ran", "I", false)
  | 2 => ("LuckShoes$Bodies", "trace", "[I", true)
  | _ => ("LuckShoes$Bodies", "kinds", "[I", true)
def tyX1 : Nat → FieldType := fun k => match k with
  | 0 => .int
  | 1 => .int
  | 2 => .array .int
  | _ => .array .int
abbrev wsX10 : List Cond := u_ws RX1 TX1 4
theorem nmX1 : ∀ a, a < 4 → ∀ b, b < 4 → a ≠ b → (TX1 a).2.1 ≠ (TX1 b).2.1 := by decide +kernel
theorem tyX1_ok : ∀ k, k < 4 → parseFieldDescriptor (TX1 k).2.2.1 = some (tyX1 k) := by decide +kernel
abbrev cX1_init : ByteArray := prog_3_method_1_code
def yX1_init : MethodName := ⟨RX1, "<init>", "()V"⟩
abbrev cX1_isKind : ByteArray := prog_3_method_2_code
def yX1_isKind : MethodName := ⟨RX1, "isKind", "(I)Z"⟩
abbrev cX1_isUnder : ByteArray := prog_3_method_3_code
def yX1_isUnder : MethodName := ⟨RX1, "isUnder", "(II)Z"⟩
abbrev cX1_isBody : ByteArray := prog_3_method_4_code
def yX1_isBody : MethodName := ⟨RX1, "isBody", "(I)Z"⟩
abbrev cX1_kindOf : ByteArray := prog_3_method_5_code
def yX1_kindOf : MethodName := ⟨RX1, "kindOf", "(I)I"⟩
abbrev cX1_made : ByteArray := prog_3_method_6_code
def yX1_made : MethodName := ⟨RX1, "made", "(I)I"⟩
abbrev cX1_traced : ByteArray := prog_3_method_7_code
def yX1_traced : MethodName := ⟨RX1, "traced", "()I"⟩
abbrev cX1_acted : ByteArray := prog_3_method_8_code
def yX1_acted : MethodName := ⟨RX1, "acted", "(III)I"⟩
abbrev cX1_from : ByteArray := prog_3_method_9_code
def yX1_from : MethodName := ⟨RX1, "from", "(IIIII)I"⟩
abbrev cX1_own : ByteArray := prog_3_method_10_code
def yX1_own : MethodName := ⟨RX1, "own", "(IIII)I"⟩
abbrev cX1_byShoe : ByteArray := prog_3_method_11_code
def yX1_byShoe : MethodName := ⟨RX1, "byShoe", "(IIII)I"⟩
abbrev cX1_byKind : ByteArray := prog_3_method_12_code
def yX1_byKind : MethodName := ⟨RX1, "byKind", "(IIIII)I"⟩
def RX2 : String := "LuckShoes$Changes"
def TX2 : u_T := fun k => match k with
  | 0 => ("LuckShoes$Changes", "number", "[I", true)
  | 1 => ("LuckShoes$Changes", "what", "[I", true)
  | 2 => ("LuckShoes$Changes", "was", "[I", true)
  | 3 => ("LuckShoes$Changes", "becomes", "[I", true)
  | 4 => ("LuckShoes$Changes", "undoable", "I", false)
  | _ => ("LuckShoes$Changes", "all", "I", false)
def tyX2 : Nat → FieldType := fun k => match k with
  | 0 => .array .int
  | 1 => .array .int
  | 2 => .array .int
  | 3 => .array .int
  | 4 => .int
  | _ => .int
abbrev wsX20 : List Cond := u_ws RX2 TX2 6
theorem nmX2 : ∀ a, a < 6 → ∀ b, b < 6 → a ≠ b → (TX2 a).2.1 ≠ (TX2 b).2.1 := by decide +kernel
theorem tyX2_ok : ∀ k, k < 6 → parseFieldDescriptor (TX2 k).2.2.1 = some (tyX2 k) := by decide +kernel
abbrev cX2_init : ByteArray := prog_4_method_1_code
def yX2_init : MethodName := ⟨RX2, "<init>", "()V"⟩
abbrev cX2_note : ByteArray := prog_4_method_2_code
def yX2_note : MethodName := ⟨RX2, "note", "(IIII)V"⟩
abbrev cX2_forgetOldest : ByteArray := prog_4_method_3_code
def yX2_forgetOldest : MethodName := ⟨RX2, "forgetOldest", "()V"⟩
abbrev cX2_stepBack : ByteArray := prog_4_method_4_code
def yX2_stepBack : MethodName := ⟨RX2, "stepBack", "()I"⟩
abbrev cX2_stepOn : ByteArray := prog_4_method_5_code
def yX2_stepOn : MethodName := ⟨RX2, "stepOn", "()I"⟩
abbrev cX2_redoable : ByteArray := prog_4_method_6_code
def yX2_redoable : MethodName := ⟨RX2, "redoable", "()I"⟩
def RX3 : String := "LuckShoes$Law"
def TX3 : u_T := fun k => match k with
  | 0 => ("LuckShoes$Law", "fed", "I", false)
  | 1 => ("LuckShoes$Law", "tape", "[I", true)
  | 2 => ("LuckShoes$Law", "at", "I", false)
  | 3 => ("LuckShoes$Law", "draft", "[I", false)
  | 4 => ("LuckShoes$Law", "drafted", "I", false)
  | 5 => ("LuckShoes$Law", "steps", "[I", false)
  | 6 => ("LuckShoes$Law", "length", "I", false)
  | 7 => ("LuckShoes$Law", "stack", "[I", true)
  | 8 => ("LuckShoes$Law", "luck", "I", false)
  | 9 => ("LuckShoes$Law", "shoe", "I", false)
  | 10 => ("LuckShoes$Law", "drop", "I", false)
  | 11 => ("LuckShoes$Law", "people", "I", false)
  | 12 => ("LuckShoes$Law", "hour", "I", false)
  | _ => ("LuckShoes$Law", "cell", "I", false)
def tyX3 : Nat → FieldType := fun k => match k with
  | 0 => .int
  | 1 => .array .int
  | 2 => .int
  | 3 => .array .int
  | 4 => .int
  | 5 => .array .int
  | 6 => .int
  | 7 => .array .int
  | 8 => .int
  | 9 => .int
  | 10 => .int
  | 11 => .int
  | 12 => .int
  | _ => .int
abbrev wsX30 : List Cond := u_ws RX3 TX3 14
theorem nmX3 : ∀ a, a < 14 → ∀ b, b < 14 → a ≠ b → (TX3 a).2.1 ≠ (TX3 b).2.1 := by decide +kernel
theorem tyX3_ok : ∀ k, k < 14 → parseFieldDescriptor (TX3 k).2.2.1 = some (tyX3 k) := by decide +kernel
abbrev cX3_init : ByteArray := prog_5_method_1_code
def yX3_init : MethodName := ⟨RX3, "<init>", "()V"⟩
abbrev cX3_take : ByteArray := prog_5_method_2_code
def yX3_take : MethodName := ⟨RX3, "take", "(I)I"⟩
abbrev cX3_isTold : ByteArray := prog_5_method_3_code
def yX3_isTold : MethodName := ⟨RX3, "isTold", "()Z"⟩
abbrev cX3_read : ByteArray := prog_5_method_4_code
def yX3_read : MethodName := ⟨RX3, "read", "()I"⟩
abbrev cX3_readLines : ByteArray := prog_5_method_5_code
def yX3_readLines : MethodName := ⟨RX3, "readLines", "()Z"⟩
abbrev cX3_readLine : ByteArray := prog_5_method_6_code
def yX3_readLine : MethodName := ⟨RX3, "readLine", "()Z"⟩
abbrev cX3_readJoined : ByteArray := prog_5_method_7_code
def yX3_readJoined : MethodName := ⟨RX3, "readJoined", "(II)Z"⟩
abbrev cX3_readOperand : ByteArray := prog_5_method_8_code
def yX3_readOperand : MethodName := ⟨RX3, "readOperand", "(I)Z"⟩
abbrev cX3_readNumber : ByteArray := prog_5_method_9_code
def yX3_readNumber : MethodName := ⟨RX3, "readNumber", "()V"⟩
abbrev cX3_sign : ByteArray := prog_5_method_10_code
def yX3_sign : MethodName := ⟨RX3, "sign", "()I"⟩
abbrev cX3_took : ByteArray := prog_5_method_11_code
def yX3_took : MethodName := ⟨RX3, "took", "(I)Z"⟩
abbrev cX3_step : ByteArray := prog_5_method_12_code
def yX3_step : MethodName := ⟨RX3, "step", "(I)V"⟩
abbrev cX3_levelOf : ByteArray := prog_5_method_13_code
def yX3_levelOf : MethodName := ⟨RX3, "levelOf", "(I)I"⟩
abbrev cX3_isDigit : ByteArray := prog_5_method_14_code
def yX3_isDigit : MethodName := ⟨RX3, "isDigit", "(I)Z"⟩
abbrev cX3_isName : ByteArray := prog_5_method_15_code
def yX3_isName : MethodName := ⟨RX3, "isName", "(I)Z"⟩
abbrev cX3_gives : ByteArray := prog_5_method_16_code
def yX3_gives : MethodName := ⟨RX3, "gives", "(IIIIII)I"⟩
abbrev cX3_turned : ByteArray := prog_5_method_17_code
def yX3_turned : MethodName := ⟨RX3, "turned", "(II)I"⟩
abbrev cX3_named : ByteArray := prog_5_method_18_code
def yX3_named : MethodName := ⟨RX3, "named", "(I)I"⟩
abbrev cX3_joined : ByteArray := prog_5_method_19_code
def yX3_joined : MethodName := ⟨RX3, "joined", "(III)I"⟩
def RX4 : String := "LuckShoes$Shelves"
def TX4 : u_T := fun k => match k with
  | 0 => ("LuckShoes$Shelves", "holds", "[I", true)
  | 1 => ("LuckShoes$Shelves", "size", "[I", true)
  | _ => ("LuckShoes$Shelves", "rows", "[[J", true)
def tyX4 : Nat → FieldType := fun k => match k with
  | 0 => .array .int
  | 1 => .array .int
  | _ => .array (.array .long)
abbrev wsX40 : List Cond := u_ws RX4 TX4 3
theorem nmX4 : ∀ a, a < 3 → ∀ b, b < 3 → a ≠ b → (TX4 a).2.1 ≠ (TX4 b).2.1 := by decide +kernel
theorem tyX4_ok : ∀ k, k < 3 → parseFieldDescriptor (TX4 k).2.2.1 = some (tyX4 k) := by decide +kernel
abbrev cX4_init : ByteArray := prog_6_method_1_code
def yX4_init : MethodName := ⟨RX4, "<init>", "()V"⟩
abbrev cX4_isShelf : ByteArray := prog_6_method_2_code
def yX4_isShelf : MethodName := ⟨RX4, "isShelf", "(I)Z"⟩
abbrev cX4_isSort : ByteArray := prog_6_method_3_code
def yX4_isSort : MethodName := ⟨RX4, "isSort", "(I)Z"⟩
abbrev cX4_isEmpty : ByteArray := prog_6_method_4_code
def yX4_isEmpty : MethodName := ⟨RX4, "isEmpty", "(I)Z"⟩
abbrev cX4_isRow : ByteArray := prog_6_method_5_code
def yX4_isRow : MethodName := ⟨RX4, "isRow", "(I)Z"⟩
abbrev cX4_isRowOf : ByteArray := prog_6_method_6_code
def yX4_isRowOf : MethodName := ⟨RX4, "isRowOf", "(II)Z"⟩
abbrev cX4_clear : ByteArray := prog_6_method_7_code
def yX4_clear : MethodName := ⟨RX4, "clear", "(I)V"⟩
abbrev cX4_holdShoe : ByteArray := prog_6_method_8_code
def yX4_holdShoe : MethodName := ⟨RX4, "holdShoe", "(II)V"⟩
abbrev cX4_holdRow : ByteArray := prog_6_method_9_code
def yX4_holdRow : MethodName := ⟨RX4, "holdRow", "(III)V"⟩
abbrev cX4_refusal : ByteArray := prog_6_method_10_code
def yX4_refusal : MethodName := ⟨RX4, "refusal", "(II)I"⟩
abbrev cX4_refusalAt : ByteArray := prog_6_method_11_code
def yX4_refusalAt : MethodName := ⟨RX4, "refusalAt", "(II)I"⟩
abbrev cX4_hasPart : ByteArray := prog_6_method_12_code
def yX4_hasPart : MethodName := ⟨RX4, "hasPart", "(III)Z"⟩
abbrev cX4_lowest : ByteArray := prog_6_method_13_code
def yX4_lowest : MethodName := ⟨RX4, "lowest", "(IJ)J"⟩
def RX5 : String := "LuckShoes$Street"
def TX5 : u_T := fun k => match k with
  | 0 => ("LuckShoes$Street", "luck", "[I", true)
  | 1 => ("LuckShoes$Street", "shoe", "[I", true)
  | 2 => ("LuckShoes$Street", "cell", "[I", true)
  | 3 => ("LuckShoes$Street", "has", "[I", true)
  | 4 => ("LuckShoes$Street", "hour", "I", false)
  | 5 => ("LuckShoes$Street", "drunk", "I", false)
  | 6 => ("LuckShoes$Street", "ran", "I", false)
  | 7 => ("LuckShoes$Street", "changed", "Z", false)
  | _ => ("LuckShoes$Street", "comes", "[I", true)
def tyX5 : Nat → FieldType := fun k => match k with
  | 0 => .array .int
  | 1 => .array .int
  | 2 => .array .int
  | 3 => .array .int
  | 4 => .int
  | 5 => .int
  | 6 => .int
  | 7 => .boolean
  | _ => .array .int
abbrev wsX50 : List Cond := u_ws RX5 TX5 9
theorem nmX5 : ∀ a, a < 9 → ∀ b, b < 9 → a ≠ b → (TX5 a).2.1 ≠ (TX5 b).2.1 := by decide +kernel
theorem tyX5_ok : ∀ k, k < 9 → parseFieldDescriptor (TX5 k).2.2.1 = some (tyX5 k) := by decide +kernel
abbrev cX5_init : ByteArray := prog_7_method_1_code
def yX5_init : MethodName := ⟨RX5, "<init>", "()V"⟩
abbrev cX5_become : ByteArray := prog_7_method_2_code
def yX5_become : MethodName := ⟨RX5, "become", "(LLuckShoes$Street;I)V"⟩
abbrev cX5_poured : ByteArray := prog_7_method_3_code
def yX5_poured : MethodName := ⟨RX5, "poured", "(II)I"⟩
abbrev cX5_pass : ByteArray := prog_7_method_4_code
def yX5_pass : MethodName := ⟨RX5, "pass", "(LLuckShoes$Town;LLuckShoes$Law;)V"⟩
abbrev cX5_drink : ByteArray := prog_7_method_5_code
def yX5_drink : MethodName := ⟨RX5, "drink", "(LLuckShoes$Town;)V"⟩
abbrev cX5_layDown : ByteArray := prog_7_method_6_code
def yX5_layDown : MethodName := ⟨RX5, "layDown", "()V"⟩
abbrev cX5_outOf : ByteArray := prog_7_method_7_code
def yX5_outOf : MethodName := ⟨RX5, "outOf", "(LLuckShoes$Town;LLuckShoes$Law;I)I"⟩
abbrev cX5_withoutText : ByteArray := prog_7_method_8_code
def yX5_withoutText : MethodName := ⟨RX5, "withoutText", "(II)I"⟩
abbrev cX5_sitting : ByteArray := prog_7_method_9_code
def yX5_sitting : MethodName := ⟨RX5, "sitting", "(II)I"⟩
abbrev cX5_wholeLuck : ByteArray := prog_7_method_10_code
def yX5_wholeLuck : MethodName := ⟨RX5, "wholeLuck", "()I"⟩
abbrev cX5_luckiest : ByteArray := prog_7_method_11_code
def yX5_luckiest : MethodName := ⟨RX5, "luckiest", "()I"⟩
abbrev cX5_luckyCells : ByteArray := prog_7_method_12_code
def yX5_luckyCells : MethodName := ⟨RX5, "luckyCells", "()I"⟩
abbrev cX5_halve : ByteArray := prog_7_method_13_code
def yX5_halve : MethodName := ⟨RX5, "halve", "(II)V"⟩
abbrev cX5_wealth : ByteArray := prog_7_method_14_code
def yX5_wealth : MethodName := ⟨RX5, "wealth", "(II)I"⟩
def RX6 : String := "LuckShoes$Thought"
def TX6 : u_T := fun k => match k with
  | 0 => ("LuckShoes$Thought", "then", "LLuckShoes$Street;", true)
  | 1 => ("LuckShoes$Thought", "candidates", "[I", true)
  | 2 => ("LuckShoes$Thought", "whichShoes", "I", false)
  | 3 => ("LuckShoes$Thought", "seatHas", "I", false)
  | _ => ("LuckShoes$Thought", "leastFitting", "I", false)
def tyX6 : Nat → FieldType := fun k => match k with
  | 0 => .object "LuckShoes$Street"
  | 1 => .array .int
  | 2 => .int
  | 3 => .int
  | _ => .int
abbrev wsX60 : List Cond := u_ws RX6 TX6 5
theorem nmX6 : ∀ a, a < 5 → ∀ b, b < 5 → a ≠ b → (TX6 a).2.1 ≠ (TX6 b).2.1 := by decide +kernel
theorem tyX6_ok : ∀ k, k < 5 → parseFieldDescriptor (TX6 k).2.2.1 = some (tyX6 k) := by decide +kernel
abbrev cX6_init : ByteArray := prog_8_method_1_code
def yX6_init : MethodName := ⟨RX6, "<init>", "()V"⟩
abbrev cX6_begin : ByteArray := prog_8_method_2_code
def yX6_begin : MethodName := ⟨RX6, "begin", "(LLuckShoes$World;)V"⟩
abbrev cX6_spend : ByteArray := prog_8_method_3_code
def yX6_spend : MethodName := ⟨RX6, "spend", "(LLuckShoes$World;I)V"⟩
abbrev cX6_behind : ByteArray := prog_8_method_4_code
def yX6_behind : MethodName := ⟨RX6, "behind", "(LLuckShoes$World;I)LLuckShoes$Street;"⟩
abbrev cX6_whenStill : ByteArray := prog_8_method_5_code
def yX6_whenStill : MethodName := ⟨RX6, "whenStill", "(LLuckShoes$World;)I"⟩
abbrev cX6_whenRich : ByteArray := prog_8_method_6_code
def yX6_whenRich : MethodName := ⟨RX6, "whenRich", "(LLuckShoes$World;II)I"⟩
abbrev cX6_more : ByteArray := prog_8_method_7_code
def yX6_more : MethodName := ⟨RX6, "more", "(LLuckShoes$World;IIII)I"⟩
abbrev cX6_luckOrHas : ByteArray := prog_8_method_8_code
def yX6_luckOrHas : MethodName := ⟨RX6, "luckOrHas", "(I)I"⟩
abbrev cX6_fewestShoes : ByteArray := prog_8_method_9_code
def yX6_fewestShoes : MethodName := ⟨RX6, "fewestShoes", "(LLuckShoes$World;III)I"⟩
abbrev cX6_candidatesFor : ByteArray := prog_8_method_10_code
def yX6_candidatesFor : MethodName := ⟨RX6, "candidatesFor", "(LLuckShoes$World;I)I"⟩
abbrev cX6_hasBy : ByteArray := prog_8_method_11_code
def yX6_hasBy : MethodName := ⟨RX6, "hasBy", "(LLuckShoes$World;IIII)I"⟩
abbrev cX6_bestSeat : ByteArray := prog_8_method_12_code
def yX6_bestSeat : MethodName := ⟨RX6, "bestSeat", "(LLuckShoes$World;II)I"⟩
abbrev cX6_firstWrong : ByteArray := prog_8_method_13_code
def yX6_firstWrong : MethodName := ⟨RX6, "firstWrong", "(LLuckShoes$World;[JII)I"⟩
abbrev cX6_firstWrongFromThen : ByteArray := prog_8_method_14_code
def yX6_firstWrongFromThen : MethodName := ⟨RX6, "firstWrongFromThen", "(LLuckShoes$World;[JII)I"⟩
abbrev cX6_fittingShoes : ByteArray := prog_8_method_15_code
def yX6_fittingShoes : MethodName := ⟨RX6, "fittingShoes", "(LLuckShoes$World;[JIII)I"⟩
abbrev cX6_fittingLucks : ByteArray := prog_8_method_16_code
def yX6_fittingLucks : MethodName := ⟨RX6, "fittingLucks", "(LLuckShoes$World;[JIII)I"⟩
abbrev cX6_byDraws : ByteArray := prog_8_method_17_code
def yX6_byDraws : MethodName := ⟨RX6, "byDraws", "(LLuckShoes$World;IIIII)I"⟩
def RX7 : String := "LuckShoes$Town"
def TX7 : u_T := fun k => match k with
  | 0 => ("LuckShoes$Town", "height", "[I", true)
  | 1 => ("LuckShoes$Town", "below", "[I", true)
  | 2 => ("LuckShoes$Town", "thirst", "[I", true)
  | 3 => ("LuckShoes$Town", "skin", "[I", true)
  | _ => ("LuckShoes$Town", "people", "I", false)
def tyX7 : Nat → FieldType := fun k => match k with
  | 0 => .array .int
  | 1 => .array .int
  | 2 => .array .int
  | 3 => .array .int
  | _ => .int
abbrev wsX70 : List Cond := u_ws RX7 TX7 5
theorem nmX7 : ∀ a, a < 5 → ∀ b, b < 5 → a ≠ b → (TX7 a).2.1 ≠ (TX7 b).2.1 := by decide +kernel
theorem tyX7_ok : ∀ k, k < 5 → parseFieldDescriptor (TX7 k).2.2.1 = some (tyX7 k) := by decide +kernel
abbrev cX7_init : ByteArray := prog_9_method_1_code
def yX7_init : MethodName := ⟨RX7, "<init>", "()V"⟩
abbrev cX7_isSink : ByteArray := prog_9_method_2_code
def yX7_isSink : MethodName := ⟨RX7, "isSink", "(I)Z"⟩
abbrev cX7_raise : ByteArray := prog_9_method_3_code
def yX7_raise : MethodName := ⟨RX7, "raise", "(II)V"⟩
abbrev cX7_lookBelow : ByteArray := prog_9_method_4_code
def yX7_lookBelow : MethodName := ⟨RX7, "lookBelow", "(I)V"⟩
abbrev cX7_beside : ByteArray := prog_9_method_5_code
def yX7_beside : MethodName := ⟨RX7, "beside", "(II)I"⟩
abbrev cX7_lowestFrom : ByteArray := prog_9_method_6_code
def yX7_lowestFrom : MethodName := ⟨RX7, "lowestFrom", "(I)I"⟩
abbrev cX7_stepsFrom : ByteArray := prog_9_method_7_code
def yX7_stepsFrom : MethodName := ⟨RX7, "stepsFrom", "(I)I"⟩
abbrev cX7_sinks : ByteArray := prog_9_method_8_code
def yX7_sinks : MethodName := ⟨RX7, "sinks", "()J"⟩
abbrev cX7_comeThrough : ByteArray := prog_9_method_9_code
def yX7_comeThrough : MethodName := ⟨RX7, "comeThrough", "(I)J"⟩
abbrev cX7_comesThrough : ByteArray := prog_9_method_10_code
def yX7_comesThrough : MethodName := ⟨RX7, "comesThrough", "(II)Z"⟩
abbrev cX7_steers : ByteArray := prog_9_method_11_code
def yX7_steers : MethodName := ⟨RX7, "steers", "(II)Z"⟩
def RX8 : String := "LuckShoes$Turns"
def TX8 : u_T := fun k => match k with
  | 0 => ("LuckShoes$Turns", "planned", "LLuckShoes$Street;", true)
  | 1 => ("LuckShoes$Turns", "then", "LLuckShoes$Street;", true)
  | 2 => ("LuckShoes$Turns", "first", "I", false)
  | 3 => ("LuckShoes$Turns", "second", "I", false)
  | 4 => ("LuckShoes$Turns", "row", "I", false)
  | 5 => ("LuckShoes$Turns", "turns", "I", false)
  | 6 => ("LuckShoes$Turns", "hours", "I", false)
  | _ => ("LuckShoes$Turns", "firstX", "I", false)
def tyX8 : Nat → FieldType := fun k => match k with
  | 0 => .object "LuckShoes$Street"
  | 1 => .object "LuckShoes$Street"
  | 2 => .int
  | 3 => .int
  | 4 => .int
  | 5 => .int
  | 6 => .int
  | _ => .int
abbrev wsX80 : List Cond := u_ws RX8 TX8 8
theorem nmX8 : ∀ a, a < 8 → ∀ b, b < 8 → a ≠ b → (TX8 a).2.1 ≠ (TX8 b).2.1 := by decide +kernel
theorem tyX8_ok : ∀ k, k < 8 → parseFieldDescriptor (TX8 k).2.2.1 = some (tyX8 k) := by decide +kernel
abbrev cX8_init : ByteArray := prog_10_method_1_code
def yX8_init : MethodName := ⟨RX8, "<init>", "()V"⟩
abbrev cX8_play : ByteArray := prog_10_method_2_code
def yX8_play : MethodName := ⟨RX8, "play", "(LLuckShoes$World;IIIII)I"⟩
abbrev cX8_bestFrom : ByteArray := prog_10_method_3_code
def yX8_bestFrom : MethodName := ⟨RX8, "bestFrom", "(LLuckShoes$World;I)I"⟩
abbrev cX8_matters : ByteArray := prog_10_method_4_code
def yX8_matters : MethodName := ⟨RX8, "matters", "(LLuckShoes$World;I)Z"⟩
abbrev cX8_difference : ByteArray := prog_10_method_5_code
def yX8_difference : MethodName := ⟨RX8, "difference", "(LLuckShoes$World;)I"⟩
def RX9 : String := "LuckShoes$World"
def TX9 : u_T := fun k => match k with
  | 0 => ("LuckShoes$World", "town", "LLuckShoes$Town;", true)
  | 1 => ("LuckShoes$World", "now", "LLuckShoes$Street;", true)
  | _ => ("LuckShoes$World", "law", "LLuckShoes$Law;", true)
def tyX9 : Nat → FieldType := fun k => match k with
  | 0 => .object "LuckShoes$Town"
  | 1 => .object "LuckShoes$Street"
  | _ => .object "LuckShoes$Law"
abbrev wsX90 : List Cond := u_ws RX9 TX9 3
theorem nmX9 : ∀ a, a < 3 → ∀ b, b < 3 → a ≠ b → (TX9 a).2.1 ≠ (TX9 b).2.1 := by decide +kernel
theorem tyX9_ok : ∀ k, k < 3 → parseFieldDescriptor (TX9 k).2.2.1 = some (tyX9 k) := by decide +kernel
abbrev cX9_init : ByteArray := prog_11_method_1_code
def yX9_init : MethodName := ⟨RX9, "<init>", "()V"⟩
abbrev cX9_isPerson : ByteArray := prog_11_method_2_code
def yX9_isPerson : MethodName := ⟨RX9, "isPerson", "(I)Z"⟩
abbrev cX9_isCrowded : ByteArray := prog_11_method_3_code
def yX9_isCrowded : MethodName := ⟨RX9, "isCrowded", "()Z"⟩
abbrev cX9_seated : ByteArray := prog_11_method_4_code
def yX9_seated : MethodName := ⟨RX9, "seated", "(III)I"⟩
abbrev cX9_admits : ByteArray := prog_11_method_5_code
def yX9_admits : MethodName := ⟨RX9, "admits", "([JI)Z"⟩
abbrev cX9_isWithin : ByteArray := prog_11_method_6_code
def yX9_isWithin : MethodName := ⟨RX9, "isWithin", "(II)Z"⟩
abbrev cX9_isNumber : ByteArray := prog_11_method_7_code
def yX9_isNumber : MethodName := ⟨RX9, "isNumber", "(II)Z"⟩
abbrev cX9_told : ByteArray := prog_11_method_8_code
def yX9_told : MethodName := ⟨RX9, "told", "(II)I"⟩
abbrev cX9_tell : ByteArray := prog_11_method_9_code
def yX9_tell : MethodName := ⟨RX9, "tell", "(III)V"⟩
def RX10 : String := "LuckShoes"
def TX10 : u_T := fun k => match k with
  | 0 => ("LuckShoes", "world", "LLuckShoes$World;", true)
  | 1 => ("LuckShoes", "thought", "LLuckShoes$Thought;", true)
  | 2 => ("LuckShoes", "turns", "LLuckShoes$Turns;", true)
  | 3 => ("LuckShoes", "changes", "LLuckShoes$Changes;", true)
  | 4 => ("LuckShoes", "bodies", "LLuckShoes$Bodies;", true)
  | 5 => ("LuckShoes", "shelves", "LLuckShoes$Shelves;", true)
  | 6 => ("LuckShoes", "bets", "LLuckShoes$Bets;", true)
  | 7 => ("LuckShoes", "led", "[I", true)
  | 8 => ("LuckShoes", "image", "LLuckShoes$Street;", true)
  | 9 => ("LuckShoes", "imageLed", "[I", true)
  | _ => ("LuckShoes", "imagePeople", "I", false)
def tyX10 : Nat → FieldType := fun k => match k with
  | 0 => .object "LuckShoes$World"
  | 1 => .object "LuckShoes$Thought"
  | 2 => .object "LuckShoes$Turns"
  | 3 => .object "LuckShoes$Changes"
  | 4 => .object "LuckShoes$Bodies"
  | 5 => .object "LuckShoes$Shelves"
  | 6 => .object "LuckShoes$Bets"
  | 7 => .array .int
  | 8 => .object "LuckShoes$Street"
  | 9 => .array .int
  | _ => .int
abbrev wsX100 : List Cond := u_ws RX10 TX10 11
theorem nmX10 : ∀ a, a < 11 → ∀ b, b < 11 → a ≠ b → (TX10 a).2.1 ≠ (TX10 b).2.1 := by decide +kernel
theorem tyX10_ok : ∀ k, k < 11 → parseFieldDescriptor (TX10 k).2.2.1 = some (tyX10 k) := by decide +kernel
abbrev cX10_init : ByteArray := prog_1_method_1_code
def yX10_init : MethodName := ⟨RX10, "<init>", "()V"⟩
abbrev cX10_person : ByteArray := prog_1_method_2_code
def yX10_person : MethodName := ⟨RX10, "person", "(I)I"⟩
abbrev cX10_people : ByteArray := prog_1_method_3_code
def yX10_people : MethodName := ⟨RX10, "people", "(III)I"⟩
abbrev cX10_mend : ByteArray := prog_1_method_4_code
def yX10_mend : MethodName := ⟨RX10, "mend", "(III)I"⟩
abbrev cX10_of : ByteArray := prog_1_method_5_code
def yX10_of : MethodName := ⟨RX10, "of", "(II)I"⟩
abbrev cX10_feed : ByteArray := prog_1_method_6_code
def yX10_feed : MethodName := ⟨RX10, "feed", "(I)I"⟩
abbrev cX10_law : ByteArray := prog_1_method_7_code
def yX10_law : MethodName := ⟨RX10, "law", "()I"⟩
abbrev cX10_runs : ByteArray := prog_1_method_8_code
def yX10_runs : MethodName := ⟨RX10, "runs", "(I)I"⟩
abbrev cX10_later : ByteArray := prog_1_method_9_code
def yX10_later : MethodName := ⟨RX10, "later", "(III)I"⟩
abbrev cX10_all : ByteArray := prog_1_method_10_code
def yX10_all : MethodName := ⟨RX10, "all", "(II)I"⟩
abbrev cX10_still : ByteArray := prog_1_method_11_code
def yX10_still : MethodName := ⟨RX10, "still", "()I"⟩
abbrev cX10_rich : ByteArray := prog_1_method_12_code
def yX10_rich : MethodName := ⟨RX10, "rich", "(II)I"⟩
abbrev cX10_sink : ByteArray := prog_1_method_13_code
def yX10_sink : MethodName := ⟨RX10, "sink", "(II)I"⟩
abbrev cX10_basin : ByteArray := prog_1_method_14_code
def yX10_basin : MethodName := ⟨RX10, "basin", "(I)J"⟩
abbrev cX10_fall : ByteArray := prog_1_method_15_code
def yX10_fall : MethodName := ⟨RX10, "fall", "(III)I"⟩
abbrev cX10_shoes : ByteArray := prog_1_method_16_code
def yX10_shoes : MethodName := ⟨RX10, "shoes", "(III)I"⟩
abbrev cX10_seat : ByteArray := prog_1_method_17_code
def yX10_seat : MethodName := ⟨RX10, "seat", "(III)I"⟩
abbrev cX10_judge : ByteArray := prog_1_method_18_code
def yX10_judge : MethodName := ⟨RX10, "judge", "(II)I"⟩
abbrev cX10_seen : ByteArray := prog_1_method_19_code
def yX10_seen : MethodName := ⟨RX10, "seen", "(III)I"⟩
abbrev cX10_bets : ByteArray := prog_1_method_20_code
def yX10_bets : MethodName := ⟨RX10, "bets", "(II)I"⟩
abbrev cX10_margin : ByteArray := prog_1_method_21_code
def yX10_margin : MethodName := ⟨RX10, "margin", "(II)J"⟩
abbrev cX10_byTurns : ByteArray := prog_1_method_22_code
def yX10_byTurns : MethodName := ⟨RX10, "byTurns", "(III)I"⟩
abbrev cX10_drawn : ByteArray := prog_1_method_23_code
def yX10_drawn : MethodName := ⟨RX10, "drawn", "(III)I"⟩
abbrev cX10_hour : ByteArray := prog_1_method_24_code
def yX10_hour : MethodName := ⟨RX10, "hour", "()I"⟩
abbrev cX10_pour : ByteArray := prog_1_method_25_code
def yX10_pour : MethodName := ⟨RX10, "pour", "(II)I"⟩
abbrev cX10_hang : ByteArray := prog_1_method_26_code
def yX10_hang : MethodName := ⟨RX10, "hang", "(II)I"⟩
abbrev cX10_moves : ByteArray := prog_1_method_27_code
def yX10_moves : MethodName := ⟨RX10, "moves", "(II)I"⟩
abbrev cX10_led : ByteArray := prog_1_method_28_code
def yX10_led : MethodName := ⟨RX10, "led", "(I)I"⟩
abbrev cX10_image : ByteArray := prog_1_method_29_code
def yX10_image : MethodName := ⟨RX10, "image", "()I"⟩
abbrev cX10_back : ByteArray := prog_1_method_30_code
def yX10_back : MethodName := ⟨RX10, "back", "()I"⟩
abbrev cX10_undo : ByteArray := prog_1_method_31_code
def yX10_undo : MethodName := ⟨RX10, "undo", "()I"⟩
abbrev cX10_redo : ByteArray := prog_1_method_32_code
def yX10_redo : MethodName := ⟨RX10, "redo", "()I"⟩
abbrev cX10_body : ByteArray := prog_1_method_33_code
def yX10_body : MethodName := ⟨RX10, "body", "(I)I"⟩
abbrev cX10_act : ByteArray := prog_1_method_34_code
def yX10_act : MethodName := ⟨RX10, "act", "(III)I"⟩
abbrev cX10_trace : ByteArray := prog_1_method_35_code
def yX10_trace : MethodName := ⟨RX10, "trace", "(I)I"⟩
abbrev cX10_keep : ByteArray := prog_1_method_36_code
def yX10_keep : MethodName := ⟨RX10, "keep", "(II)I"⟩
abbrev cX10_row : ByteArray := prog_1_method_37_code
def yX10_row : MethodName := ⟨RX10, "row", "(III)I"⟩
abbrev cX10_put : ByteArray := prog_1_method_38_code
def yX10_put : MethodName := ⟨RX10, "put", "(IIJ)I"⟩
abbrev cX10_element : ByteArray := prog_1_method_39_code
def yX10_element : MethodName := ⟨RX10, "element", "(II)J"⟩
abbrev cX10_shift : ByteArray := prog_1_method_40_code
def yX10_shift : MethodName := ⟨RX10, "shift", "(IIIII)I"⟩
abbrev cX10_taken : ByteArray := prog_1_method_41_code
def yX10_taken : MethodName := ⟨RX10, "taken", "(II)I"⟩
abbrev cX10_count : ByteArray := prog_1_method_42_code
def yX10_count : MethodName := ⟨RX10, "count", "(I)I"⟩
abbrev cX10_isCell : ByteArray := prog_1_method_43_code
def yX10_isCell : MethodName := ⟨RX10, "isCell", "(I)Z"⟩
abbrev cX10_isThinkable : ByteArray := prog_1_method_44_code
def yX10_isThinkable : MethodName := ⟨RX10, "isThinkable", "(I)Z"⟩
def RX11 : String := "LuckShoesModel"
def TX11 : u_T := fun k => match k with
  | 0 => ("LuckShoesModel", "height", "[I", true)
  | 1 => ("LuckShoesModel", "luck", "[I", true)
  | 2 => ("LuckShoesModel", "shoe", "[I", true)
  | 3 => ("LuckShoesModel", "people", "I", false)
  | 4 => ("LuckShoesModel", "ways", "[I", true)
  | 5 => ("LuckShoesModel", "hour", "I", false)
  | 6 => ("LuckShoesModel", "taped", "I", false)
  | 7 => ("LuckShoesModel", "tape", "[I", true)
  | 8 => ("LuckShoesModel", "isTold", "Z", false)
  | 9 => ("LuckShoesModel", "lines", "I", false)
  | 10 => ("LuckShoesModel", "asks", "[I", true)
  | 11 => ("LuckShoesModel", "says", "[I", true)
  | 12 => ("LuckShoesModel", "ends", "[I", true)
  | 13 => ("LuckShoesModel", "code", "[I", true)
  | 14 => ("LuckShoesModel", "at", "I", false)
  | 15 => ("LuckShoesModel", "open", "I", false)
  | 16 => ("LuckShoesModel", "coded", "I", false)
  | 17 => ("LuckShoesModel", "newLines", "I", false)
  | 18 => ("LuckShoesModel", "newAsks", "[I", true)
  | 19 => ("LuckShoesModel", "newSays", "[I", true)
  | 20 => ("LuckShoesModel", "newEnds", "[I", true)
  | 21 => ("LuckShoesModel", "newCode", "[I", true)
  | 22 => ("LuckShoesModel", "stack", "[I", true)
  | 23 => ("LuckShoesModel", "names", "[I", true)
  | 24 => ("LuckShoesModel", "led", "[I", true)
  | 25 => ("LuckShoesModel", "imaged", "Z", false)
  | 26 => ("LuckShoesModel", "oldPeople", "I", false)
  | 27 => ("LuckShoesModel", "old", "[I", true)
  | 28 => ("LuckShoesModel", "oldLed", "[I", true)
  | 29 => ("LuckShoesModel", "changes", "I", false)
  | 30 => ("LuckShoesModel", "done", "I", false)
  | 31 => ("LuckShoesModel", "changed", "[I", true)
  | 32 => ("LuckShoesModel", "bodies", "I", false)
  | 33 => ("LuckShoesModel", "bodyKind", "[I", true)
  | 34 => ("LuckShoesModel", "traced", "I", false)
  | 35 => ("LuckShoesModel", "traces", "[I", true)
  | 36 => ("LuckShoesModel", "holding", "[I", true)
  | 37 => ("LuckShoesModel", "rowLength", "[I", true)
  | 38 => ("LuckShoesModel", "rowOf", "[J", true)
  | 39 => ("LuckShoesModel", "out", "[I", true)
  | 40 => ("LuckShoesModel", "drunk", "I", false)
  | 41 => ("LuckShoesModel", "ran", "I", false)
  | 42 => ("LuckShoesModel", "was", "[I", true)
  | 43 => ("LuckShoesModel", "begun", "[I", true)
  | _ => ("LuckShoesModel", "then", "[I", true)
def tyX11 : Nat → FieldType := fun k => match k with
  | 0 => .array .int
  | 1 => .array .int
  | 2 => .array .int
  | 3 => .int
  | 4 => .array .int
  | 5 => .int
  | 6 => .int
  | 7 => .array .int
  | 8 => .boolean
  | 9 => .int
  | 10 => .array .int
  | 11 => .array .int
  | 12 => .array .int
  | 13 => .array .int
  | 14 => .int
  | 15 => .int
  | 16 => .int
  | 17 => .int
  | 18 => .array .int
  | 19 => .array .int
  | 20 => .array .int
  | 21 => .array .int
  | 22 => .array .int
  | 23 => .array .int
  | 24 => .array .int
  | 25 => .boolean
  | 26 => .int
  | 27 => .array .int
  | 28 => .array .int
  | 29 => .int
  | 30 => .int
  | 31 => .array .int
  | 32 => .int
  | 33 => .array .int
  | 34 => .int
  | 35 => .array .int
  | 36 => .array .int
  | 37 => .array .int
  | 38 => .array .long
  | 39 => .array .int
  | 40 => .int
  | 41 => .int
  | 42 => .array .int
  | 43 => .array .int
  | _ => .array .int
abbrev wsX110 : List Cond := u_ws RX11 TX11 45
theorem nmX11 : ∀ a, a < 45 → ∀ b, b < 45 → a ≠ b → (TX11 a).2.1 ≠ (TX11 b).2.1 := by decide +kernel
theorem tyX11_ok : ∀ k, k < 45 → parseFieldDescriptor (TX11 k).2.2.1 = some (tyX11 k) := by decide +kernel
abbrev cX11_init : ByteArray := prog_13_method_1_code
def yX11_init : MethodName := ⟨RX11, "<init>", "()V"⟩
abbrev cX11_within : ByteArray := prog_13_method_2_code
def yX11_within : MethodName := ⟨RX11, "within", "(III)Z"⟩
abbrev cX11_isCell : ByteArray := prog_13_method_3_code
def yX11_isCell : MethodName := ⟨RX11, "isCell", "(I)Z"⟩
abbrev cX11_isOne : ByteArray := prog_13_method_4_code
def yX11_isOne : MethodName := ⟨RX11, "isOne", "(I)Z"⟩
abbrev cX11_isTime : ByteArray := prog_13_method_5_code
def yX11_isTime : MethodName := ⟨RX11, "isTime", "(I)Z"⟩
abbrev cX11_isShelf : ByteArray := prog_13_method_6_code
def yX11_isShelf : MethodName := ⟨RX11, "isShelf", "(I)Z"⟩
abbrev cX11_newOne : ByteArray := prog_13_method_7_code
def yX11_newOne : MethodName := ⟨RX11, "newOne", "(III)I"⟩
abbrev cX11_person : ByteArray := prog_13_method_8_code
def yX11_person : MethodName := ⟨RX11, "person", "(I)I"⟩
abbrev cX11_people : ByteArray := prog_13_method_9_code
def yX11_people : MethodName := ⟨RX11, "people", "(III)I"⟩
abbrev cX11_toldAt : ByteArray := prog_13_method_10_code
def yX11_toldAt : MethodName := ⟨RX11, "toldAt", "(II)I"⟩
abbrev cX11_isOf : ByteArray := prog_13_method_11_code
def yX11_isOf : MethodName := ⟨RX11, "isOf", "(II)Z"⟩
abbrev cX11_isFit : ByteArray := prog_13_method_12_code
def yX11_isFit : MethodName := ⟨RX11, "isFit", "(II)Z"⟩
abbrev cX11_get : ByteArray := prog_13_method_13_code
def yX11_get : MethodName := ⟨RX11, "get", "(II)I"⟩
abbrev cX11_becomes : ByteArray := prog_13_method_14_code
def yX11_becomes : MethodName := ⟨RX11, "becomes", "(III)V"⟩
abbrev cX11_mend : ByteArray := prog_13_method_15_code
def yX11_mend : MethodName := ⟨RX11, "mend", "(III)I"⟩
abbrev cX11_of : ByteArray := prog_13_method_16_code
def yX11_of : MethodName := ⟨RX11, "of", "(II)I"⟩
abbrev cX11_undo : ByteArray := prog_13_method_17_code
def yX11_undo : MethodName := ⟨RX11, "undo", "()I"⟩
abbrev cX11_redo : ByteArray := prog_13_method_18_code
def yX11_redo : MethodName := ⟨RX11, "redo", "()I"⟩
abbrev cX11_feed : ByteArray := prog_13_method_19_code
def yX11_feed : MethodName := ⟨RX11, "feed", "(I)I"⟩
abbrev cX11_sign : ByteArray := prog_13_method_20_code
def yX11_sign : MethodName := ⟨RX11, "sign", "()I"⟩
abbrev cX11_is : ByteArray := prog_13_method_21_code
def yX11_is : MethodName := ⟨RX11, "is", "(I)Z"⟩
abbrev cX11_codes : ByteArray := prog_13_method_22_code
def yX11_codes : MethodName := ⟨RX11, "codes", "(I)Z"⟩
abbrev cX11_isDigit : ByteArray := prog_13_method_23_code
def yX11_isDigit : MethodName := ⟨RX11, "isDigit", "()Z"⟩
abbrev cX11_nameOf : ByteArray := prog_13_method_24_code
def yX11_nameOf : MethodName := ⟨RX11, "nameOf", "(I)I"⟩
abbrev cX11_isO : ByteArray := prog_13_method_25_code
def yX11_isO : MethodName := ⟨RX11, "isO", "()Z"⟩
abbrev cX11_isP : ByteArray := prog_13_method_26_code
def yX11_isP : MethodName := ⟨RX11, "isP", "()Z"⟩
abbrev cX11_isS : ByteArray := prog_13_method_27_code
def yX11_isS : MethodName := ⟨RX11, "isS", "()Z"⟩
abbrev cX11_isB : ByteArray := prog_13_method_28_code
def yX11_isB : MethodName := ⟨RX11, "isB", "()Z"⟩
abbrev cX11_isA : ByteArray := prog_13_method_29_code
def yX11_isA : MethodName := ⟨RX11, "isA", "()Z"⟩
abbrev cX11_isE : ByteArray := prog_13_method_30_code
def yX11_isE : MethodName := ⟨RX11, "isE", "()Z"⟩
abbrev cX11_isLine : ByteArray := prog_13_method_31_code
def yX11_isLine : MethodName := ⟨RX11, "isLine", "()Z"⟩
abbrev cX11_law : ByteArray := prog_13_method_32_code
def yX11_law : MethodName := ⟨RX11, "law", "()I"⟩
abbrev cX11_both : ByteArray := prog_13_method_33_code
def yX11_both : MethodName := ⟨RX11, "both", "(III)I"⟩
abbrev cX11_worked : ByteArray := prog_13_method_34_code
def yX11_worked : MethodName := ⟨RX11, "worked", "(II)I"⟩
abbrev cX11_beside : ByteArray := prog_13_method_35_code
def yX11_beside : MethodName := ⟨RX11, "beside", "(II)I"⟩
abbrev cX11_below : ByteArray := prog_13_method_36_code
def yX11_below : MethodName := ⟨RX11, "below", "(I)I"⟩
abbrev cX11_sitting : ByteArray := prog_13_method_37_code
def yX11_sitting : MethodName := ⟨RX11, "sitting", "(I)I"⟩
abbrev cX11_byLaw : ByteArray := prog_13_method_38_code
def yX11_byLaw : MethodName := ⟨RX11, "byLaw", "(I)I"⟩
abbrev cX11_runsOut : ByteArray := prog_13_method_39_code
def yX11_runsOut : MethodName := ⟨RX11, "runsOut", "(I)I"⟩
abbrev cX11_runs : ByteArray := prog_13_method_40_code
def yX11_runs : MethodName := ⟨RX11, "runs", "(I)I"⟩
abbrev cX11_passes : ByteArray := prog_13_method_41_code
def yX11_passes : MethodName := ⟨RX11, "passes", "()V"⟩
abbrev cX11_keeps : ByteArray := prog_13_method_42_code
def yX11_keeps : MethodName := ⟨RX11, "keeps", "([I)V"⟩
abbrev cX11_laysBack : ByteArray := prog_13_method_43_code
def yX11_laysBack : MethodName := ⟨RX11, "laysBack", "([I)V"⟩
abbrev cX11_goesOn : ByteArray := prog_13_method_44_code
def yX11_goesOn : MethodName := ⟨RX11, "goesOn", "(I)V"⟩
abbrev cX11_has : ByteArray := prog_13_method_45_code
def yX11_has : MethodName := ⟨RX11, "has", "(I)I"⟩
abbrev cX11_allLuck : ByteArray := prog_13_method_46_code
def yX11_allLuck : MethodName := ⟨RX11, "allLuck", "()I"⟩
abbrev cX11_luckiest : ByteArray := prog_13_method_47_code
def yX11_luckiest : MethodName := ⟨RX11, "luckiest", "()I"⟩
abbrev cX11_later : ByteArray := prog_13_method_48_code
def yX11_later : MethodName := ⟨RX11, "later", "(III)I"⟩
abbrev cX11_all : ByteArray := prog_13_method_49_code
def yX11_all : MethodName := ⟨RX11, "all", "(II)I"⟩
abbrev cX11_isAsThen : ByteArray := prog_13_method_50_code
def yX11_isAsThen : MethodName := ⟨RX11, "isAsThen", "()Z"⟩
abbrev cX11_still : ByteArray := prog_13_method_51_code
def yX11_still : MethodName := ⟨RX11, "still", "()I"⟩
abbrev cX11_rich : ByteArray := prog_13_method_52_code
def yX11_rich : MethodName := ⟨RX11, "rich", "(II)I"⟩
abbrev cX11_sink : ByteArray := prog_13_method_53_code
def yX11_sink : MethodName := ⟨RX11, "sink", "(II)I"⟩
abbrev cX11_comesTo : ByteArray := prog_13_method_54_code
def yX11_comesTo : MethodName := ⟨RX11, "comesTo", "(II)Z"⟩
abbrev cX11_basin : ByteArray := prog_13_method_55_code
def yX11_basin : MethodName := ⟨RX11, "basin", "(I)J"⟩
abbrev cX11_measured : ByteArray := prog_13_method_56_code
def yX11_measured : MethodName := ⟨RX11, "measured", "(I)I"⟩
abbrev cX11_fall : ByteArray := prog_13_method_57_code
def yX11_fall : MethodName := ⟨RX11, "fall", "(III)I"⟩
abbrev cX11_isHung : ByteArray := prog_13_method_58_code
def yX11_isHung : MethodName := ⟨RX11, "isHung", "(IIII)Z"⟩
abbrev cX11_shoesFor : ByteArray := prog_13_method_59_code
def yX11_shoesFor : MethodName := ⟨RX11, "shoesFor", "(II)I"⟩
abbrev cX11_howMany : ByteArray := prog_13_method_60_code
def yX11_howMany : MethodName := ⟨RX11, "howMany", "(II)I"⟩
abbrev cX11_shoes : ByteArray := prog_13_method_61_code
def yX11_shoes : MethodName := ⟨RX11, "shoes", "(III)I"⟩
abbrev cX11_seat : ByteArray := prog_13_method_62_code
def yX11_seat : MethodName := ⟨RX11, "seat", "(III)I"⟩
abbrev cX11_noShorts : ByteArray := prog_13_method_63_code
def yX11_noShorts : MethodName := ⟨RX11, "noShorts", "(I)I"⟩
abbrev cX11_unlike : ByteArray := prog_13_method_64_code
def yX11_unlike : MethodName := ⟨RX11, "unlike", "(II)I"⟩
abbrev cX11_judge : ByteArray := prog_13_method_65_code
def yX11_judge : MethodName := ⟨RX11, "judge", "(II)I"⟩
abbrev cX11_under : ByteArray := prog_13_method_66_code
def yX11_under : MethodName := ⟨RX11, "under", "(III)I"⟩
abbrev cX11_atFirst : ByteArray := prog_13_method_67_code
def yX11_atFirst : MethodName := ⟨RX11, "atFirst", "(IIII)I"⟩
abbrev cX11_seen : ByteArray := prog_13_method_68_code
def yX11_seen : MethodName := ⟨RX11, "seen", "(III)I"⟩
abbrev cX11_waysOf : ByteArray := prog_13_method_69_code
def yX11_waysOf : MethodName := ⟨RX11, "waysOf", "(I)I"⟩
abbrev cX11_gcd : ByteArray := prog_13_method_70_code
def yX11_gcd : MethodName := ⟨RX11, "gcd", "(JJ)J"⟩
abbrev cX11_below_ : ByteArray := prog_13_method_71_code
def yX11_below_ : MethodName := ⟨RX11, "below", "(II)J"⟩
abbrev cX11_above : ByteArray := prog_13_method_72_code
def yX11_above : MethodName := ⟨RX11, "above", "(II)J"⟩
abbrev cX11_bets : ByteArray := prog_13_method_73_code
def yX11_bets : MethodName := ⟨RX11, "bets", "(II)I"⟩
abbrev cX11_margin : ByteArray := prog_13_method_74_code
def yX11_margin : MethodName := ⟨RX11, "margin", "(II)J"⟩
abbrev cX11_turns : ByteArray := prog_13_method_75_code
def yX11_turns : MethodName := ⟨RX11, "turns", "(II)V"⟩
abbrev cX11_more : ByteArray := prog_13_method_76_code
def yX11_more : MethodName := ⟨RX11, "more", "(II)I"⟩
abbrev cX11_turnFrom : ByteArray := prog_13_method_77_code
def yX11_turnFrom : MethodName := ⟨RX11, "turnFrom", "(III)I"⟩
abbrev cX11_byTurns : ByteArray := prog_13_method_78_code
def yX11_byTurns : MethodName := ⟨RX11, "byTurns", "(III)I"⟩
abbrev cX11_drawn : ByteArray := prog_13_method_79_code
def yX11_drawn : MethodName := ⟨RX11, "drawn", "(III)I"⟩
abbrev cX11_hour : ByteArray := prog_13_method_80_code
def yX11_hour : MethodName := ⟨RX11, "hour", "()I"⟩
abbrev cX11_pour : ByteArray := prog_13_method_81_code
def yX11_pour : MethodName := ⟨RX11, "pour", "(II)I"⟩
abbrev cX11_hang : ByteArray := prog_13_method_82_code
def yX11_hang : MethodName := ⟨RX11, "hang", "(II)I"⟩
abbrev cX11_moves : ByteArray := prog_13_method_83_code
def yX11_moves : MethodName := ⟨RX11, "moves", "(II)I"⟩
abbrev cX11_led : ByteArray := prog_13_method_84_code
def yX11_led : MethodName := ⟨RX11, "led", "(I)I"⟩
abbrev cX11_image : ByteArray := prog_13_method_85_code
def yX11_image : MethodName := ⟨RX11, "image", "()I"⟩
abbrev cX11_back : ByteArray := prog_13_method_86_code
def yX11_back : MethodName := ⟨RX11, "back", "()I"⟩
abbrev cX11_above_ : ByteArray := prog_13_method_87_code
def yX11_above_ : MethodName := ⟨RX11, "above", "(I)I"⟩
abbrev cX11_ran : ByteArray := prog_13_method_88_code
def yX11_ran : MethodName := ⟨RX11, "ran", "(I)V"⟩
abbrev cX11_runsBy : ByteArray := prog_13_method_89_code
def yX11_runsBy : MethodName := ⟨RX11, "runsBy", "(III)I"⟩
abbrev cX11_holdsBy : ByteArray := prog_13_method_90_code
def yX11_holdsBy : MethodName := ⟨RX11, "holdsBy", "(III)I"⟩
abbrev cX11_drinksBy : ByteArray := prog_13_method_91_code
def yX11_drinksBy : MethodName := ⟨RX11, "drinksBy", "(III)I"⟩
abbrev cX11_tells : ByteArray := prog_13_method_92_code
def yX11_tells : MethodName := ⟨RX11, "tells", "(III)I"⟩
abbrev cX11_body : ByteArray := prog_13_method_93_code
def yX11_body : MethodName := ⟨RX11, "body", "(I)I"⟩
abbrev cX11_act : ByteArray := prog_13_method_94_code
def yX11_act : MethodName := ⟨RX11, "act", "(III)I"⟩
abbrev cX11_trace : ByteArray := prog_13_method_95_code
def yX11_trace : MethodName := ⟨RX11, "trace", "(I)I"⟩
abbrev cX11_keep : ByteArray := prog_13_method_96_code
def yX11_keep : MethodName := ⟨RX11, "keep", "(II)I"⟩
abbrev cX11_row : ByteArray := prog_13_method_97_code
def yX11_row : MethodName := ⟨RX11, "row", "(III)I"⟩
abbrev cX11_isRow : ByteArray := prog_13_method_98_code
def yX11_isRow : MethodName := ⟨RX11, "isRow", "(I)Z"⟩
abbrev cX11_kept : ByteArray := prog_13_method_99_code
def yX11_kept : MethodName := ⟨RX11, "kept", "(IJ)J"⟩
abbrev cX11_put : ByteArray := prog_13_method_100_code
def yX11_put : MethodName := ⟨RX11, "put", "(IIJ)I"⟩
abbrev cX11_element : ByteArray := prog_13_method_101_code
def yX11_element : MethodName := ⟨RX11, "element", "(II)J"⟩
abbrev cX11_shift : ByteArray := prog_13_method_102_code
def yX11_shift : MethodName := ⟨RX11, "shift", "(IIIII)I"⟩
abbrev cX11_taken : ByteArray := prog_13_method_103_code
def yX11_taken : MethodName := ⟨RX11, "taken", "(II)I"⟩
abbrev cX11_count : ByteArray := prog_13_method_104_code
def yX11_count : MethodName := ⟨RX11, "count", "(I)I"⟩
def RJ9 : String := "java/lang/Math"
def TJ9 : u_T := fun k => match k with
  | _ => ("", "", "", false)
def tyJ9 : Nat → FieldType := fun k => match k with
  | _ => .int
abbrev cJ9_max_7cf53 : ByteArray := prog_14_method_65_code
def yJ9_max_7cf53 : MethodName := ⟨RJ9, "max", "(II)I"⟩
abbrev cJ9_min_7cf53 : ByteArray := prog_14_method_69_code
def yJ9_min_7cf53 : MethodName := ⟨RJ9, "min", "(II)I"⟩
def RJ10 : String := "java/lang/System"
def TJ10 : u_T := fun k => match k with
  | _ => ("", "", "", false)
def tyJ10 : Nat → FieldType := fun k => match k with
  | _ => .int
def RJ7 : String := "java/util/Arrays"
def TJ7 : u_T := fun k => match k with
  | _ => ("", "", "", false)
def tyJ7 : Nat → FieldType := fun k => match k with
  | _ => .int
abbrev cJ7_fill_d0a16 : ByteArray := prog_16_method_101_code
def yJ7_fill_d0a16 : MethodName := ⟨RJ7, "fill", "([JJ)V"⟩
abbrev cJ7_fill_53178 : ByteArray := prog_16_method_103_code
def yJ7_fill_53178 : MethodName := ⟨RJ7, "fill", "([II)V"⟩
def RL : String := "LuckShoesLaw"
abbrev cL_law : ByteArray := code
def yL_law : MethodName := ⟨RL, "law", "([I)Z"⟩
abbrev vwCl : List vw_C := [(RX0, TX0, 3), (RX1, TX1, 4), (RX2, TX2, 6), (RX3, TX3, 14), (RX4, TX4, 3), (RX5, TX5, 9), (RX6, TX6, 5), (RX7, TX7, 5), (RX8, TX8, 8), (RX9, TX9, 3), (RX10, TX10, 11), (RX11, TX11, 45)]
