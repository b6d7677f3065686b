section
-- ===== PART A: goes FIRST, ahead of the names: the tables' words, and 'selects' of the private methods out of them =====
/-- a private method of a class that the tables say can be made, by its rows of tables_1 -/
def lw_okq (q : MethodName × Nat) : Prop := (q.1.cls ≠ "java/lang/invoke/MethodHandle" ∧ q.1.cls ≠ "java/lang/invoke/VarHandle") ∧ Cond.instantiable q.1.cls q.2 ∈ tables_1 ∧ Cond.privateMethod q.1 ∈ tables_1 ∧ Cond.instanceMethod q.1 ∈ tables_1
theorem lw_p0 : lw_okq (⟨"RoundBench", "forgetReadiness", "()V"⟩, 4) := ⟨⟨by decide +kernel, by decide +kernel⟩, List.mem_of_getElem? (i := 18) (by decide +kernel), List.mem_of_getElem? (i := 229) (by decide +kernel), List.mem_of_getElem? (i := 230) (by decide +kernel)⟩
theorem lw_p1 : lw_okq (⟨"RoundBench$Net", "reachNeighbours", "(I)V"⟩, 6) := ⟨⟨by decide +kernel, by decide +kernel⟩, List.mem_of_getElem? (i := 32) (by decide +kernel), List.mem_of_getElem? (i := 270) (by decide +kernel), List.mem_of_getElem? (i := 271) (by decide +kernel)⟩
theorem lw_p2 : lw_okq (⟨"RoundBench", "playRound", "()I"⟩, 4) := ⟨⟨by decide +kernel, by decide +kernel⟩, List.mem_of_getElem? (i := 18) (by decide +kernel), List.mem_of_getElem? (i := 439) (by decide +kernel), List.mem_of_getElem? (i := 440) (by decide +kernel)⟩
theorem lw_p3 : lw_okq (⟨"RoundBenchModel", "change", "()V"⟩, 19) := ⟨⟨by decide +kernel, by decide +kernel⟩, List.mem_of_getElem? (i := 567) (by decide +kernel), List.mem_of_getElem? (i := 635) (by decide +kernel), List.mem_of_getElem? (i := 636) (by decide +kernel)⟩
theorem lw_p4 : lw_okq (⟨"RoundBenchModel", "isNode", "(I)Z"⟩, 19) := ⟨⟨by decide +kernel, by decide +kernel⟩, List.mem_of_getElem? (i := 567) (by decide +kernel), List.mem_of_getElem? (i := 643) (by decide +kernel), List.mem_of_getElem? (i := 644) (by decide +kernel)⟩
theorem lw_p5 : lw_okq (⟨"RoundBenchModel", "areNeighbours", "(II)Z"⟩, 19) := ⟨⟨by decide +kernel, by decide +kernel⟩, List.mem_of_getElem? (i := 567) (by decide +kernel), List.mem_of_getElem? (i := 647) (by decide +kernel), List.mem_of_getElem? (i := 648) (by decide +kernel)⟩
theorem lw_p6 : lw_okq (⟨"RoundBenchModel", "between", "(II)I"⟩, 19) := ⟨⟨by decide +kernel, by decide +kernel⟩, List.mem_of_getElem? (i := 567) (by decide +kernel), List.mem_of_getElem? (i := 651) (by decide +kernel), List.mem_of_getElem? (i := 652) (by decide +kernel)⟩
theorem lw_p7 : lw_okq (⟨"RoundBenchModel", "measure", "()V"⟩, 19) := ⟨⟨by decide +kernel, by decide +kernel⟩, List.mem_of_getElem? (i := 567) (by decide +kernel), List.mem_of_getElem? (i := 663) (by decide +kernel), List.mem_of_getElem? (i := 664) (by decide +kernel)⟩
theorem lw_p8 : lw_okq (⟨"RoundBenchModel", "plant", "()V"⟩, 19) := ⟨⟨by decide +kernel, by decide +kernel⟩, List.mem_of_getElem? (i := 567) (by decide +kernel), List.mem_of_getElem? (i := 672) (by decide +kernel), List.mem_of_getElem? (i := 673) (by decide +kernel)⟩
theorem lw_p9 : lw_okq (⟨"RoundBenchModel", "nearer", "(II)I"⟩, 19) := ⟨⟨by decide +kernel, by decide +kernel⟩, List.mem_of_getElem? (i := 567) (by decide +kernel), List.mem_of_getElem? (i := 676) (by decide +kernel), List.mem_of_getElem? (i := 677) (by decide +kernel)⟩
theorem lw_p10 : lw_okq (⟨"RoundBenchModel", "far", "(II)I"⟩, 19) := ⟨⟨by decide +kernel, by decide +kernel⟩, List.mem_of_getElem? (i := 567) (by decide +kernel), List.mem_of_getElem? (i := 680) (by decide +kernel), List.mem_of_getElem? (i := 681) (by decide +kernel)⟩
theorem lw_p11 : lw_okq (⟨"RoundBenchModel", "pick", "()V"⟩, 19) := ⟨⟨by decide +kernel, by decide +kernel⟩, List.mem_of_getElem? (i := 567) (by decide +kernel), List.mem_of_getElem? (i := 684) (by decide +kernel), List.mem_of_getElem? (i := 685) (by decide +kernel)⟩
theorem lw_p12 : lw_okq (⟨"RoundBenchModel", "match", "()V"⟩, 19) := ⟨⟨by decide +kernel, by decide +kernel⟩, List.mem_of_getElem? (i := 567) (by decide +kernel), List.mem_of_getElem? (i := 688) (by decide +kernel), List.mem_of_getElem? (i := 689) (by decide +kernel)⟩
theorem lw_p13 : lw_okq (⟨"RoundBenchModel", "isHeavier", "(II)Z"⟩, 19) := ⟨⟨by decide +kernel, by decide +kernel⟩, List.mem_of_getElem? (i := 567) (by decide +kernel), List.mem_of_getElem? (i := 692) (by decide +kernel), List.mem_of_getElem? (i := 693) (by decide +kernel)⟩
theorem lw_p14 : lw_okq (⟨"RoundBenchModel", "isOf", "(II)Z"⟩, 19) := ⟨⟨by decide +kernel, by decide +kernel⟩, List.mem_of_getElem? (i := 567) (by decide +kernel), List.mem_of_getElem? (i := 696) (by decide +kernel), List.mem_of_getElem? (i := 697) (by decide +kernel)⟩
theorem lw_p15 : lw_okq (⟨"RoundBenchModel", "peel", "()V"⟩, 19) := ⟨⟨by decide +kernel, by decide +kernel⟩, List.mem_of_getElem? (i := 567) (by decide +kernel), List.mem_of_getElem? (i := 700) (by decide +kernel), List.mem_of_getElem? (i := 701) (by decide +kernel)⟩
def lw_privs_1 : List (MethodName × Nat) := [(⟨"RoundBench", "forgetReadiness", "()V"⟩, 4), (⟨"RoundBench$Net", "reachNeighbours", "(I)V"⟩, 6), (⟨"RoundBench", "playRound", "()I"⟩, 4), (⟨"RoundBenchModel", "change", "()V"⟩, 19), (⟨"RoundBenchModel", "isNode", "(I)Z"⟩, 19), (⟨"RoundBenchModel", "areNeighbours", "(II)Z"⟩, 19), (⟨"RoundBenchModel", "between", "(II)I"⟩, 19), (⟨"RoundBenchModel", "measure", "()V"⟩, 19), (⟨"RoundBenchModel", "plant", "()V"⟩, 19), (⟨"RoundBenchModel", "nearer", "(II)I"⟩, 19), (⟨"RoundBenchModel", "far", "(II)I"⟩, 19), (⟨"RoundBenchModel", "pick", "()V"⟩, 19), (⟨"RoundBenchModel", "match", "()V"⟩, 19), (⟨"RoundBenchModel", "isHeavier", "(II)Z"⟩, 19), (⟨"RoundBenchModel", "isOf", "(II)Z"⟩, 19), (⟨"RoundBenchModel", "peel", "()V"⟩, 19)]
theorem lw_r1 : ∀ q ∈ lw_privs_1, lw_okq q := List.forall_mem_cons.mpr ⟨lw_p0, List.forall_mem_cons.mpr ⟨lw_p1, List.forall_mem_cons.mpr ⟨lw_p2, List.forall_mem_cons.mpr ⟨lw_p3, List.forall_mem_cons.mpr ⟨lw_p4, List.forall_mem_cons.mpr ⟨lw_p5, List.forall_mem_cons.mpr ⟨lw_p6, List.forall_mem_cons.mpr ⟨lw_p7, List.forall_mem_cons.mpr ⟨lw_p8, List.forall_mem_cons.mpr ⟨lw_p9, List.forall_mem_cons.mpr ⟨lw_p10, List.forall_mem_cons.mpr ⟨lw_p11, List.forall_mem_cons.mpr ⟨lw_p12, List.forall_mem_cons.mpr ⟨lw_p13, List.forall_mem_cons.mpr ⟨lw_p14, List.forall_mem_cons.mpr ⟨lw_p15, fun _ h => absurd h List.not_mem_nil⟩⟩⟩⟩⟩⟩⟩⟩⟩⟩⟩⟩⟩⟩⟩⟩
theorem lw_p16 : lw_okq (⟨"RoundBenchModel", "inside", "(II)I"⟩, 19) := ⟨⟨by decide +kernel, by decide +kernel⟩, List.mem_of_getElem? (i := 567) (by decide +kernel), List.mem_of_getElem? (i := 704) (by decide +kernel), List.mem_of_getElem? (i := 705) (by decide +kernel)⟩
theorem lw_p17 : lw_okq (⟨"RoundBenchModel", "isFinished", "()Z"⟩, 19) := ⟨⟨by decide +kernel, by decide +kernel⟩, List.mem_of_getElem? (i := 567) (by decide +kernel), List.mem_of_getElem? (i := 712) (by decide +kernel), List.mem_of_getElem? (i := 713) (by decide +kernel)⟩
theorem lw_p18 : lw_okq (⟨"RoundBenchModel", "isOver", "(II)Z"⟩, 19) := ⟨⟨by decide +kernel, by decide +kernel⟩, List.mem_of_getElem? (i := 567) (by decide +kernel), List.mem_of_getElem? (i := 716) (by decide +kernel), List.mem_of_getElem? (i := 717) (by decide +kernel)⟩
theorem lw_p19 : lw_okq (⟨"RoundBenchModel", "lettersIn", "(I)I"⟩, 19) := ⟨⟨by decide +kernel, by decide +kernel⟩, List.mem_of_getElem? (i := 567) (by decide +kernel), List.mem_of_getElem? (i := 720) (by decide +kernel), List.mem_of_getElem? (i := 721) (by decide +kernel)⟩
theorem lw_p20 : lw_okq (⟨"RoundBenchModel", "openEdges", "(I)I"⟩, 19) := ⟨⟨by decide +kernel, by decide +kernel⟩, List.mem_of_getElem? (i := 567) (by decide +kernel), List.mem_of_getElem? (i := 724) (by decide +kernel), List.mem_of_getElem? (i := 725) (by decide +kernel)⟩
theorem lw_p21 : lw_okq (⟨"RoundBenchModel", "lettersOf", "(II)I"⟩, 19) := ⟨⟨by decide +kernel, by decide +kernel⟩, List.mem_of_getElem? (i := 567) (by decide +kernel), List.mem_of_getElem? (i := 728) (by decide +kernel), List.mem_of_getElem? (i := 729) (by decide +kernel)⟩
theorem lw_p22 : lw_okq (⟨"RoundBenchModel", "leastOf", "(II)I"⟩, 19) := ⟨⟨by decide +kernel, by decide +kernel⟩, List.mem_of_getElem? (i := 567) (by decide +kernel), List.mem_of_getElem? (i := 732) (by decide +kernel), List.mem_of_getElem? (i := 733) (by decide +kernel)⟩
theorem lw_p23 : lw_okq (⟨"RoundBenchModel", "degree", "(I)I"⟩, 19) := ⟨⟨by decide +kernel, by decide +kernel⟩, List.mem_of_getElem? (i := 567) (by decide +kernel), List.mem_of_getElem? (i := 736) (by decide +kernel), List.mem_of_getElem? (i := 737) (by decide +kernel)⟩
theorem lw_p24 : lw_okq (⟨"RoundBenchModel", "heldWays", "(III)I"⟩, 19) := ⟨⟨by decide +kernel, by decide +kernel⟩, List.mem_of_getElem? (i := 567) (by decide +kernel), List.mem_of_getElem? (i := 740) (by decide +kernel), List.mem_of_getElem? (i := 741) (by decide +kernel)⟩
theorem lw_p25 : lw_okq (⟨"RoundBenchModel", "reckonWays", "(I)V"⟩, 19) := ⟨⟨by decide +kernel, by decide +kernel⟩, List.mem_of_getElem? (i := 567) (by decide +kernel), List.mem_of_getElem? (i := 744) (by decide +kernel), List.mem_of_getElem? (i := 745) (by decide +kernel)⟩
theorem lw_p26 : lw_okq (⟨"RoundBenchModel", "lastWay", "(II)I"⟩, 19) := ⟨⟨by decide +kernel, by decide +kernel⟩, List.mem_of_getElem? (i := 567) (by decide +kernel), List.mem_of_getElem? (i := 748) (by decide +kernel), List.mem_of_getElem? (i := 749) (by decide +kernel)⟩
theorem lw_p27 : lw_okq (⟨"RoundBenchModel", "wayOf", "(II)I"⟩, 19) := ⟨⟨by decide +kernel, by decide +kernel⟩, List.mem_of_getElem? (i := 567) (by decide +kernel), List.mem_of_getElem? (i := 752) (by decide +kernel), List.mem_of_getElem? (i := 753) (by decide +kernel)⟩
theorem lw_p28 : lw_okq (⟨"RoundBenchModel", "heldAfter", "(III)I"⟩, 19) := ⟨⟨by decide +kernel, by decide +kernel⟩, List.mem_of_getElem? (i := 567) (by decide +kernel), List.mem_of_getElem? (i := 777) (by decide +kernel), List.mem_of_getElem? (i := 778) (by decide +kernel)⟩
theorem lw_p29 : lw_okq (⟨"RoundBenchModel", "heldSums", "(III)I"⟩, 19) := ⟨⟨by decide +kernel, by decide +kernel⟩, List.mem_of_getElem? (i := 567) (by decide +kernel), List.mem_of_getElem? (i := 781) (by decide +kernel), List.mem_of_getElem? (i := 782) (by decide +kernel)⟩
theorem lw_p30 : lw_okq (⟨"RoundBenchModel", "sumUnder", "(I)I"⟩, 19) := ⟨⟨by decide +kernel, by decide +kernel⟩, List.mem_of_getElem? (i := 567) (by decide +kernel), List.mem_of_getElem? (i := 785) (by decide +kernel), List.mem_of_getElem? (i := 786) (by decide +kernel)⟩
theorem lw_p31 : lw_okq (⟨"RoundBenchModel", "isUnder", "(II)Z"⟩, 19) := ⟨⟨by decide +kernel, by decide +kernel⟩, List.mem_of_getElem? (i := 567) (by decide +kernel), List.mem_of_getElem? (i := 789) (by decide +kernel), List.mem_of_getElem? (i := 790) (by decide +kernel)⟩
def lw_privs_2 : List (MethodName × Nat) := [(⟨"RoundBenchModel", "inside", "(II)I"⟩, 19), (⟨"RoundBenchModel", "isFinished", "()Z"⟩, 19), (⟨"RoundBenchModel", "isOver", "(II)Z"⟩, 19), (⟨"RoundBenchModel", "lettersIn", "(I)I"⟩, 19), (⟨"RoundBenchModel", "openEdges", "(I)I"⟩, 19), (⟨"RoundBenchModel", "lettersOf", "(II)I"⟩, 19), (⟨"RoundBenchModel", "leastOf", "(II)I"⟩, 19), (⟨"RoundBenchModel", "degree", "(I)I"⟩, 19), (⟨"RoundBenchModel", "heldWays", "(III)I"⟩, 19), (⟨"RoundBenchModel", "reckonWays", "(I)V"⟩, 19), (⟨"RoundBenchModel", "lastWay", "(II)I"⟩, 19), (⟨"RoundBenchModel", "wayOf", "(II)I"⟩, 19), (⟨"RoundBenchModel", "heldAfter", "(III)I"⟩, 19), (⟨"RoundBenchModel", "heldSums", "(III)I"⟩, 19), (⟨"RoundBenchModel", "sumUnder", "(I)I"⟩, 19), (⟨"RoundBenchModel", "isUnder", "(II)Z"⟩, 19)]
theorem lw_r2 : ∀ q ∈ lw_privs_2, lw_okq q := List.forall_mem_cons.mpr ⟨lw_p16, List.forall_mem_cons.mpr ⟨lw_p17, List.forall_mem_cons.mpr ⟨lw_p18, List.forall_mem_cons.mpr ⟨lw_p19, List.forall_mem_cons.mpr ⟨lw_p20, List.forall_mem_cons.mpr ⟨lw_p21, List.forall_mem_cons.mpr ⟨lw_p22, List.forall_mem_cons.mpr ⟨lw_p23, List.forall_mem_cons.mpr ⟨lw_p24, List.forall_mem_cons.mpr ⟨lw_p25, List.forall_mem_cons.mpr ⟨lw_p26, List.forall_mem_cons.mpr ⟨lw_p27, List.forall_mem_cons.mpr ⟨lw_p28, List.forall_mem_cons.mpr ⟨lw_p29, List.forall_mem_cons.mpr ⟨lw_p30, List.forall_mem_cons.mpr ⟨lw_p31, fun _ h => absurd h List.not_mem_nil⟩⟩⟩⟩⟩⟩⟩⟩⟩⟩⟩⟩⟩⟩⟩⟩
theorem lw_p32 : lw_okq (⟨"RoundBenchModel", "heldColour", "(II)I"⟩, 19) := ⟨⟨by decide +kernel, by decide +kernel⟩, List.mem_of_getElem? (i := 567) (by decide +kernel), List.mem_of_getElem? (i := 793) (by decide +kernel), List.mem_of_getElem? (i := 794) (by decide +kernel)⟩
theorem lw_p33 : lw_okq (⟨"RoundBenchModel", "heldSide", "(III)I"⟩, 19) := ⟨⟨by decide +kernel, by decide +kernel⟩, List.mem_of_getElem? (i := 567) (by decide +kernel), List.mem_of_getElem? (i := 797) (by decide +kernel), List.mem_of_getElem? (i := 798) (by decide +kernel)⟩
def lw_privs_3 : List (MethodName × Nat) := [(⟨"RoundBenchModel", "heldColour", "(II)I"⟩, 19), (⟨"RoundBenchModel", "heldSide", "(III)I"⟩, 19)]
theorem lw_r3 : ∀ q ∈ lw_privs_3, lw_okq q := List.forall_mem_cons.mpr ⟨lw_p32, List.forall_mem_cons.mpr ⟨lw_p33, fun _ h => absurd h List.not_mem_nil⟩⟩
def lw_privs : List (MethodName × Nat) := lw_privs_1 ++ (lw_privs_2 ++ (lw_privs_3))
def lw_tbl : List Cond := k2_sels lw_privs ++ tables_1
theorem lw_privs_ok : ∀ q ∈ lw_privs, lw_okq q := by
  show ∀ q ∈ lw_privs_1 ++ (lw_privs_2 ++ (lw_privs_3)), lw_okq q
  exact List.forall_mem_append.mpr ⟨lw_r1, List.forall_mem_append.mpr ⟨lw_r2, lw_r3⟩⟩
end
section
/-! Tables of the methods, out of the Statement, by a program (wip/whole/gen.py): instruction, pc, two numbers, an int, places of words -/
abbrev am_O : Type := Instr × Nat × Nat × Nat × Int32 × List Nat
/-- 0: RoundBenchLaw.law([I)Z -/
def am_k0 : List am_O := [(.new 7, 0, 0, 0, 0, [51, 52, 35]), (.dup, 3, 0, 0, 0, []), (.invokespecial 9, 4, 1, 0, 0, [53, 54, 35, 55]), (.astore_n 1, 7, 1, 0, 0, []), (.new 10, 8, 11, 0, 0, [600, 601, 48]), (.dup, 11, 0, 0, 0, []), (.invokespecial 12, 12, 103, 0, 0, [602, 603, 48, 604]), (.astore_n 2, 15, 2, 0, 0, []), (.iconst 0, 16, 0, 0, 0, []), (.istore_n 3, 17, 3, 0, 0, []), (.iload_n 3, 18, 3, 0, 0, []), (.aload_n 0, 19, 0, 0, 0, []), (.arraylength, 20, 0, 0, 0, []), (.iconst 4, 21, 0, 0, 4, []), (.isub, 22, 0, 0, 0, []), (.if_icmp .gt 328, 23, 211, 0, 0, []), (.aload_n 0, 26, 0, 0, 0, []), (.iload_n 3, 27, 3, 0, 0, []), (.iaload, 28, 0, 0, 0, []), (.bipush 15, 29, 0, 0, 15, []), (.iand, 31, 0, 0, 0, []), (.tableswitch 313 0 10 #[60, 83, 126, 159, 172, 205, 218, 241, 254, 267, 280], 32, 209, 11, 0, [22, 39, 76, 103, 110, 137, 144, 161, 168, 175, 182]), (.aload_n 1, 92, 1, 0, 0, []), (.aload_n 0, 93, 0, 0, 0, []), (.iload_n 3, 94, 3, 0, 0, []), (.iconst 1, 95, 0, 0, 1, []), (.iadd, 96, 0, 0, 0, []), (.iaload, 97, 0, 0, 0, []), (.invokevirtual 13, 98, 16, 1, 0, [257, 258, 259, 35, 260]), (.aload_n 2, 101, 2, 0, 0, []), (.aload_n 0, 102, 0, 0, 0, []), (.iload_n 3, 103, 3, 0, 0, []), (.iconst 1, 104, 0, 0, 1, []), (.iadd, 105, 0, 0, 0, []), (.iaload, 106, 0, 0, 0, []), (.invokevirtual 17, 107, 104, 1, 0, [664, 665, 666, 48, 667]), (.if_icmp .eq 235, 110, 209, 0, 0, []), (.iconst 0, 113, 0, 0, 0, []), (.ireturn, 114, 0, 0, 0, []), (.aload_n 1, 115, 1, 0, 0, []), (.aload_n 0, 116, 0, 0, 0, []), (.iload_n 3, 117, 3, 0, 0, []), (.iconst 1, 118, 0, 0, 1, []), (.iadd, 119, 0, 0, 0, []), (.iaload, 120, 0, 0, 0, []), (.aload_n 0, 121, 0, 0, 0, []), (.iload_n 3, 122, 3, 0, 0, []), (.iconst 2, 123, 0, 0, 2, []), (.iadd, 124, 0, 0, 0, []), (.iaload, 125, 0, 0, 0, []), (.aload_n 0, 126, 0, 0, 0, []), (.iload_n 3, 127, 3, 0, 0, []), (.iconst 3, 128, 0, 0, 3, []), (.iadd, 129, 0, 0, 0, []), (.iaload, 130, 0, 0, 0, []), (.invokevirtual 18, 131, 18, 3, 0, [266, 267, 268, 35, 269]), (.aload_n 2, 134, 2, 0, 0, []), (.aload_n 0, 135, 0, 0, 0, []), (.iload_n 3, 136, 3, 0, 0, []), (.iconst 1, 137, 0, 0, 1, []), (.iadd, 138, 0, 0, 0, []), (.iaload, 139, 0, 0, 0, []), (.aload_n 0, 140, 0, 0, 0, []), (.iload_n 3, 141, 3, 0, 0, []), (.iconst 2, 142, 0, 0, 2, []), (.iadd, 143, 0, 0, 0, []), (.iaload, 144, 0, 0, 0, []), (.aload_n 0, 145, 0, 0, 0, []), (.iload_n 3, 146, 3, 0, 0, []), (.iconst 3, 147, 0, 0, 3, []), (.iadd, 148, 0, 0, 0, []), (.iaload, 149, 0, 0, 0, []), (.invokevirtual 22, 150, 106, 3, 0, [672, 673, 674, 48, 675]), (.if_icmp .eq 192, 153, 209, 0, 0, []), (.iconst 0, 156, 0, 0, 0, []), (.ireturn, 157, 0, 0, 0, []), (.aload_n 1, 158, 1, 0, 0, []), (.aload_n 0, 159, 0, 0, 0, []), (.iload_n 3, 160, 3, 0, 0, []), (.iconst 1, 161, 0, 0, 1, []), (.iadd, 162, 0, 0, 0, []), (.iaload, 163, 0, 0, 0, []), (.aload_n 0, 164, 0, 0, 0, []), (.iload_n 3, 165, 3, 0, 0, []), (.iconst 2, 166, 0, 0, 2, []), (.iadd, 167, 0, 0, 0, []), (.iaload, 168, 0, 0, 0, []), (.invokevirtual 23, 169, 23, 2, 0, [286, 287, 288, 35, 289]), (.aload_n 2, 172, 2, 0, 0, []), (.aload_n 0, 173, 0, 0, 0, []), (.iload_n 3, 174, 3, 0, 0, []), (.iconst 1, 175, 0, 0, 1, []), (.iadd, 176, 0, 0, 0, []), (.iaload, 177, 0, 0, 0, []), (.aload_n 0, 178, 0, 0, 0, []), (.iload_n 3, 179, 3, 0, 0, []), (.iconst 2, 180, 0, 0, 2, []), (.iadd, 181, 0, 0, 0, []), (.iaload, 182, 0, 0, 0, []), (.invokevirtual 27, 183, 110, 2, 0, [688, 689, 690, 48, 691]), (.if_icmp .eq 159, 186, 209, 0, 0, []), (.iconst 0, 189, 0, 0, 0, []), (.ireturn, 190, 0, 0, 0, []), (.aload_n 1, 191, 1, 0, 0, []), (.invokevirtual 28, 192, 24, 0, 0, [291, 292, 293, 35, 294]), (.aload_n 2, 195, 2, 0, 0, []), (.invokevirtual 32, 196, 111, 0, 0, [692, 693, 694, 48, 695]), (.if_icmp .eq 146, 199, 209, 0, 0, []), (.iconst 0, 202, 0, 0, 0, []), (.ireturn, 203, 0, 0, 0, []), (.aload_n 1, 204, 1, 0, 0, []), (.aload_n 0, 205, 0, 0, 0, []), (.iload_n 3, 206, 3, 0, 0, []), (.iconst 1, 207, 0, 0, 1, []), (.iadd, 208, 0, 0, 0, []), (.iaload, 209, 0, 0, 0, []), (.aload_n 0, 210, 0, 0, 0, []), (.iload_n 3, 211, 3, 0, 0, []), (.iconst 2, 212, 0, 0, 2, []), (.iadd, 213, 0, 0, 0, []), (.iaload, 214, 0, 0, 0, []), (.invokevirtual 33, 215, 29, 2, 0, [311, 312, 313, 35, 314]), (.aload_n 2, 218, 2, 0, 0, []), (.aload_n 0, 219, 0, 0, 0, []), (.iload_n 3, 220, 3, 0, 0, []), (.iconst 1, 221, 0, 0, 1, []), (.iadd, 222, 0, 0, 0, []), (.iaload, 223, 0, 0, 0, []), (.aload_n 0, 224, 0, 0, 0, []), (.iload_n 3, 225, 3, 0, 0, []), (.iconst 2, 226, 0, 0, 2, []), (.iadd, 227, 0, 0, 0, []), (.iaload, 228, 0, 0, 0, []), (.invokevirtual 36, 229, 113, 2, 0, [701, 702, 703, 48, 704]), (.if_icmp .eq 113, 232, 209, 0, 0, []), (.iconst 0, 235, 0, 0, 0, []), (.ireturn, 236, 0, 0, 0, []), (.aload_n 1, 237, 1, 0, 0, []), (.invokevirtual 37, 238, 54, 0, 0, [421, 422, 423, 35, 424]), (.aload_n 2, 241, 2, 0, 0, []), (.invokevirtual 40, 242, 123, 0, 0, [741, 742, 743, 48, 744]), (.if_icmp .eq 100, 245, 209, 0, 0, []), (.iconst 0, 248, 0, 0, 0, []), (.ireturn, 249, 0, 0, 0, []), (.aload_n 1, 250, 1, 0, 0, []), (.aload_n 0, 251, 0, 0, 0, []), (.iload_n 3, 252, 3, 0, 0, []), (.iconst 1, 253, 0, 0, 1, []), (.iadd, 254, 0, 0, 0, []), (.iaload, 255, 0, 0, 0, []), (.invokevirtual 41, 256, 97, 1, 0, [577, 578, 579, 35, 580]), (.aload_n 2, 259, 2, 0, 0, []), (.aload_n 0, 260, 0, 0, 0, []), (.iload_n 3, 261, 3, 0, 0, []), (.iconst 1, 262, 0, 0, 1, []), (.iadd, 263, 0, 0, 0, []), (.iaload, 264, 0, 0, 0, []), (.invokevirtual 45, 265, 135, 1, 0, [789, 790, 791, 48, 792]), (.if_icmp .eq 77, 268, 209, 0, 0, []), (.iconst 0, 271, 0, 0, 0, []), (.ireturn, 272, 0, 0, 0, []), (.aload_n 1, 273, 1, 0, 0, []), (.invokevirtual 46, 274, 99, 0, 0, [584, 585, 586, 35, 587]), (.aload_n 2, 277, 2, 0, 0, []), (.invokevirtual 50, 278, 136, 0, 0, [794, 795, 796, 48, 797]), (.if_icmp .eq 64, 281, 209, 0, 0, []), (.iconst 0, 284, 0, 0, 0, []), (.ireturn, 285, 0, 0, 0, []), (.aload_n 1, 286, 1, 0, 0, []), (.invokevirtual 51, 287, 100, 0, 0, [588, 589, 590, 35, 591]), (.aload_n 2, 290, 2, 0, 0, []), (.invokevirtual 54, 291, 137, 0, 0, [798, 799, 800, 48, 801]), (.if_icmp .eq 51, 294, 209, 0, 0, []), (.iconst 0, 297, 0, 0, 0, []), (.ireturn, 298, 0, 0, 0, []), (.aload_n 1, 299, 1, 0, 0, []), (.invokevirtual 55, 300, 101, 0, 0, [592, 593, 594, 35, 595]), (.aload_n 2, 303, 2, 0, 0, []), (.invokevirtual 58, 304, 138, 0, 0, [802, 803, 804, 48, 805]), (.if_icmp .eq 38, 307, 209, 0, 0, []), (.iconst 0, 310, 0, 0, 0, []), (.ireturn, 311, 0, 0, 0, []), (.aload_n 1, 312, 1, 0, 0, []), (.aload_n 0, 313, 0, 0, 0, []), (.iload_n 3, 314, 3, 0, 0, []), (.iconst 1, 315, 0, 0, 1, []), (.iadd, 316, 0, 0, 0, []), (.iaload, 317, 0, 0, 0, []), (.aload_n 0, 318, 0, 0, 0, []), (.iload_n 3, 319, 3, 0, 0, []), (.iconst 2, 320, 0, 0, 2, []), (.iadd, 321, 0, 0, 0, []), (.iaload, 322, 0, 0, 0, []), (.invokevirtual 59, 323, 102, 2, 0, [596, 597, 598, 35, 599]), (.aload_n 2, 326, 2, 0, 0, []), (.aload_n 0, 327, 0, 0, 0, []), (.iload_n 3, 328, 3, 0, 0, []), (.iconst 1, 329, 0, 0, 1, []), (.iadd, 330, 0, 0, 0, []), (.iaload, 331, 0, 0, 0, []), (.aload_n 0, 332, 0, 0, 0, []), (.iload_n 3, 333, 3, 0, 0, []), (.iconst 2, 334, 0, 0, 2, []), (.iadd, 335, 0, 0, 0, []), (.iaload, 336, 0, 0, 0, []), (.invokevirtual 63, 337, 139, 2, 0, [806, 807, 808, 48, 809]), (.if_icmp .eq 5, 340, 209, 0, 0, []), (.iconst 0, 343, 0, 0, 0, []), (.ireturn, 344, 0, 0, 0, []), (.iinc 3 4, 345, 3, 0, 4, []), (.goto (-330), 348, 10, 0, 0, []), (.iconst 1, 351, 0, 0, 1, []), (.ireturn, 352, 0, 0, 0, [])]
/-- 1: RoundBench.<init>()V -/
def am_k1 : List am_O := [(.aload_n 0, 0, 0, 0, 0, []), (.invokespecial 1, 1, 0, 0, 2, [56, 57, 58]), (.aload_n 0, 4, 0, 0, 0, []), (.new 7, 5, 1, 0, 0, [59, 60, 36]), (.dup, 8, 0, 0, 0, []), (.invokespecial 9, 9, 3, 0, 1, [61, 62, 36, 63]), (.putfield 10, 12, 0, 0, 0, [244]), (.aload_n 0, 15, 0, 0, 0, []), (.bipush 8, 16, 0, 0, 8, []), (.anewarray 16, 18, 3, 0, 0, [183, 184]), (.dup, 21, 0, 0, 0, []), (.iconst 0, 22, 0, 0, 0, []), (.new 18, 23, 3, 0, 0, [185, 186, 40]), (.dup, 26, 0, 0, 0, []), (.invokespecial 20, 27, 7, 0, 1, [187, 188, 40, 189]), (.aastore, 30, 0, 0, 0, []), (.dup, 31, 0, 0, 0, []), (.iconst 1, 32, 0, 0, 1, []), (.new 21, 33, 4, 0, 0, [195, 196, 41]), (.dup, 36, 0, 0, 0, []), (.invokespecial 23, 37, 9, 0, 1, [197, 198, 41, 199]), (.aastore, 40, 0, 0, 0, []), (.dup, 41, 0, 0, 0, []), (.iconst 2, 42, 0, 0, 2, []), (.new 24, 43, 5, 0, 0, [202, 203, 42]), (.dup, 46, 0, 0, 0, []), (.invokespecial 26, 47, 10, 0, 1, [204, 205, 42, 206]), (.aastore, 50, 0, 0, 0, []), (.dup, 51, 0, 0, 0, []), (.iconst 3, 52, 0, 0, 3, []), (.new 27, 53, 6, 0, 0, [209, 210, 43]), (.dup, 56, 0, 0, 0, []), (.invokespecial 29, 57, 11, 0, 1, [211, 212, 43, 213]), (.aastore, 60, 0, 0, 0, []), (.dup, 61, 0, 0, 0, []), (.iconst 4, 62, 0, 0, 4, []), (.new 30, 63, 7, 0, 0, [216, 217, 44]), (.dup, 66, 0, 0, 0, []), (.invokespecial 32, 67, 12, 0, 1, [218, 219, 44, 220]), (.aastore, 70, 0, 0, 0, []), (.dup, 71, 0, 0, 0, []), (.iconst 5, 72, 0, 0, 5, []), (.new 33, 73, 8, 0, 0, [223, 224, 45]), (.dup, 76, 0, 0, 0, []), (.invokespecial 35, 77, 13, 0, 1, [225, 226, 45, 227]), (.aastore, 80, 0, 0, 0, []), (.dup, 81, 0, 0, 0, []), (.bipush 6, 82, 0, 0, 6, []), (.new 36, 84, 9, 0, 0, [230, 231, 46]), (.dup, 87, 0, 0, 0, []), (.invokespecial 38, 88, 14, 0, 1, [232, 233, 46, 234]), (.aastore, 91, 0, 0, 0, []), (.dup, 92, 0, 0, 0, []), (.bipush 7, 93, 0, 0, 7, []), (.new 39, 95, 10, 0, 0, [237, 238, 47]), (.dup, 98, 0, 0, 0, []), (.invokespecial 41, 99, 15, 0, 1, [239, 240, 47, 241]), (.aastore, 102, 0, 0, 0, []), (.putfield 42, 103, 0, 1, 0, [245]), (.aload_n 0, 106, 0, 0, 0, []), (.aconst_null, 107, 0, 0, 0, []), (.putfield 46, 108, 0, 2, 0, [246]), (.aload_n 0, 111, 0, 0, 0, []), (.iconst 0, 112, 0, 0, 0, []), (.putfield 50, 113, 0, 3, 0, [247]), (.return_, 116, 0, 0, 0, [])]
/-- 2: java/lang/Object.<init>()V -/
def am_k2 : List am_O := [(.return_, 0, 0, 0, 0, [])]
/-- 3: RoundBench$Course.<init>()V -/
def am_k3 : List am_O := [(.aload_n 0, 0, 0, 0, 0, []), (.invokespecial 3, 1, 0, 0, 2, [64, 57, 58]), (.aload_n 0, 4, 0, 0, 0, []), (.new 9, 5, 2, 0, 0, [65, 66, 37]), (.dup, 8, 0, 0, 0, []), (.invokespecial 11, 9, 4, 0, 0, [67, 68, 37, 69]), (.putfield 12, 12, 1, 0, 0, [114]), (.aload_n 0, 15, 0, 0, 0, []), (.iconst 3, 16, 0, 0, 3, []), (.bipush 12, 17, 0, 0, 12, []), (.multianewarray 18 2, 19, 2, 0, 0, [113, 72, 112]), (.putfield 20, 23, 1, 1, 0, [124]), (.aload_n 0, 26, 0, 0, 0, []), (.iconst 3, 27, 0, 0, 3, []), (.bipush 12, 28, 0, 0, 12, []), (.multianewarray 18 2, 30, 2, 0, 0, [113, 72, 112]), (.putfield 23, 34, 1, 2, 0, [134]), (.aload_n 0, 37, 0, 0, 0, []), (.bipush 12, 38, 0, 0, 12, []), (.newarray .boolean, 40, 1, 0, 0, [182]), (.putfield 26, 42, 1, 3, 0, [143]), (.aload_n 0, 45, 0, 0, 0, []), (.bipush 12, 46, 0, 0, 12, []), (.newarray .int, 48, 0, 0, 0, [112]), (.putfield 30, 50, 1, 4, 0, [147]), (.return_, 53, 0, 0, 0, [])]
/-- 4: RoundBench$Net.<init>()V -/
def am_k4 : List am_O := [(.aload_n 0, 0, 0, 0, 0, []), (.invokespecial 3, 1, 0, 0, 2, [70, 57, 58]), (.aload_n 0, 4, 0, 0, 0, []), (.bipush 12, 5, 0, 0, 12, []), (.newarray .int, 7, 0, 0, 0, [112]), (.putfield 9, 9, 2, 0, 0, [80]), (.aload_n 0, 12, 0, 0, 0, []), (.bipush 24, 13, 0, 0, 24, []), (.newarray .int, 15, 0, 0, 0, [112]), (.putfield 15, 17, 2, 1, 0, [84]), (.aload_n 0, 20, 0, 0, 0, []), (.bipush 12, 21, 0, 0, 12, []), (.bipush 12, 23, 0, 0, 12, []), (.multianewarray 18 2, 25, 2, 0, 0, [71, 72, 112]), (.putfield 20, 29, 2, 2, 0, [85]), (.aload_n 0, 32, 0, 0, 0, []), (.bipush 12, 33, 0, 0, 12, []), (.newarray .int, 35, 0, 0, 0, [112]), (.putfield 23, 37, 2, 3, 0, [87]), (.aload_n 0, 40, 0, 0, 0, []), (.iconst 1, 41, 0, 0, 1, []), (.invokevirtual 26, 42, 5, 1, 0, [73, 74, 75, 37, 76]), (.return_, 45, 0, 0, 0, [])]
/-- 5: RoundBench$Net.clear(I)V -/
def am_k5 : List am_O := [(.aload_n 0, 0, 0, 0, 0, []), (.iload_n 1, 1, 1, 0, 0, []), (.putfield 30, 2, 2, 4, 0, [88]), (.aload_n 0, 5, 0, 0, 0, []), (.iconst 0, 6, 0, 0, 0, []), (.putfield 34, 7, 2, 5, 0, [98]), (.iconst 0, 10, 0, 0, 0, []), (.istore_n 2, 11, 2, 0, 0, []), (.iload_n 2, 12, 2, 0, 0, []), (.bipush 12, 13, 0, 0, 12, []), (.if_icmp .ge 28, 15, 26, 0, 0, []), (.aload_n 0, 18, 0, 0, 0, []), (.getfield 9, 19, 2, 0, 0, [80]), (.iload_n 2, 22, 2, 0, 0, []), (.iload_n 2, 23, 2, 0, 0, []), (.iconst 1, 24, 0, 0, 1, []), (.iadd, 25, 0, 0, 0, []), (.iastore, 26, 0, 0, 0, []), (.aload_n 0, 27, 0, 0, 0, []), (.getfield 20, 28, 2, 2, 0, [85]), (.iload_n 2, 31, 2, 0, 0, []), (.aaload, 32, 0, 0, 0, []), (.iconst (-1), 33, 0, 0, (-1), []), (.invokestatic 37, 34, 6, 2, 0, [77, 78, 38, 79]), (.iinc 2 1, 37, 2, 0, 1, []), (.goto (-28), 40, 8, 0, 0, []), (.return_, 43, 0, 0, 0, [])]
/-- 6: java/util/Arrays.fill([II)V -/
def am_k6 : List am_O := [(.iconst 0, 0, 0, 0, 0, []), (.istore_n 2, 1, 2, 0, 0, []), (.aload_n 0, 2, 0, 0, 0, []), (.arraylength, 3, 0, 0, 0, []), (.istore_n 3, 4, 3, 0, 0, []), (.iload_n 2, 5, 2, 0, 0, []), (.iload_n 3, 6, 3, 0, 0, []), (.if_icmp .ge 13, 7, 14, 0, 0, []), (.aload_n 0, 10, 0, 0, 0, []), (.iload_n 2, 11, 2, 0, 0, []), (.iload_n 1, 12, 1, 0, 0, []), (.iastore, 13, 0, 0, 0, []), (.iinc 2 1, 14, 2, 0, 1, []), (.goto (-12), 17, 5, 0, 0, []), (.return_, 20, 0, 0, 0, [])]
/-- 7: RoundBench$Least.<init>()V -/
def am_k7 : List am_O := [(.aload_n 0, 0, 0, 0, 0, []), (.invokespecial 3, 1, 8, 0, 1, [190, 191, 39, 192]), (.return_, 4, 0, 0, 0, [])]
/-- 8: RoundBench$Algorithm.<init>()V -/
def am_k8 : List am_O := [(.aload_n 0, 0, 0, 0, 0, []), (.invokespecial 1, 1, 0, 0, 2, [193, 57, 58]), (.return_, 4, 0, 0, 0, [])]
/-- 9: RoundBench$Ways.<init>()V -/
def am_k9 : List am_O := [(.aload_n 0, 0, 0, 0, 0, []), (.invokespecial 3, 1, 8, 0, 1, [200, 191, 39, 192]), (.return_, 4, 0, 0, 0, [])]
/-- 10: RoundBench$Sums.<init>()V -/
def am_k10 : List am_O := [(.aload_n 0, 0, 0, 0, 0, []), (.invokespecial 3, 1, 8, 0, 1, [207, 191, 39, 192]), (.return_, 4, 0, 0, 0, [])]
/-- 11: RoundBench$Colours.<init>()V -/
def am_k11 : List am_O := [(.aload_n 0, 0, 0, 0, 0, []), (.invokespecial 3, 1, 8, 0, 1, [214, 191, 39, 192]), (.return_, 4, 0, 0, 0, [])]
/-- 12: RoundBench$Chosen.<init>()V -/
def am_k12 : List am_O := [(.aload_n 0, 0, 0, 0, 0, []), (.invokespecial 3, 1, 8, 0, 1, [221, 191, 39, 192]), (.return_, 4, 0, 0, 0, [])]
/-- 13: RoundBench$Pairs.<init>()V -/
def am_k13 : List am_O := [(.aload_n 0, 0, 0, 0, 0, []), (.invokespecial 3, 1, 8, 0, 1, [228, 191, 39, 192]), (.return_, 4, 0, 0, 0, [])]
/-- 14: RoundBench$Core.<init>()V -/
def am_k14 : List am_O := [(.aload_n 0, 0, 0, 0, 0, []), (.invokespecial 3, 1, 8, 0, 1, [235, 191, 39, 192]), (.return_, 4, 0, 0, 0, [])]
/-- 15: RoundBench$Sides.<init>()V -/
def am_k15 : List am_O := [(.aload_n 0, 0, 0, 0, 0, []), (.invokespecial 3, 1, 8, 0, 1, [242, 191, 39, 192]), (.return_, 4, 0, 0, 0, [])]
/-- 16: RoundBench.net(I)Z -/
def am_k16 : List am_O := [(.iload_n 1, 0, 1, 0, 0, []), (.iconst 1, 1, 0, 0, 1, []), (.if_icmp .lt 9, 2, 6, 0, 0, []), (.iload_n 1, 5, 1, 0, 0, []), (.bipush 12, 6, 0, 0, 12, []), (.if_icmp .le 5, 8, 8, 0, 0, []), (.iconst 0, 11, 0, 0, 0, []), (.ireturn, 12, 0, 0, 0, []), (.aload_n 0, 13, 0, 0, 0, []), (.getfield 10, 14, 0, 0, 0, [244]), (.getfield 54, 17, 1, 0, 0, [115]), (.iload_n 1, 20, 1, 0, 0, []), (.invokevirtual 58, 21, 5, 1, 0, [261, 74, 75, 37, 76]), (.aload_n 0, 24, 0, 0, 0, []), (.invokevirtual 64, 25, 17, 0, 0, [262, 264, 0, 35, 265]), (.iconst 1, 28, 0, 0, 1, []), (.ireturn, 29, 0, 0, 0, [])]
/-- 17: RoundBench.forgetReadiness()V -/
def am_k17 : List am_O := [(.aload_n 0, 0, 0, 0, 0, []), (.iconst 0, 1, 0, 0, 0, []), (.putfield 50, 2, 0, 3, 0, [247]), (.aload_n 0, 5, 0, 0, 0, []), (.aconst_null, 6, 0, 0, 0, []), (.putfield 46, 7, 0, 2, 0, [246]), (.return_, 10, 0, 0, 0, [])]
/-- 18: RoundBench.edge(III)I -/
def am_k18 : List am_O := [(.aload_n 0, 0, 0, 0, 0, []), (.getfield 10, 1, 0, 0, 0, [244]), (.getfield 54, 4, 1, 0, 0, [115]), (.iload_n 1, 7, 1, 0, 0, []), (.iload_n 2, 8, 2, 0, 0, []), (.iload_n 3, 9, 3, 0, 0, []), (.invokevirtual 67, 10, 19, 3, 0, [270, 271, 272, 37, 273]), (.ifCond .ne 5, 13, 10, 0, 0, []), (.iconst (-1), 16, 0, 0, (-1), []), (.ireturn, 17, 0, 0, 0, []), (.aload_n 0, 18, 0, 0, 0, []), (.invokevirtual 64, 19, 17, 0, 0, [262, 264, 0, 35, 265]), (.aload_n 0, 22, 0, 0, 0, []), (.getfield 10, 23, 0, 0, 0, [244]), (.getfield 54, 26, 1, 0, 0, [115]), (.iload_n 1, 29, 1, 0, 0, []), (.iload_n 2, 30, 2, 0, 0, []), (.iload_n 3, 31, 3, 0, 0, []), (.invokevirtual 71, 32, 22, 3, 0, [282, 283, 284, 37, 285]), (.ireturn, 35, 0, 0, 0, [])]
/-- 19: RoundBench$Net.takesEdge(III)Z -/
def am_k19 : List am_O := [(.aload_n 0, 0, 0, 0, 0, []), (.getfield 34, 1, 2, 5, 0, [98]), (.bipush 24, 4, 0, 0, 24, []), (.if_icmp .ge 49, 6, 28, 0, 0, []), (.aload_n 0, 9, 0, 0, 0, []), (.iload_n 1, 10, 1, 0, 0, []), (.invokevirtual 43, 11, 20, 1, 0, [274, 275, 276, 37, 277]), (.ifCond .eq 41, 14, 28, 0, 0, []), (.aload_n 0, 17, 0, 0, 0, []), (.iload_n 2, 18, 2, 0, 0, []), (.invokevirtual 43, 19, 20, 1, 0, [274, 275, 276, 37, 277]), (.ifCond .eq 33, 22, 28, 0, 0, []), (.iload_n 1, 25, 1, 0, 0, []), (.iload_n 2, 26, 2, 0, 0, []), (.if_icmp .eq 28, 27, 28, 0, 0, []), (.aload_n 0, 30, 0, 0, 0, []), (.iload_n 1, 31, 1, 0, 0, []), (.iload_n 2, 32, 2, 0, 0, []), (.invokevirtual 47, 33, 21, 2, 0, [278, 279, 280, 37, 281]), (.ifCond .ne 19, 36, 28, 0, 0, []), (.iload_n 3, 39, 3, 0, 0, []), (.iconst 1, 40, 0, 0, 1, []), (.if_icmp .lt 14, 41, 28, 0, 0, []), (.iload_n 3, 44, 3, 0, 0, []), (.sipush 999, 45, 0, 0, 999, []), (.if_icmp .gt 7, 48, 28, 0, 0, []), (.iconst 1, 51, 0, 0, 1, []), (.goto 4, 52, 29, 0, 0, []), (.iconst 0, 55, 0, 0, 0, []), (.ireturn, 56, 0, 0, 0, [])]
/-- 20: RoundBench$Net.hasNode(I)Z -/
def am_k20 : List am_O := [(.iload_n 1, 0, 1, 0, 0, []), (.ifCond .lt 15, 1, 8, 0, 0, []), (.iload_n 1, 4, 1, 0, 0, []), (.aload_n 0, 5, 0, 0, 0, []), (.getfield 30, 6, 2, 4, 0, [88]), (.if_icmp .ge 7, 9, 8, 0, 0, []), (.iconst 1, 12, 0, 0, 1, []), (.goto 4, 13, 9, 0, 0, []), (.iconst 0, 16, 0, 0, 0, []), (.ireturn, 17, 0, 0, 0, [])]
/-- 21: RoundBench$Net.areNeighbours(II)Z -/
def am_k21 : List am_O := [(.aload_n 0, 0, 0, 0, 0, []), (.getfield 20, 1, 2, 2, 0, [85]), (.iload_n 1, 4, 1, 0, 0, []), (.aaload, 5, 0, 0, 0, []), (.iload_n 2, 6, 2, 0, 0, []), (.iaload, 7, 0, 0, 0, []), (.iconst (-1), 8, 0, 0, (-1), []), (.if_icmp .eq 7, 9, 10, 0, 0, []), (.iconst 1, 12, 0, 0, 1, []), (.goto 4, 13, 11, 0, 0, []), (.iconst 0, 16, 0, 0, 0, []), (.ireturn, 17, 0, 0, 0, [])]
/-- 22: RoundBench$Net.addEdge(III)I -/
def am_k22 : List am_O := [(.aload_n 0, 0, 0, 0, 0, []), (.getfield 34, 1, 2, 5, 0, [98]), (.istore 4, 4, 4, 0, 0, []), (.aload_n 0, 6, 0, 0, 0, []), (.getfield 15, 7, 2, 1, 0, [84]), (.iload 4, 10, 4, 0, 0, []), (.iload_n 3, 12, 3, 0, 0, []), (.iastore, 13, 0, 0, 0, []), (.aload_n 0, 14, 0, 0, 0, []), (.getfield 20, 15, 2, 2, 0, [85]), (.iload_n 1, 18, 1, 0, 0, []), (.aaload, 19, 0, 0, 0, []), (.iload_n 2, 20, 2, 0, 0, []), (.iload 4, 21, 4, 0, 0, []), (.iastore, 23, 0, 0, 0, []), (.aload_n 0, 24, 0, 0, 0, []), (.getfield 20, 25, 2, 2, 0, [85]), (.iload_n 2, 28, 2, 0, 0, []), (.aaload, 29, 0, 0, 0, []), (.iload_n 1, 30, 1, 0, 0, []), (.iload 4, 31, 4, 0, 0, []), (.iastore, 33, 0, 0, 0, []), (.aload_n 0, 34, 0, 0, 0, []), (.dup, 35, 0, 0, 0, []), (.getfield 34, 36, 2, 5, 0, [98]), (.iconst 1, 39, 0, 0, 1, []), (.iadd, 40, 0, 0, 0, []), (.putfield 34, 41, 2, 5, 0, [98]), (.iload 4, 44, 4, 0, 0, []), (.ireturn, 46, 0, 0, 0, [])]
/-- 23: RoundBench.identity(II)Z -/
def am_k23 : List am_O := [(.aload_n 0, 0, 0, 0, 0, []), (.getfield 10, 1, 0, 0, 0, [244]), (.getfield 54, 4, 1, 0, 0, [115]), (.iload_n 1, 7, 1, 0, 0, []), (.invokevirtual 75, 8, 20, 1, 0, [290, 275, 276, 37, 277]), (.ifCond .eq 15, 11, 12, 0, 0, []), (.iload_n 2, 14, 2, 0, 0, []), (.iconst 1, 15, 0, 0, 1, []), (.if_icmp .lt 10, 16, 12, 0, 0, []), (.iload_n 2, 19, 2, 0, 0, []), (.sipush 999, 20, 0, 0, 999, []), (.if_icmp .le 5, 23, 14, 0, 0, []), (.iconst 0, 26, 0, 0, 0, []), (.ireturn, 27, 0, 0, 0, []), (.aload_n 0, 28, 0, 0, 0, []), (.getfield 10, 29, 0, 0, 0, [244]), (.getfield 54, 32, 1, 0, 0, [115]), (.getfield 79, 35, 2, 0, 0, [81]), (.iload_n 1, 38, 1, 0, 0, []), (.iload_n 2, 39, 2, 0, 0, []), (.iastore, 40, 0, 0, 0, []), (.aload_n 0, 41, 0, 0, 0, []), (.invokevirtual 64, 42, 17, 0, 0, [262, 264, 0, 35, 265]), (.iconst 1, 45, 0, 0, 1, []), (.ireturn, 46, 0, 0, 0, [])]
/-- 24: RoundBench.ready()I -/
def am_k24 : List am_O := [(.aload_n 0, 0, 0, 0, 0, []), (.getfield 10, 1, 0, 0, 0, [244]), (.getfield 54, 4, 1, 0, 0, [115]), (.invokevirtual 83, 7, 25, 0, 0, [295, 296, 297, 37, 298]), (.ifCond .ne 5, 10, 7, 0, 0, []), (.iconst 1, 13, 0, 0, 1, []), (.ireturn, 14, 0, 0, 0, []), (.aload_n 0, 15, 0, 0, 0, []), (.getfield 10, 16, 0, 0, 0, [244]), (.getfield 54, 19, 1, 0, 0, [115]), (.invokevirtual 87, 22, 28, 0, 0, [307, 308, 309, 37, 310]), (.ifCond .eq 5, 25, 14, 0, 0, []), (.iconst 2, 28, 0, 0, 2, []), (.ireturn, 29, 0, 0, 0, []), (.aload_n 0, 30, 0, 0, 0, []), (.iconst 1, 31, 0, 0, 1, []), (.putfield 50, 32, 0, 3, 0, [247]), (.iconst 0, 35, 0, 0, 0, []), (.ireturn, 36, 0, 0, 0, [])]
/-- 25: RoundBench$Net.isConnected()Z -/
def am_k25 : List am_O := [(.aload_n 0, 0, 0, 0, 0, []), (.iconst 0, 1, 0, 0, 0, []), (.invokevirtual 51, 2, 26, 1, 0, [299, 300, 301, 37, 302]), (.iconst 0, 5, 0, 0, 0, []), (.istore_n 1, 6, 1, 0, 0, []), (.iload_n 1, 7, 1, 0, 0, []), (.aload_n 0, 8, 0, 0, 0, []), (.getfield 30, 9, 2, 4, 0, [88]), (.if_icmp .ge 21, 12, 19, 0, 0, []), (.aload_n 0, 15, 0, 0, 0, []), (.getfield 23, 16, 2, 3, 0, [87]), (.iload_n 1, 19, 1, 0, 0, []), (.iaload, 20, 0, 0, 0, []), (.iconst (-1), 21, 0, 0, (-1), []), (.if_icmp .ne 5, 22, 17, 0, 0, []), (.iconst 0, 25, 0, 0, 0, []), (.ireturn, 26, 0, 0, 0, []), (.iinc 1 1, 27, 1, 0, 1, []), (.goto (-23), 30, 5, 0, 0, []), (.iconst 1, 33, 0, 0, 1, []), (.ireturn, 34, 0, 0, 0, [])]
/-- 26: RoundBench$Net.measureFrom(I)V -/
def am_k26 : List am_O := [(.aload_n 0, 0, 0, 0, 0, []), (.getfield 23, 1, 2, 3, 0, [87]), (.iconst (-1), 4, 0, 0, (-1), []), (.invokestatic 37, 5, 6, 2, 0, [77, 78, 38, 79]), (.aload_n 0, 8, 0, 0, 0, []), (.getfield 23, 9, 2, 3, 0, [87]), (.iload_n 1, 12, 1, 0, 0, []), (.iconst 0, 13, 0, 0, 0, []), (.iastore, 14, 0, 0, 0, []), (.iconst 0, 15, 0, 0, 0, []), (.istore_n 2, 16, 2, 0, 0, []), (.iload_n 2, 17, 2, 0, 0, []), (.aload_n 0, 18, 0, 0, 0, []), (.getfield 30, 19, 2, 4, 0, [88]), (.if_icmp .ge 40, 22, 34, 0, 0, []), (.iconst 0, 25, 0, 0, 0, []), (.istore_n 3, 26, 3, 0, 0, []), (.iload_n 3, 27, 3, 0, 0, []), (.aload_n 0, 28, 0, 0, 0, []), (.getfield 30, 29, 2, 4, 0, [88]), (.if_icmp .ge 24, 32, 32, 0, 0, []), (.aload_n 0, 35, 0, 0, 0, []), (.getfield 23, 36, 2, 3, 0, [87]), (.iload_n 3, 39, 3, 0, 0, []), (.iaload, 40, 0, 0, 0, []), (.iload_n 2, 41, 2, 0, 0, []), (.if_icmp .ne 8, 42, 30, 0, 0, []), (.aload_n 0, 45, 0, 0, 0, []), (.iload_n 3, 46, 3, 0, 0, []), (.invokevirtual 54, 47, 27, 1, 0, [303, 305, 1, 37, 306]), (.iinc 3 1, 50, 3, 0, 1, []), (.goto (-26), 53, 17, 0, 0, []), (.iinc 2 1, 56, 2, 0, 1, []), (.goto (-42), 59, 11, 0, 0, []), (.return_, 62, 0, 0, 0, [])]
/-- 27: RoundBench$Net.reachNeighbours(I)V -/
def am_k27 : List am_O := [(.iconst 0, 0, 0, 0, 0, []), (.istore_n 2, 1, 2, 0, 0, []), (.iload_n 2, 2, 2, 0, 0, []), (.aload_n 0, 3, 0, 0, 0, []), (.getfield 30, 4, 2, 4, 0, [88]), (.if_icmp .ge 42, 7, 29, 0, 0, []), (.aload_n 0, 10, 0, 0, 0, []), (.iload_n 1, 11, 1, 0, 0, []), (.iload_n 2, 12, 2, 0, 0, []), (.invokevirtual 47, 13, 21, 2, 0, [278, 279, 280, 37, 281]), (.ifCond .eq 27, 16, 27, 0, 0, []), (.aload_n 0, 19, 0, 0, 0, []), (.getfield 23, 20, 2, 3, 0, [87]), (.iload_n 2, 23, 2, 0, 0, []), (.iaload, 24, 0, 0, 0, []), (.iconst (-1), 25, 0, 0, (-1), []), (.if_icmp .ne 17, 26, 27, 0, 0, []), (.aload_n 0, 29, 0, 0, 0, []), (.getfield 23, 30, 2, 3, 0, [87]), (.iload_n 2, 33, 2, 0, 0, []), (.aload_n 0, 34, 0, 0, 0, []), (.getfield 23, 35, 2, 3, 0, [87]), (.iload_n 1, 38, 1, 0, 0, []), (.iaload, 39, 0, 0, 0, []), (.iconst 1, 40, 0, 0, 1, []), (.iadd, 41, 0, 0, 0, []), (.iastore, 42, 0, 0, 0, []), (.iinc 2 1, 43, 2, 0, 1, []), (.goto (-44), 46, 2, 0, 0, []), (.return_, 49, 0, 0, 0, [])]
/-- 28: RoundBench$Net.hasTwins()Z -/
def am_k28 : List am_O := [(.iconst 0, 0, 0, 0, 0, []), (.istore_n 1, 1, 1, 0, 0, []), (.iload_n 1, 2, 1, 0, 0, []), (.aload_n 0, 3, 0, 0, 0, []), (.getfield 30, 4, 2, 4, 0, [88]), (.if_icmp .ge 44, 7, 29, 0, 0, []), (.iload_n 1, 10, 1, 0, 0, []), (.iconst 1, 11, 0, 0, 1, []), (.iadd, 12, 0, 0, 0, []), (.istore_n 2, 13, 2, 0, 0, []), (.iload_n 2, 14, 2, 0, 0, []), (.aload_n 0, 15, 0, 0, 0, []), (.getfield 30, 16, 2, 4, 0, [88]), (.if_icmp .ge 26, 19, 27, 0, 0, []), (.aload_n 0, 22, 0, 0, 0, []), (.getfield 9, 23, 2, 0, 0, [80]), (.iload_n 1, 26, 1, 0, 0, []), (.iaload, 27, 0, 0, 0, []), (.aload_n 0, 28, 0, 0, 0, []), (.getfield 9, 29, 2, 0, 0, [80]), (.iload_n 2, 32, 2, 0, 0, []), (.iaload, 33, 0, 0, 0, []), (.if_icmp .ne 5, 34, 25, 0, 0, []), (.iconst 1, 37, 0, 0, 1, []), (.ireturn, 38, 0, 0, 0, []), (.iinc 2 1, 39, 2, 0, 1, []), (.goto (-28), 42, 10, 0, 0, []), (.iinc 1 1, 45, 1, 0, 1, []), (.goto (-46), 48, 2, 0, 0, []), (.iconst 0, 51, 0, 0, 0, []), (.ireturn, 52, 0, 0, 0, [])]
/-- 29: RoundBench.choose(II)Z -/
def am_k29 : List am_O := [(.aload_n 0, 0, 0, 0, 0, []), (.getfield 50, 1, 0, 3, 0, [247]), (.ifCond .eq 16, 4, 10, 0, 0, []), (.iload_n 1, 7, 1, 0, 0, []), (.ifCond .lt 12, 8, 10, 0, 0, []), (.iload_n 1, 11, 1, 0, 0, []), (.aload_n 0, 12, 0, 0, 0, []), (.getfield 42, 13, 0, 1, 0, [245]), (.arraylength, 16, 0, 0, 0, []), (.if_icmp .lt 5, 17, 12, 0, 0, []), (.iconst 0, 20, 0, 0, 0, []), (.ireturn, 21, 0, 0, 0, []), (.aload_n 0, 22, 0, 0, 0, []), (.getfield 42, 23, 0, 1, 0, [245]), (.iload_n 1, 26, 1, 0, 0, []), (.aaload, 27, 0, 0, 0, []), (.aload_n 0, 28, 0, 0, 0, []), (.getfield 10, 29, 0, 0, 0, [244]), (.getfield 54, 32, 1, 0, 0, [115]), (.iload_n 2, 35, 2, 0, 0, []), (.invokevirtual 90, 36, 0, 2, 1, [315, 317, 316]), (.ifCond .ne 5, 39, 24, 0, 0, []), (.iconst 0, 42, 0, 0, 0, []), (.ireturn, 43, 0, 0, 0, []), (.aload_n 0, 44, 0, 0, 0, []), (.aload_n 0, 45, 0, 0, 0, []), (.getfield 42, 46, 0, 1, 0, [245]), (.iload_n 1, 49, 1, 0, 0, []), (.aaload, 50, 0, 0, 0, []), (.putfield 46, 51, 0, 2, 0, [246]), (.aload_n 0, 54, 0, 0, 0, []), (.getfield 10, 55, 0, 0, 0, [244]), (.iload_n 2, 58, 2, 0, 0, []), (.invokevirtual 94, 59, 38, 1, 0, [346, 347, 348, 36, 349]), (.aload_n 0, 62, 0, 0, 0, []), (.getfield 46, 63, 0, 2, 0, [246]), (.aload_n 0, 66, 0, 0, 0, []), (.getfield 10, 67, 0, 0, 0, [244]), (.invokevirtual 97, 70, 1, 1, 1, [354, 356, 355]), (.aload_n 0, 73, 0, 0, 0, []), (.getfield 10, 74, 0, 0, 0, [244]), (.invokevirtual 101, 77, 53, 0, 0, [417, 418, 419, 36, 420]), (.iconst 1, 80, 0, 0, 1, []), (.ireturn, 81, 0, 0, 0, [])]
/-- 30: RoundBench$Chosen.takes(LRoundBench$Net;I)Z -/
def am_k30 : List am_O := [(.iconst 1, 0, 0, 0, 1, []), (.ireturn, 1, 0, 0, 0, [])]
/-- 31: RoundBench$Colours.takes(LRoundBench$Net;I)Z -/
def am_k31 : List am_O := [(.aload_n 1, 0, 1, 0, 0, []), (.iload_n 2, 1, 2, 0, 0, []), (.invokevirtual 9, 2, 20, 1, 0, [324, 275, 276, 37, 277]), (.ireturn, 5, 0, 0, 0, [])]
/-- 32: RoundBench$Core.takes(LRoundBench$Net;I)Z -/
def am_k32 : List am_O := [(.iload_n 2, 0, 2, 0, 0, []), (.iconst 1, 1, 0, 0, 1, []), (.if_icmp .lt 13, 2, 8, 0, 0, []), (.iload_n 2, 5, 2, 0, 0, []), (.bipush 12, 6, 0, 0, 12, []), (.if_icmp .gt 7, 8, 8, 0, 0, []), (.iconst 1, 11, 0, 0, 1, []), (.goto 4, 12, 9, 0, 0, []), (.iconst 0, 15, 0, 0, 0, []), (.ireturn, 16, 0, 0, 0, [])]
/-- 33: RoundBench$Least.takes(LRoundBench$Net;I)Z -/
def am_k33 : List am_O := [(.iconst 1, 0, 0, 0, 1, []), (.ireturn, 1, 0, 0, 0, [])]
/-- 34: RoundBench$Pairs.takes(LRoundBench$Net;I)Z -/
def am_k34 : List am_O := [(.iconst 1, 0, 0, 0, 1, []), (.ireturn, 1, 0, 0, 0, [])]
/-- 35: RoundBench$Sides.takes(LRoundBench$Net;I)Z -/
def am_k35 : List am_O := [(.aload_n 1, 0, 1, 0, 0, []), (.iload_n 2, 1, 2, 0, 0, []), (.invokevirtual 9, 2, 20, 1, 0, [337, 275, 276, 37, 277]), (.ireturn, 5, 0, 0, 0, [])]
/-- 36: RoundBench$Sums.takes(LRoundBench$Net;I)Z -/
def am_k36 : List am_O := [(.aload_n 1, 0, 1, 0, 0, []), (.iload_n 2, 1, 2, 0, 0, []), (.invokevirtual 9, 2, 20, 1, 0, [341, 275, 276, 37, 277]), (.ireturn, 5, 0, 0, 0, [])]
/-- 37: RoundBench$Ways.takes(LRoundBench$Net;I)Z -/
def am_k37 : List am_O := [(.aload_n 1, 0, 1, 0, 0, []), (.iload_n 2, 1, 2, 0, 0, []), (.invokevirtual 9, 2, 20, 1, 0, [345, 275, 276, 37, 277]), (.ireturn, 5, 0, 0, 0, [])]
/-- 38: RoundBench$Course.reset(I)V -/
def am_k38 : List am_O := [(.aload_n 0, 0, 0, 0, 0, []), (.iload_n 1, 1, 1, 0, 0, []), (.putfield 34, 2, 1, 5, 0, [150]), (.aload_n 0, 5, 0, 0, 0, []), (.iconst 0, 6, 0, 0, 0, []), (.putfield 38, 7, 1, 6, 0, [155]), (.aload_n 0, 10, 0, 0, 0, []), (.iconst 0, 11, 0, 0, 0, []), (.putfield 41, 12, 1, 7, 0, [163]), (.aload_n 0, 15, 0, 0, 0, []), (.iconst 0, 16, 0, 0, 0, []), (.invokevirtual 44, 17, 39, 1, 0, [350, 351, 352, 36, 353]), (.return_, 20, 0, 0, 0, [])]
/-- 39: RoundBench$Course.setFresh(Z)V -/
def am_k39 : List am_O := [(.iconst 0, 0, 0, 0, 0, []), (.istore_n 2, 1, 2, 0, 0, []), (.iload_n 2, 2, 2, 0, 0, []), (.bipush 12, 3, 0, 0, 12, []), (.if_icmp .ge 16, 5, 12, 0, 0, []), (.aload_n 0, 8, 0, 0, 0, []), (.getfield 26, 9, 1, 3, 0, [143]), (.iload_n 2, 12, 2, 0, 0, []), (.iload_n 1, 13, 1, 0, 0, []), (.bastore, 14, 0, 0, 0, []), (.iinc 2 1, 15, 2, 0, 1, []), (.goto (-16), 18, 2, 0, 0, []), (.return_, 21, 0, 0, 0, [])]
/-- 40: RoundBench$Chosen.start(LRoundBench$Course;)V -/
def am_k40 : List am_O := [(.aload_n 1, 0, 1, 0, 0, []), (.iconst 0, 1, 0, 0, 0, []), (.iconst 0, 2, 0, 0, 0, []), (.iconst (-1), 3, 0, 0, (-1), []), (.invokevirtual 11, 4, 41, 3, 0, [360, 361, 362, 36, 363]), (.return_, 7, 0, 0, 0, [])]
/-- 41: RoundBench$Course.holdEverywhere(III)V -/
def am_k41 : List am_O := [(.aload_n 0, 0, 0, 0, 0, []), (.getfield 20, 1, 1, 1, 0, [124]), (.iconst 0, 4, 0, 0, 0, []), (.aaload, 5, 0, 0, 0, []), (.iload_n 1, 6, 1, 0, 0, []), (.invokestatic 48, 7, 6, 2, 0, [364, 78, 38, 79]), (.aload_n 0, 10, 0, 0, 0, []), (.getfield 20, 11, 1, 1, 0, [124]), (.iconst 1, 14, 0, 0, 1, []), (.aaload, 15, 0, 0, 0, []), (.iload_n 2, 16, 2, 0, 0, []), (.invokestatic 48, 17, 6, 2, 0, [364, 78, 38, 79]), (.aload_n 0, 20, 0, 0, 0, []), (.getfield 20, 21, 1, 1, 0, [124]), (.iconst 2, 24, 0, 0, 2, []), (.aaload, 25, 0, 0, 0, []), (.iload_n 3, 26, 3, 0, 0, []), (.invokestatic 48, 27, 6, 2, 0, [364, 78, 38, 79]), (.return_, 30, 0, 0, 0, [])]
/-- 42: RoundBench$Colours.start(LRoundBench$Course;)V -/
def am_k42 : List am_O := [(.aload_n 1, 0, 1, 0, 0, []), (.iconst (-1), 1, 0, 0, (-1), []), (.iconst (-1), 2, 0, 0, (-1), []), (.iconst (-1), 3, 0, 0, (-1), []), (.invokevirtual 15, 4, 41, 3, 0, [368, 361, 362, 36, 363]), (.aload_n 1, 7, 1, 0, 0, []), (.invokevirtual 21, 8, 43, 0, 0, [369, 370, 371, 36, 372]), (.aload_n 1, 11, 1, 0, 0, []), (.invokevirtual 24, 12, 44, 0, 0, [376, 377, 378, 36, 379]), (.return_, 15, 0, 0, 0, [])]
/-- 43: RoundBench$Course.holdIdentities()V -/
def am_k43 : List am_O := [(.aload_n 0, 0, 0, 0, 0, []), (.getfield 12, 1, 1, 0, 0, [114]), (.getfield 54, 4, 2, 0, 0, [82]), (.iconst 0, 7, 0, 0, 0, []), (.aload_n 0, 8, 0, 0, 0, []), (.getfield 20, 9, 1, 1, 0, [124]), (.iconst 0, 12, 0, 0, 0, []), (.aaload, 13, 0, 0, 0, []), (.iconst 0, 14, 0, 0, 0, []), (.bipush 12, 15, 0, 0, 12, []), (.invokestatic 57, 17, 0, 5, 2, [373, 375, 374, 49]), (.return_, 20, 0, 0, 0, [])]
/-- 44: RoundBench$Course.growTree()V -/
def am_k44 : List am_O := [(.aload_n 0, 0, 0, 0, 0, []), (.getfield 12, 1, 1, 0, 0, [114]), (.aload_n 0, 4, 0, 0, 0, []), (.getfield 34, 5, 1, 5, 0, [150]), (.invokevirtual 66, 8, 26, 1, 0, [380, 300, 301, 37, 302]), (.iconst 0, 11, 0, 0, 0, []), (.istore_n 1, 12, 1, 0, 0, []), (.iload_n 1, 13, 1, 0, 0, []), (.aload_n 0, 14, 0, 0, 0, []), (.getfield 12, 15, 1, 0, 0, [114]), (.getfield 63, 18, 2, 4, 0, [97]), (.if_icmp .ge 23, 21, 22, 0, 0, []), (.aload_n 0, 24, 0, 0, 0, []), (.getfield 30, 25, 1, 4, 0, [147]), (.iload_n 1, 28, 1, 0, 0, []), (.aload_n 0, 29, 0, 0, 0, []), (.getfield 12, 30, 1, 0, 0, [114]), (.iload_n 1, 33, 1, 0, 0, []), (.invokevirtual 70, 34, 45, 1, 0, [381, 382, 383, 37, 384]), (.iastore, 37, 0, 0, 0, []), (.iinc 1 1, 38, 1, 0, 1, []), (.goto (-28), 41, 7, 0, 0, []), (.return_, 44, 0, 0, 0, [])]
/-- 45: RoundBench$Net.nearerNeighbour(I)I -/
def am_k45 : List am_O := [(.aload_n 0, 0, 0, 0, 0, []), (.getfield 23, 1, 2, 3, 0, [87]), (.iload_n 1, 4, 1, 0, 0, []), (.iaload, 5, 0, 0, 0, []), (.ifCond .gt 5, 6, 7, 0, 0, []), (.iconst (-1), 9, 0, 0, (-1), []), (.ireturn, 10, 0, 0, 0, []), (.iconst 0, 11, 0, 0, 0, []), (.istore_n 2, 12, 2, 0, 0, []), (.iload_n 2, 13, 2, 0, 0, []), (.aload_n 0, 14, 0, 0, 0, []), (.getfield 30, 15, 2, 4, 0, [88]), (.if_icmp .ge 37, 18, 33, 0, 0, []), (.aload_n 0, 21, 0, 0, 0, []), (.iload_n 1, 22, 1, 0, 0, []), (.iload_n 2, 23, 2, 0, 0, []), (.invokevirtual 47, 24, 21, 2, 0, [278, 279, 280, 37, 281]), (.ifCond .eq 22, 27, 31, 0, 0, []), (.aload_n 0, 30, 0, 0, 0, []), (.getfield 23, 31, 2, 3, 0, [87]), (.iload_n 2, 34, 2, 0, 0, []), (.iaload, 35, 0, 0, 0, []), (.aload_n 0, 36, 0, 0, 0, []), (.getfield 23, 37, 2, 3, 0, [87]), (.iload_n 1, 40, 1, 0, 0, []), (.iaload, 41, 0, 0, 0, []), (.iconst 1, 42, 0, 0, 1, []), (.isub, 43, 0, 0, 0, []), (.if_icmp .ne 5, 44, 31, 0, 0, []), (.iload_n 2, 47, 2, 0, 0, []), (.ireturn, 48, 0, 0, 0, []), (.iinc 2 1, 49, 2, 0, 1, []), (.goto (-39), 52, 9, 0, 0, []), (.iconst (-1), 55, 0, 0, (-1), []), (.ireturn, 56, 0, 0, 0, [])]
/-- 46: RoundBench$Core.start(LRoundBench$Course;)V -/
def am_k46 : List am_O := [(.aload_n 1, 0, 1, 0, 0, []), (.iconst 1, 1, 0, 0, 1, []), (.iconst 0, 2, 0, 0, 0, []), (.iconst 0, 3, 0, 0, 0, []), (.invokevirtual 11, 4, 41, 3, 0, [388, 361, 362, 36, 363]), (.iconst 0, 7, 0, 0, 0, []), (.istore_n 2, 8, 2, 0, 0, []), (.iload_n 2, 9, 2, 0, 0, []), (.aload_n 1, 10, 1, 0, 0, []), (.getfield 17, 11, 1, 0, 0, [116]), (.getfield 21, 14, 2, 4, 0, [89]), (.if_icmp .ge 25, 17, 24, 0, 0, []), (.aload_n 1, 20, 1, 0, 0, []), (.getfield 27, 21, 1, 1, 0, [127]), (.iconst 2, 24, 0, 0, 2, []), (.aaload, 25, 0, 0, 0, []), (.iload_n 2, 26, 2, 0, 0, []), (.aload_n 1, 27, 1, 0, 0, []), (.getfield 17, 28, 1, 0, 0, [116]), (.iload_n 2, 31, 2, 0, 0, []), (.invokevirtual 31, 32, 47, 1, 0, [389, 390, 391, 37, 392]), (.iastore, 35, 0, 0, 0, []), (.iinc 2 1, 36, 2, 0, 1, []), (.goto (-30), 39, 7, 0, 0, []), (.return_, 42, 0, 0, 0, [])]
/-- 47: RoundBench$Net.countNeighbours(I)I -/
def am_k47 : List am_O := [(.iconst 0, 0, 0, 0, 0, []), (.istore_n 2, 1, 2, 0, 0, []), (.iconst 0, 2, 0, 0, 0, []), (.istore_n 3, 3, 3, 0, 0, []), (.iload_n 3, 4, 3, 0, 0, []), (.aload_n 0, 5, 0, 0, 0, []), (.getfield 30, 6, 2, 4, 0, [88]), (.if_icmp .ge 21, 9, 16, 0, 0, []), (.aload_n 0, 12, 0, 0, 0, []), (.iload_n 1, 13, 1, 0, 0, []), (.iload_n 3, 14, 3, 0, 0, []), (.invokevirtual 47, 15, 21, 2, 0, [278, 279, 280, 37, 281]), (.ifCond .eq 6, 18, 14, 0, 0, []), (.iinc 2 1, 21, 2, 0, 1, []), (.iinc 3 1, 24, 3, 0, 1, []), (.goto (-23), 27, 4, 0, 0, []), (.iload_n 2, 30, 2, 0, 0, []), (.ireturn, 31, 0, 0, 0, [])]
/-- 48: RoundBench$Least.start(LRoundBench$Course;)V -/
def am_k48 : List am_O := [(.aload_n 1, 0, 1, 0, 0, []), (.iconst (-1), 1, 0, 0, (-1), []), (.iconst 0, 2, 0, 0, 0, []), (.iconst (-1), 3, 0, 0, (-1), []), (.invokevirtual 9, 4, 41, 3, 0, [396, 361, 362, 36, 363]), (.aload_n 1, 7, 1, 0, 0, []), (.invokevirtual 15, 8, 43, 0, 0, [397, 370, 371, 36, 372]), (.aload_n 1, 11, 1, 0, 0, []), (.iconst 1, 12, 0, 0, 1, []), (.invokevirtual 18, 13, 39, 1, 0, [398, 351, 352, 36, 353]), (.return_, 16, 0, 0, 0, [])]
/-- 49: RoundBench$Pairs.start(LRoundBench$Course;)V -/
def am_k49 : List am_O := [(.aload_n 1, 0, 1, 0, 0, []), (.iconst (-1), 1, 0, 0, (-1), []), (.iconst 0, 2, 0, 0, 0, []), (.iconst (-1), 3, 0, 0, (-1), []), (.invokevirtual 9, 4, 41, 3, 0, [402, 361, 362, 36, 363]), (.return_, 7, 0, 0, 0, [])]
/-- 50: RoundBench$Sides.start(LRoundBench$Course;)V -/
def am_k50 : List am_O := [(.aload_n 1, 0, 1, 0, 0, []), (.iconst (-1), 1, 0, 0, (-1), []), (.iconst 0, 2, 0, 0, 0, []), (.iconst 0, 3, 0, 0, 0, []), (.invokevirtual 15, 4, 41, 3, 0, [406, 361, 362, 36, 363]), (.aload_n 1, 7, 1, 0, 0, []), (.getfield 21, 8, 1, 1, 0, [125]), (.iconst 0, 11, 0, 0, 0, []), (.aaload, 12, 0, 0, 0, []), (.aload_n 1, 13, 1, 0, 0, []), (.getfield 25, 14, 1, 5, 0, [151]), (.iconst 0, 17, 0, 0, 0, []), (.iastore, 18, 0, 0, 0, []), (.aload_n 1, 19, 1, 0, 0, []), (.getfield 29, 20, 1, 3, 0, [144]), (.aload_n 1, 23, 1, 0, 0, []), (.getfield 25, 24, 1, 5, 0, [151]), (.iconst 1, 27, 0, 0, 1, []), (.bastore, 28, 0, 0, 0, []), (.return_, 29, 0, 0, 0, [])]
/-- 51: RoundBench$Sums.start(LRoundBench$Course;)V -/
def am_k51 : List am_O := [(.aload_n 1, 0, 1, 0, 0, []), (.iconst (-1), 1, 0, 0, (-1), []), (.iconst 0, 2, 0, 0, 0, []), (.iconst 0, 3, 0, 0, 0, []), (.invokevirtual 15, 4, 41, 3, 0, [410, 361, 362, 36, 363]), (.aload_n 1, 7, 1, 0, 0, []), (.invokevirtual 21, 8, 43, 0, 0, [411, 370, 371, 36, 372]), (.aload_n 1, 11, 1, 0, 0, []), (.invokevirtual 24, 12, 44, 0, 0, [412, 377, 378, 36, 379]), (.iconst 0, 15, 0, 0, 0, []), (.istore_n 2, 16, 2, 0, 0, []), (.iload_n 2, 17, 2, 0, 0, []), (.aload_n 1, 18, 1, 0, 0, []), (.getfield 27, 19, 1, 0, 0, [117]), (.getfield 31, 22, 2, 4, 0, [90]), (.if_icmp .ge 33, 25, 36, 0, 0, []), (.aload_n 1, 28, 1, 0, 0, []), (.getfield 35, 29, 1, 4, 0, [148]), (.iload_n 2, 32, 2, 0, 0, []), (.iaload, 33, 0, 0, 0, []), (.istore_n 3, 34, 3, 0, 0, []), (.iload_n 3, 35, 3, 0, 0, []), (.iconst (-1), 36, 0, 0, (-1), []), (.if_icmp .eq 15, 37, 34, 0, 0, []), (.aload_n 1, 40, 1, 0, 0, []), (.getfield 39, 41, 1, 1, 0, [128]), (.iconst 1, 44, 0, 0, 1, []), (.aaload, 45, 0, 0, 0, []), (.iload_n 3, 46, 3, 0, 0, []), (.dup2, 47, 0, 0, 0, []), (.iaload, 48, 0, 0, 0, []), (.iconst 1, 49, 0, 0, 1, []), (.iadd, 50, 0, 0, 0, []), (.iastore, 51, 0, 0, 0, []), (.iinc 2 1, 52, 2, 0, 1, []), (.goto (-38), 55, 11, 0, 0, []), (.return_, 58, 0, 0, 0, [])]
/-- 52: RoundBench$Ways.start(LRoundBench$Course;)V -/
def am_k52 : List am_O := [(.aload_n 1, 0, 1, 0, 0, []), (.iconst (-1), 1, 0, 0, (-1), []), (.iconst (-1), 2, 0, 0, (-1), []), (.iconst 0, 3, 0, 0, 0, []), (.invokevirtual 15, 4, 41, 3, 0, [416, 361, 362, 36, 363]), (.aload_n 1, 7, 1, 0, 0, []), (.getfield 21, 8, 1, 1, 0, [126]), (.iconst 0, 11, 0, 0, 0, []), (.aaload, 12, 0, 0, 0, []), (.aload_n 1, 13, 1, 0, 0, []), (.getfield 25, 14, 1, 5, 0, [152]), (.iconst 0, 17, 0, 0, 0, []), (.iastore, 18, 0, 0, 0, []), (.aload_n 1, 19, 1, 0, 0, []), (.getfield 29, 20, 1, 3, 0, [145]), (.aload_n 1, 23, 1, 0, 0, []), (.getfield 25, 24, 1, 5, 0, [152]), (.iconst 1, 27, 0, 0, 1, []), (.bastore, 28, 0, 0, 0, []), (.return_, 29, 0, 0, 0, [])]
/-- 53: RoundBench$Course.settle()V -/
def am_k53 : List am_O := [(.iconst 0, 0, 0, 0, 0, []), (.istore_n 1, 1, 1, 0, 0, []), (.iload_n 1, 2, 1, 0, 0, []), (.iconst 3, 3, 0, 0, 3, []), (.if_icmp .ge 28, 4, 19, 0, 0, []), (.aload_n 0, 7, 0, 0, 0, []), (.getfield 20, 8, 1, 1, 0, [124]), (.iload_n 1, 11, 1, 0, 0, []), (.aaload, 12, 0, 0, 0, []), (.iconst 0, 13, 0, 0, 0, []), (.aload_n 0, 14, 0, 0, 0, []), (.getfield 23, 15, 1, 2, 0, [134]), (.iload_n 1, 18, 1, 0, 0, []), (.aaload, 19, 0, 0, 0, []), (.iconst 0, 20, 0, 0, 0, []), (.bipush 12, 21, 0, 0, 12, []), (.invokestatic 57, 23, 0, 5, 2, [373, 375, 374, 49]), (.iinc 1 1, 26, 1, 0, 1, []), (.goto (-27), 29, 2, 0, 0, []), (.return_, 32, 0, 0, 0, [])]
/-- 54: RoundBench.round()I -/
def am_k54 : List am_O := [(.aload_n 0, 0, 0, 0, 0, []), (.getfield 46, 1, 0, 2, 0, [246]), (.ifnull 17, 4, 9, 0, 0, []), (.aload_n 0, 7, 0, 0, 0, []), (.getfield 46, 8, 0, 2, 0, [246]), (.aload_n 0, 11, 0, 0, 0, []), (.getfield 10, 12, 0, 0, 0, [244]), (.invokevirtual 104, 15, 2, 1, 1, [425, 427, 426]), (.ifCond .eq 5, 18, 11, 0, 0, []), (.iconst (-1), 21, 0, 0, (-1), []), (.ireturn, 22, 0, 0, 0, []), (.aload_n 0, 23, 0, 0, 0, []), (.invokevirtual 108, 24, 67, 0, 0, [472, 474, 2, 35, 475]), (.ireturn, 27, 0, 0, 0, [])]
/-- 55: RoundBench$Chosen.isOver(LRoundBench$Course;)Z -/
def am_k55 : List am_O := [(.iconst 0, 0, 0, 0, 0, []), (.istore_n 2, 1, 2, 0, 0, []), (.iload_n 2, 2, 2, 0, 0, []), (.aload_n 1, 3, 1, 0, 0, []), (.getfield 17, 4, 1, 0, 0, [118]), (.getfield 21, 7, 2, 4, 0, [91]), (.if_icmp .ge 22, 10, 18, 0, 0, []), (.aload_n 1, 13, 1, 0, 0, []), (.getfield 27, 14, 1, 2, 0, [136]), (.iconst 0, 17, 0, 0, 0, []), (.aaload, 18, 0, 0, 0, []), (.iload_n 2, 19, 2, 0, 0, []), (.iaload, 20, 0, 0, 0, []), (.ifCond .ne 5, 21, 16, 0, 0, []), (.iconst 0, 24, 0, 0, 0, []), (.ireturn, 25, 0, 0, 0, []), (.iinc 2 1, 26, 2, 0, 1, []), (.goto (-27), 29, 2, 0, 0, []), (.iconst 1, 32, 0, 0, 1, []), (.ireturn, 33, 0, 0, 0, [])]
/-- 56: RoundBench$Colours.isOver(LRoundBench$Course;)Z -/
def am_k56 : List am_O := [(.aload_n 1, 0, 1, 0, 0, []), (.getfield 27, 1, 1, 6, 0, [156]), (.iconst 4, 4, 0, 0, 4, []), (.if_icmp .lt 7, 5, 6, 0, 0, []), (.iconst 1, 8, 0, 0, 1, []), (.goto 4, 9, 7, 0, 0, []), (.iconst 0, 12, 0, 0, 0, []), (.ireturn, 13, 0, 0, 0, [])]
/-- 57: RoundBench$Core.isOver(LRoundBench$Course;)Z -/
def am_k57 : List am_O := [(.iconst 0, 0, 0, 0, 0, []), (.istore_n 2, 1, 2, 0, 0, []), (.iload_n 2, 2, 2, 0, 0, []), (.aload_n 1, 3, 1, 0, 0, []), (.getfield 17, 4, 1, 0, 0, [116]), (.getfield 21, 7, 2, 4, 0, [89]), (.if_icmp .ge 19, 10, 15, 0, 0, []), (.aload_n 1, 13, 1, 0, 0, []), (.iload_n 2, 14, 2, 0, 0, []), (.invokestatic 35, 15, 58, 2, 0, [437, 438, 46, 439]), (.ifCond .eq 5, 18, 13, 0, 0, []), (.iconst 0, 21, 0, 0, 0, []), (.ireturn, 22, 0, 0, 0, []), (.iinc 2 1, 23, 2, 0, 1, []), (.goto (-24), 26, 2, 0, 0, []), (.iconst 1, 29, 0, 0, 1, []), (.ireturn, 30, 0, 0, 0, [])]
/-- 58: RoundBench$Core.drops(LRoundBench$Course;I)Z -/
def am_k58 : List am_O := [(.aload_n 0, 0, 0, 0, 0, []), (.getfield 47, 1, 1, 2, 0, [138]), (.iconst 0, 4, 0, 0, 0, []), (.aaload, 5, 0, 0, 0, []), (.iload_n 1, 6, 1, 0, 0, []), (.iaload, 7, 0, 0, 0, []), (.iconst 1, 8, 0, 0, 1, []), (.if_icmp .ne 20, 9, 17, 0, 0, []), (.aload_n 0, 12, 0, 0, 0, []), (.iload_n 1, 13, 1, 0, 0, []), (.iconst 1, 14, 0, 0, 1, []), (.invokevirtual 43, 15, 59, 2, 0, [440, 441, 442, 36, 443]), (.aload_n 0, 18, 0, 0, 0, []), (.getfield 53, 19, 1, 5, 0, [154]), (.if_icmp .ge 7, 22, 17, 0, 0, []), (.iconst 1, 25, 0, 0, 1, []), (.goto 4, 26, 18, 0, 0, []), (.iconst 0, 29, 0, 0, 0, []), (.ireturn, 30, 0, 0, 0, [])]
/-- 59: RoundBench$Course.countNeighboursWith(II)I -/
def am_k59 : List am_O := [(.iconst 0, 0, 0, 0, 0, []), (.istore_n 3, 1, 3, 0, 0, []), (.iconst 0, 2, 0, 0, 0, []), (.istore 4, 3, 4, 0, 0, []), (.iload 4, 5, 4, 0, 0, []), (.aload_n 0, 7, 0, 0, 0, []), (.getfield 12, 8, 1, 0, 0, [114]), (.getfield 63, 11, 2, 4, 0, [97]), (.if_icmp .ge 38, 14, 26, 0, 0, []), (.aload_n 0, 17, 0, 0, 0, []), (.getfield 12, 18, 1, 0, 0, [114]), (.iload_n 1, 21, 1, 0, 0, []), (.iload 4, 22, 4, 0, 0, []), (.invokevirtual 74, 24, 21, 2, 0, [444, 279, 280, 37, 281]), (.ifCond .eq 19, 27, 24, 0, 0, []), (.aload_n 0, 30, 0, 0, 0, []), (.getfield 23, 31, 1, 2, 0, [134]), (.iconst 0, 34, 0, 0, 0, []), (.aaload, 35, 0, 0, 0, []), (.iload 4, 36, 4, 0, 0, []), (.iaload, 38, 0, 0, 0, []), (.iload_n 2, 39, 2, 0, 0, []), (.if_icmp .ne 6, 40, 24, 0, 0, []), (.iinc 3 1, 43, 3, 0, 1, []), (.iinc 4 1, 46, 4, 0, 1, []), (.goto (-44), 49, 4, 0, 0, []), (.iload_n 3, 52, 3, 0, 0, []), (.ireturn, 53, 0, 0, 0, [])]
/-- 60: RoundBench$Least.isOver(LRoundBench$Course;)Z -/
def am_k60 : List am_O := [(.aload_n 1, 0, 1, 0, 0, []), (.invokevirtual 22, 1, 61, 0, 0, [448, 449, 450, 36, 451]), (.ifCond .ne 7, 4, 5, 0, 0, []), (.iconst 1, 7, 0, 0, 1, []), (.goto 4, 8, 6, 0, 0, []), (.iconst 0, 11, 0, 0, 0, []), (.ireturn, 12, 0, 0, 0, [])]
/-- 61: RoundBench$Course.countFreshLetters()I -/
def am_k61 : List am_O := [(.iconst 0, 0, 0, 0, 0, []), (.istore_n 1, 1, 1, 0, 0, []), (.iconst 0, 2, 0, 0, 0, []), (.istore_n 2, 3, 2, 0, 0, []), (.iload_n 2, 4, 2, 0, 0, []), (.aload_n 0, 5, 0, 0, 0, []), (.getfield 12, 6, 1, 0, 0, [114]), (.getfield 63, 9, 2, 4, 0, [97]), (.if_icmp .ge 29, 12, 23, 0, 0, []), (.aload_n 0, 15, 0, 0, 0, []), (.getfield 26, 16, 1, 3, 0, [143]), (.iload_n 2, 19, 2, 0, 0, []), (.baload, 20, 0, 0, 0, []), (.ifCond .eq 14, 21, 21, 0, 0, []), (.iload_n 1, 24, 1, 0, 0, []), (.aload_n 0, 25, 0, 0, 0, []), (.getfield 12, 26, 1, 0, 0, [114]), (.iload_n 2, 29, 2, 0, 0, []), (.invokevirtual 82, 30, 47, 1, 0, [452, 390, 391, 37, 392]), (.iadd, 33, 0, 0, 0, []), (.istore_n 1, 34, 1, 0, 0, []), (.iinc 2 1, 35, 2, 0, 1, []), (.goto (-34), 38, 4, 0, 0, []), (.iload_n 1, 41, 1, 0, 0, []), (.ireturn, 42, 0, 0, 0, [])]
/-- 62: RoundBench$Pairs.isOver(LRoundBench$Course;)Z -/
def am_k62 : List am_O := [(.aload_n 1, 0, 1, 0, 0, []), (.iconst (-1), 1, 0, 0, (-1), []), (.invokevirtual 15, 2, 63, 1, 0, [456, 457, 458, 36, 459]), (.ifCond .ne 7, 5, 6, 0, 0, []), (.iconst 1, 8, 0, 0, 1, []), (.goto 4, 9, 7, 0, 0, []), (.iconst 0, 12, 0, 0, 0, []), (.ireturn, 13, 0, 0, 0, [])]
/-- 63: RoundBench$Course.countLettersAmong(I)I -/
def am_k63 : List am_O := [(.iconst 0, 0, 0, 0, 0, []), (.istore_n 2, 1, 2, 0, 0, []), (.iconst 0, 2, 0, 0, 0, []), (.istore_n 3, 3, 3, 0, 0, []), (.iload_n 3, 4, 3, 0, 0, []), (.aload_n 0, 5, 0, 0, 0, []), (.getfield 12, 6, 1, 0, 0, [114]), (.getfield 63, 9, 2, 4, 0, [97]), (.if_icmp .ge 30, 12, 26, 0, 0, []), (.aload_n 0, 15, 0, 0, 0, []), (.getfield 23, 16, 1, 2, 0, [134]), (.iconst 0, 19, 0, 0, 0, []), (.aaload, 20, 0, 0, 0, []), (.iload_n 3, 21, 3, 0, 0, []), (.iaload, 22, 0, 0, 0, []), (.iload_n 1, 23, 1, 0, 0, []), (.if_icmp .ne 12, 24, 24, 0, 0, []), (.iload_n 2, 27, 2, 0, 0, []), (.aload_n 0, 28, 0, 0, 0, []), (.iload_n 3, 29, 3, 0, 0, []), (.iload_n 1, 30, 1, 0, 0, []), (.invokevirtual 78, 31, 59, 2, 0, [460, 441, 442, 36, 443]), (.iadd, 34, 0, 0, 0, []), (.istore_n 2, 35, 2, 0, 0, []), (.iinc 3 1, 36, 3, 0, 1, []), (.goto (-35), 39, 4, 0, 0, []), (.iload_n 2, 42, 2, 0, 0, []), (.ireturn, 43, 0, 0, 0, [])]
/-- 64: RoundBench$Sides.isOver(LRoundBench$Course;)Z -/
def am_k64 : List am_O := [(.aload_n 1, 0, 1, 0, 0, []), (.invokevirtual 33, 1, 61, 0, 0, [464, 449, 450, 36, 451]), (.ifCond .ne 7, 4, 5, 0, 0, []), (.iconst 1, 7, 0, 0, 1, []), (.goto 4, 8, 6, 0, 0, []), (.iconst 0, 11, 0, 0, 0, []), (.ireturn, 12, 0, 0, 0, [])]
/-- 65: RoundBench$Sums.isOver(LRoundBench$Course;)Z -/
def am_k65 : List am_O := [(.aload_n 1, 0, 1, 0, 0, []), (.getfield 43, 1, 1, 2, 0, [135]), (.iconst 2, 4, 0, 0, 2, []), (.aaload, 5, 0, 0, 0, []), (.aload_n 1, 6, 1, 0, 0, []), (.getfield 46, 7, 1, 5, 0, [153]), (.iaload, 10, 0, 0, 0, []), (.iconst 1, 11, 0, 0, 1, []), (.if_icmp .ne 7, 12, 11, 0, 0, []), (.iconst 1, 15, 0, 0, 1, []), (.goto 4, 16, 12, 0, 0, []), (.iconst 0, 19, 0, 0, 0, []), (.ireturn, 20, 0, 0, 0, [])]
/-- 66: RoundBench$Ways.isOver(LRoundBench$Course;)Z -/
def am_k66 : List am_O := [(.aload_n 1, 0, 1, 0, 0, []), (.invokevirtual 33, 1, 61, 0, 0, [471, 449, 450, 36, 451]), (.ifCond .ne 7, 4, 5, 0, 0, []), (.iconst 1, 7, 0, 0, 1, []), (.goto 4, 8, 6, 0, 0, []), (.iconst 0, 11, 0, 0, 0, []), (.ireturn, 12, 0, 0, 0, [])]
/-- 67: RoundBench.playRound()I -/
def am_k67 : List am_O := [(.aload_n 0, 0, 0, 0, 0, []), (.getfield 10, 1, 0, 0, 0, [244]), (.dup, 4, 0, 0, 0, []), (.getfield 118, 5, 1, 6, 0, [162]), (.iconst 1, 8, 0, 0, 1, []), (.iadd, 9, 0, 0, 0, []), (.putfield 118, 10, 1, 6, 0, [162]), (.aload_n 0, 13, 0, 0, 0, []), (.getfield 46, 14, 0, 2, 0, [246]), (.aload_n 0, 17, 0, 0, 0, []), (.getfield 10, 18, 0, 0, 0, [244]), (.invokevirtual 129, 21, 3, 1, 1, [476, 478, 477]), (.istore_n 1, 24, 1, 0, 0, []), (.aload_n 0, 25, 0, 0, 0, []), (.getfield 46, 26, 0, 2, 0, [246]), (.aload_n 0, 29, 0, 0, 0, []), (.getfield 10, 30, 0, 0, 0, [244]), (.invokevirtual 133, 33, 4, 1, 1, [507, 509, 508]), (.aload_n 0, 36, 0, 0, 0, []), (.getfield 10, 37, 0, 0, 0, [244]), (.dup, 40, 0, 0, 0, []), (.getfield 122, 41, 1, 7, 0, [164]), (.iload_n 1, 44, 1, 0, 0, []), (.iadd, 45, 0, 0, 0, []), (.putfield 122, 46, 1, 7, 0, [164]), (.aload_n 0, 49, 0, 0, 0, []), (.getfield 10, 50, 0, 0, 0, [244]), (.invokevirtual 136, 53, 96, 0, 0, [573, 574, 575, 36, 576]), (.aload_n 0, 56, 0, 0, 0, []), (.getfield 10, 57, 0, 0, 0, [244]), (.invokevirtual 101, 60, 53, 0, 0, [417, 418, 419, 36, 420]), (.iload_n 1, 63, 1, 0, 0, []), (.ireturn, 64, 0, 0, 0, [])]
/-- 68: RoundBench$Chosen.countLetters(LRoundBench$Course;)I -/
def am_k68 : List am_O := [(.aload_n 1, 0, 1, 0, 0, []), (.iconst 0, 1, 0, 0, 0, []), (.invokevirtual 31, 2, 63, 1, 0, [482, 457, 458, 36, 459]), (.ireturn, 5, 0, 0, 0, [])]
/-- 69: RoundBench$Colours.countLetters(LRoundBench$Course;)I -/
def am_k69 : List am_O := [(.aload_n 1, 0, 1, 0, 0, []), (.getfield 33, 1, 1, 0, 0, [119]), (.getfield 37, 4, 2, 4, 0, [92]), (.iconst 1, 7, 0, 0, 1, []), (.isub, 8, 0, 0, 0, []), (.ireturn, 9, 0, 0, 0, [])]
/-- 70: RoundBench$Core.countLetters(LRoundBench$Course;)I -/
def am_k70 : List am_O := [(.iconst 0, 0, 0, 0, 0, []), (.istore_n 2, 1, 2, 0, 0, []), (.iconst 0, 2, 0, 0, 0, []), (.istore_n 3, 3, 3, 0, 0, []), (.iload_n 3, 4, 3, 0, 0, []), (.aload_n 1, 5, 1, 0, 0, []), (.getfield 17, 6, 1, 0, 0, [116]), (.getfield 21, 9, 2, 4, 0, [89]), (.if_icmp .ge 27, 12, 23, 0, 0, []), (.aload_n 1, 15, 1, 0, 0, []), (.getfield 39, 16, 1, 3, 0, [146]), (.iload_n 3, 19, 3, 0, 0, []), (.baload, 20, 0, 0, 0, []), (.ifCond .eq 12, 21, 21, 0, 0, []), (.iload_n 2, 24, 2, 0, 0, []), (.aload_n 1, 25, 1, 0, 0, []), (.iload_n 3, 26, 3, 0, 0, []), (.iconst 1, 27, 0, 0, 1, []), (.invokevirtual 43, 28, 59, 2, 0, [440, 441, 442, 36, 443]), (.iadd, 31, 0, 0, 0, []), (.istore_n 2, 32, 2, 0, 0, []), (.iinc 3 1, 33, 3, 0, 1, []), (.goto (-32), 36, 4, 0, 0, []), (.iload_n 2, 39, 2, 0, 0, []), (.ireturn, 40, 0, 0, 0, [])]
/-- 71: RoundBench$Least.countLetters(LRoundBench$Course;)I -/
def am_k71 : List am_O := [(.aload_n 1, 0, 1, 0, 0, []), (.invokevirtual 22, 1, 61, 0, 0, [448, 449, 450, 36, 451]), (.ireturn, 4, 0, 0, 0, [])]
/-- 72: RoundBench$Pairs.countLetters(LRoundBench$Course;)I -/
def am_k72 : List am_O := [(.aload_n 1, 0, 1, 0, 0, []), (.iconst (-1), 1, 0, 0, (-1), []), (.invokevirtual 15, 2, 63, 1, 0, [456, 457, 458, 36, 459]), (.ireturn, 5, 0, 0, 0, [])]
/-- 73: RoundBench$Sides.countLetters(LRoundBench$Course;)I -/
def am_k73 : List am_O := [(.aload_n 1, 0, 1, 0, 0, []), (.invokevirtual 33, 1, 61, 0, 0, [464, 449, 450, 36, 451]), (.ireturn, 4, 0, 0, 0, [])]
/-- 74: RoundBench$Sums.countLetters(LRoundBench$Course;)I -/
def am_k74 : List am_O := [(.iconst 0, 0, 0, 0, 0, []), (.istore_n 2, 1, 2, 0, 0, []), (.iconst 0, 2, 0, 0, 0, []), (.istore_n 3, 3, 3, 0, 0, []), (.iload_n 3, 4, 3, 0, 0, []), (.aload_n 1, 5, 1, 0, 0, []), (.getfield 27, 6, 1, 0, 0, [117]), (.getfield 31, 9, 2, 4, 0, [90]), (.if_icmp .ge 30, 12, 22, 0, 0, []), (.aload_n 1, 15, 1, 0, 0, []), (.iload_n 3, 16, 3, 0, 0, []), (.invokestatic 49, 17, 75, 2, 0, [501, 502, 42, 503]), (.ifCond .eq 16, 20, 20, 0, 0, []), (.aload_n 1, 23, 1, 0, 0, []), (.getfield 35, 24, 1, 4, 0, [148]), (.iload_n 3, 27, 3, 0, 0, []), (.iaload, 28, 0, 0, 0, []), (.iconst (-1), 29, 0, 0, (-1), []), (.if_icmp .eq 6, 30, 20, 0, 0, []), (.iinc 2 1, 33, 2, 0, 1, []), (.iinc 3 1, 36, 3, 0, 1, []), (.goto (-35), 39, 4, 0, 0, []), (.iload_n 2, 42, 2, 0, 0, []), (.ireturn, 43, 0, 0, 0, [])]
/-- 75: RoundBench$Sums.isDue(LRoundBench$Course;I)Z -/
def am_k75 : List am_O := [(.aload_n 0, 0, 0, 0, 0, []), (.getfield 43, 1, 1, 2, 0, [135]), (.iconst 1, 4, 0, 0, 1, []), (.aaload, 5, 0, 0, 0, []), (.iload_n 1, 6, 1, 0, 0, []), (.iaload, 7, 0, 0, 0, []), (.ifCond .ne 18, 8, 16, 0, 0, []), (.aload_n 0, 11, 0, 0, 0, []), (.getfield 43, 12, 1, 2, 0, [135]), (.iconst 2, 15, 0, 0, 2, []), (.aaload, 16, 0, 0, 0, []), (.iload_n 1, 17, 1, 0, 0, []), (.iaload, 18, 0, 0, 0, []), (.ifCond .ne 7, 19, 16, 0, 0, []), (.iconst 1, 22, 0, 0, 1, []), (.goto 4, 23, 17, 0, 0, []), (.iconst 0, 26, 0, 0, 0, []), (.ireturn, 27, 0, 0, 0, [])]
/-- 76: RoundBench$Ways.countLetters(LRoundBench$Course;)I -/
def am_k76 : List am_O := [(.aload_n 1, 0, 1, 0, 0, []), (.invokevirtual 33, 1, 61, 0, 0, [471, 449, 450, 36, 451]), (.ireturn, 4, 0, 0, 0, [])]
/-- 77: RoundBench$Chosen.change(LRoundBench$Course;)V -/
def am_k77 : List am_O := [(.iconst 0, 0, 0, 0, 0, []), (.istore_n 2, 1, 2, 0, 0, []), (.iload_n 2, 2, 2, 0, 0, []), (.aload_n 1, 3, 1, 0, 0, []), (.getfield 17, 4, 1, 0, 0, [118]), (.getfield 21, 7, 2, 4, 0, [91]), (.if_icmp .ge 25, 10, 19, 0, 0, []), (.aload_n 1, 13, 1, 0, 0, []), (.getfield 27, 14, 1, 2, 0, [136]), (.iconst 0, 17, 0, 0, 0, []), (.aaload, 18, 0, 0, 0, []), (.iload_n 2, 19, 2, 0, 0, []), (.iaload, 20, 0, 0, 0, []), (.ifCond .ne 8, 21, 17, 0, 0, []), (.aload_n 1, 24, 1, 0, 0, []), (.iload_n 2, 25, 2, 0, 0, []), (.invokestatic 35, 26, 78, 2, 0, [513, 514, 44, 515]), (.iinc 2 1, 29, 2, 0, 1, []), (.goto (-30), 32, 2, 0, 0, []), (.return_, 35, 0, 0, 0, [])]
/-- 78: RoundBench$Chosen.decide(LRoundBench$Course;I)V -/
def am_k78 : List am_O := [(.aload_n 0, 0, 0, 0, 0, []), (.iload_n 1, 1, 1, 0, 0, []), (.invokestatic 39, 2, 79, 2, 0, [516, 517, 44, 518]), (.ifCond .eq 27, 5, 20, 0, 0, []), (.aload_n 0, 8, 0, 0, 0, []), (.getfield 43, 9, 1, 1, 0, [131]), (.iconst 0, 12, 0, 0, 0, []), (.aaload, 13, 0, 0, 0, []), (.iload_n 1, 14, 1, 0, 0, []), (.iconst 1, 15, 0, 0, 1, []), (.iastore, 16, 0, 0, 0, []), (.aload_n 0, 17, 0, 0, 0, []), (.getfield 43, 18, 1, 1, 0, [131]), (.iconst 1, 21, 0, 0, 1, []), (.aaload, 22, 0, 0, 0, []), (.iload_n 1, 23, 1, 0, 0, []), (.aload_n 0, 24, 0, 0, 0, []), (.getfield 46, 25, 1, 6, 0, [159]), (.iastore, 28, 0, 0, 0, []), (.goto 32, 29, 39, 0, 0, []), (.aload_n 0, 32, 0, 0, 0, []), (.iload_n 1, 33, 1, 0, 0, []), (.invokestatic 49, 34, 80, 2, 0, [520, 521, 44, 522]), (.ifCond .eq 24, 37, 39, 0, 0, []), (.aload_n 0, 40, 0, 0, 0, []), (.getfield 43, 41, 1, 1, 0, [131]), (.iconst 0, 44, 0, 0, 0, []), (.aaload, 45, 0, 0, 0, []), (.iload_n 1, 46, 1, 0, 0, []), (.iconst 2, 47, 0, 0, 2, []), (.iastore, 48, 0, 0, 0, []), (.aload_n 0, 49, 0, 0, 0, []), (.getfield 43, 50, 1, 1, 0, [131]), (.iconst 1, 53, 0, 0, 1, []), (.aaload, 54, 0, 0, 0, []), (.iload_n 1, 55, 1, 0, 0, []), (.aload_n 0, 56, 0, 0, 0, []), (.getfield 46, 57, 1, 6, 0, [159]), (.iastore, 60, 0, 0, 0, []), (.return_, 61, 0, 0, 0, [])]
/-- 79: RoundBench$Chosen.wins(LRoundBench$Course;I)Z -/
def am_k79 : List am_O := [(.iconst 0, 0, 0, 0, 0, []), (.istore_n 2, 1, 2, 0, 0, []), (.iload_n 2, 2, 2, 0, 0, []), (.aload_n 0, 3, 0, 0, 0, []), (.getfield 17, 4, 1, 0, 0, [118]), (.getfield 21, 7, 2, 4, 0, [91]), (.if_icmp .ge 55, 10, 35, 0, 0, []), (.aload_n 0, 13, 0, 0, 0, []), (.getfield 17, 14, 1, 0, 0, [118]), (.iload_n 1, 17, 1, 0, 0, []), (.iload_n 2, 18, 2, 0, 0, []), (.invokevirtual 52, 19, 21, 2, 0, [519, 279, 280, 37, 281]), (.ifCond .eq 37, 22, 33, 0, 0, []), (.aload_n 0, 25, 0, 0, 0, []), (.getfield 27, 26, 1, 2, 0, [136]), (.iconst 0, 29, 0, 0, 0, []), (.aaload, 30, 0, 0, 0, []), (.iload_n 2, 31, 2, 0, 0, []), (.iaload, 32, 0, 0, 0, []), (.ifCond .ne 26, 33, 33, 0, 0, []), (.aload_n 0, 36, 0, 0, 0, []), (.getfield 17, 37, 1, 0, 0, [118]), (.getfield 56, 40, 2, 0, 0, [83]), (.iload_n 2, 43, 2, 0, 0, []), (.iaload, 44, 0, 0, 0, []), (.aload_n 0, 45, 0, 0, 0, []), (.getfield 17, 46, 1, 0, 0, [118]), (.getfield 56, 49, 2, 0, 0, [83]), (.iload_n 1, 52, 1, 0, 0, []), (.iaload, 53, 0, 0, 0, []), (.if_icmp .lt 5, 54, 33, 0, 0, []), (.iconst 0, 57, 0, 0, 0, []), (.ireturn, 58, 0, 0, 0, []), (.iinc 2 1, 59, 2, 0, 1, []), (.goto (-60), 62, 2, 0, 0, []), (.iconst 1, 65, 0, 0, 1, []), (.ireturn, 66, 0, 0, 0, [])]
/-- 80: RoundBench$Chosen.hasWinnerBeside(LRoundBench$Course;I)Z -/
def am_k80 : List am_O := [(.iconst 0, 0, 0, 0, 0, []), (.istore_n 2, 1, 2, 0, 0, []), (.iload_n 2, 2, 2, 0, 0, []), (.aload_n 0, 3, 0, 0, 0, []), (.getfield 17, 4, 1, 0, 0, [118]), (.getfield 21, 7, 2, 4, 0, [91]), (.if_icmp .ge 42, 10, 28, 0, 0, []), (.aload_n 0, 13, 0, 0, 0, []), (.getfield 17, 14, 1, 0, 0, [118]), (.iload_n 1, 17, 1, 0, 0, []), (.iload_n 2, 18, 2, 0, 0, []), (.invokevirtual 52, 19, 21, 2, 0, [519, 279, 280, 37, 281]), (.ifCond .eq 24, 22, 26, 0, 0, []), (.aload_n 0, 25, 0, 0, 0, []), (.getfield 27, 26, 1, 2, 0, [136]), (.iconst 0, 29, 0, 0, 0, []), (.aaload, 30, 0, 0, 0, []), (.iload_n 2, 31, 2, 0, 0, []), (.iaload, 32, 0, 0, 0, []), (.ifCond .ne 13, 33, 26, 0, 0, []), (.aload_n 0, 36, 0, 0, 0, []), (.iload_n 2, 37, 2, 0, 0, []), (.invokestatic 39, 38, 79, 2, 0, [516, 517, 44, 518]), (.ifCond .eq 5, 41, 26, 0, 0, []), (.iconst 1, 44, 0, 0, 1, []), (.ireturn, 45, 0, 0, 0, []), (.iinc 2 1, 46, 2, 0, 1, []), (.goto (-47), 49, 2, 0, 0, []), (.iconst 0, 52, 0, 0, 0, []), (.ireturn, 53, 0, 0, 0, [])]
/-- 81: RoundBench$Colours.change(LRoundBench$Course;)V -/
def am_k81 : List am_O := [(.iconst 0, 0, 0, 0, 0, []), (.istore_n 2, 1, 2, 0, 0, []), (.iload_n 2, 2, 2, 0, 0, []), (.aload_n 1, 3, 1, 0, 0, []), (.getfield 33, 4, 1, 0, 0, [119]), (.getfield 37, 7, 2, 4, 0, [92]), (.if_icmp .ge 70, 10, 50, 0, 0, []), (.aload_n 1, 13, 1, 0, 0, []), (.getfield 40, 14, 1, 2, 0, [137]), (.iconst 0, 17, 0, 0, 0, []), (.aaload, 18, 0, 0, 0, []), (.iload_n 2, 19, 2, 0, 0, []), (.iaload, 20, 0, 0, 0, []), (.istore_n 3, 21, 3, 0, 0, []), (.aload_n 1, 22, 1, 0, 0, []), (.getfield 44, 23, 1, 4, 0, [149]), (.iload_n 2, 26, 2, 0, 0, []), (.iaload, 27, 0, 0, 0, []), (.istore 4, 28, 4, 0, 0, []), (.iload 4, 30, 4, 0, 0, []), (.iconst (-1), 32, 0, 0, (-1), []), (.if_icmp .ne 7, 33, 24, 0, 0, []), (.iconst 0, 36, 0, 0, 0, []), (.goto 16, 37, 32, 0, 0, []), (.iload_n 3, 40, 3, 0, 0, []), (.aload_n 1, 41, 1, 0, 0, []), (.getfield 40, 42, 1, 2, 0, [137]), (.iconst 0, 45, 0, 0, 0, []), (.aaload, 46, 0, 0, 0, []), (.iload 4, 47, 4, 0, 0, []), (.iaload, 49, 0, 0, 0, []), (.invokestatic 48, 50, 82, 2, 0, [526, 527, 43, 528]), (.istore 5, 53, 5, 0, 0, []), (.aload_n 1, 55, 1, 0, 0, []), (.getfield 52, 56, 1, 1, 0, [130]), (.iconst 0, 59, 0, 0, 0, []), (.aaload, 60, 0, 0, 0, []), (.iload_n 2, 61, 2, 0, 0, []), (.iconst 2, 62, 0, 0, 2, []), (.iload 5, 63, 5, 0, 0, []), (.imul, 65, 0, 0, 0, []), (.iload_n 3, 66, 3, 0, 0, []), (.iload 5, 67, 5, 0, 0, []), (.ishr, 69, 0, 0, 0, []), (.iconst 1, 70, 0, 0, 1, []), (.iand, 71, 0, 0, 0, []), (.iadd, 72, 0, 0, 0, []), (.iastore, 73, 0, 0, 0, []), (.iinc 2 1, 74, 2, 0, 1, []), (.goto (-75), 77, 2, 0, 0, []), (.return_, 80, 0, 0, 0, [])]
/-- 82: RoundBench$Colours.lowestDifference(II)I -/
def am_k82 : List am_O := [(.iload_n 0, 0, 0, 0, 0, []), (.iload_n 1, 1, 1, 0, 0, []), (.ixor, 2, 0, 0, 0, []), (.istore_n 2, 3, 2, 0, 0, []), (.iconst 0, 4, 0, 0, 0, []), (.istore_n 3, 5, 3, 0, 0, []), (.iload_n 3, 6, 3, 0, 0, []), (.bipush 31, 7, 0, 0, 31, []), (.if_icmp .ge 17, 9, 17, 0, 0, []), (.iload_n 2, 12, 2, 0, 0, []), (.iload_n 3, 13, 3, 0, 0, []), (.ishr, 14, 0, 0, 0, []), (.iconst 1, 15, 0, 0, 1, []), (.iand, 16, 0, 0, 0, []), (.ifCond .ne 9, 17, 17, 0, 0, []), (.iinc 3 1, 20, 3, 0, 1, []), (.goto (-17), 23, 6, 0, 0, []), (.iload_n 3, 26, 3, 0, 0, []), (.ireturn, 27, 0, 0, 0, [])]
/-- 83: RoundBench$Core.change(LRoundBench$Course;)V -/
def am_k83 : List am_O := [(.iconst 0, 0, 0, 0, 0, []), (.istore_n 2, 1, 2, 0, 0, []), (.iload_n 2, 2, 2, 0, 0, []), (.aload_n 1, 3, 1, 0, 0, []), (.getfield 17, 4, 1, 0, 0, [116]), (.getfield 21, 7, 2, 4, 0, [89]), (.if_icmp .ge 64, 10, 46, 0, 0, []), (.aload_n 1, 13, 1, 0, 0, []), (.getfield 47, 14, 1, 2, 0, [138]), (.iconst 0, 17, 0, 0, 0, []), (.aaload, 18, 0, 0, 0, []), (.iload_n 2, 19, 2, 0, 0, []), (.iaload, 20, 0, 0, 0, []), (.iconst 1, 21, 0, 0, 1, []), (.if_icmp .ne 17, 22, 25, 0, 0, []), (.aload_n 1, 25, 1, 0, 0, []), (.getfield 27, 26, 1, 1, 0, [127]), (.iconst 2, 29, 0, 0, 2, []), (.aaload, 30, 0, 0, 0, []), (.iload_n 2, 31, 2, 0, 0, []), (.aload_n 1, 32, 1, 0, 0, []), (.iload_n 2, 33, 2, 0, 0, []), (.iconst 1, 34, 0, 0, 1, []), (.invokevirtual 43, 35, 59, 2, 0, [440, 441, 442, 36, 443]), (.iastore, 38, 0, 0, 0, []), (.aload_n 1, 39, 1, 0, 0, []), (.iload_n 2, 40, 2, 0, 0, []), (.invokestatic 35, 41, 58, 2, 0, [437, 438, 46, 439]), (.ifCond .eq 24, 44, 44, 0, 0, []), (.aload_n 1, 47, 1, 0, 0, []), (.getfield 27, 48, 1, 1, 0, [127]), (.iconst 0, 51, 0, 0, 0, []), (.aaload, 52, 0, 0, 0, []), (.iload_n 2, 53, 2, 0, 0, []), (.iconst 0, 54, 0, 0, 0, []), (.iastore, 55, 0, 0, 0, []), (.aload_n 1, 56, 1, 0, 0, []), (.getfield 27, 57, 1, 1, 0, [127]), (.iconst 1, 60, 0, 0, 1, []), (.aaload, 61, 0, 0, 0, []), (.iload_n 2, 62, 2, 0, 0, []), (.aload_n 1, 63, 1, 0, 0, []), (.getfield 50, 64, 1, 6, 0, [158]), (.iastore, 67, 0, 0, 0, []), (.iinc 2 1, 68, 2, 0, 1, []), (.goto (-69), 71, 2, 0, 0, []), (.return_, 74, 0, 0, 0, [])]
/-- 84: RoundBench$Least.change(LRoundBench$Course;)V -/
def am_k84 : List am_O := [(.iconst 0, 0, 0, 0, 0, []), (.istore_n 2, 1, 2, 0, 0, []), (.iload_n 2, 2, 2, 0, 0, []), (.aload_n 1, 3, 1, 0, 0, []), (.getfield 26, 4, 1, 0, 0, [120]), (.getfield 30, 7, 2, 4, 0, [93]), (.if_icmp .ge 14, 10, 12, 0, 0, []), (.aload_n 1, 13, 1, 0, 0, []), (.iload_n 2, 14, 2, 0, 0, []), (.invokestatic 36, 15, 85, 2, 0, [535, 536, 40, 537]), (.iinc 2 1, 18, 2, 0, 1, []), (.goto (-19), 21, 2, 0, 0, []), (.return_, 24, 0, 0, 0, [])]
/-- 85: RoundBench$Least.learn(LRoundBench$Course;I)V -/
def am_k85 : List am_O := [(.iconst 0, 0, 0, 0, 0, []), (.istore_n 2, 1, 2, 0, 0, []), (.iload_n 2, 2, 2, 0, 0, []), (.aload_n 0, 3, 0, 0, 0, []), (.getfield 26, 4, 1, 0, 0, [120]), (.getfield 30, 7, 2, 4, 0, [93]), (.if_icmp .ge 83, 10, 61, 0, 0, []), (.aload_n 0, 13, 0, 0, 0, []), (.getfield 26, 14, 1, 0, 0, [120]), (.iload_n 1, 17, 1, 0, 0, []), (.iload_n 2, 18, 2, 0, 0, []), (.invokevirtual 42, 19, 21, 2, 0, [538, 279, 280, 37, 281]), (.ifCond .eq 65, 22, 59, 0, 0, []), (.aload_n 0, 25, 0, 0, 0, []), (.getfield 46, 26, 1, 2, 0, [141]), (.iconst 0, 29, 0, 0, 0, []), (.aaload, 30, 0, 0, 0, []), (.iload_n 2, 31, 2, 0, 0, []), (.iaload, 32, 0, 0, 0, []), (.aload_n 0, 33, 0, 0, 0, []), (.getfield 50, 34, 1, 1, 0, [132]), (.iconst 0, 37, 0, 0, 0, []), (.aaload, 38, 0, 0, 0, []), (.iload_n 1, 39, 1, 0, 0, []), (.iaload, 40, 0, 0, 0, []), (.if_icmp .ge 46, 41, 59, 0, 0, []), (.aload_n 0, 44, 0, 0, 0, []), (.getfield 50, 45, 1, 1, 0, [132]), (.iconst 0, 48, 0, 0, 0, []), (.aaload, 49, 0, 0, 0, []), (.iload_n 1, 50, 1, 0, 0, []), (.aload_n 0, 51, 0, 0, 0, []), (.getfield 46, 52, 1, 2, 0, [141]), (.iconst 0, 55, 0, 0, 0, []), (.aaload, 56, 0, 0, 0, []), (.iload_n 2, 57, 2, 0, 0, []), (.iaload, 58, 0, 0, 0, []), (.iastore, 59, 0, 0, 0, []), (.aload_n 0, 60, 0, 0, 0, []), (.getfield 50, 61, 1, 1, 0, [132]), (.iconst 1, 64, 0, 0, 1, []), (.aaload, 65, 0, 0, 0, []), (.iload_n 1, 66, 1, 0, 0, []), (.aload_n 0, 67, 0, 0, 0, []), (.getfield 46, 68, 1, 2, 0, [141]), (.iconst 1, 71, 0, 0, 1, []), (.aaload, 72, 0, 0, 0, []), (.iload_n 2, 73, 2, 0, 0, []), (.iaload, 74, 0, 0, 0, []), (.iconst 1, 75, 0, 0, 1, []), (.iadd, 76, 0, 0, 0, []), (.iastore, 77, 0, 0, 0, []), (.aload_n 0, 78, 0, 0, 0, []), (.getfield 50, 79, 1, 1, 0, [132]), (.iconst 2, 82, 0, 0, 2, []), (.aaload, 83, 0, 0, 0, []), (.iload_n 1, 84, 1, 0, 0, []), (.iload_n 2, 85, 2, 0, 0, []), (.iastore, 86, 0, 0, 0, []), (.iinc 2 1, 87, 2, 0, 1, []), (.goto (-88), 90, 2, 0, 0, []), (.return_, 93, 0, 0, 0, [])]
/-- 86: RoundBench$Pairs.change(LRoundBench$Course;)V -/
def am_k86 : List am_O := [(.iconst 0, 0, 0, 0, 0, []), (.istore_n 2, 1, 2, 0, 0, []), (.iload_n 2, 2, 2, 0, 0, []), (.aload_n 1, 3, 1, 0, 0, []), (.getfield 19, 4, 1, 0, 0, [121]), (.getfield 23, 7, 2, 4, 0, [94]), (.if_icmp .ge 50, 10, 36, 0, 0, []), (.aload_n 1, 13, 1, 0, 0, []), (.iload_n 2, 14, 2, 0, 0, []), (.invokestatic 29, 15, 87, 2, 0, [542, 543, 45, 544]), (.istore_n 3, 18, 3, 0, 0, []), (.iload_n 3, 19, 3, 0, 0, []), (.iconst (-1), 20, 0, 0, (-1), []), (.if_icmp .eq 33, 21, 34, 0, 0, []), (.aload_n 1, 24, 1, 0, 0, []), (.iload_n 3, 25, 3, 0, 0, []), (.invokestatic 29, 26, 87, 2, 0, [542, 543, 45, 544]), (.iload_n 2, 29, 2, 0, 0, []), (.if_icmp .ne 24, 30, 34, 0, 0, []), (.aload_n 1, 33, 1, 0, 0, []), (.getfield 35, 34, 1, 1, 0, [129]), (.iconst 0, 37, 0, 0, 0, []), (.aaload, 38, 0, 0, 0, []), (.iload_n 2, 39, 2, 0, 0, []), (.iload_n 3, 40, 3, 0, 0, []), (.iastore, 41, 0, 0, 0, []), (.aload_n 1, 42, 1, 0, 0, []), (.getfield 35, 43, 1, 1, 0, [129]), (.iconst 1, 46, 0, 0, 1, []), (.aaload, 47, 0, 0, 0, []), (.iload_n 2, 48, 2, 0, 0, []), (.aload_n 1, 49, 1, 0, 0, []), (.getfield 39, 50, 1, 6, 0, [157]), (.iastore, 53, 0, 0, 0, []), (.iinc 2 1, 54, 2, 0, 1, []), (.goto (-55), 57, 2, 0, 0, []), (.return_, 60, 0, 0, 0, [])]
/-- 87: RoundBench$Pairs.favourite(LRoundBench$Course;I)I -/
def am_k87 : List am_O := [(.aload_n 0, 0, 0, 0, 0, []), (.getfield 42, 1, 1, 2, 0, [140]), (.iconst 0, 4, 0, 0, 0, []), (.aaload, 5, 0, 0, 0, []), (.iload_n 1, 6, 1, 0, 0, []), (.iaload, 7, 0, 0, 0, []), (.iconst (-1), 8, 0, 0, (-1), []), (.if_icmp .eq 5, 9, 10, 0, 0, []), (.iconst (-1), 12, 0, 0, (-1), []), (.ireturn, 13, 0, 0, 0, []), (.aload_n 0, 14, 0, 0, 0, []), (.getfield 19, 15, 1, 0, 0, [121]), (.getfield 45, 18, 2, 2, 0, [86]), (.iload_n 1, 21, 1, 0, 0, []), (.aaload, 22, 0, 0, 0, []), (.astore_n 2, 23, 2, 0, 0, []), (.iconst (-1), 24, 0, 0, (-1), []), (.istore_n 3, 25, 3, 0, 0, []), (.iconst 0, 26, 0, 0, 0, []), (.istore 4, 27, 4, 0, 0, []), (.iload 4, 29, 4, 0, 0, []), (.aload_n 0, 31, 0, 0, 0, []), (.getfield 19, 32, 1, 0, 0, [121]), (.getfield 23, 35, 2, 4, 0, [94]), (.if_icmp .ge 55, 38, 55, 0, 0, []), (.aload_n 2, 41, 2, 0, 0, []), (.iload 4, 42, 4, 0, 0, []), (.iaload, 44, 0, 0, 0, []), (.iconst (-1), 45, 0, 0, (-1), []), (.if_icmp .eq 41, 46, 53, 0, 0, []), (.aload_n 0, 49, 0, 0, 0, []), (.getfield 42, 50, 1, 2, 0, [140]), (.iconst 0, 53, 0, 0, 0, []), (.aaload, 54, 0, 0, 0, []), (.iload 4, 55, 4, 0, 0, []), (.iaload, 57, 0, 0, 0, []), (.iconst (-1), 58, 0, 0, (-1), []), (.if_icmp .ne 28, 59, 53, 0, 0, []), (.iload_n 3, 62, 3, 0, 0, []), (.iconst (-1), 63, 0, 0, (-1), []), (.if_icmp .eq 20, 64, 51, 0, 0, []), (.aload_n 0, 67, 0, 0, 0, []), (.getfield 19, 68, 1, 0, 0, [121]), (.aload_n 2, 71, 2, 0, 0, []), (.iload 4, 72, 4, 0, 0, []), (.iaload, 74, 0, 0, 0, []), (.aload_n 2, 75, 2, 0, 0, []), (.iload_n 3, 76, 3, 0, 0, []), (.iaload, 77, 0, 0, 0, []), (.invokevirtual 48, 78, 88, 2, 0, [545, 546, 547, 37, 548]), (.ifCond .eq 6, 81, 53, 0, 0, []), (.iload 4, 84, 4, 0, 0, []), (.istore_n 3, 86, 3, 0, 0, []), (.iinc 4 1, 87, 4, 0, 1, []), (.goto (-61), 90, 20, 0, 0, []), (.iload_n 3, 93, 3, 0, 0, []), (.ireturn, 94, 0, 0, 0, [])]
/-- 88: RoundBench$Net.isHeavier(II)Z -/
def am_k88 : List am_O := [(.aload_n 0, 0, 0, 0, 0, []), (.getfield 15, 1, 2, 1, 0, [84]), (.iload_n 1, 4, 1, 0, 0, []), (.iaload, 5, 0, 0, 0, []), (.aload_n 0, 6, 0, 0, 0, []), (.getfield 15, 7, 2, 1, 0, [84]), (.iload_n 2, 10, 2, 0, 0, []), (.iaload, 11, 0, 0, 0, []), (.if_icmp .eq 24, 12, 22, 0, 0, []), (.aload_n 0, 15, 0, 0, 0, []), (.getfield 15, 16, 2, 1, 0, [84]), (.iload_n 1, 19, 1, 0, 0, []), (.iaload, 20, 0, 0, 0, []), (.aload_n 0, 21, 0, 0, 0, []), (.getfield 15, 22, 2, 1, 0, [84]), (.iload_n 2, 25, 2, 0, 0, []), (.iaload, 26, 0, 0, 0, []), (.if_icmp .le 7, 27, 20, 0, 0, []), (.iconst 1, 30, 0, 0, 1, []), (.goto 4, 31, 21, 0, 0, []), (.iconst 0, 34, 0, 0, 0, []), (.ireturn, 35, 0, 0, 0, []), (.iload_n 1, 36, 1, 0, 0, []), (.iload_n 2, 37, 2, 0, 0, []), (.if_icmp .ge 7, 38, 27, 0, 0, []), (.iconst 1, 41, 0, 0, 1, []), (.goto 4, 42, 28, 0, 0, []), (.iconst 0, 45, 0, 0, 0, []), (.ireturn, 46, 0, 0, 0, [])]
/-- 89: RoundBench$Sides.change(LRoundBench$Course;)V -/
def am_k89 : List am_O := [(.iconst 0, 0, 0, 0, 0, []), (.istore_n 2, 1, 2, 0, 0, []), (.iload_n 2, 2, 2, 0, 0, []), (.aload_n 1, 3, 1, 0, 0, []), (.getfield 37, 4, 1, 0, 0, [122]), (.getfield 41, 7, 2, 4, 0, [95]), (.if_icmp .ge 62, 10, 38, 0, 0, []), (.iconst 0, 13, 0, 0, 0, []), (.istore_n 3, 14, 3, 0, 0, []), (.iload_n 3, 15, 3, 0, 0, []), (.aload_n 1, 16, 1, 0, 0, []), (.getfield 37, 17, 1, 0, 0, [122]), (.getfield 41, 20, 2, 4, 0, [95]), (.if_icmp .ge 43, 23, 36, 0, 0, []), (.aload_n 1, 26, 1, 0, 0, []), (.getfield 29, 27, 1, 3, 0, [144]), (.iload_n 2, 30, 2, 0, 0, []), (.baload, 31, 0, 0, 0, []), (.ifCond .eq 28, 32, 34, 0, 0, []), (.aload_n 1, 35, 1, 0, 0, []), (.getfield 37, 36, 1, 0, 0, [122]), (.iload_n 2, 39, 2, 0, 0, []), (.iload_n 3, 40, 3, 0, 0, []), (.invokevirtual 44, 41, 21, 2, 0, [552, 279, 280, 37, 281]), (.ifCond .eq 16, 44, 34, 0, 0, []), (.aload_n 1, 47, 1, 0, 0, []), (.aload_n 1, 48, 1, 0, 0, []), (.getfield 48, 49, 1, 2, 0, [139]), (.iconst 0, 52, 0, 0, 0, []), (.aaload, 53, 0, 0, 0, []), (.iload_n 2, 54, 2, 0, 0, []), (.iaload, 55, 0, 0, 0, []), (.iload_n 3, 56, 3, 0, 0, []), (.invokestatic 51, 57, 90, 3, 0, [553, 554, 47, 555]), (.iinc 3 1, 60, 3, 0, 1, []), (.goto (-48), 63, 9, 0, 0, []), (.iinc 2 1, 66, 2, 0, 1, []), (.goto (-67), 69, 2, 0, 0, []), (.return_, 72, 0, 0, 0, [])]
/-- 90: RoundBench$Sides.deliver(LRoundBench$Course;II)V -/
def am_k90 : List am_O := [(.aload_n 0, 0, 0, 0, 0, []), (.getfield 48, 1, 1, 2, 0, [139]), (.iconst 0, 4, 0, 0, 0, []), (.aaload, 5, 0, 0, 0, []), (.iload_n 2, 6, 2, 0, 0, []), (.iaload, 7, 0, 0, 0, []), (.iconst (-1), 8, 0, 0, (-1), []), (.if_icmp .ne 29, 9, 26, 0, 0, []), (.aload_n 0, 12, 0, 0, 0, []), (.getfield 21, 13, 1, 1, 0, [125]), (.iconst 0, 16, 0, 0, 0, []), (.aaload, 17, 0, 0, 0, []), (.iload_n 2, 18, 2, 0, 0, []), (.iconst 1, 19, 0, 0, 1, []), (.iload_n 1, 20, 1, 0, 0, []), (.isub, 21, 0, 0, 0, []), (.iastore, 22, 0, 0, 0, []), (.aload_n 0, 23, 0, 0, 0, []), (.getfield 21, 24, 1, 1, 0, [125]), (.iconst 2, 27, 0, 0, 2, []), (.aaload, 28, 0, 0, 0, []), (.iload_n 2, 29, 2, 0, 0, []), (.aload_n 0, 30, 0, 0, 0, []), (.getfield 57, 31, 1, 6, 0, [160]), (.iastore, 34, 0, 0, 0, []), (.goto 24, 35, 41, 0, 0, []), (.aload_n 0, 38, 0, 0, 0, []), (.getfield 48, 39, 1, 2, 0, [139]), (.iconst 0, 42, 0, 0, 0, []), (.aaload, 43, 0, 0, 0, []), (.iload_n 2, 44, 2, 0, 0, []), (.iaload, 45, 0, 0, 0, []), (.iload_n 1, 46, 1, 0, 0, []), (.if_icmp .ne 12, 47, 41, 0, 0, []), (.aload_n 0, 50, 0, 0, 0, []), (.getfield 21, 51, 1, 1, 0, [125]), (.iconst 1, 54, 0, 0, 1, []), (.aaload, 55, 0, 0, 0, []), (.iload_n 2, 56, 2, 0, 0, []), (.iconst 1, 57, 0, 0, 1, []), (.iastore, 58, 0, 0, 0, []), (.return_, 59, 0, 0, 0, [])]
/-- 91: RoundBench$Sums.change(LRoundBench$Course;)V -/
def am_k91 : List am_O := [(.iconst 0, 0, 0, 0, 0, []), (.istore_n 2, 1, 2, 0, 0, []), (.iload_n 2, 2, 2, 0, 0, []), (.aload_n 1, 3, 1, 0, 0, []), (.getfield 27, 4, 1, 0, 0, [117]), (.getfield 31, 7, 2, 4, 0, [90]), (.if_icmp .ge 22, 10, 16, 0, 0, []), (.aload_n 1, 13, 1, 0, 0, []), (.iload_n 2, 14, 2, 0, 0, []), (.invokestatic 49, 15, 75, 2, 0, [501, 502, 42, 503]), (.ifCond .eq 8, 18, 14, 0, 0, []), (.aload_n 1, 21, 1, 0, 0, []), (.iload_n 2, 22, 2, 0, 0, []), (.invokestatic 55, 23, 92, 2, 0, [559, 560, 42, 561]), (.iinc 2 1, 26, 2, 0, 1, []), (.goto (-27), 29, 2, 0, 0, []), (.return_, 32, 0, 0, 0, [])]
/-- 92: RoundBench$Sums.handUp(LRoundBench$Course;I)V -/
def am_k92 : List am_O := [(.aload_n 0, 0, 0, 0, 0, []), (.getfield 39, 1, 1, 1, 0, [128]), (.iconst 2, 4, 0, 0, 2, []), (.aaload, 5, 0, 0, 0, []), (.iload_n 1, 6, 1, 0, 0, []), (.iconst 1, 7, 0, 0, 1, []), (.iastore, 8, 0, 0, 0, []), (.aload_n 0, 9, 0, 0, 0, []), (.getfield 35, 10, 1, 4, 0, [148]), (.iload_n 1, 13, 1, 0, 0, []), (.iaload, 14, 0, 0, 0, []), (.istore_n 2, 15, 2, 0, 0, []), (.iload_n 2, 16, 2, 0, 0, []), (.iconst (-1), 17, 0, 0, (-1), []), (.if_icmp .eq 34, 18, 40, 0, 0, []), (.aload_n 0, 21, 0, 0, 0, []), (.getfield 39, 22, 1, 1, 0, [128]), (.iconst 0, 25, 0, 0, 0, []), (.aaload, 26, 0, 0, 0, []), (.iload_n 2, 27, 2, 0, 0, []), (.dup2, 28, 0, 0, 0, []), (.iaload, 29, 0, 0, 0, []), (.aload_n 0, 30, 0, 0, 0, []), (.getfield 43, 31, 1, 2, 0, [135]), (.iconst 0, 34, 0, 0, 0, []), (.aaload, 35, 0, 0, 0, []), (.iload_n 1, 36, 1, 0, 0, []), (.iaload, 37, 0, 0, 0, []), (.iadd, 38, 0, 0, 0, []), (.iastore, 39, 0, 0, 0, []), (.aload_n 0, 40, 0, 0, 0, []), (.getfield 39, 41, 1, 1, 0, [128]), (.iconst 1, 44, 0, 0, 1, []), (.aaload, 45, 0, 0, 0, []), (.iload_n 2, 46, 2, 0, 0, []), (.dup2, 47, 0, 0, 0, []), (.iaload, 48, 0, 0, 0, []), (.iconst 1, 49, 0, 0, 1, []), (.isub, 50, 0, 0, 0, []), (.iastore, 51, 0, 0, 0, []), (.return_, 52, 0, 0, 0, [])]
/-- 93: RoundBench$Ways.change(LRoundBench$Course;)V -/
def am_k93 : List am_O := [(.iconst 0, 0, 0, 0, 0, []), (.istore_n 2, 1, 2, 0, 0, []), (.iload_n 2, 2, 2, 0, 0, []), (.aload_n 1, 3, 1, 0, 0, []), (.getfield 37, 4, 1, 0, 0, [123]), (.getfield 41, 7, 2, 4, 0, [96]), (.if_icmp .ge 14, 10, 12, 0, 0, []), (.aload_n 1, 13, 1, 0, 0, []), (.iload_n 2, 14, 2, 0, 0, []), (.invokestatic 44, 15, 94, 2, 0, [565, 566, 41, 567]), (.iinc 2 1, 18, 2, 0, 1, []), (.goto (-19), 21, 2, 0, 0, []), (.return_, 24, 0, 0, 0, [])]
/-- 94: RoundBench$Ways.shorten(LRoundBench$Course;I)V -/
def am_k94 : List am_O := [(.iconst 0, 0, 0, 0, 0, []), (.istore_n 2, 1, 2, 0, 0, []), (.iload_n 2, 2, 2, 0, 0, []), (.aload_n 0, 3, 0, 0, 0, []), (.getfield 37, 4, 1, 0, 0, [123]), (.getfield 41, 7, 2, 4, 0, [96]), (.if_icmp .ge 109, 10, 75, 0, 0, []), (.aload_n 0, 13, 0, 0, 0, []), (.getfield 37, 14, 1, 0, 0, [123]), (.iload_n 1, 17, 1, 0, 0, []), (.iload_n 2, 18, 2, 0, 0, []), (.invokevirtual 50, 19, 21, 2, 0, [568, 279, 280, 37, 281]), (.ifCond .eq 91, 22, 73, 0, 0, []), (.aload_n 0, 25, 0, 0, 0, []), (.getfield 54, 26, 1, 2, 0, [142]), (.iconst 0, 29, 0, 0, 0, []), (.aaload, 30, 0, 0, 0, []), (.iload_n 2, 31, 2, 0, 0, []), (.iaload, 32, 0, 0, 0, []), (.iconst (-1), 33, 0, 0, (-1), []), (.if_icmp .ne 6, 34, 22, 0, 0, []), (.goto 76, 37, 73, 0, 0, []), (.aload_n 0, 40, 0, 0, 0, []), (.getfield 54, 41, 1, 2, 0, [142]), (.iconst 0, 44, 0, 0, 0, []), (.aaload, 45, 0, 0, 0, []), (.iload_n 2, 46, 2, 0, 0, []), (.iaload, 47, 0, 0, 0, []), (.aload_n 0, 48, 0, 0, 0, []), (.getfield 37, 49, 1, 0, 0, [123]), (.iload_n 2, 52, 2, 0, 0, []), (.iload_n 1, 53, 1, 0, 0, []), (.invokevirtual 57, 54, 95, 2, 0, [569, 570, 571, 37, 572]), (.iadd, 57, 0, 0, 0, []), (.istore_n 3, 58, 3, 0, 0, []), (.aload_n 0, 59, 0, 0, 0, []), (.getfield 21, 60, 1, 1, 0, [126]), (.iconst 0, 63, 0, 0, 0, []), (.aaload, 64, 0, 0, 0, []), (.iload_n 1, 65, 1, 0, 0, []), (.iaload, 66, 0, 0, 0, []), (.iconst (-1), 67, 0, 0, (-1), []), (.if_icmp .eq 15, 68, 51, 0, 0, []), (.iload_n 3, 71, 3, 0, 0, []), (.aload_n 0, 72, 0, 0, 0, []), (.getfield 21, 73, 1, 1, 0, [126]), (.iconst 0, 76, 0, 0, 0, []), (.aaload, 77, 0, 0, 0, []), (.iload_n 1, 78, 1, 0, 0, []), (.iaload, 79, 0, 0, 0, []), (.if_icmp .ge 33, 80, 73, 0, 0, []), (.aload_n 0, 83, 0, 0, 0, []), (.getfield 21, 84, 1, 1, 0, [126]), (.iconst 0, 87, 0, 0, 0, []), (.aaload, 88, 0, 0, 0, []), (.iload_n 1, 89, 1, 0, 0, []), (.iload_n 3, 90, 3, 0, 0, []), (.iastore, 91, 0, 0, 0, []), (.aload_n 0, 92, 0, 0, 0, []), (.getfield 21, 93, 1, 1, 0, [126]), (.iconst 1, 96, 0, 0, 1, []), (.aaload, 97, 0, 0, 0, []), (.iload_n 1, 98, 1, 0, 0, []), (.iload_n 2, 99, 2, 0, 0, []), (.iastore, 100, 0, 0, 0, []), (.aload_n 0, 101, 0, 0, 0, []), (.getfield 21, 102, 1, 1, 0, [126]), (.iconst 2, 105, 0, 0, 2, []), (.aaload, 106, 0, 0, 0, []), (.iload_n 1, 107, 1, 0, 0, []), (.aload_n 0, 108, 0, 0, 0, []), (.getfield 61, 109, 1, 6, 0, [161]), (.iastore, 112, 0, 0, 0, []), (.iinc 2 1, 113, 2, 0, 1, []), (.goto (-114), 116, 2, 0, 0, []), (.return_, 119, 0, 0, 0, [])]
/-- 95: RoundBench$Net.weightBetween(II)I -/
def am_k95 : List am_O := [(.aload_n 0, 0, 0, 0, 0, []), (.getfield 15, 1, 2, 1, 0, [84]), (.aload_n 0, 4, 0, 0, 0, []), (.getfield 20, 5, 2, 2, 0, [85]), (.iload_n 1, 8, 1, 0, 0, []), (.aaload, 9, 0, 0, 0, []), (.iload_n 2, 10, 2, 0, 0, []), (.iaload, 11, 0, 0, 0, []), (.iaload, 12, 0, 0, 0, []), (.ireturn, 13, 0, 0, 0, [])]
/-- 96: RoundBench$Course.markFresh()V -/
def am_k96 : List am_O := [(.iconst 0, 0, 0, 0, 0, []), (.istore_n 1, 1, 1, 0, 0, []), (.iload_n 1, 2, 1, 0, 0, []), (.aload_n 0, 3, 0, 0, 0, []), (.getfield 12, 4, 1, 0, 0, [114]), (.getfield 63, 7, 2, 4, 0, [97]), (.if_icmp .ge 39, 10, 29, 0, 0, []), (.aload_n 0, 13, 0, 0, 0, []), (.getfield 26, 14, 1, 3, 0, [143]), (.iload_n 1, 17, 1, 0, 0, []), (.aload_n 0, 18, 0, 0, 0, []), (.getfield 20, 19, 1, 1, 0, [124]), (.iconst 0, 22, 0, 0, 0, []), (.aaload, 23, 0, 0, 0, []), (.iload_n 1, 24, 1, 0, 0, []), (.iaload, 25, 0, 0, 0, []), (.aload_n 0, 26, 0, 0, 0, []), (.getfield 23, 27, 1, 2, 0, [134]), (.iconst 0, 30, 0, 0, 0, []), (.aaload, 31, 0, 0, 0, []), (.iload_n 1, 32, 1, 0, 0, []), (.iaload, 33, 0, 0, 0, []), (.if_icmp .eq 7, 34, 25, 0, 0, []), (.iconst 1, 37, 0, 0, 1, []), (.goto 4, 38, 26, 0, 0, []), (.iconst 0, 41, 0, 0, 0, []), (.bastore, 42, 0, 0, 0, []), (.iinc 1 1, 43, 1, 0, 1, []), (.goto (-44), 46, 2, 0, 0, []), (.return_, 49, 0, 0, 0, [])]
/-- 97: RoundBench.run(I)I -/
def am_k97 : List am_O := [(.aload_n 0, 0, 0, 0, 0, []), (.getfield 46, 1, 0, 2, 0, [246]), (.ifnull 7, 4, 5, 0, 0, []), (.iload_n 1, 7, 1, 0, 0, []), (.ifCond .ge 5, 8, 7, 0, 0, []), (.iconst (-1), 11, 0, 0, (-1), []), (.ireturn, 12, 0, 0, 0, []), (.iload_n 1, 13, 1, 0, 0, []), (.sipush 1000, 14, 0, 0, 1000, []), (.invokestatic 112, 17, 98, 2, 0, [581, 582, 50, 583]), (.istore_n 2, 20, 2, 0, 0, []), (.iconst 0, 21, 0, 0, 0, []), (.istore_n 3, 22, 3, 0, 0, []), (.iload_n 3, 23, 3, 0, 0, []), (.iload_n 2, 24, 2, 0, 0, []), (.if_icmp .ge 28, 25, 27, 0, 0, []), (.aload_n 0, 28, 0, 0, 0, []), (.getfield 46, 29, 0, 2, 0, [246]), (.aload_n 0, 32, 0, 0, 0, []), (.getfield 10, 33, 0, 0, 0, [244]), (.invokevirtual 104, 36, 2, 1, 1, [425, 427, 426]), (.ifCond .ne 14, 39, 27, 0, 0, []), (.aload_n 0, 42, 0, 0, 0, []), (.invokevirtual 108, 43, 67, 0, 0, [472, 474, 2, 35, 475]), (.pop, 46, 0, 0, 0, []), (.iinc 3 1, 47, 3, 0, 1, []), (.goto (-27), 50, 13, 0, 0, []), (.iload_n 3, 53, 3, 0, 0, []), (.ireturn, 54, 0, 0, 0, [])]
/-- 98: java/lang/Math.min(II)I -/
def am_k98 : List am_O := [(.iload_n 0, 0, 0, 0, 0, []), (.iload_n 1, 1, 1, 0, 0, []), (.if_icmp .gt 7, 2, 5, 0, 0, []), (.iload_n 0, 5, 0, 0, 0, []), (.goto 4, 6, 6, 0, 0, []), (.iload_n 1, 9, 1, 0, 0, []), (.ireturn, 10, 0, 0, 0, [])]
/-- 99: RoundBench.finished()Z -/
def am_k99 : List am_O := [(.aload_n 0, 0, 0, 0, 0, []), (.getfield 46, 1, 0, 2, 0, [246]), (.ifnull 21, 4, 11, 0, 0, []), (.aload_n 0, 7, 0, 0, 0, []), (.getfield 46, 8, 0, 2, 0, [246]), (.aload_n 0, 11, 0, 0, 0, []), (.getfield 10, 12, 0, 0, 0, [244]), (.invokevirtual 104, 15, 2, 1, 1, [425, 427, 426]), (.ifCond .eq 7, 18, 11, 0, 0, []), (.iconst 1, 21, 0, 0, 1, []), (.goto 4, 22, 12, 0, 0, []), (.iconst 0, 25, 0, 0, 0, []), (.ireturn, 26, 0, 0, 0, [])]
/-- 100: RoundBench.rounds()I -/
def am_k100 : List am_O := [(.aload_n 0, 0, 0, 0, 0, []), (.getfield 46, 1, 0, 2, 0, [246]), (.ifnonnull 7, 4, 5, 0, 0, []), (.iconst (-1), 7, 0, 0, (-1), []), (.goto 10, 8, 8, 0, 0, []), (.aload_n 0, 11, 0, 0, 0, []), (.getfield 10, 12, 0, 0, 0, [244]), (.getfield 118, 15, 1, 6, 0, [162]), (.ireturn, 18, 0, 0, 0, [])]
/-- 101: RoundBench.letters()I -/
def am_k101 : List am_O := [(.aload_n 0, 0, 0, 0, 0, []), (.getfield 46, 1, 0, 2, 0, [246]), (.ifnonnull 7, 4, 5, 0, 0, []), (.iconst (-1), 7, 0, 0, (-1), []), (.goto 10, 8, 8, 0, 0, []), (.aload_n 0, 11, 0, 0, 0, []), (.getfield 10, 12, 0, 0, 0, [244]), (.getfield 122, 15, 1, 7, 0, [164]), (.ireturn, 18, 0, 0, 0, [])]
/-- 102: RoundBench.held(II)I -/
def am_k102 : List am_O := [(.aload_n 0, 0, 0, 0, 0, []), (.getfield 46, 1, 0, 2, 0, [246]), (.ifnull 26, 4, 14, 0, 0, []), (.aload_n 0, 7, 0, 0, 0, []), (.getfield 10, 8, 0, 0, 0, [244]), (.getfield 54, 11, 1, 0, 0, [115]), (.iload_n 1, 14, 1, 0, 0, []), (.invokevirtual 75, 15, 20, 1, 0, [290, 275, 276, 37, 277]), (.ifCond .eq 12, 18, 14, 0, 0, []), (.iload_n 2, 21, 2, 0, 0, []), (.ifCond .lt 8, 22, 14, 0, 0, []), (.iload_n 2, 25, 2, 0, 0, []), (.iconst 3, 26, 0, 0, 3, []), (.if_icmp .lt 6, 27, 16, 0, 0, []), (.bipush (-2), 30, 0, 0, (-2), []), (.ireturn, 32, 0, 0, 0, []), (.aload_n 0, 33, 0, 0, 0, []), (.getfield 10, 34, 0, 0, 0, [244]), (.getfield 125, 37, 1, 1, 0, [133]), (.iload_n 2, 40, 2, 0, 0, []), (.aaload, 41, 0, 0, 0, []), (.iload_n 1, 42, 1, 0, 0, []), (.iaload, 43, 0, 0, 0, []), (.ireturn, 44, 0, 0, 0, [])]
/-- 103: RoundBenchModel.<init>()V -/
def am_k103 : List am_O := [(.aload_n 0, 0, 0, 0, 0, []), (.invokespecial 1, 1, 0, 0, 2, [605, 57, 58]), (.aload_n 0, 4, 0, 0, 0, []), (.iconst 1, 5, 0, 0, 1, []), (.putfield 7, 6, 11, 0, 0, [606]), (.aload_n 0, 9, 0, 0, 0, []), (.bipush 24, 10, 0, 0, 24, []), (.newarray .int, 12, 0, 0, 0, [112]), (.putfield 13, 14, 11, 2, 0, [608]), (.aload_n 0, 17, 0, 0, 0, []), (.bipush 24, 18, 0, 0, 24, []), (.newarray .int, 20, 0, 0, 0, [112]), (.putfield 17, 22, 11, 3, 0, [609]), (.aload_n 0, 25, 0, 0, 0, []), (.bipush 24, 26, 0, 0, 24, []), (.newarray .int, 28, 0, 0, 0, [112]), (.putfield 20, 30, 11, 4, 0, [610]), (.aload_n 0, 33, 0, 0, 0, []), (.bipush 12, 34, 0, 0, 12, []), (.newarray .int, 36, 0, 0, 0, [112]), (.putfield 23, 38, 11, 5, 0, [611]), (.aload_n 0, 41, 0, 0, 0, []), (.sipush 144, 42, 0, 0, 144, []), (.newarray .int, 45, 0, 0, 0, [112]), (.putfield 26, 47, 11, 7, 0, [613]), (.aload_n 0, 50, 0, 0, 0, []), (.iconst (-1), 51, 0, 0, (-1), []), (.putfield 29, 52, 11, 8, 0, [614]), (.aload_n 0, 55, 0, 0, 0, []), (.bipush 12, 56, 0, 0, 12, []), (.newarray .int, 58, 0, 0, 0, [112]), (.putfield 32, 60, 11, 12, 0, [618]), (.aload_n 0, 63, 0, 0, 0, []), (.bipush 12, 64, 0, 0, 12, []), (.newarray .int, 66, 0, 0, 0, [112]), (.putfield 35, 68, 11, 13, 0, [619]), (.aload_n 0, 71, 0, 0, 0, []), (.bipush 12, 72, 0, 0, 12, []), (.newarray .int, 74, 0, 0, 0, [112]), (.putfield 38, 76, 11, 14, 0, [620]), (.aload_n 0, 79, 0, 0, 0, []), (.bipush 12, 80, 0, 0, 12, []), (.newarray .int, 82, 0, 0, 0, [112]), (.putfield 41, 84, 11, 15, 0, [621]), (.aload_n 0, 87, 0, 0, 0, []), (.sipush 168, 88, 0, 0, 168, []), (.newarray .int, 91, 0, 0, 0, [112]), (.putfield 44, 93, 11, 16, 0, [622]), (.aload_n 0, 96, 0, 0, 0, []), (.bipush 12, 97, 0, 0, 12, []), (.newarray .int, 99, 0, 0, 0, [112]), (.putfield 47, 101, 11, 17, 0, [623]), (.aload_n 0, 104, 0, 0, 0, []), (.bipush 12, 105, 0, 0, 12, []), (.newarray .int, 107, 0, 0, 0, [112]), (.putfield 50, 109, 11, 18, 0, [624]), (.aload_n 0, 112, 0, 0, 0, []), (.getfield 23, 113, 11, 5, 0, [611]), (.iconst 0, 116, 0, 0, 0, []), (.iconst 1, 117, 0, 0, 1, []), (.iastore, 118, 0, 0, 0, []), (.return_, 119, 0, 0, 0, [])]
/-- 104: RoundBenchModel.net(I)Z -/
def am_k104 : List am_O := [(.iload_n 1, 0, 1, 0, 0, []), (.iconst 1, 1, 0, 0, 1, []), (.if_icmp .lt 9, 2, 6, 0, 0, []), (.iload_n 1, 5, 1, 0, 0, []), (.bipush 12, 6, 0, 0, 12, []), (.if_icmp .le 5, 8, 8, 0, 0, []), (.iconst 0, 11, 0, 0, 0, []), (.ireturn, 12, 0, 0, 0, []), (.aload_n 0, 13, 0, 0, 0, []), (.iload_n 1, 14, 1, 0, 0, []), (.putfield 7, 15, 11, 0, 0, [606]), (.aload_n 0, 18, 0, 0, 0, []), (.iconst 0, 19, 0, 0, 0, []), (.putfield 57, 20, 11, 1, 0, [607]), (.iconst 0, 23, 0, 0, 0, []), (.istore_n 2, 24, 2, 0, 0, []), (.iload_n 2, 25, 2, 0, 0, []), (.aload_n 0, 26, 0, 0, 0, []), (.getfield 7, 27, 11, 0, 0, [606]), (.if_icmp .ge 18, 30, 29, 0, 0, []), (.aload_n 0, 33, 0, 0, 0, []), (.getfield 23, 34, 11, 5, 0, [611]), (.iload_n 2, 37, 2, 0, 0, []), (.iload_n 2, 38, 2, 0, 0, []), (.iconst 1, 39, 0, 0, 1, []), (.iadd, 40, 0, 0, 0, []), (.iastore, 41, 0, 0, 0, []), (.iinc 2 1, 42, 2, 0, 1, []), (.goto (-20), 45, 16, 0, 0, []), (.aload_n 0, 48, 0, 0, 0, []), (.invokevirtual 60, 49, 105, 0, 0, [668, 670, 3, 48, 671]), (.iconst 1, 52, 0, 0, 1, []), (.ireturn, 53, 0, 0, 0, [])]
/-- 105: RoundBenchModel.change()V -/
def am_k105 : List am_O := [(.aload_n 0, 0, 0, 0, 0, []), (.iconst 0, 1, 0, 0, 0, []), (.putfield 53, 2, 11, 6, 0, [612]), (.aload_n 0, 5, 0, 0, 0, []), (.iconst (-1), 6, 0, 0, (-1), []), (.putfield 29, 7, 11, 8, 0, [614]), (.return_, 10, 0, 0, 0, [])]
/-- 106: RoundBenchModel.edge(III)I -/
def am_k106 : List am_O := [(.aload_n 0, 0, 0, 0, 0, []), (.getfield 57, 1, 11, 1, 0, [607]), (.bipush 24, 4, 0, 0, 24, []), (.if_icmp .eq 45, 6, 26, 0, 0, []), (.aload_n 0, 9, 0, 0, 0, []), (.iload_n 1, 10, 1, 0, 0, []), (.invokevirtual 71, 11, 107, 1, 0, [676, 678, 4, 48, 679]), (.ifCond .eq 37, 14, 26, 0, 0, []), (.aload_n 0, 17, 0, 0, 0, []), (.iload_n 2, 18, 2, 0, 0, []), (.invokevirtual 71, 19, 107, 1, 0, [676, 678, 4, 48, 679]), (.ifCond .eq 29, 22, 26, 0, 0, []), (.iload_n 1, 25, 1, 0, 0, []), (.iload_n 2, 26, 2, 0, 0, []), (.if_icmp .eq 24, 27, 26, 0, 0, []), (.aload_n 0, 30, 0, 0, 0, []), (.iload_n 1, 31, 1, 0, 0, []), (.iload_n 2, 32, 2, 0, 0, []), (.invokevirtual 67, 33, 108, 2, 0, [680, 682, 5, 48, 683]), (.ifCond .ne 15, 36, 26, 0, 0, []), (.iload_n 3, 39, 3, 0, 0, []), (.iconst 1, 40, 0, 0, 1, []), (.if_icmp .lt 10, 41, 26, 0, 0, []), (.iload_n 3, 44, 3, 0, 0, []), (.sipush 999, 45, 0, 0, 999, []), (.if_icmp .le 5, 48, 28, 0, 0, []), (.iconst (-1), 51, 0, 0, (-1), []), (.ireturn, 52, 0, 0, 0, []), (.aload_n 0, 53, 0, 0, 0, []), (.getfield 13, 54, 11, 2, 0, [608]), (.aload_n 0, 57, 0, 0, 0, []), (.getfield 57, 58, 11, 1, 0, [607]), (.iload_n 1, 61, 1, 0, 0, []), (.iastore, 62, 0, 0, 0, []), (.aload_n 0, 63, 0, 0, 0, []), (.getfield 17, 64, 11, 3, 0, [609]), (.aload_n 0, 67, 0, 0, 0, []), (.getfield 57, 68, 11, 1, 0, [607]), (.iload_n 2, 71, 2, 0, 0, []), (.iastore, 72, 0, 0, 0, []), (.aload_n 0, 73, 0, 0, 0, []), (.getfield 20, 74, 11, 4, 0, [610]), (.aload_n 0, 77, 0, 0, 0, []), (.getfield 57, 78, 11, 1, 0, [607]), (.iload_n 3, 81, 3, 0, 0, []), (.iastore, 82, 0, 0, 0, []), (.aload_n 0, 83, 0, 0, 0, []), (.dup, 84, 0, 0, 0, []), (.getfield 57, 85, 11, 1, 0, [607]), (.iconst 1, 88, 0, 0, 1, []), (.iadd, 89, 0, 0, 0, []), (.putfield 57, 90, 11, 1, 0, [607]), (.aload_n 0, 93, 0, 0, 0, []), (.invokevirtual 60, 94, 105, 0, 0, [668, 670, 3, 48, 671]), (.aload_n 0, 97, 0, 0, 0, []), (.getfield 57, 98, 11, 1, 0, [607]), (.iconst 1, 101, 0, 0, 1, []), (.isub, 102, 0, 0, 0, []), (.ireturn, 103, 0, 0, 0, [])]
/-- 107: RoundBenchModel.isNode(I)Z -/
def am_k107 : List am_O := [(.iload_n 1, 0, 1, 0, 0, []), (.ifCond .lt 15, 1, 8, 0, 0, []), (.iload_n 1, 4, 1, 0, 0, []), (.aload_n 0, 5, 0, 0, 0, []), (.getfield 7, 6, 11, 0, 0, [606]), (.if_icmp .ge 7, 9, 8, 0, 0, []), (.iconst 1, 12, 0, 0, 1, []), (.goto 4, 13, 9, 0, 0, []), (.iconst 0, 16, 0, 0, 0, []), (.ireturn, 17, 0, 0, 0, [])]
/-- 108: RoundBenchModel.areNeighbours(II)Z -/
def am_k108 : List am_O := [(.aload_n 0, 0, 0, 0, 0, []), (.iload_n 1, 1, 1, 0, 0, []), (.iload_n 2, 2, 2, 0, 0, []), (.invokevirtual 63, 3, 109, 2, 0, [684, 686, 6, 48, 687]), (.ifCond .lt 7, 6, 7, 0, 0, []), (.iconst 1, 9, 0, 0, 1, []), (.goto 4, 10, 8, 0, 0, []), (.iconst 0, 13, 0, 0, 0, []), (.ireturn, 14, 0, 0, 0, [])]
/-- 109: RoundBenchModel.between(II)I -/
def am_k109 : List am_O := [(.iconst 0, 0, 0, 0, 0, []), (.istore_n 3, 1, 3, 0, 0, []), (.iload_n 3, 2, 3, 0, 0, []), (.aload_n 0, 3, 0, 0, 0, []), (.getfield 57, 4, 11, 1, 0, [607]), (.if_icmp .ge 51, 7, 34, 0, 0, []), (.aload_n 0, 10, 0, 0, 0, []), (.getfield 13, 11, 11, 2, 0, [608]), (.iload_n 3, 14, 3, 0, 0, []), (.iaload, 15, 0, 0, 0, []), (.iload_n 1, 16, 1, 0, 0, []), (.if_icmp .ne 13, 17, 18, 0, 0, []), (.aload_n 0, 20, 0, 0, 0, []), (.getfield 17, 21, 11, 3, 0, [609]), (.iload_n 3, 24, 3, 0, 0, []), (.iaload, 25, 0, 0, 0, []), (.iload_n 2, 26, 2, 0, 0, []), (.if_icmp .eq 23, 27, 30, 0, 0, []), (.aload_n 0, 30, 0, 0, 0, []), (.getfield 13, 31, 11, 2, 0, [608]), (.iload_n 3, 34, 3, 0, 0, []), (.iaload, 35, 0, 0, 0, []), (.iload_n 2, 36, 2, 0, 0, []), (.if_icmp .ne 15, 37, 32, 0, 0, []), (.aload_n 0, 40, 0, 0, 0, []), (.getfield 17, 41, 11, 3, 0, [609]), (.iload_n 3, 44, 3, 0, 0, []), (.iaload, 45, 0, 0, 0, []), (.iload_n 1, 46, 1, 0, 0, []), (.if_icmp .ne 5, 47, 32, 0, 0, []), (.iload_n 3, 50, 3, 0, 0, []), (.ireturn, 51, 0, 0, 0, []), (.iinc 3 1, 52, 3, 0, 1, []), (.goto (-53), 55, 2, 0, 0, []), (.iconst (-1), 58, 0, 0, (-1), []), (.ireturn, 59, 0, 0, 0, [])]
/-- 110: RoundBenchModel.identity(II)Z -/
def am_k110 : List am_O := [(.aload_n 0, 0, 0, 0, 0, []), (.iload_n 1, 1, 1, 0, 0, []), (.invokevirtual 71, 2, 107, 1, 0, [676, 678, 4, 48, 679]), (.ifCond .eq 15, 5, 10, 0, 0, []), (.iload_n 2, 8, 2, 0, 0, []), (.iconst 1, 9, 0, 0, 1, []), (.if_icmp .lt 10, 10, 10, 0, 0, []), (.iload_n 2, 13, 2, 0, 0, []), (.sipush 999, 14, 0, 0, 999, []), (.if_icmp .le 5, 17, 12, 0, 0, []), (.iconst 0, 20, 0, 0, 0, []), (.ireturn, 21, 0, 0, 0, []), (.aload_n 0, 22, 0, 0, 0, []), (.getfield 23, 23, 11, 5, 0, [611]), (.iload_n 1, 26, 1, 0, 0, []), (.iload_n 2, 27, 2, 0, 0, []), (.iastore, 28, 0, 0, 0, []), (.aload_n 0, 29, 0, 0, 0, []), (.invokevirtual 60, 30, 105, 0, 0, [668, 670, 3, 48, 671]), (.iconst 1, 33, 0, 0, 1, []), (.ireturn, 34, 0, 0, 0, [])]
/-- 111: RoundBenchModel.ready()I -/
def am_k111 : List am_O := [(.aload_n 0, 0, 0, 0, 0, []), (.invokevirtual 76, 1, 112, 0, 0, [696, 698, 7, 48, 699]), (.iconst 0, 4, 0, 0, 0, []), (.istore_n 1, 5, 1, 0, 0, []), (.iload_n 1, 6, 1, 0, 0, []), (.aload_n 0, 7, 0, 0, 0, []), (.getfield 7, 8, 11, 0, 0, [606]), (.if_icmp .ge 22, 11, 18, 0, 0, []), (.aload_n 0, 14, 0, 0, 0, []), (.getfield 26, 15, 11, 7, 0, [613]), (.iload_n 1, 18, 1, 0, 0, []), (.iaload, 19, 0, 0, 0, []), (.ldc 75, 20, 0, 0, 1000000, [700]), (.if_icmp .lt 5, 22, 16, 0, 0, []), (.iconst 1, 25, 0, 0, 1, []), (.ireturn, 26, 0, 0, 0, []), (.iinc 1 1, 27, 1, 0, 1, []), (.goto (-24), 30, 4, 0, 0, []), (.iconst 0, 33, 0, 0, 0, []), (.istore_n 1, 34, 1, 0, 0, []), (.iload_n 1, 35, 1, 0, 0, []), (.aload_n 0, 36, 0, 0, 0, []), (.getfield 7, 37, 11, 0, 0, [606]), (.if_icmp .ge 39, 40, 44, 0, 0, []), (.iconst 0, 43, 0, 0, 0, []), (.istore_n 2, 44, 2, 0, 0, []), (.iload_n 2, 45, 2, 0, 0, []), (.iload_n 1, 46, 1, 0, 0, []), (.if_icmp .ge 26, 47, 42, 0, 0, []), (.aload_n 0, 50, 0, 0, 0, []), (.getfield 23, 51, 11, 5, 0, [611]), (.iload_n 1, 54, 1, 0, 0, []), (.iaload, 55, 0, 0, 0, []), (.aload_n 0, 56, 0, 0, 0, []), (.getfield 23, 57, 11, 5, 0, [611]), (.iload_n 2, 60, 2, 0, 0, []), (.iaload, 61, 0, 0, 0, []), (.if_icmp .ne 5, 62, 40, 0, 0, []), (.iconst 2, 65, 0, 0, 2, []), (.ireturn, 66, 0, 0, 0, []), (.iinc 2 1, 67, 2, 0, 1, []), (.goto (-25), 70, 26, 0, 0, []), (.iinc 1 1, 73, 1, 0, 1, []), (.goto (-41), 76, 20, 0, 0, []), (.aload_n 0, 79, 0, 0, 0, []), (.iconst 1, 80, 0, 0, 1, []), (.putfield 53, 81, 11, 6, 0, [612]), (.iconst 0, 84, 0, 0, 0, []), (.ireturn, 85, 0, 0, 0, [])]
/-- 112: RoundBenchModel.measure()V -/
def am_k112 : List am_O := [(.iconst 0, 0, 0, 0, 0, []), (.istore_n 1, 1, 1, 0, 0, []), (.iload_n 1, 2, 1, 0, 0, []), (.aload_n 0, 3, 0, 0, 0, []), (.getfield 7, 4, 11, 0, 0, [606]), (.if_icmp .ge 60, 7, 37, 0, 0, []), (.iconst 0, 10, 0, 0, 0, []), (.istore_n 2, 11, 2, 0, 0, []), (.iload_n 2, 12, 2, 0, 0, []), (.aload_n 0, 13, 0, 0, 0, []), (.getfield 7, 14, 11, 0, 0, [606]), (.if_icmp .ge 44, 17, 35, 0, 0, []), (.aload_n 0, 20, 0, 0, 0, []), (.getfield 26, 21, 11, 7, 0, [613]), (.bipush 12, 24, 0, 0, 12, []), (.iload_n 1, 26, 1, 0, 0, []), (.imul, 27, 0, 0, 0, []), (.iload_n 2, 28, 2, 0, 0, []), (.iadd, 29, 0, 0, 0, []), (.iload_n 1, 30, 1, 0, 0, []), (.iload_n 2, 31, 2, 0, 0, []), (.if_icmp .ne 7, 32, 24, 0, 0, []), (.iconst 0, 35, 0, 0, 0, []), (.goto 18, 36, 32, 0, 0, []), (.aload_n 0, 39, 0, 0, 0, []), (.iload_n 1, 40, 1, 0, 0, []), (.iload_n 2, 41, 2, 0, 0, []), (.invokevirtual 67, 42, 108, 2, 0, [680, 682, 5, 48, 683]), (.ifCond .eq 7, 45, 31, 0, 0, []), (.iconst 1, 48, 0, 0, 1, []), (.goto 5, 49, 32, 0, 0, []), (.ldc 75, 52, 0, 0, 1000000, [700]), (.iastore, 54, 0, 0, 0, []), (.iinc 2 1, 55, 2, 0, 1, []), (.goto (-46), 58, 8, 0, 0, []), (.iinc 1 1, 61, 1, 0, 1, []), (.goto (-62), 64, 2, 0, 0, []), (.iconst 0, 67, 0, 0, 0, []), (.istore_n 1, 68, 1, 0, 0, []), (.iload_n 1, 69, 1, 0, 0, []), (.aload_n 0, 70, 0, 0, 0, []), (.getfield 7, 71, 11, 0, 0, [606]), (.if_icmp .ge 109, 74, 107, 0, 0, []), (.iconst 0, 77, 0, 0, 0, []), (.istore_n 2, 78, 2, 0, 0, []), (.iload_n 2, 79, 2, 0, 0, []), (.aload_n 0, 80, 0, 0, 0, []), (.getfield 7, 81, 11, 0, 0, [606]), (.if_icmp .ge 93, 84, 105, 0, 0, []), (.iconst 0, 87, 0, 0, 0, []), (.istore_n 3, 88, 3, 0, 0, []), (.iload_n 3, 89, 3, 0, 0, []), (.aload_n 0, 90, 0, 0, 0, []), (.getfield 7, 91, 11, 0, 0, [606]), (.if_icmp .ge 77, 94, 103, 0, 0, []), (.aload_n 0, 97, 0, 0, 0, []), (.getfield 26, 98, 11, 7, 0, [613]), (.bipush 12, 101, 0, 0, 12, []), (.iload_n 2, 103, 2, 0, 0, []), (.imul, 104, 0, 0, 0, []), (.iload_n 1, 105, 1, 0, 0, []), (.iadd, 106, 0, 0, 0, []), (.iaload, 107, 0, 0, 0, []), (.aload_n 0, 108, 0, 0, 0, []), (.getfield 26, 109, 11, 7, 0, [613]), (.bipush 12, 112, 0, 0, 12, []), (.iload_n 1, 114, 1, 0, 0, []), (.imul, 115, 0, 0, 0, []), (.iload_n 3, 116, 3, 0, 0, []), (.iadd, 117, 0, 0, 0, []), (.iaload, 118, 0, 0, 0, []), (.iadd, 119, 0, 0, 0, []), (.istore 4, 120, 4, 0, 0, []), (.aload_n 0, 122, 0, 0, 0, []), (.getfield 26, 123, 11, 7, 0, [613]), (.bipush 12, 126, 0, 0, 12, []), (.iload_n 2, 128, 2, 0, 0, []), (.imul, 129, 0, 0, 0, []), (.iload_n 3, 130, 3, 0, 0, []), (.iadd, 131, 0, 0, 0, []), (.iload 4, 132, 4, 0, 0, []), (.aload_n 0, 134, 0, 0, 0, []), (.getfield 26, 135, 11, 7, 0, [613]), (.bipush 12, 138, 0, 0, 12, []), (.iload_n 2, 140, 2, 0, 0, []), (.imul, 141, 0, 0, 0, []), (.iload_n 3, 142, 3, 0, 0, []), (.iadd, 143, 0, 0, 0, []), (.iaload, 144, 0, 0, 0, []), (.if_icmp .ge 8, 145, 92, 0, 0, []), (.iload 4, 148, 4, 0, 0, []), (.goto 14, 150, 100, 0, 0, []), (.aload_n 0, 153, 0, 0, 0, []), (.getfield 26, 154, 11, 7, 0, [613]), (.bipush 12, 157, 0, 0, 12, []), (.iload_n 2, 159, 2, 0, 0, []), (.imul, 160, 0, 0, 0, []), (.iload_n 3, 161, 3, 0, 0, []), (.iadd, 162, 0, 0, 0, []), (.iaload, 163, 0, 0, 0, []), (.iastore, 164, 0, 0, 0, []), (.iinc 3 1, 165, 3, 0, 1, []), (.goto (-79), 168, 51, 0, 0, []), (.iinc 2 1, 171, 2, 0, 1, []), (.goto (-95), 174, 45, 0, 0, []), (.iinc 1 1, 177, 1, 0, 1, []), (.goto (-111), 180, 39, 0, 0, []), (.return_, 183, 0, 0, 0, [])]
/-- 113: RoundBenchModel.choose(II)Z -/
def am_k113 : List am_O := [(.aload_n 0, 0, 0, 0, 0, []), (.getfield 53, 1, 11, 6, 0, [612]), (.ifCond .eq 13, 4, 8, 0, 0, []), (.iload_n 1, 7, 1, 0, 0, []), (.ifCond .lt 9, 8, 8, 0, 0, []), (.iload_n 1, 11, 1, 0, 0, []), (.bipush 7, 12, 0, 0, 7, []), (.if_icmp .le 5, 14, 10, 0, 0, []), (.iconst 0, 17, 0, 0, 0, []), (.ireturn, 18, 0, 0, 0, []), (.iload_n 1, 19, 1, 0, 0, []), (.iconst 1, 20, 0, 0, 1, []), (.if_icmp .eq 19, 21, 22, 0, 0, []), (.iload_n 1, 24, 1, 0, 0, []), (.iconst 2, 25, 0, 0, 2, []), (.if_icmp .eq 14, 26, 22, 0, 0, []), (.iload_n 1, 29, 1, 0, 0, []), (.iconst 3, 30, 0, 0, 3, []), (.if_icmp .eq 9, 31, 22, 0, 0, []), (.iload_n 1, 34, 1, 0, 0, []), (.bipush 7, 35, 0, 0, 7, []), (.if_icmp .ne 7, 37, 24, 0, 0, []), (.iconst 1, 40, 0, 0, 1, []), (.goto 4, 41, 25, 0, 0, []), (.iconst 0, 44, 0, 0, 0, []), (.istore_n 3, 45, 3, 0, 0, []), (.iload_n 3, 46, 3, 0, 0, []), (.ifCond .eq 11, 47, 32, 0, 0, []), (.aload_n 0, 50, 0, 0, 0, []), (.iload_n 2, 51, 2, 0, 0, []), (.invokevirtual 71, 52, 107, 1, 0, [676, 678, 4, 48, 679]), (.ifCond .eq 20, 55, 41, 0, 0, []), (.iload_n 1, 58, 1, 0, 0, []), (.bipush 6, 59, 0, 0, 6, []), (.if_icmp .ne 16, 61, 43, 0, 0, []), (.iload_n 2, 64, 2, 0, 0, []), (.iconst 1, 65, 0, 0, 1, []), (.if_icmp .lt 9, 66, 41, 0, 0, []), (.iload_n 2, 69, 2, 0, 0, []), (.bipush 12, 70, 0, 0, 12, []), (.if_icmp .le 5, 72, 43, 0, 0, []), (.iconst 0, 75, 0, 0, 0, []), (.ireturn, 76, 0, 0, 0, []), (.aload_n 0, 77, 0, 0, 0, []), (.iload_n 1, 78, 1, 0, 0, []), (.putfield 29, 79, 11, 8, 0, [614]), (.aload_n 0, 82, 0, 0, 0, []), (.iload_n 2, 83, 2, 0, 0, []), (.putfield 79, 84, 11, 9, 0, [615]), (.aload_n 0, 87, 0, 0, 0, []), (.iconst 0, 88, 0, 0, 0, []), (.putfield 82, 89, 11, 10, 0, [616]), (.aload_n 0, 92, 0, 0, 0, []), (.iconst 0, 93, 0, 0, 0, []), (.putfield 85, 94, 11, 11, 0, [617]), (.aload_n 0, 97, 0, 0, 0, []), (.invokevirtual 76, 98, 112, 0, 0, [696, 698, 7, 48, 699]), (.aload_n 0, 101, 0, 0, 0, []), (.getfield 29, 102, 11, 8, 0, [614]), (.iconst 2, 105, 0, 0, 2, []), (.if_icmp .eq 11, 106, 65, 0, 0, []), (.aload_n 0, 109, 0, 0, 0, []), (.getfield 29, 110, 11, 8, 0, [614]), (.iconst 3, 113, 0, 0, 3, []), (.if_icmp .ne 10, 114, 68, 0, 0, []), (.aload_n 0, 117, 0, 0, 0, []), (.invokevirtual 88, 118, 114, 0, 0, [705, 707, 8, 48, 708]), (.goto 46, 121, 88, 0, 0, []), (.aload_n 0, 124, 0, 0, 0, []), (.getfield 29, 125, 11, 8, 0, [614]), (.iconst 4, 128, 0, 0, 4, []), (.if_icmp .ne 10, 129, 75, 0, 0, []), (.aload_n 0, 132, 0, 0, 0, []), (.invokevirtual 91, 133, 117, 0, 0, [717, 719, 11, 48, 720]), (.goto 31, 136, 88, 0, 0, []), (.aload_n 0, 139, 0, 0, 0, []), (.getfield 29, 140, 11, 8, 0, [614]), (.iconst 5, 143, 0, 0, 5, []), (.if_icmp .ne 10, 144, 82, 0, 0, []), (.aload_n 0, 147, 0, 0, 0, []), (.invokevirtual 94, 148, 118, 0, 0, [721, 723, 12, 48, 724]), (.goto 16, 151, 88, 0, 0, []), (.aload_n 0, 154, 0, 0, 0, []), (.getfield 29, 155, 11, 8, 0, [614]), (.bipush 6, 158, 0, 0, 6, []), (.if_icmp .ne 7, 160, 88, 0, 0, []), (.aload_n 0, 163, 0, 0, 0, []), (.invokevirtual 97, 164, 121, 0, 0, [733, 735, 15, 48, 736]), (.iconst 1, 167, 0, 0, 1, []), (.ireturn, 168, 0, 0, 0, [])]
/-- 114: RoundBenchModel.plant()V -/
def am_k114 : List am_O := [(.iconst 0, 0, 0, 0, 0, []), (.istore_n 1, 1, 1, 0, 0, []), (.iload_n 1, 2, 1, 0, 0, []), (.aload_n 0, 3, 0, 0, 0, []), (.getfield 7, 4, 11, 0, 0, [606]), (.if_icmp .ge 43, 7, 28, 0, 0, []), (.aload_n 0, 10, 0, 0, 0, []), (.getfield 32, 11, 11, 12, 0, [618]), (.iload_n 1, 14, 1, 0, 0, []), (.iload_n 1, 15, 1, 0, 0, []), (.aload_n 0, 16, 0, 0, 0, []), (.getfield 79, 17, 11, 9, 0, [615]), (.if_icmp .ne 7, 20, 15, 0, 0, []), (.iconst (-1), 23, 0, 0, (-1), []), (.goto 12, 24, 20, 0, 0, []), (.aload_n 0, 27, 0, 0, 0, []), (.iload_n 1, 28, 1, 0, 0, []), (.aload_n 0, 29, 0, 0, 0, []), (.getfield 79, 30, 11, 9, 0, [615]), (.invokevirtual 102, 33, 115, 2, 0, [709, 711, 9, 48, 712]), (.iastore, 36, 0, 0, 0, []), (.aload_n 0, 37, 0, 0, 0, []), (.getfield 35, 38, 11, 13, 0, [619]), (.iload_n 1, 41, 1, 0, 0, []), (.iconst 0, 42, 0, 0, 0, []), (.iastore, 43, 0, 0, 0, []), (.iinc 1 1, 44, 1, 0, 1, []), (.goto (-45), 47, 2, 0, 0, []), (.iconst 0, 50, 0, 0, 0, []), (.istore_n 1, 51, 1, 0, 0, []), (.iload_n 1, 52, 1, 0, 0, []), (.aload_n 0, 53, 0, 0, 0, []), (.getfield 7, 54, 11, 0, 0, [606]), (.if_icmp .ge 56, 57, 65, 0, 0, []), (.iload_n 1, 60, 1, 0, 0, []), (.istore_n 2, 61, 2, 0, 0, []), (.iconst 0, 62, 0, 0, 0, []), (.istore_n 3, 63, 3, 0, 0, []), (.iload_n 2, 64, 2, 0, 0, []), (.ifCond .lt 42, 65, 63, 0, 0, []), (.aload_n 0, 68, 0, 0, 0, []), (.getfield 35, 69, 11, 13, 0, [619]), (.iload_n 2, 72, 2, 0, 0, []), (.aload_n 0, 73, 0, 0, 0, []), (.getfield 35, 74, 11, 13, 0, [619]), (.iload_n 2, 77, 2, 0, 0, []), (.iaload, 78, 0, 0, 0, []), (.iload_n 3, 79, 3, 0, 0, []), (.if_icmp .ge 7, 80, 51, 0, 0, []), (.iload_n 3, 83, 3, 0, 0, []), (.goto 9, 84, 55, 0, 0, []), (.aload_n 0, 87, 0, 0, 0, []), (.getfield 35, 88, 11, 13, 0, [619]), (.iload_n 2, 91, 2, 0, 0, []), (.iaload, 92, 0, 0, 0, []), (.iastore, 93, 0, 0, 0, []), (.aload_n 0, 94, 0, 0, 0, []), (.getfield 32, 95, 11, 12, 0, [618]), (.iload_n 2, 98, 2, 0, 0, []), (.iaload, 99, 0, 0, 0, []), (.istore_n 2, 100, 2, 0, 0, []), (.iinc 3 1, 101, 3, 0, 1, []), (.goto (-40), 104, 38, 0, 0, []), (.iinc 1 1, 107, 1, 0, 1, []), (.goto (-58), 110, 30, 0, 0, []), (.return_, 113, 0, 0, 0, [])]
/-- 115: RoundBenchModel.nearer(II)I -/
def am_k115 : List am_O := [(.iconst 0, 0, 0, 0, 0, []), (.istore_n 3, 1, 3, 0, 0, []), (.iload_n 3, 2, 3, 0, 0, []), (.aload_n 0, 3, 0, 0, 0, []), (.getfield 7, 4, 11, 0, 0, [606]), (.if_icmp .ge 37, 7, 26, 0, 0, []), (.aload_n 0, 10, 0, 0, 0, []), (.iload_n 3, 11, 3, 0, 0, []), (.iload_n 1, 12, 1, 0, 0, []), (.invokevirtual 67, 13, 108, 2, 0, [680, 682, 5, 48, 683]), (.ifCond .eq 22, 16, 24, 0, 0, []), (.aload_n 0, 19, 0, 0, 0, []), (.iload_n 3, 20, 3, 0, 0, []), (.iload_n 2, 21, 2, 0, 0, []), (.invokevirtual 100, 22, 116, 2, 0, [713, 715, 10, 48, 716]), (.aload_n 0, 25, 0, 0, 0, []), (.iload_n 1, 26, 1, 0, 0, []), (.iload_n 2, 27, 2, 0, 0, []), (.invokevirtual 100, 28, 116, 2, 0, [713, 715, 10, 48, 716]), (.iconst 1, 31, 0, 0, 1, []), (.isub, 32, 0, 0, 0, []), (.if_icmp .ne 5, 33, 24, 0, 0, []), (.iload_n 3, 36, 3, 0, 0, []), (.ireturn, 37, 0, 0, 0, []), (.iinc 3 1, 38, 3, 0, 1, []), (.goto (-39), 41, 2, 0, 0, []), (.iconst (-1), 44, 0, 0, (-1), []), (.ireturn, 45, 0, 0, 0, [])]
/-- 116: RoundBenchModel.far(II)I -/
def am_k116 : List am_O := [(.aload_n 0, 0, 0, 0, 0, []), (.getfield 26, 1, 11, 7, 0, [613]), (.bipush 12, 4, 0, 0, 12, []), (.iload_n 1, 6, 1, 0, 0, []), (.imul, 7, 0, 0, 0, []), (.iload_n 2, 8, 2, 0, 0, []), (.iadd, 9, 0, 0, 0, []), (.iaload, 10, 0, 0, 0, []), (.ireturn, 11, 0, 0, 0, [])]
/-- 117: RoundBenchModel.pick()V -/
def am_k117 : List am_O := [(.iconst 0, 0, 0, 0, 0, []), (.istore_n 1, 1, 1, 0, 0, []), (.iload_n 1, 2, 1, 0, 0, []), (.aload_n 0, 3, 0, 0, 0, []), (.getfield 7, 4, 11, 0, 0, [606]), (.if_icmp .ge 16, 7, 13, 0, 0, []), (.aload_n 0, 10, 0, 0, 0, []), (.getfield 38, 11, 11, 14, 0, [620]), (.iload_n 1, 14, 1, 0, 0, []), (.iconst 0, 15, 0, 0, 0, []), (.iastore, 16, 0, 0, 0, []), (.iinc 1 1, 17, 1, 0, 1, []), (.goto (-18), 20, 2, 0, 0, []), (.iconst 0, 23, 0, 0, 0, []), (.istore_n 1, 24, 1, 0, 0, []), (.iload_n 1, 25, 1, 0, 0, []), (.aload_n 0, 26, 0, 0, 0, []), (.getfield 7, 27, 11, 0, 0, [606]), (.if_icmp .ge 213, 30, 133, 0, 0, []), (.iconst (-1), 33, 0, 0, (-1), []), (.istore_n 2, 34, 2, 0, 0, []), (.iconst 0, 35, 0, 0, 0, []), (.istore_n 3, 36, 3, 0, 0, []), (.iload_n 3, 37, 3, 0, 0, []), (.aload_n 0, 38, 0, 0, 0, []), (.getfield 7, 39, 11, 0, 0, [606]), (.if_icmp .ge 43, 42, 49, 0, 0, []), (.aload_n 0, 45, 0, 0, 0, []), (.getfield 38, 46, 11, 14, 0, [620]), (.iload_n 3, 49, 3, 0, 0, []), (.iaload, 50, 0, 0, 0, []), (.ifCond .ne 26, 51, 45, 0, 0, []), (.iload_n 2, 54, 2, 0, 0, []), (.ifCond .lt 18, 55, 43, 0, 0, []), (.aload_n 0, 58, 0, 0, 0, []), (.getfield 23, 59, 11, 5, 0, [611]), (.iload_n 3, 62, 3, 0, 0, []), (.iaload, 63, 0, 0, 0, []), (.aload_n 0, 64, 0, 0, 0, []), (.getfield 23, 65, 11, 5, 0, [611]), (.iload_n 2, 68, 2, 0, 0, []), (.iaload, 69, 0, 0, 0, []), (.if_icmp .le 7, 70, 45, 0, 0, []), (.iload_n 3, 73, 3, 0, 0, []), (.goto 4, 74, 46, 0, 0, []), (.iload_n 2, 77, 2, 0, 0, []), (.istore_n 2, 78, 2, 0, 0, []), (.iinc 3 1, 79, 3, 0, 1, []), (.goto (-45), 82, 23, 0, 0, []), (.ldc 75, 85, 0, 0, 1000000, [700]), (.istore_n 3, 87, 3, 0, 0, []), (.iconst 0, 88, 0, 0, 0, []), (.istore 4, 89, 4, 0, 0, []), (.iconst 0, 91, 0, 0, 0, []), (.istore 5, 92, 5, 0, 0, []), (.iload 5, 94, 5, 0, 0, []), (.aload_n 0, 96, 0, 0, 0, []), (.getfield 7, 97, 11, 0, 0, [606]), (.if_icmp .ge 100, 100, 109, 0, 0, []), (.aload_n 0, 103, 0, 0, 0, []), (.iload 5, 104, 5, 0, 0, []), (.iload_n 2, 106, 2, 0, 0, []), (.invokevirtual 67, 107, 108, 2, 0, [680, 682, 5, 48, 683]), (.ifCond .eq 37, 110, 83, 0, 0, []), (.aload_n 0, 113, 0, 0, 0, []), (.getfield 38, 114, 11, 14, 0, [620]), (.iload 5, 117, 5, 0, 0, []), (.iaload, 119, 0, 0, 0, []), (.iconst 1, 120, 0, 0, 1, []), (.if_icmp .ne 26, 121, 83, 0, 0, []), (.aload_n 0, 124, 0, 0, 0, []), (.getfield 41, 125, 11, 15, 0, [621]), (.iload 5, 128, 5, 0, 0, []), (.iaload, 130, 0, 0, 0, []), (.iload_n 3, 131, 3, 0, 0, []), (.if_icmp .ge 13, 132, 81, 0, 0, []), (.aload_n 0, 135, 0, 0, 0, []), (.getfield 41, 136, 11, 15, 0, [621]), (.iload 5, 139, 5, 0, 0, []), (.iaload, 141, 0, 0, 0, []), (.goto 4, 142, 82, 0, 0, []), (.iload_n 3, 145, 3, 0, 0, []), (.istore_n 3, 146, 3, 0, 0, []), (.aload_n 0, 147, 0, 0, 0, []), (.iload 5, 148, 5, 0, 0, []), (.iload_n 2, 150, 2, 0, 0, []), (.invokevirtual 67, 151, 108, 2, 0, [680, 682, 5, 48, 683]), (.ifCond .eq 40, 154, 107, 0, 0, []), (.aload_n 0, 157, 0, 0, 0, []), (.getfield 38, 158, 11, 14, 0, [620]), (.iload 5, 161, 5, 0, 0, []), (.iaload, 163, 0, 0, 0, []), (.iconst 2, 164, 0, 0, 2, []), (.if_icmp .ne 29, 165, 107, 0, 0, []), (.aload_n 0, 168, 0, 0, 0, []), (.getfield 41, 169, 11, 15, 0, [621]), (.iload 5, 172, 5, 0, 0, []), (.iaload, 174, 0, 0, 0, []), (.iload 4, 175, 4, 0, 0, []), (.if_icmp .le 13, 177, 105, 0, 0, []), (.aload_n 0, 180, 0, 0, 0, []), (.getfield 41, 181, 11, 15, 0, [621]), (.iload 5, 184, 5, 0, 0, []), (.iaload, 186, 0, 0, 0, []), (.goto 5, 187, 106, 0, 0, []), (.iload 4, 190, 4, 0, 0, []), (.istore 4, 192, 4, 0, 0, []), (.iinc 5 1, 194, 5, 0, 1, []), (.goto (-103), 197, 55, 0, 0, []), (.aload_n 0, 200, 0, 0, 0, []), (.getfield 38, 201, 11, 14, 0, [620]), (.iload_n 2, 204, 2, 0, 0, []), (.iload_n 3, 205, 3, 0, 0, []), (.ldc 75, 206, 0, 0, 1000000, [700]), (.if_icmp .ge 7, 208, 117, 0, 0, []), (.iconst 2, 211, 0, 0, 2, []), (.goto 4, 212, 118, 0, 0, []), (.iconst 1, 215, 0, 0, 1, []), (.iastore, 216, 0, 0, 0, []), (.aload_n 0, 217, 0, 0, 0, []), (.getfield 41, 218, 11, 15, 0, [621]), (.iload_n 2, 221, 2, 0, 0, []), (.iload_n 3, 222, 3, 0, 0, []), (.ldc 75, 223, 0, 0, 1000000, [700]), (.if_icmp .ge 7, 225, 127, 0, 0, []), (.iload_n 3, 228, 3, 0, 0, []), (.goto 7, 229, 130, 0, 0, []), (.iload 4, 232, 4, 0, 0, []), (.iconst 1, 234, 0, 0, 1, []), (.iadd, 235, 0, 0, 0, []), (.iastore, 236, 0, 0, 0, []), (.iinc 1 1, 237, 1, 0, 1, []), (.goto (-215), 240, 15, 0, 0, []), (.return_, 243, 0, 0, 0, [])]
/-- 118: RoundBenchModel.match()V -/
def am_k118 : List am_O := [(.iconst 0, 0, 0, 0, 0, []), (.istore_n 1, 1, 1, 0, 0, []), (.iload_n 1, 2, 1, 0, 0, []), (.aload_n 0, 3, 0, 0, 0, []), (.getfield 7, 4, 11, 0, 0, [606]), (.if_icmp .ge 23, 7, 18, 0, 0, []), (.aload_n 0, 10, 0, 0, 0, []), (.getfield 38, 11, 11, 14, 0, [620]), (.iload_n 1, 14, 1, 0, 0, []), (.iconst (-1), 15, 0, 0, (-1), []), (.iastore, 16, 0, 0, 0, []), (.aload_n 0, 17, 0, 0, 0, []), (.getfield 41, 18, 11, 15, 0, [621]), (.iload_n 1, 21, 1, 0, 0, []), (.iconst 0, 22, 0, 0, 0, []), (.iastore, 23, 0, 0, 0, []), (.iinc 1 1, 24, 1, 0, 1, []), (.goto (-25), 27, 2, 0, 0, []), (.iconst (-1), 30, 0, 0, (-1), []), (.istore_n 1, 31, 1, 0, 0, []), (.iconst 0, 32, 0, 0, 0, []), (.istore_n 2, 33, 2, 0, 0, []), (.iload_n 2, 34, 2, 0, 0, []), (.aload_n 0, 35, 0, 0, 0, []), (.getfield 57, 36, 11, 1, 0, [607]), (.if_icmp .ge 285, 39, 175, 0, 0, []), (.iconst (-1), 42, 0, 0, (-1), []), (.istore_n 3, 43, 3, 0, 0, []), (.iconst 0, 44, 0, 0, 0, []), (.istore 4, 45, 4, 0, 0, []), (.iload 4, 47, 4, 0, 0, []), (.aload_n 0, 49, 0, 0, 0, []), (.getfield 57, 50, 11, 1, 0, [607]), (.if_icmp .ge 56, 53, 60, 0, 0, []), (.iload_n 1, 56, 1, 0, 0, []), (.ifCond .lt 13, 57, 41, 0, 0, []), (.aload_n 0, 60, 0, 0, 0, []), (.iload_n 1, 61, 1, 0, 0, []), (.iload 4, 62, 4, 0, 0, []), (.invokevirtual 108, 64, 119, 2, 0, [725, 727, 13, 48, 728]), (.ifCond .eq 7, 67, 43, 0, 0, []), (.iconst 1, 70, 0, 0, 1, []), (.goto 4, 71, 44, 0, 0, []), (.iconst 0, 74, 0, 0, 0, []), (.istore 5, 75, 5, 0, 0, []), (.iload 5, 77, 5, 0, 0, []), (.ifCond .eq 22, 79, 56, 0, 0, []), (.iload_n 3, 82, 3, 0, 0, []), (.ifCond .lt 13, 83, 54, 0, 0, []), (.aload_n 0, 86, 0, 0, 0, []), (.iload 4, 87, 4, 0, 0, []), (.iload_n 3, 89, 3, 0, 0, []), (.invokevirtual 108, 90, 119, 2, 0, [725, 727, 13, 48, 728]), (.ifCond .eq 8, 93, 56, 0, 0, []), (.iload 4, 96, 4, 0, 0, []), (.goto 4, 98, 57, 0, 0, []), (.iload_n 3, 101, 3, 0, 0, []), (.istore_n 3, 102, 3, 0, 0, []), (.iinc 4 1, 103, 4, 0, 1, []), (.goto (-59), 106, 30, 0, 0, []), (.iload_n 3, 109, 3, 0, 0, []), (.istore_n 1, 110, 1, 0, 0, []), (.aload_n 0, 111, 0, 0, 0, []), (.getfield 13, 112, 11, 2, 0, [608]), (.iload_n 3, 115, 3, 0, 0, []), (.iaload, 116, 0, 0, 0, []), (.istore 4, 117, 4, 0, 0, []), (.aload_n 0, 119, 0, 0, 0, []), (.getfield 17, 120, 11, 3, 0, [609]), (.iload_n 3, 123, 3, 0, 0, []), (.iaload, 124, 0, 0, 0, []), (.istore 5, 125, 5, 0, 0, []), (.aload_n 0, 127, 0, 0, 0, []), (.getfield 38, 128, 11, 14, 0, [620]), (.iload 4, 131, 4, 0, 0, []), (.iaload, 133, 0, 0, 0, []), (.ifCond .ge 184, 134, 173, 0, 0, []), (.aload_n 0, 137, 0, 0, 0, []), (.getfield 38, 138, 11, 14, 0, [620]), (.iload 5, 141, 5, 0, 0, []), (.iaload, 143, 0, 0, 0, []), (.ifCond .ge 174, 144, 173, 0, 0, []), (.iconst 0, 147, 0, 0, 0, []), (.istore 6, 148, 6, 0, 0, []), (.iconst 0, 150, 0, 0, 0, []), (.istore 7, 151, 7, 0, 0, []), (.iload 7, 153, 7, 0, 0, []), (.aload_n 0, 155, 0, 0, 0, []), (.getfield 57, 156, 11, 1, 0, [607]), (.if_icmp .ge 119, 159, 149, 0, 0, []), (.aload_n 0, 162, 0, 0, 0, []), (.iload 7, 163, 7, 0, 0, []), (.iload_n 3, 165, 3, 0, 0, []), (.invokevirtual 108, 166, 119, 2, 0, [725, 727, 13, 48, 728]), (.ifCond .eq 103, 169, 147, 0, 0, []), (.aload_n 0, 172, 0, 0, 0, []), (.iload 7, 173, 7, 0, 0, []), (.iload 4, 175, 4, 0, 0, []), (.invokevirtual 111, 177, 120, 2, 0, [729, 731, 14, 48, 732]), (.ifCond .ne 14, 180, 105, 0, 0, []), (.aload_n 0, 183, 0, 0, 0, []), (.iload 7, 184, 7, 0, 0, []), (.iload 5, 186, 5, 0, 0, []), (.invokevirtual 111, 188, 120, 2, 0, [729, 731, 14, 48, 732]), (.ifCond .eq 81, 191, 147, 0, 0, []), (.aload_n 0, 194, 0, 0, 0, []), (.iload 7, 195, 7, 0, 0, []), (.iload 4, 197, 4, 0, 0, []), (.invokevirtual 111, 199, 120, 2, 0, [729, 731, 14, 48, 732]), (.ifCond .eq 24, 202, 122, 0, 0, []), (.aload_n 0, 205, 0, 0, 0, []), (.getfield 13, 206, 11, 2, 0, [608]), (.iload 7, 209, 7, 0, 0, []), (.iaload, 211, 0, 0, 0, []), (.aload_n 0, 212, 0, 0, 0, []), (.getfield 17, 213, 11, 3, 0, [609]), (.iload 7, 216, 7, 0, 0, []), (.iaload, 218, 0, 0, 0, []), (.iadd, 219, 0, 0, 0, []), (.iload 4, 220, 4, 0, 0, []), (.isub, 222, 0, 0, 0, []), (.goto 21, 223, 133, 0, 0, []), (.aload_n 0, 226, 0, 0, 0, []), (.getfield 13, 227, 11, 2, 0, [608]), (.iload 7, 230, 7, 0, 0, []), (.iaload, 232, 0, 0, 0, []), (.aload_n 0, 233, 0, 0, 0, []), (.getfield 17, 234, 11, 3, 0, [609]), (.iload 7, 237, 7, 0, 0, []), (.iaload, 239, 0, 0, 0, []), (.iadd, 240, 0, 0, 0, []), (.iload 5, 241, 5, 0, 0, []), (.isub, 243, 0, 0, 0, []), (.istore 8, 244, 8, 0, 0, []), (.aload_n 0, 246, 0, 0, 0, []), (.getfield 41, 247, 11, 15, 0, [621]), (.iload 8, 250, 8, 0, 0, []), (.iaload, 252, 0, 0, 0, []), (.iload 6, 253, 6, 0, 0, []), (.if_icmp .le 13, 255, 145, 0, 0, []), (.aload_n 0, 258, 0, 0, 0, []), (.getfield 41, 259, 11, 15, 0, [621]), (.iload 8, 262, 8, 0, 0, []), (.iaload, 264, 0, 0, 0, []), (.goto 5, 265, 146, 0, 0, []), (.iload 6, 268, 6, 0, 0, []), (.istore 6, 270, 6, 0, 0, []), (.iinc 7 1, 272, 7, 0, 1, []), (.goto (-122), 275, 86, 0, 0, []), (.aload_n 0, 278, 0, 0, 0, []), (.getfield 38, 279, 11, 14, 0, [620]), (.iload 4, 282, 4, 0, 0, []), (.iload 5, 284, 5, 0, 0, []), (.iastore, 286, 0, 0, 0, []), (.aload_n 0, 287, 0, 0, 0, []), (.getfield 38, 288, 11, 14, 0, [620]), (.iload 5, 291, 5, 0, 0, []), (.iload 4, 293, 4, 0, 0, []), (.iastore, 295, 0, 0, 0, []), (.aload_n 0, 296, 0, 0, 0, []), (.getfield 41, 297, 11, 15, 0, [621]), (.iload 4, 300, 4, 0, 0, []), (.iload 6, 302, 6, 0, 0, []), (.iconst 1, 304, 0, 0, 1, []), (.iadd, 305, 0, 0, 0, []), (.iastore, 306, 0, 0, 0, []), (.aload_n 0, 307, 0, 0, 0, []), (.getfield 41, 308, 11, 15, 0, [621]), (.iload 5, 311, 5, 0, 0, []), (.iload 6, 313, 6, 0, 0, []), (.iconst 1, 315, 0, 0, 1, []), (.iadd, 316, 0, 0, 0, []), (.iastore, 317, 0, 0, 0, []), (.iinc 2 1, 318, 2, 0, 1, []), (.goto (-287), 321, 22, 0, 0, []), (.return_, 324, 0, 0, 0, [])]
/-- 119: RoundBenchModel.isHeavier(II)Z -/
def am_k119 : List am_O := [(.aload_n 0, 0, 0, 0, 0, []), (.getfield 20, 1, 11, 4, 0, [610]), (.iload_n 1, 4, 1, 0, 0, []), (.iaload, 5, 0, 0, 0, []), (.aload_n 0, 6, 0, 0, 0, []), (.getfield 20, 7, 11, 4, 0, [610]), (.iload_n 2, 10, 2, 0, 0, []), (.iaload, 11, 0, 0, 0, []), (.if_icmp .eq 26, 12, 22, 0, 0, []), (.aload_n 0, 15, 0, 0, 0, []), (.getfield 20, 16, 11, 4, 0, [610]), (.iload_n 1, 19, 1, 0, 0, []), (.iaload, 20, 0, 0, 0, []), (.aload_n 0, 21, 0, 0, 0, []), (.getfield 20, 22, 11, 4, 0, [610]), (.iload_n 2, 25, 2, 0, 0, []), (.iaload, 26, 0, 0, 0, []), (.if_icmp .le 7, 27, 20, 0, 0, []), (.iconst 1, 30, 0, 0, 1, []), (.goto 17, 31, 28, 0, 0, []), (.iconst 0, 34, 0, 0, 0, []), (.goto 13, 35, 28, 0, 0, []), (.iload_n 1, 38, 1, 0, 0, []), (.iload_n 2, 39, 2, 0, 0, []), (.if_icmp .ge 7, 40, 27, 0, 0, []), (.iconst 1, 43, 0, 0, 1, []), (.goto 4, 44, 28, 0, 0, []), (.iconst 0, 47, 0, 0, 0, []), (.ireturn, 48, 0, 0, 0, [])]
/-- 120: RoundBenchModel.isOf(II)Z -/
def am_k120 : List am_O := [(.aload_n 0, 0, 0, 0, 0, []), (.getfield 13, 1, 11, 2, 0, [608]), (.iload_n 1, 4, 1, 0, 0, []), (.iaload, 5, 0, 0, 0, []), (.iload_n 2, 6, 2, 0, 0, []), (.if_icmp .eq 13, 7, 12, 0, 0, []), (.aload_n 0, 10, 0, 0, 0, []), (.getfield 17, 11, 11, 3, 0, [609]), (.iload_n 1, 14, 1, 0, 0, []), (.iaload, 15, 0, 0, 0, []), (.iload_n 2, 16, 2, 0, 0, []), (.if_icmp .ne 7, 17, 14, 0, 0, []), (.iconst 1, 20, 0, 0, 1, []), (.goto 4, 21, 15, 0, 0, []), (.iconst 0, 24, 0, 0, 0, []), (.ireturn, 25, 0, 0, 0, [])]
/-- 121: RoundBenchModel.peel()V -/
def am_k121 : List am_O := [(.iconst 0, 0, 0, 0, 0, []), (.istore_n 1, 1, 1, 0, 0, []), (.iload_n 1, 2, 1, 0, 0, []), (.aload_n 0, 3, 0, 0, 0, []), (.getfield 7, 4, 11, 0, 0, [606]), (.if_icmp .ge 16, 7, 13, 0, 0, []), (.aload_n 0, 10, 0, 0, 0, []), (.getfield 41, 11, 11, 15, 0, [621]), (.iload_n 1, 14, 1, 0, 0, []), (.iconst 0, 15, 0, 0, 0, []), (.iastore, 16, 0, 0, 0, []), (.iinc 1 1, 17, 1, 0, 1, []), (.goto (-18), 20, 2, 0, 0, []), (.iconst 1, 23, 0, 0, 1, []), (.istore_n 1, 24, 1, 0, 0, []), (.iload_n 1, 25, 1, 0, 0, []), (.aload_n 0, 26, 0, 0, 0, []), (.getfield 7, 27, 11, 0, 0, [606]), (.if_icmp .gt 73, 30, 57, 0, 0, []), (.iconst 0, 33, 0, 0, 0, []), (.istore_n 2, 34, 2, 0, 0, []), (.iload_n 2, 35, 2, 0, 0, []), (.aload_n 0, 36, 0, 0, 0, []), (.getfield 7, 37, 11, 0, 0, [606]), (.if_icmp .ge 57, 40, 55, 0, 0, []), (.aload_n 0, 43, 0, 0, 0, []), (.getfield 41, 44, 11, 15, 0, [621]), (.iload_n 2, 47, 2, 0, 0, []), (.iaload, 48, 0, 0, 0, []), (.ifCond .ne 20, 49, 39, 0, 0, []), (.aload_n 0, 52, 0, 0, 0, []), (.iload_n 2, 53, 2, 0, 0, []), (.iload_n 1, 54, 1, 0, 0, []), (.invokevirtual 114, 55, 122, 2, 0, [737, 739, 16, 48, 740]), (.aload_n 0, 58, 0, 0, 0, []), (.getfield 79, 59, 11, 9, 0, [615]), (.if_icmp .ge 7, 62, 39, 0, 0, []), (.iconst 1, 65, 0, 0, 1, []), (.goto 4, 66, 40, 0, 0, []), (.iconst 0, 69, 0, 0, 0, []), (.istore_n 3, 70, 3, 0, 0, []), (.aload_n 0, 71, 0, 0, 0, []), (.getfield 41, 72, 11, 15, 0, [621]), (.iload_n 2, 75, 2, 0, 0, []), (.iload_n 3, 76, 3, 0, 0, []), (.ifCond .eq 7, 77, 48, 0, 0, []), (.iload_n 1, 80, 1, 0, 0, []), (.goto 9, 81, 52, 0, 0, []), (.aload_n 0, 84, 0, 0, 0, []), (.getfield 41, 85, 11, 15, 0, [621]), (.iload_n 2, 88, 2, 0, 0, []), (.iaload, 89, 0, 0, 0, []), (.iastore, 90, 0, 0, 0, []), (.iinc 2 1, 91, 2, 0, 1, []), (.goto (-59), 94, 21, 0, 0, []), (.iinc 1 1, 97, 1, 0, 1, []), (.goto (-75), 100, 15, 0, 0, []), (.return_, 103, 0, 0, 0, [])]
/-- 122: RoundBenchModel.inside(II)I -/
def am_k122 : List am_O := [(.iconst 0, 0, 0, 0, 0, []), (.istore_n 3, 1, 3, 0, 0, []), (.iconst 0, 2, 0, 0, 0, []), (.istore 4, 3, 4, 0, 0, []), (.iload 4, 5, 4, 0, 0, []), (.aload_n 0, 7, 0, 0, 0, []), (.getfield 7, 8, 11, 0, 0, [606]), (.if_icmp .ge 48, 11, 32, 0, 0, []), (.aload_n 0, 14, 0, 0, 0, []), (.iload 4, 15, 4, 0, 0, []), (.iload_n 1, 17, 1, 0, 0, []), (.invokevirtual 67, 18, 108, 2, 0, [680, 682, 5, 48, 683]), (.ifCond .eq 30, 21, 28, 0, 0, []), (.aload_n 0, 24, 0, 0, 0, []), (.getfield 41, 25, 11, 15, 0, [621]), (.iload 4, 28, 4, 0, 0, []), (.iaload, 30, 0, 0, 0, []), (.ifCond .eq 14, 31, 24, 0, 0, []), (.aload_n 0, 34, 0, 0, 0, []), (.getfield 41, 35, 11, 15, 0, [621]), (.iload 4, 38, 4, 0, 0, []), (.iaload, 40, 0, 0, 0, []), (.iload_n 2, 41, 2, 0, 0, []), (.if_icmp .lt 9, 42, 28, 0, 0, []), (.iload_n 3, 45, 3, 0, 0, []), (.iconst 1, 46, 0, 0, 1, []), (.iadd, 47, 0, 0, 0, []), (.goto 4, 48, 29, 0, 0, []), (.iload_n 3, 51, 3, 0, 0, []), (.istore_n 3, 52, 3, 0, 0, []), (.iinc 4 1, 53, 4, 0, 1, []), (.goto (-51), 56, 4, 0, 0, []), (.iload_n 3, 59, 3, 0, 0, []), (.ireturn, 60, 0, 0, 0, [])]
/-- 123: RoundBenchModel.round()I -/
def am_k123 : List am_O := [(.aload_n 0, 0, 0, 0, 0, []), (.getfield 29, 1, 11, 8, 0, [614]), (.ifCond .lt 10, 4, 6, 0, 0, []), (.aload_n 0, 7, 0, 0, 0, []), (.invokevirtual 162, 8, 124, 0, 0, [745, 747, 17, 48, 748]), (.ifCond .eq 5, 11, 8, 0, 0, []), (.iconst (-1), 14, 0, 0, (-1), []), (.ireturn, 15, 0, 0, 0, []), (.aload_n 0, 16, 0, 0, 0, []), (.aload_n 0, 17, 0, 0, 0, []), (.getfield 82, 18, 11, 10, 0, [616]), (.iconst 1, 21, 0, 0, 1, []), (.iadd, 22, 0, 0, 0, []), (.invokevirtual 159, 23, 126, 1, 0, [753, 755, 19, 48, 756]), (.istore_n 1, 26, 1, 0, 0, []), (.aload_n 0, 27, 0, 0, 0, []), (.dup, 28, 0, 0, 0, []), (.getfield 82, 29, 11, 10, 0, [616]), (.iconst 1, 32, 0, 0, 1, []), (.iadd, 33, 0, 0, 0, []), (.putfield 82, 34, 11, 10, 0, [616]), (.aload_n 0, 37, 0, 0, 0, []), (.dup, 38, 0, 0, 0, []), (.getfield 85, 39, 11, 11, 0, [617]), (.iload_n 1, 42, 1, 0, 0, []), (.iadd, 43, 0, 0, 0, []), (.putfield 85, 44, 11, 11, 0, [617]), (.iload_n 1, 47, 1, 0, 0, []), (.ireturn, 48, 0, 0, 0, [])]
/-- 124: RoundBenchModel.isFinished()Z -/
def am_k124 : List am_O := [(.iconst 1, 0, 0, 0, 1, []), (.istore_n 1, 1, 1, 0, 0, []), (.aload_n 0, 2, 0, 0, 0, []), (.getfield 29, 3, 11, 8, 0, [614]), (.tableswitch 153 2 6 #[34, 56, 70, 153, 110], 6, 72, 5, 2, [5, 17, 25, 72, 47]), (.aload_n 0, 40, 0, 0, 0, []), (.getfield 82, 41, 11, 10, 0, [616]), (.aload_n 0, 44, 0, 0, 0, []), (.getfield 35, 45, 11, 13, 0, [619]), (.aload_n 0, 48, 0, 0, 0, []), (.getfield 79, 49, 11, 9, 0, [615]), (.iaload, 52, 0, 0, 0, []), (.if_icmp .le 7, 53, 15, 0, 0, []), (.iconst 1, 56, 0, 0, 1, []), (.goto 4, 57, 16, 0, 0, []), (.iconst 0, 60, 0, 0, 0, []), (.ireturn, 61, 0, 0, 0, []), (.aload_n 0, 62, 0, 0, 0, []), (.getfield 82, 63, 11, 10, 0, [616]), (.iconst 4, 66, 0, 0, 4, []), (.if_icmp .ne 7, 67, 23, 0, 0, []), (.iconst 1, 70, 0, 0, 1, []), (.goto 4, 71, 24, 0, 0, []), (.iconst 0, 74, 0, 0, 0, []), (.ireturn, 75, 0, 0, 0, []), (.iconst 0, 76, 0, 0, 0, []), (.istore_n 2, 77, 2, 0, 0, []), (.iload_n 2, 78, 2, 0, 0, []), (.aload_n 0, 79, 0, 0, 0, []), (.getfield 7, 80, 11, 0, 0, [606]), (.if_icmp .ge 31, 83, 45, 0, 0, []), (.iload_n 1, 86, 1, 0, 0, []), (.ifCond .eq 19, 87, 41, 0, 0, []), (.aload_n 0, 90, 0, 0, 0, []), (.iload_n 2, 91, 2, 0, 0, []), (.aload_n 0, 92, 0, 0, 0, []), (.getfield 82, 93, 11, 10, 0, [616]), (.invokevirtual 144, 96, 125, 2, 0, [749, 751, 18, 48, 752]), (.ifCond .eq 7, 99, 41, 0, 0, []), (.iconst 1, 102, 0, 0, 1, []), (.goto 4, 103, 42, 0, 0, []), (.iconst 0, 106, 0, 0, 0, []), (.istore_n 1, 107, 1, 0, 0, []), (.iinc 2 1, 108, 2, 0, 1, []), (.goto (-33), 111, 27, 0, 0, []), (.iload_n 1, 114, 1, 0, 0, []), (.ireturn, 115, 0, 0, 0, []), (.iconst 0, 116, 0, 0, 0, []), (.istore_n 2, 117, 2, 0, 0, []), (.iload_n 2, 118, 2, 0, 0, []), (.aload_n 0, 119, 0, 0, 0, []), (.getfield 7, 120, 11, 0, 0, [606]), (.if_icmp .ge 34, 123, 70, 0, 0, []), (.iload_n 1, 126, 1, 0, 0, []), (.ifCond .eq 22, 127, 66, 0, 0, []), (.aload_n 0, 130, 0, 0, 0, []), (.getfield 41, 131, 11, 15, 0, [621]), (.iload_n 2, 134, 2, 0, 0, []), (.iaload, 135, 0, 0, 0, []), (.aload_n 0, 136, 0, 0, 0, []), (.getfield 82, 137, 11, 10, 0, [616]), (.iconst 1, 140, 0, 0, 1, []), (.iadd, 141, 0, 0, 0, []), (.if_icmp .eq 7, 142, 66, 0, 0, []), (.iconst 1, 145, 0, 0, 1, []), (.goto 4, 146, 67, 0, 0, []), (.iconst 0, 149, 0, 0, 0, []), (.istore_n 1, 150, 1, 0, 0, []), (.iinc 2 1, 151, 2, 0, 1, []), (.goto (-36), 154, 49, 0, 0, []), (.iload_n 1, 157, 1, 0, 0, []), (.ireturn, 158, 0, 0, 0, []), (.aload_n 0, 159, 0, 0, 0, []), (.aload_n 0, 160, 0, 0, 0, []), (.getfield 82, 161, 11, 10, 0, [616]), (.iconst 1, 164, 0, 0, 1, []), (.iadd, 165, 0, 0, 0, []), (.invokevirtual 159, 166, 126, 1, 0, [753, 755, 19, 48, 756]), (.ifCond .ne 7, 169, 81, 0, 0, []), (.iconst 1, 172, 0, 0, 1, []), (.goto 4, 173, 82, 0, 0, []), (.iconst 0, 176, 0, 0, 0, []), (.ireturn, 177, 0, 0, 0, [])]
/-- 125: RoundBenchModel.isOver(II)Z -/
def am_k125 : List am_O := [(.aload_n 0, 0, 0, 0, 0, []), (.getfield 41, 1, 11, 15, 0, [621]), (.iload_n 1, 4, 1, 0, 0, []), (.iaload, 5, 0, 0, 0, []), (.ifCond .le 17, 6, 13, 0, 0, []), (.aload_n 0, 9, 0, 0, 0, []), (.getfield 41, 10, 11, 15, 0, [621]), (.iload_n 1, 13, 1, 0, 0, []), (.iaload, 14, 0, 0, 0, []), (.iload_n 2, 15, 2, 0, 0, []), (.if_icmp .gt 7, 16, 13, 0, 0, []), (.iconst 1, 19, 0, 0, 1, []), (.goto 4, 20, 14, 0, 0, []), (.iconst 0, 23, 0, 0, 0, []), (.ireturn, 24, 0, 0, 0, [])]
/-- 126: RoundBenchModel.lettersIn(I)I -/
def am_k126 : List am_O := [(.aload_n 0, 0, 0, 0, 0, []), (.getfield 29, 1, 11, 8, 0, [614]), (.iconst 4, 4, 0, 0, 4, []), (.if_icmp .eq 11, 5, 8, 0, 0, []), (.aload_n 0, 8, 0, 0, 0, []), (.getfield 29, 9, 11, 8, 0, [614]), (.iconst 5, 12, 0, 0, 5, []), (.if_icmp .ne 11, 13, 14, 0, 0, []), (.iconst 2, 16, 0, 0, 2, []), (.aload_n 0, 17, 0, 0, 0, []), (.iload_n 1, 18, 1, 0, 0, []), (.invokevirtual 153, 19, 127, 1, 0, [757, 759, 20, 48, 760]), (.imul, 22, 0, 0, 0, []), (.ireturn, 23, 0, 0, 0, []), (.iconst 0, 24, 0, 0, 0, []), (.istore_n 2, 25, 2, 0, 0, []), (.iconst 0, 26, 0, 0, 0, []), (.istore_n 3, 27, 3, 0, 0, []), (.iload_n 3, 28, 3, 0, 0, []), (.aload_n 0, 29, 0, 0, 0, []), (.getfield 7, 30, 11, 0, 0, [606]), (.if_icmp .ge 18, 33, 31, 0, 0, []), (.iload_n 2, 36, 2, 0, 0, []), (.aload_n 0, 37, 0, 0, 0, []), (.iload_n 3, 38, 3, 0, 0, []), (.iload_n 1, 39, 1, 0, 0, []), (.invokevirtual 156, 40, 128, 2, 0, [761, 763, 21, 48, 764]), (.iadd, 43, 0, 0, 0, []), (.istore_n 2, 44, 2, 0, 0, []), (.iinc 3 1, 45, 3, 0, 1, []), (.goto (-20), 48, 18, 0, 0, []), (.iload_n 2, 51, 2, 0, 0, []), (.ireturn, 52, 0, 0, 0, [])]
/-- 127: RoundBenchModel.openEdges(I)I -/
def am_k127 : List am_O := [(.iconst 0, 0, 0, 0, 0, []), (.istore_n 2, 1, 2, 0, 0, []), (.iconst 0, 2, 0, 0, 0, []), (.istore_n 3, 3, 3, 0, 0, []), (.iload_n 3, 4, 3, 0, 0, []), (.aload_n 0, 5, 0, 0, 0, []), (.getfield 57, 6, 11, 1, 0, [607]), (.if_icmp .ge 49, 9, 36, 0, 0, []), (.aload_n 0, 12, 0, 0, 0, []), (.aload_n 0, 13, 0, 0, 0, []), (.getfield 13, 14, 11, 2, 0, [608]), (.iload_n 3, 17, 3, 0, 0, []), (.iaload, 18, 0, 0, 0, []), (.iload_n 1, 19, 1, 0, 0, []), (.iconst 1, 20, 0, 0, 1, []), (.isub, 21, 0, 0, 0, []), (.invokevirtual 144, 22, 125, 2, 0, [749, 751, 18, 48, 752]), (.ifCond .ne 19, 25, 28, 0, 0, []), (.aload_n 0, 28, 0, 0, 0, []), (.aload_n 0, 29, 0, 0, 0, []), (.getfield 17, 30, 11, 3, 0, [609]), (.iload_n 3, 33, 3, 0, 0, []), (.iaload, 34, 0, 0, 0, []), (.iload_n 1, 35, 1, 0, 0, []), (.iconst 1, 36, 0, 0, 1, []), (.isub, 37, 0, 0, 0, []), (.invokevirtual 144, 38, 125, 2, 0, [749, 751, 18, 48, 752]), (.ifCond .eq 7, 41, 30, 0, 0, []), (.iload_n 2, 44, 2, 0, 0, []), (.goto 6, 45, 33, 0, 0, []), (.iload_n 2, 48, 2, 0, 0, []), (.iconst 1, 49, 0, 0, 1, []), (.iadd, 50, 0, 0, 0, []), (.istore_n 2, 51, 2, 0, 0, []), (.iinc 3 1, 52, 3, 0, 1, []), (.goto (-51), 55, 4, 0, 0, []), (.iload_n 2, 58, 2, 0, 0, []), (.ireturn, 59, 0, 0, 0, [])]
/-- 128: RoundBenchModel.lettersOf(II)I -/
def am_k128 : List am_O := [(.aload_n 0, 0, 0, 0, 0, []), (.getfield 29, 1, 11, 8, 0, [614]), (.tableswitch 237 0 7 #[48, 82, 144, 170, 237, 237, 184, 212], 4, 120, 8, 0, [3, 25, 63, 79, 120, 120, 87, 105]), (.iload_n 2, 52, 2, 0, 0, []), (.iconst 1, 53, 0, 0, 1, []), (.if_icmp .eq 22, 54, 19, 0, 0, []), (.aload_n 0, 57, 0, 0, 0, []), (.iload_n 1, 58, 1, 0, 0, []), (.iload_n 2, 59, 2, 0, 0, []), (.iconst 1, 60, 0, 0, 1, []), (.isub, 61, 0, 0, 0, []), (.invokevirtual 131, 62, 129, 2, 0, [765, 767, 22, 48, 768]), (.aload_n 0, 65, 0, 0, 0, []), (.iload_n 1, 66, 1, 0, 0, []), (.iload_n 2, 67, 2, 0, 0, []), (.iconst 2, 68, 0, 0, 2, []), (.isub, 69, 0, 0, 0, []), (.invokevirtual 131, 70, 129, 2, 0, [765, 767, 22, 48, 768]), (.if_icmp .eq 11, 73, 23, 0, 0, []), (.aload_n 0, 76, 0, 0, 0, []), (.iload_n 1, 77, 1, 0, 0, []), (.invokevirtual 150, 78, 130, 1, 0, [769, 771, 23, 48, 772]), (.goto 4, 81, 24, 0, 0, []), (.iconst 0, 84, 0, 0, 0, []), (.ireturn, 85, 0, 0, 0, []), (.iload_n 2, 86, 2, 0, 0, []), (.iconst 1, 87, 0, 0, 1, []), (.if_icmp .ne 19, 88, 36, 0, 0, []), (.iload_n 1, 91, 1, 0, 0, []), (.aload_n 0, 92, 0, 0, 0, []), (.getfield 79, 93, 11, 9, 0, [615]), (.if_icmp .ne 7, 96, 34, 0, 0, []), (.iconst 1, 99, 0, 0, 1, []), (.goto 33, 100, 54, 0, 0, []), (.iconst 0, 103, 0, 0, 0, []), (.goto 29, 104, 54, 0, 0, []), (.aload_n 0, 107, 0, 0, 0, []), (.iload_n 1, 108, 1, 0, 0, []), (.iconst 0, 109, 0, 0, 0, []), (.iload_n 2, 110, 2, 0, 0, []), (.iconst 1, 111, 0, 0, 1, []), (.isub, 112, 0, 0, 0, []), (.invokevirtual 134, 113, 131, 3, 0, [773, 775, 24, 48, 776]), (.aload_n 0, 116, 0, 0, 0, []), (.iload_n 1, 117, 1, 0, 0, []), (.iconst 0, 118, 0, 0, 0, []), (.iload_n 2, 119, 2, 0, 0, []), (.iconst 2, 120, 0, 0, 2, []), (.isub, 121, 0, 0, 0, []), (.invokevirtual 134, 122, 131, 3, 0, [773, 775, 24, 48, 776]), (.if_icmp .eq 7, 125, 53, 0, 0, []), (.iconst 1, 128, 0, 0, 1, []), (.goto 4, 129, 54, 0, 0, []), (.iconst 0, 132, 0, 0, 0, []), (.istore_n 3, 133, 3, 0, 0, []), (.iload_n 3, 134, 3, 0, 0, []), (.ifCond .eq 11, 135, 61, 0, 0, []), (.aload_n 0, 138, 0, 0, 0, []), (.iload_n 1, 139, 1, 0, 0, []), (.invokevirtual 150, 140, 130, 1, 0, [769, 771, 23, 48, 772]), (.goto 4, 143, 62, 0, 0, []), (.iconst 0, 146, 0, 0, 0, []), (.ireturn, 147, 0, 0, 0, []), (.iload_n 1, 148, 1, 0, 0, []), (.aload_n 0, 149, 0, 0, 0, []), (.getfield 79, 150, 11, 9, 0, [615]), (.if_icmp .eq 19, 153, 77, 0, 0, []), (.aload_n 0, 156, 0, 0, 0, []), (.getfield 35, 157, 11, 13, 0, [619]), (.iload_n 1, 160, 1, 0, 0, []), (.iaload, 161, 0, 0, 0, []), (.iconst 1, 162, 0, 0, 1, []), (.iadd, 163, 0, 0, 0, []), (.iload_n 2, 164, 2, 0, 0, []), (.if_icmp .ne 7, 165, 77, 0, 0, []), (.iconst 1, 168, 0, 0, 1, []), (.goto 4, 169, 78, 0, 0, []), (.iconst 0, 172, 0, 0, 0, []), (.ireturn, 173, 0, 0, 0, []), (.iload_n 1, 174, 1, 0, 0, []), (.aload_n 0, 175, 0, 0, 0, []), (.getfield 79, 176, 11, 9, 0, [615]), (.if_icmp .ne 7, 179, 85, 0, 0, []), (.iconst 0, 182, 0, 0, 0, []), (.goto 4, 183, 86, 0, 0, []), (.iconst 1, 186, 0, 0, 1, []), (.ireturn, 187, 0, 0, 0, []), (.iload_n 2, 188, 2, 0, 0, []), (.iconst 1, 189, 0, 0, 1, []), (.if_icmp .le 24, 190, 103, 0, 0, []), (.aload_n 0, 193, 0, 0, 0, []), (.getfield 41, 194, 11, 15, 0, [621]), (.iload_n 1, 197, 1, 0, 0, []), (.iaload, 198, 0, 0, 0, []), (.iload_n 2, 199, 2, 0, 0, []), (.iconst 1, 200, 0, 0, 1, []), (.isub, 201, 0, 0, 0, []), (.if_icmp .ne 12, 202, 103, 0, 0, []), (.aload_n 0, 205, 0, 0, 0, []), (.iload_n 1, 206, 1, 0, 0, []), (.iload_n 2, 207, 2, 0, 0, []), (.invokevirtual 114, 208, 122, 2, 0, [737, 739, 16, 48, 740]), (.goto 4, 211, 104, 0, 0, []), (.iconst 0, 214, 0, 0, 0, []), (.ireturn, 215, 0, 0, 0, []), (.aload_n 0, 216, 0, 0, 0, []), (.aload_n 0, 217, 0, 0, 0, []), (.getfield 79, 218, 11, 9, 0, [615]), (.iload_n 1, 221, 1, 0, 0, []), (.invokevirtual 100, 222, 116, 2, 0, [713, 715, 10, 48, 716]), (.iload_n 2, 225, 2, 0, 0, []), (.iconst 1, 226, 0, 0, 1, []), (.isub, 227, 0, 0, 0, []), (.if_icmp .ne 11, 228, 118, 0, 0, []), (.aload_n 0, 231, 0, 0, 0, []), (.iload_n 1, 232, 1, 0, 0, []), (.invokevirtual 150, 233, 130, 1, 0, [769, 771, 23, 48, 772]), (.goto 4, 236, 119, 0, 0, []), (.iconst 0, 239, 0, 0, 0, []), (.ireturn, 240, 0, 0, 0, []), (.iconst 0, 241, 0, 0, 0, []), (.ireturn, 242, 0, 0, 0, [])]
/-- 129: RoundBenchModel.leastOf(II)I -/
def am_k129 : List am_O := [(.iload_n 1, 0, 1, 0, 0, []), (.istore_n 3, 1, 3, 0, 0, []), (.iconst 0, 2, 0, 0, 0, []), (.istore 4, 3, 4, 0, 0, []), (.iload 4, 5, 4, 0, 0, []), (.aload_n 0, 7, 0, 0, 0, []), (.getfield 7, 8, 11, 0, 0, [606]), (.if_icmp .ge 43, 11, 29, 0, 0, []), (.aload_n 0, 14, 0, 0, 0, []), (.iload_n 1, 15, 1, 0, 0, []), (.iload 4, 16, 4, 0, 0, []), (.invokevirtual 100, 18, 116, 2, 0, [713, 715, 10, 48, 716]), (.iload_n 2, 21, 2, 0, 0, []), (.if_icmp .gt 24, 22, 25, 0, 0, []), (.aload_n 0, 25, 0, 0, 0, []), (.getfield 23, 26, 11, 5, 0, [611]), (.iload 4, 29, 4, 0, 0, []), (.iaload, 31, 0, 0, 0, []), (.aload_n 0, 32, 0, 0, 0, []), (.getfield 23, 33, 11, 5, 0, [611]), (.iload_n 3, 36, 3, 0, 0, []), (.iaload, 37, 0, 0, 0, []), (.if_icmp .ge 8, 38, 25, 0, 0, []), (.iload 4, 41, 4, 0, 0, []), (.goto 4, 43, 26, 0, 0, []), (.iload_n 3, 46, 3, 0, 0, []), (.istore_n 3, 47, 3, 0, 0, []), (.iinc 4 1, 48, 4, 0, 1, []), (.goto (-46), 51, 4, 0, 0, []), (.iload_n 3, 54, 3, 0, 0, []), (.ireturn, 55, 0, 0, 0, [])]
/-- 130: RoundBenchModel.degree(I)I -/
def am_k130 : List am_O := [(.iconst 0, 0, 0, 0, 0, []), (.istore_n 2, 1, 2, 0, 0, []), (.iconst 0, 2, 0, 0, 0, []), (.istore_n 3, 3, 3, 0, 0, []), (.iload_n 3, 4, 3, 0, 0, []), (.aload_n 0, 5, 0, 0, 0, []), (.getfield 7, 6, 11, 0, 0, [606]), (.if_icmp .ge 26, 9, 21, 0, 0, []), (.aload_n 0, 12, 0, 0, 0, []), (.iload_n 3, 13, 3, 0, 0, []), (.iload_n 1, 14, 1, 0, 0, []), (.invokevirtual 67, 15, 108, 2, 0, [680, 682, 5, 48, 683]), (.ifCond .eq 9, 18, 17, 0, 0, []), (.iload_n 2, 21, 2, 0, 0, []), (.iconst 1, 22, 0, 0, 1, []), (.iadd, 23, 0, 0, 0, []), (.goto 4, 24, 18, 0, 0, []), (.iload_n 2, 27, 2, 0, 0, []), (.istore_n 2, 28, 2, 0, 0, []), (.iinc 3 1, 29, 3, 0, 1, []), (.goto (-28), 32, 4, 0, 0, []), (.iload_n 2, 35, 2, 0, 0, []), (.ireturn, 36, 0, 0, 0, [])]
/-- 131: RoundBenchModel.heldWays(III)I -/
def am_k131 : List am_O := [(.iload_n 3, 0, 3, 0, 0, []), (.bipush 12, 1, 0, 0, 12, []), (.if_icmp .le 8, 3, 5, 0, 0, []), (.bipush 12, 6, 0, 0, 12, []), (.goto 4, 8, 6, 0, 0, []), (.iload_n 3, 11, 3, 0, 0, []), (.istore 4, 12, 4, 0, 0, []), (.aload_n 0, 14, 0, 0, 0, []), (.iload 4, 15, 4, 0, 0, []), (.invokevirtual 120, 17, 132, 1, 0, [777, 779, 25, 48, 780]), (.aload_n 0, 20, 0, 0, 0, []), (.iload_n 1, 21, 1, 0, 0, []), (.iload 4, 22, 4, 0, 0, []), (.invokevirtual 124, 24, 133, 2, 0, [781, 783, 26, 48, 784]), (.istore 5, 27, 5, 0, 0, []), (.iload_n 2, 29, 2, 0, 0, []), (.ifCond .ne 27, 30, 30, 0, 0, []), (.aload_n 0, 33, 0, 0, 0, []), (.iload_n 1, 34, 1, 0, 0, []), (.iload 4, 35, 4, 0, 0, []), (.invokevirtual 117, 37, 134, 2, 0, [785, 787, 27, 48, 788]), (.ldc 75, 40, 0, 0, 1000000, [700]), (.if_icmp .ge 13, 42, 28, 0, 0, []), (.aload_n 0, 45, 0, 0, 0, []), (.iload_n 1, 46, 1, 0, 0, []), (.iload 4, 47, 4, 0, 0, []), (.invokevirtual 117, 49, 134, 2, 0, [785, 787, 27, 48, 788]), (.goto 4, 52, 29, 0, 0, []), (.iconst (-1), 55, 0, 0, (-1), []), (.ireturn, 56, 0, 0, 0, []), (.iload_n 2, 57, 2, 0, 0, []), (.iconst 2, 58, 0, 0, 2, []), (.if_icmp .ne 6, 59, 35, 0, 0, []), (.iload 5, 62, 5, 0, 0, []), (.ireturn, 64, 0, 0, 0, []), (.iconst 0, 65, 0, 0, 0, []), (.istore 6, 66, 6, 0, 0, []), (.iload 6, 68, 6, 0, 0, []), (.aload_n 0, 70, 0, 0, 0, []), (.getfield 7, 71, 11, 0, 0, [606]), (.if_icmp .ge 59, 74, 70, 0, 0, []), (.iload 5, 77, 5, 0, 0, []), (.ifCond .le 54, 79, 70, 0, 0, []), (.aload_n 0, 82, 0, 0, 0, []), (.iload 6, 83, 6, 0, 0, []), (.iload_n 1, 85, 1, 0, 0, []), (.invokevirtual 63, 86, 109, 2, 0, [684, 686, 6, 48, 687]), (.istore 7, 89, 7, 0, 0, []), (.iload 7, 91, 7, 0, 0, []), (.ifCond .lt 34, 93, 68, 0, 0, []), (.aload_n 0, 96, 0, 0, 0, []), (.iload 6, 97, 6, 0, 0, []), (.iload 5, 99, 5, 0, 0, []), (.iconst 1, 101, 0, 0, 1, []), (.isub, 102, 0, 0, 0, []), (.invokevirtual 117, 103, 134, 2, 0, [785, 787, 27, 48, 788]), (.aload_n 0, 106, 0, 0, 0, []), (.getfield 20, 107, 11, 4, 0, [610]), (.iload 7, 110, 7, 0, 0, []), (.iaload, 112, 0, 0, 0, []), (.iadd, 113, 0, 0, 0, []), (.aload_n 0, 114, 0, 0, 0, []), (.iload_n 1, 115, 1, 0, 0, []), (.iload 5, 116, 5, 0, 0, []), (.invokevirtual 117, 118, 134, 2, 0, [785, 787, 27, 48, 788]), (.if_icmp .ne 6, 121, 68, 0, 0, []), (.iload 6, 124, 6, 0, 0, []), (.ireturn, 126, 0, 0, 0, []), (.iinc 6 1, 127, 6, 0, 1, []), (.goto (-62), 130, 37, 0, 0, []), (.iconst (-1), 133, 0, 0, (-1), []), (.ireturn, 134, 0, 0, 0, [])]
/-- 132: RoundBenchModel.reckonWays(I)V -/
def am_k132 : List am_O := [(.iconst 0, 0, 0, 0, 0, []), (.istore_n 2, 1, 2, 0, 0, []), (.iload_n 2, 2, 2, 0, 0, []), (.iload_n 1, 3, 1, 0, 0, []), (.if_icmp .gt 153, 4, 85, 0, 0, []), (.iconst 0, 7, 0, 0, 0, []), (.istore_n 3, 8, 3, 0, 0, []), (.iload_n 3, 9, 3, 0, 0, []), (.aload_n 0, 10, 0, 0, 0, []), (.getfield 7, 11, 11, 0, 0, [606]), (.if_icmp .ge 137, 14, 83, 0, 0, []), (.iload_n 3, 17, 3, 0, 0, []), (.aload_n 0, 18, 0, 0, 0, []), (.getfield 79, 19, 11, 9, 0, [615]), (.if_icmp .ne 7, 22, 17, 0, 0, []), (.iconst 0, 25, 0, 0, 0, []), (.goto 5, 26, 18, 0, 0, []), (.ldc 75, 29, 0, 0, 1000000, [700]), (.istore 4, 31, 4, 0, 0, []), (.iconst 0, 33, 0, 0, 0, []), (.istore 5, 34, 5, 0, 0, []), (.iload 5, 36, 5, 0, 0, []), (.aload_n 0, 38, 0, 0, 0, []), (.getfield 57, 39, 11, 1, 0, [607]), (.if_icmp .ge 78, 42, 67, 0, 0, []), (.iload_n 2, 45, 2, 0, 0, []), (.ifCond .le 74, 46, 67, 0, 0, []), (.aload_n 0, 49, 0, 0, 0, []), (.iload 5, 50, 5, 0, 0, []), (.iload_n 3, 52, 3, 0, 0, []), (.invokevirtual 111, 53, 120, 2, 0, [729, 731, 14, 48, 732]), (.ifCond .eq 58, 56, 65, 0, 0, []), (.aload_n 0, 59, 0, 0, 0, []), (.getfield 44, 60, 11, 16, 0, [622]), (.bipush 12, 63, 0, 0, 12, []), (.iload_n 2, 65, 2, 0, 0, []), (.iconst 1, 66, 0, 0, 1, []), (.isub, 67, 0, 0, 0, []), (.imul, 68, 0, 0, 0, []), (.aload_n 0, 69, 0, 0, 0, []), (.getfield 13, 70, 11, 2, 0, [608]), (.iload 5, 73, 5, 0, 0, []), (.iaload, 75, 0, 0, 0, []), (.iadd, 76, 0, 0, 0, []), (.aload_n 0, 77, 0, 0, 0, []), (.getfield 17, 78, 11, 3, 0, [609]), (.iload 5, 81, 5, 0, 0, []), (.iaload, 83, 0, 0, 0, []), (.iadd, 84, 0, 0, 0, []), (.iload_n 3, 85, 3, 0, 0, []), (.isub, 86, 0, 0, 0, []), (.iaload, 87, 0, 0, 0, []), (.aload_n 0, 88, 0, 0, 0, []), (.getfield 20, 89, 11, 4, 0, [610]), (.iload 5, 92, 5, 0, 0, []), (.iaload, 94, 0, 0, 0, []), (.iadd, 95, 0, 0, 0, []), (.istore 6, 96, 6, 0, 0, []), (.iload 6, 98, 6, 0, 0, []), (.iload 4, 100, 4, 0, 0, []), (.if_icmp .ge 8, 102, 63, 0, 0, []), (.iload 6, 105, 6, 0, 0, []), (.goto 5, 107, 64, 0, 0, []), (.iload 4, 110, 4, 0, 0, []), (.istore 4, 112, 4, 0, 0, []), (.iinc 5 1, 114, 5, 0, 1, []), (.goto (-81), 117, 21, 0, 0, []), (.aload_n 0, 120, 0, 0, 0, []), (.getfield 44, 121, 11, 16, 0, [622]), (.bipush 12, 124, 0, 0, 12, []), (.iload_n 2, 126, 2, 0, 0, []), (.imul, 127, 0, 0, 0, []), (.iload_n 3, 128, 3, 0, 0, []), (.iadd, 129, 0, 0, 0, []), (.iload 4, 130, 4, 0, 0, []), (.ldc 75, 132, 0, 0, 1000000, [700]), (.if_icmp .ge 8, 134, 79, 0, 0, []), (.iload 4, 137, 4, 0, 0, []), (.goto 5, 139, 80, 0, 0, []), (.ldc 75, 142, 0, 0, 1000000, [700]), (.iastore, 144, 0, 0, 0, []), (.iinc 3 1, 145, 3, 0, 1, []), (.goto (-139), 148, 7, 0, 0, []), (.iinc 2 1, 151, 2, 0, 1, []), (.goto (-152), 154, 2, 0, 0, []), (.return_, 157, 0, 0, 0, [])]
/-- 133: RoundBenchModel.lastWay(II)I -/
def am_k133 : List am_O := [(.iload_n 2, 0, 2, 0, 0, []), (.istore_n 3, 1, 3, 0, 0, []), (.iload_n 3, 2, 3, 0, 0, []), (.ifCond .le 26, 3, 17, 0, 0, []), (.aload_n 0, 6, 0, 0, 0, []), (.iload_n 1, 7, 1, 0, 0, []), (.iload_n 3, 8, 3, 0, 0, []), (.invokevirtual 117, 9, 134, 2, 0, [785, 787, 27, 48, 788]), (.aload_n 0, 12, 0, 0, 0, []), (.iload_n 1, 13, 1, 0, 0, []), (.iload_n 3, 14, 3, 0, 0, []), (.iconst 1, 15, 0, 0, 1, []), (.isub, 16, 0, 0, 0, []), (.invokevirtual 117, 17, 134, 2, 0, [785, 787, 27, 48, 788]), (.if_icmp .ne 9, 20, 17, 0, 0, []), (.iinc 3 (-1), 23, 3, 0, (-1), []), (.goto (-24), 26, 2, 0, 0, []), (.iload_n 3, 29, 3, 0, 0, []), (.ireturn, 30, 0, 0, 0, [])]
/-- 134: RoundBenchModel.wayOf(II)I -/
def am_k134 : List am_O := [(.aload_n 0, 0, 0, 0, 0, []), (.getfield 44, 1, 11, 16, 0, [622]), (.bipush 12, 4, 0, 0, 12, []), (.iload_n 2, 6, 2, 0, 0, []), (.imul, 7, 0, 0, 0, []), (.iload_n 1, 8, 1, 0, 0, []), (.iadd, 9, 0, 0, 0, []), (.iaload, 10, 0, 0, 0, []), (.ireturn, 11, 0, 0, 0, [])]
/-- 135: RoundBenchModel.run(I)I -/
def am_k135 : List am_O := [(.aload_n 0, 0, 0, 0, 0, []), (.getfield 29, 1, 11, 8, 0, [614]), (.ifCond .lt 7, 4, 5, 0, 0, []), (.iload_n 1, 7, 1, 0, 0, []), (.ifCond .ge 5, 8, 7, 0, 0, []), (.iconst (-1), 11, 0, 0, (-1), []), (.ireturn, 12, 0, 0, 0, []), (.iconst 0, 13, 0, 0, 0, []), (.istore_n 2, 14, 2, 0, 0, []), (.iload_n 2, 15, 2, 0, 0, []), (.iload_n 1, 16, 1, 0, 0, []), (.if_icmp .ge 16, 17, 17, 0, 0, []), (.aload_n 0, 20, 0, 0, 0, []), (.invokevirtual 166, 21, 123, 0, 0, [793, 742, 743, 48, 744]), (.ifCond .lt 9, 24, 17, 0, 0, []), (.iinc 2 1, 27, 2, 0, 1, []), (.goto (-15), 30, 9, 0, 0, []), (.iload_n 2, 33, 2, 0, 0, []), (.ireturn, 34, 0, 0, 0, [])]
/-- 136: RoundBenchModel.finished()Z -/
def am_k136 : List am_O := [(.aload_n 0, 0, 0, 0, 0, []), (.getfield 29, 1, 11, 8, 0, [614]), (.ifCond .lt 14, 4, 8, 0, 0, []), (.aload_n 0, 7, 0, 0, 0, []), (.invokevirtual 162, 8, 124, 0, 0, [745, 747, 17, 48, 748]), (.ifCond .eq 7, 11, 8, 0, 0, []), (.iconst 1, 14, 0, 0, 1, []), (.goto 4, 15, 9, 0, 0, []), (.iconst 0, 18, 0, 0, 0, []), (.ireturn, 19, 0, 0, 0, [])]
/-- 137: RoundBenchModel.rounds()I -/
def am_k137 : List am_O := [(.aload_n 0, 0, 0, 0, 0, []), (.getfield 29, 1, 11, 8, 0, [614]), (.ifCond .ge 7, 4, 5, 0, 0, []), (.iconst (-1), 7, 0, 0, (-1), []), (.goto 7, 8, 7, 0, 0, []), (.aload_n 0, 11, 0, 0, 0, []), (.getfield 82, 12, 11, 10, 0, [616]), (.ireturn, 15, 0, 0, 0, [])]
/-- 138: RoundBenchModel.letters()I -/
def am_k138 : List am_O := [(.aload_n 0, 0, 0, 0, 0, []), (.getfield 29, 1, 11, 8, 0, [614]), (.ifCond .ge 7, 4, 5, 0, 0, []), (.iconst (-1), 7, 0, 0, (-1), []), (.goto 7, 8, 7, 0, 0, []), (.aload_n 0, 11, 0, 0, 0, []), (.getfield 85, 12, 11, 11, 0, [617]), (.ireturn, 15, 0, 0, 0, [])]
/-- 139: RoundBenchModel.held(II)I -/
def am_k139 : List am_O := [(.aload_n 0, 0, 0, 0, 0, []), (.getfield 29, 1, 11, 8, 0, [614]), (.ifCond .lt 20, 4, 12, 0, 0, []), (.aload_n 0, 7, 0, 0, 0, []), (.iload_n 1, 8, 1, 0, 0, []), (.invokevirtual 71, 9, 107, 1, 0, [676, 678, 4, 48, 679]), (.ifCond .eq 12, 12, 12, 0, 0, []), (.iload_n 2, 15, 2, 0, 0, []), (.ifCond .lt 8, 16, 12, 0, 0, []), (.iload_n 2, 19, 2, 0, 0, []), (.iconst 2, 20, 0, 0, 2, []), (.if_icmp .le 8, 21, 14, 0, 0, []), (.bipush (-2), 24, 0, 0, (-2), []), (.goto 13, 26, 20, 0, 0, []), (.aload_n 0, 29, 0, 0, 0, []), (.iload_n 1, 30, 1, 0, 0, []), (.iload_n 2, 31, 2, 0, 0, []), (.aload_n 0, 32, 0, 0, 0, []), (.getfield 82, 33, 11, 10, 0, [616]), (.invokevirtual 170, 36, 140, 3, 0, [810, 812, 28, 48, 813]), (.ireturn, 39, 0, 0, 0, [])]
/-- 140: RoundBenchModel.heldAfter(III)I -/
def am_k140 : List am_O := [(.aload_n 0, 0, 0, 0, 0, []), (.getfield 29, 1, 11, 8, 0, [614]), (.tableswitch 291 0 6 #[44, 89, 97, 105, 120, 162, 218], 4, 146, 7, 0, [3, 28, 34, 40, 49, 73, 105]), (.aload_n 0, 48, 0, 0, 0, []), (.iload_n 1, 49, 1, 0, 0, []), (.iload_n 3, 50, 3, 0, 0, []), (.invokevirtual 131, 51, 129, 2, 0, [765, 767, 22, 48, 768]), (.istore 4, 54, 4, 0, 0, []), (.iload_n 2, 56, 2, 0, 0, []), (.ifCond .ne 13, 57, 15, 0, 0, []), (.aload_n 0, 60, 0, 0, 0, []), (.getfield 23, 61, 11, 5, 0, [611]), (.iload 4, 64, 4, 0, 0, []), (.iaload, 66, 0, 0, 0, []), (.goto 25, 67, 27, 0, 0, []), (.iload_n 2, 70, 2, 0, 0, []), (.iconst 1, 71, 0, 0, 1, []), (.if_icmp .ne 13, 72, 23, 0, 0, []), (.aload_n 0, 75, 0, 0, 0, []), (.iload_n 1, 76, 1, 0, 0, []), (.iload 4, 77, 4, 0, 0, []), (.invokevirtual 100, 79, 116, 2, 0, [713, 715, 10, 48, 716]), (.goto 10, 82, 27, 0, 0, []), (.aload_n 0, 85, 0, 0, 0, []), (.iload_n 1, 86, 1, 0, 0, []), (.iload 4, 87, 4, 0, 0, []), (.invokevirtual 102, 89, 115, 2, 0, [709, 711, 9, 48, 712]), (.ireturn, 92, 0, 0, 0, []), (.aload_n 0, 93, 0, 0, 0, []), (.iload_n 1, 94, 1, 0, 0, []), (.iload_n 2, 95, 2, 0, 0, []), (.iload_n 3, 96, 3, 0, 0, []), (.invokevirtual 134, 97, 131, 3, 0, [773, 775, 24, 48, 776]), (.ireturn, 100, 0, 0, 0, []), (.aload_n 0, 101, 0, 0, 0, []), (.iload_n 1, 102, 1, 0, 0, []), (.iload_n 2, 103, 2, 0, 0, []), (.iload_n 3, 104, 3, 0, 0, []), (.invokevirtual 138, 105, 141, 3, 0, [814, 816, 29, 48, 817]), (.ireturn, 108, 0, 0, 0, []), (.iload_n 2, 109, 2, 0, 0, []), (.ifCond .ne 12, 110, 47, 0, 0, []), (.aload_n 0, 113, 0, 0, 0, []), (.iload_n 1, 114, 1, 0, 0, []), (.iload_n 3, 115, 3, 0, 0, []), (.invokevirtual 141, 116, 144, 2, 0, [826, 828, 32, 48, 829]), (.goto 4, 119, 48, 0, 0, []), (.iconst (-1), 122, 0, 0, (-1), []), (.ireturn, 123, 0, 0, 0, []), (.iload_n 2, 124, 2, 0, 0, []), (.iconst 2, 125, 0, 0, 2, []), (.if_icmp .ne 7, 126, 54, 0, 0, []), (.iconst (-1), 129, 0, 0, (-1), []), (.goto 35, 130, 72, 0, 0, []), (.aload_n 0, 133, 0, 0, 0, []), (.iload_n 1, 134, 1, 0, 0, []), (.iload_n 3, 135, 3, 0, 0, []), (.invokevirtual 144, 136, 125, 2, 0, [749, 751, 18, 48, 752]), (.ifCond .ne 7, 139, 61, 0, 0, []), (.iconst 0, 142, 0, 0, 0, []), (.goto 22, 143, 72, 0, 0, []), (.iload_n 2, 146, 2, 0, 0, []), (.ifCond .ne 12, 147, 68, 0, 0, []), (.aload_n 0, 150, 0, 0, 0, []), (.getfield 38, 151, 11, 14, 0, [620]), (.iload_n 1, 154, 1, 0, 0, []), (.iaload, 155, 0, 0, 0, []), (.goto 9, 156, 72, 0, 0, []), (.aload_n 0, 159, 0, 0, 0, []), (.getfield 41, 160, 11, 15, 0, [621]), (.iload_n 1, 163, 1, 0, 0, []), (.iaload, 164, 0, 0, 0, []), (.ireturn, 165, 0, 0, 0, []), (.iload_n 2, 166, 2, 0, 0, []), (.iconst 2, 167, 0, 0, 2, []), (.if_icmp .ne 7, 168, 78, 0, 0, []), (.iconst (-1), 171, 0, 0, (-1), []), (.goto 49, 172, 104, 0, 0, []), (.iload_n 2, 175, 2, 0, 0, []), (.iconst 1, 176, 0, 0, 1, []), (.if_icmp .ne 25, 177, 93, 0, 0, []), (.aload_n 0, 180, 0, 0, 0, []), (.iload_n 1, 181, 1, 0, 0, []), (.iload_n 3, 182, 3, 0, 0, []), (.invokevirtual 144, 183, 125, 2, 0, [749, 751, 18, 48, 752]), (.ifCond .eq 12, 186, 91, 0, 0, []), (.aload_n 0, 189, 0, 0, 0, []), (.getfield 41, 190, 11, 15, 0, [621]), (.iload_n 1, 193, 1, 0, 0, []), (.iaload, 194, 0, 0, 0, []), (.goto 26, 195, 104, 0, 0, []), (.iconst 0, 198, 0, 0, 0, []), (.goto 22, 199, 104, 0, 0, []), (.aload_n 0, 202, 0, 0, 0, []), (.iload_n 1, 203, 1, 0, 0, []), (.iload_n 3, 204, 3, 0, 0, []), (.invokevirtual 144, 205, 125, 2, 0, [749, 751, 18, 48, 752]), (.ifCond .eq 12, 208, 103, 0, 0, []), (.aload_n 0, 211, 0, 0, 0, []), (.getfield 38, 212, 11, 14, 0, [620]), (.iload_n 1, 215, 1, 0, 0, []), (.iaload, 216, 0, 0, 0, []), (.goto 4, 217, 104, 0, 0, []), (.iconst (-1), 220, 0, 0, (-1), []), (.ireturn, 221, 0, 0, 0, []), (.iload_n 2, 222, 2, 0, 0, []), (.ifCond .ne 20, 223, 116, 0, 0, []), (.aload_n 0, 226, 0, 0, 0, []), (.iload_n 1, 227, 1, 0, 0, []), (.iload_n 3, 228, 3, 0, 0, []), (.invokevirtual 144, 229, 125, 2, 0, [749, 751, 18, 48, 752]), (.ifCond .eq 7, 232, 114, 0, 0, []), (.iconst 0, 235, 0, 0, 0, []), (.goto 58, 236, 145, 0, 0, []), (.iconst 1, 239, 0, 0, 1, []), (.goto 54, 240, 145, 0, 0, []), (.iload_n 2, 243, 2, 0, 0, []), (.iconst 1, 244, 0, 0, 1, []), (.if_icmp .ne 25, 245, 131, 0, 0, []), (.aload_n 0, 248, 0, 0, 0, []), (.iload_n 1, 249, 1, 0, 0, []), (.iload_n 3, 250, 3, 0, 0, []), (.invokevirtual 144, 251, 125, 2, 0, [749, 751, 18, 48, 752]), (.ifCond .eq 12, 254, 129, 0, 0, []), (.aload_n 0, 257, 0, 0, 0, []), (.getfield 41, 258, 11, 15, 0, [621]), (.iload_n 1, 261, 1, 0, 0, []), (.iaload, 262, 0, 0, 0, []), (.goto 31, 263, 145, 0, 0, []), (.iconst 0, 266, 0, 0, 0, []), (.goto 27, 267, 145, 0, 0, []), (.aload_n 0, 270, 0, 0, 0, []), (.iload_n 1, 271, 1, 0, 0, []), (.aload_n 0, 272, 0, 0, 0, []), (.iload_n 1, 273, 1, 0, 0, []), (.iload_n 3, 274, 3, 0, 0, []), (.invokevirtual 144, 275, 125, 2, 0, [749, 751, 18, 48, 752]), (.ifCond .eq 12, 278, 143, 0, 0, []), (.aload_n 0, 281, 0, 0, 0, []), (.getfield 41, 282, 11, 15, 0, [621]), (.iload_n 1, 285, 1, 0, 0, []), (.iaload, 286, 0, 0, 0, []), (.goto 4, 287, 144, 0, 0, []), (.iload_n 3, 290, 3, 0, 0, []), (.invokevirtual 114, 291, 122, 2, 0, [737, 739, 16, 48, 740]), (.ireturn, 294, 0, 0, 0, []), (.aload_n 0, 295, 0, 0, 0, []), (.iload_n 1, 296, 1, 0, 0, []), (.iload_n 2, 297, 2, 0, 0, []), (.iload_n 3, 298, 3, 0, 0, []), (.invokevirtual 147, 299, 145, 3, 0, [830, 832, 33, 48, 833]), (.ireturn, 302, 0, 0, 0, [])]
/-- 141: RoundBenchModel.heldSums(III)I -/
def am_k141 : List am_O := [(.aload_n 0, 0, 0, 0, 0, []), (.getfield 23, 1, 11, 5, 0, [611]), (.iload_n 1, 4, 1, 0, 0, []), (.iaload, 5, 0, 0, 0, []), (.istore 4, 6, 4, 0, 0, []), (.iconst 0, 8, 0, 0, 0, []), (.istore 5, 9, 5, 0, 0, []), (.iconst 0, 11, 0, 0, 0, []), (.istore 6, 12, 6, 0, 0, []), (.iload 6, 14, 6, 0, 0, []), (.aload_n 0, 16, 0, 0, 0, []), (.getfield 7, 17, 11, 0, 0, [606]), (.if_icmp .ge 75, 20, 51, 0, 0, []), (.aload_n 0, 23, 0, 0, 0, []), (.getfield 32, 24, 11, 12, 0, [618]), (.iload 6, 27, 6, 0, 0, []), (.iaload, 29, 0, 0, 0, []), (.iload_n 1, 30, 1, 0, 0, []), (.if_icmp .ne 58, 31, 49, 0, 0, []), (.aload_n 0, 34, 0, 0, 0, []), (.getfield 35, 35, 11, 13, 0, [619]), (.iload 6, 38, 6, 0, 0, []), (.iaload, 40, 0, 0, 0, []), (.iconst 1, 41, 0, 0, 1, []), (.iadd, 42, 0, 0, 0, []), (.iload_n 3, 43, 3, 0, 0, []), (.if_icmp .gt 7, 44, 29, 0, 0, []), (.iconst 1, 47, 0, 0, 1, []), (.goto 4, 48, 30, 0, 0, []), (.iconst 0, 51, 0, 0, 0, []), (.istore 7, 52, 7, 0, 0, []), (.iload 4, 54, 4, 0, 0, []), (.iload 7, 56, 7, 0, 0, []), (.ifCond .eq 12, 58, 38, 0, 0, []), (.aload_n 0, 61, 0, 0, 0, []), (.iload 6, 62, 6, 0, 0, []), (.invokevirtual 127, 64, 142, 1, 0, [818, 820, 30, 48, 821]), (.goto 4, 67, 39, 0, 0, []), (.iconst 0, 70, 0, 0, 0, []), (.iadd, 71, 0, 0, 0, []), (.istore 4, 72, 4, 0, 0, []), (.iload 5, 74, 5, 0, 0, []), (.iload 7, 76, 7, 0, 0, []), (.ifCond .eq 7, 78, 46, 0, 0, []), (.iconst 0, 81, 0, 0, 0, []), (.goto 4, 82, 47, 0, 0, []), (.iconst 1, 85, 0, 0, 1, []), (.iadd, 86, 0, 0, 0, []), (.istore 5, 87, 5, 0, 0, []), (.iinc 6 1, 89, 6, 0, 1, []), (.goto (-78), 92, 9, 0, 0, []), (.iload_n 2, 95, 2, 0, 0, []), (.ifCond .ne 8, 96, 55, 0, 0, []), (.iload 4, 99, 4, 0, 0, []), (.goto 28, 101, 69, 0, 0, []), (.iload_n 2, 104, 2, 0, 0, []), (.iconst 1, 105, 0, 0, 1, []), (.if_icmp .ne 8, 106, 60, 0, 0, []), (.iload 5, 109, 5, 0, 0, []), (.goto 18, 111, 69, 0, 0, []), (.iload_n 3, 114, 3, 0, 0, []), (.aload_n 0, 115, 0, 0, 0, []), (.getfield 35, 116, 11, 13, 0, [619]), (.iload_n 1, 119, 1, 0, 0, []), (.iaload, 120, 0, 0, 0, []), (.if_icmp .le 7, 121, 68, 0, 0, []), (.iconst 1, 124, 0, 0, 1, []), (.goto 4, 125, 69, 0, 0, []), (.iconst 0, 128, 0, 0, 0, []), (.ireturn, 129, 0, 0, 0, [])]
/-- 142: RoundBenchModel.sumUnder(I)I -/
def am_k142 : List am_O := [(.iconst 0, 0, 0, 0, 0, []), (.istore_n 2, 1, 2, 0, 0, []), (.iconst 0, 2, 0, 0, 0, []), (.istore_n 3, 3, 3, 0, 0, []), (.iload_n 3, 4, 3, 0, 0, []), (.aload_n 0, 5, 0, 0, 0, []), (.getfield 7, 6, 11, 0, 0, [606]), (.if_icmp .ge 31, 9, 24, 0, 0, []), (.iload_n 2, 12, 2, 0, 0, []), (.aload_n 0, 13, 0, 0, 0, []), (.iload_n 3, 14, 3, 0, 0, []), (.iload_n 1, 15, 1, 0, 0, []), (.invokevirtual 105, 16, 143, 2, 0, [822, 824, 31, 48, 825]), (.ifCond .eq 12, 19, 19, 0, 0, []), (.aload_n 0, 22, 0, 0, 0, []), (.getfield 23, 23, 11, 5, 0, [611]), (.iload_n 3, 26, 3, 0, 0, []), (.iaload, 27, 0, 0, 0, []), (.goto 4, 28, 20, 0, 0, []), (.iconst 0, 31, 0, 0, 0, []), (.iadd, 32, 0, 0, 0, []), (.istore_n 2, 33, 2, 0, 0, []), (.iinc 3 1, 34, 3, 0, 1, []), (.goto (-33), 37, 4, 0, 0, []), (.iload_n 2, 40, 2, 0, 0, []), (.ireturn, 41, 0, 0, 0, [])]
/-- 143: RoundBenchModel.isUnder(II)Z -/
def am_k143 : List am_O := [(.iload_n 1, 0, 1, 0, 0, []), (.istore_n 3, 1, 3, 0, 0, []), (.iload_n 3, 2, 3, 0, 0, []), (.ifCond .lt 18, 3, 13, 0, 0, []), (.iload_n 3, 6, 3, 0, 0, []), (.iload_n 2, 7, 2, 0, 0, []), (.if_icmp .eq 13, 8, 13, 0, 0, []), (.aload_n 0, 11, 0, 0, 0, []), (.getfield 32, 12, 11, 12, 0, [618]), (.iload_n 3, 15, 3, 0, 0, []), (.iaload, 16, 0, 0, 0, []), (.istore_n 3, 17, 3, 0, 0, []), (.goto (-16), 18, 2, 0, 0, []), (.iload_n 3, 21, 3, 0, 0, []), (.iload_n 2, 22, 2, 0, 0, []), (.if_icmp .ne 7, 23, 18, 0, 0, []), (.iconst 1, 26, 0, 0, 1, []), (.goto 4, 27, 19, 0, 0, []), (.iconst 0, 30, 0, 0, 0, []), (.ireturn, 31, 0, 0, 0, [])]
/-- 144: RoundBenchModel.heldColour(II)I -/
def am_k144 : List am_O := [(.iconst 0, 0, 0, 0, 0, []), (.istore_n 3, 1, 3, 0, 0, []), (.iload_n 3, 2, 3, 0, 0, []), (.aload_n 0, 3, 0, 0, 0, []), (.getfield 7, 4, 11, 0, 0, [606]), (.if_icmp .ge 21, 7, 16, 0, 0, []), (.aload_n 0, 10, 0, 0, 0, []), (.getfield 47, 11, 11, 17, 0, [623]), (.iload_n 3, 14, 3, 0, 0, []), (.aload_n 0, 15, 0, 0, 0, []), (.getfield 23, 16, 11, 5, 0, [611]), (.iload_n 3, 19, 3, 0, 0, []), (.iaload, 20, 0, 0, 0, []), (.iastore, 21, 0, 0, 0, []), (.iinc 3 1, 22, 3, 0, 1, []), (.goto (-23), 25, 2, 0, 0, []), (.iconst 0, 28, 0, 0, 0, []), (.istore_n 3, 29, 3, 0, 0, []), (.iload_n 3, 30, 3, 0, 0, []), (.iload_n 2, 31, 2, 0, 0, []), (.if_icmp .ge 133, 32, 91, 0, 0, []), (.iconst 0, 35, 0, 0, 0, []), (.istore 4, 36, 4, 0, 0, []), (.iload 4, 38, 4, 0, 0, []), (.aload_n 0, 40, 0, 0, 0, []), (.getfield 7, 41, 11, 0, 0, [606]), (.if_icmp .ge 23, 44, 37, 0, 0, []), (.aload_n 0, 47, 0, 0, 0, []), (.getfield 50, 48, 11, 18, 0, [624]), (.iload 4, 51, 4, 0, 0, []), (.aload_n 0, 53, 0, 0, 0, []), (.getfield 47, 54, 11, 17, 0, [623]), (.iload 4, 57, 4, 0, 0, []), (.iaload, 59, 0, 0, 0, []), (.iastore, 60, 0, 0, 0, []), (.iinc 4 1, 61, 4, 0, 1, []), (.goto (-26), 64, 23, 0, 0, []), (.iconst 0, 67, 0, 0, 0, []), (.istore 4, 68, 4, 0, 0, []), (.iload 4, 70, 4, 0, 0, []), (.aload_n 0, 72, 0, 0, 0, []), (.getfield 7, 73, 11, 0, 0, [606]), (.if_icmp .ge 83, 76, 89, 0, 0, []), (.iconst 0, 79, 0, 0, 0, []), (.istore 5, 80, 5, 0, 0, []), (.iload 4, 82, 4, 0, 0, []), (.aload_n 0, 84, 0, 0, 0, []), (.getfield 79, 85, 11, 9, 0, [615]), (.if_icmp .eq 41, 88, 71, 0, 0, []), (.aload_n 0, 91, 0, 0, 0, []), (.getfield 50, 92, 11, 18, 0, [624]), (.iload 4, 95, 4, 0, 0, []), (.iaload, 97, 0, 0, 0, []), (.iload 5, 98, 5, 0, 0, []), (.ishr, 100, 0, 0, 0, []), (.iconst 1, 101, 0, 0, 1, []), (.iand, 102, 0, 0, 0, []), (.aload_n 0, 103, 0, 0, 0, []), (.getfield 50, 104, 11, 18, 0, [624]), (.aload_n 0, 107, 0, 0, 0, []), (.getfield 32, 108, 11, 12, 0, [618]), (.iload 4, 111, 4, 0, 0, []), (.iaload, 113, 0, 0, 0, []), (.iaload, 114, 0, 0, 0, []), (.iload 5, 115, 5, 0, 0, []), (.ishr, 117, 0, 0, 0, []), (.iconst 1, 118, 0, 0, 1, []), (.iand, 119, 0, 0, 0, []), (.if_icmp .ne 9, 120, 71, 0, 0, []), (.iinc 5 1, 123, 5, 0, 1, []), (.goto (-44), 126, 45, 0, 0, []), (.aload_n 0, 129, 0, 0, 0, []), (.getfield 47, 130, 11, 17, 0, [623]), (.iload 4, 133, 4, 0, 0, []), (.iconst 2, 135, 0, 0, 2, []), (.iload 5, 136, 5, 0, 0, []), (.imul, 138, 0, 0, 0, []), (.aload_n 0, 139, 0, 0, 0, []), (.getfield 50, 140, 11, 18, 0, [624]), (.iload 4, 143, 4, 0, 0, []), (.iaload, 145, 0, 0, 0, []), (.iload 5, 146, 5, 0, 0, []), (.ishr, 148, 0, 0, 0, []), (.iconst 1, 149, 0, 0, 1, []), (.iand, 150, 0, 0, 0, []), (.iadd, 151, 0, 0, 0, []), (.iastore, 152, 0, 0, 0, []), (.iinc 4 1, 153, 4, 0, 1, []), (.goto (-86), 156, 39, 0, 0, []), (.iinc 3 1, 159, 3, 0, 1, []), (.goto (-132), 162, 18, 0, 0, []), (.aload_n 0, 165, 0, 0, 0, []), (.getfield 47, 166, 11, 17, 0, [623]), (.iload_n 1, 169, 1, 0, 0, []), (.iaload, 170, 0, 0, 0, []), (.ireturn, 171, 0, 0, 0, [])]
/-- 145: RoundBenchModel.heldSide(III)I -/
def am_k145 : List am_O := [(.aload_n 0, 0, 0, 0, 0, []), (.aload_n 0, 1, 0, 0, 0, []), (.getfield 79, 2, 11, 9, 0, [615]), (.iload_n 1, 5, 1, 0, 0, []), (.invokevirtual 100, 6, 116, 2, 0, [713, 715, 10, 48, 716]), (.istore 4, 9, 4, 0, 0, []), (.iload_n 2, 11, 2, 0, 0, []), (.ifCond .ne 18, 12, 17, 0, 0, []), (.iload 4, 15, 4, 0, 0, []), (.iload_n 3, 17, 3, 0, 0, []), (.if_icmp .gt 10, 18, 15, 0, 0, []), (.iload 4, 21, 4, 0, 0, []), (.iconst 2, 23, 0, 0, 2, []), (.irem, 24, 0, 0, 0, []), (.goto 4, 25, 16, 0, 0, []), (.iconst (-1), 28, 0, 0, (-1), []), (.ireturn, 29, 0, 0, 0, []), (.iload_n 2, 30, 2, 0, 0, []), (.iconst 2, 31, 0, 0, 2, []), (.if_icmp .ne 16, 32, 27, 0, 0, []), (.iload 4, 35, 4, 0, 0, []), (.iload_n 3, 37, 3, 0, 0, []), (.if_icmp .gt 8, 38, 25, 0, 0, []), (.iload 4, 41, 4, 0, 0, []), (.goto 4, 43, 26, 0, 0, []), (.iconst 0, 46, 0, 0, 0, []), (.ireturn, 47, 0, 0, 0, []), (.iconst 0, 48, 0, 0, 0, []), (.istore 5, 49, 5, 0, 0, []), (.iconst 0, 51, 0, 0, 0, []), (.istore 6, 52, 6, 0, 0, []), (.iload 6, 54, 6, 0, 0, []), (.aload_n 0, 56, 0, 0, 0, []), (.getfield 7, 57, 11, 0, 0, [606]), (.if_icmp .ge 46, 60, 55, 0, 0, []), (.iload 5, 63, 5, 0, 0, []), (.ifCond .ne 28, 65, 49, 0, 0, []), (.aload_n 0, 68, 0, 0, 0, []), (.iload 6, 69, 6, 0, 0, []), (.iload_n 1, 71, 1, 0, 0, []), (.invokevirtual 67, 72, 108, 2, 0, [680, 682, 5, 48, 683]), (.ifCond .eq 22, 75, 51, 0, 0, []), (.aload_n 0, 78, 0, 0, 0, []), (.aload_n 0, 79, 0, 0, 0, []), (.getfield 79, 80, 11, 9, 0, [615]), (.iload 6, 83, 6, 0, 0, []), (.invokevirtual 100, 85, 116, 2, 0, [713, 715, 10, 48, 716]), (.iload 4, 88, 4, 0, 0, []), (.if_icmp .ne 7, 90, 51, 0, 0, []), (.iconst 1, 93, 0, 0, 1, []), (.goto 4, 94, 52, 0, 0, []), (.iconst 0, 97, 0, 0, 0, []), (.istore 5, 98, 5, 0, 0, []), (.iinc 6 1, 100, 6, 0, 1, []), (.goto (-49), 103, 31, 0, 0, []), (.iload 5, 106, 5, 0, 0, []), (.ifCond .eq 13, 108, 62, 0, 0, []), (.iload_n 3, 111, 3, 0, 0, []), (.iload 4, 112, 4, 0, 0, []), (.if_icmp .le 7, 114, 62, 0, 0, []), (.iconst 1, 117, 0, 0, 1, []), (.goto 4, 118, 63, 0, 0, []), (.iconst 0, 121, 0, 0, 0, []), (.ireturn, 122, 0, 0, 0, [])]
def am_codes : List (List am_O) := [am_k0, am_k1, am_k2, am_k3, am_k4, am_k5, am_k6, am_k7, am_k8, am_k9, am_k10, am_k11, am_k12, am_k13, am_k14, am_k15, am_k16, am_k17, am_k18, am_k19, am_k20, am_k21, am_k22, am_k23, am_k24, am_k25, am_k26, am_k27, am_k28, am_k29, am_k30, am_k31, am_k32, am_k33, am_k34, am_k35, am_k36, am_k37, am_k38, am_k39, am_k40, am_k41, am_k42, am_k43, am_k44, am_k45, am_k46, am_k47, am_k48, am_k49, am_k50, am_k51, am_k52, am_k53, am_k54, am_k55, am_k56, am_k57, am_k58, am_k59, am_k60, am_k61, am_k62, am_k63, am_k64, am_k65, am_k66, am_k67, am_k68, am_k69, am_k70, am_k71, am_k72, am_k73, am_k74, am_k75, am_k76, am_k77, am_k78, am_k79, am_k80, am_k81, am_k82, am_k83, am_k84, am_k85, am_k86, am_k87, am_k88, am_k89, am_k90, am_k91, am_k92, am_k93, am_k94, am_k95, am_k96, am_k97, am_k98, am_k99, am_k100, am_k101, am_k102, am_k103, am_k104, am_k105, am_k106, am_k107, am_k108, am_k109, am_k110, am_k111, am_k112, am_k113, am_k114, am_k115, am_k116, am_k117, am_k118, am_k119, am_k120, am_k121, am_k122, am_k123, am_k124, am_k125, am_k126, am_k127, am_k128, am_k129, am_k130, am_k131, am_k132, am_k133, am_k134, am_k135, am_k136, am_k137, am_k138, am_k139, am_k140, am_k141, am_k142, am_k143, am_k144, am_k145]
/-- name, bytes, locals, return type -/
def am_mts : List (MethodName × ByteArray × Nat × Option FieldType) := [(⟨"RoundBenchLaw", "law", "([I)Z"⟩, code, 4, (some .boolean)), (⟨"RoundBench", "<init>", "()V"⟩, prog_1_method_1_code, 1, none), (⟨"java/lang/Object", "<init>", "()V"⟩, object_method_1_code, 1, none), (⟨"RoundBench$Course", "<init>", "()V"⟩, prog_6_method_1_code, 1, none), (⟨"RoundBench$Net", "<init>", "()V"⟩, prog_8_method_1_code, 1, none), (⟨"RoundBench$Net", "clear", "(I)V"⟩, prog_8_method_2_code, 3, none), (⟨"java/util/Arrays", "fill", "([II)V"⟩, prog_17_method_103_code, 4, none), (⟨"RoundBench$Least", "<init>", "()V"⟩, prog_7_method_1_code, 1, none), (⟨"RoundBench$Algorithm", "<init>", "()V"⟩, prog_2_method_1_code, 1, none), (⟨"RoundBench$Ways", "<init>", "()V"⟩, prog_12_method_1_code, 1, none), (⟨"RoundBench$Sums", "<init>", "()V"⟩, prog_11_method_1_code, 1, none), (⟨"RoundBench$Colours", "<init>", "()V"⟩, prog_4_method_1_code, 1, none), (⟨"RoundBench$Chosen", "<init>", "()V"⟩, prog_3_method_1_code, 1, none), (⟨"RoundBench$Pairs", "<init>", "()V"⟩, prog_9_method_1_code, 1, none), (⟨"RoundBench$Core", "<init>", "()V"⟩, prog_5_method_1_code, 1, none), (⟨"RoundBench$Sides", "<init>", "()V"⟩, prog_10_method_1_code, 1, none), (⟨"RoundBench", "net", "(I)Z"⟩, prog_1_method_2_code, 2, (some .boolean)), (⟨"RoundBench", "forgetReadiness", "()V"⟩, prog_1_method_13_code, 1, none), (⟨"RoundBench", "edge", "(III)I"⟩, prog_1_method_3_code, 4, (some .int)), (⟨"RoundBench$Net", "takesEdge", "(III)Z"⟩, prog_8_method_5_code, 4, (some .boolean)), (⟨"RoundBench$Net", "hasNode", "(I)Z"⟩, prog_8_method_3_code, 2, (some .boolean)), (⟨"RoundBench$Net", "areNeighbours", "(II)Z"⟩, prog_8_method_4_code, 3, (some .boolean)), (⟨"RoundBench$Net", "addEdge", "(III)I"⟩, prog_8_method_6_code, 5, (some .int)), (⟨"RoundBench", "identity", "(II)Z"⟩, prog_1_method_4_code, 3, (some .boolean)), (⟨"RoundBench", "ready", "()I"⟩, prog_1_method_5_code, 1, (some .int)), (⟨"RoundBench$Net", "isConnected", "()Z"⟩, prog_8_method_11_code, 2, (some .boolean)), (⟨"RoundBench$Net", "measureFrom", "(I)V"⟩, prog_8_method_12_code, 4, none), (⟨"RoundBench$Net", "reachNeighbours", "(I)V"⟩, prog_8_method_13_code, 3, none), (⟨"RoundBench$Net", "hasTwins", "()Z"⟩, prog_8_method_10_code, 3, (some .boolean)), (⟨"RoundBench", "choose", "(II)Z"⟩, prog_1_method_6_code, 3, (some .boolean)), (⟨"RoundBench$Chosen", "takes", "(LRoundBench$Net;I)Z"⟩, prog_3_method_2_code, 3, (some .boolean)), (⟨"RoundBench$Colours", "takes", "(LRoundBench$Net;I)Z"⟩, prog_4_method_2_code, 3, (some .boolean)), (⟨"RoundBench$Core", "takes", "(LRoundBench$Net;I)Z"⟩, prog_5_method_2_code, 3, (some .boolean)), (⟨"RoundBench$Least", "takes", "(LRoundBench$Net;I)Z"⟩, prog_7_method_2_code, 3, (some .boolean)), (⟨"RoundBench$Pairs", "takes", "(LRoundBench$Net;I)Z"⟩, prog_9_method_2_code, 3, (some .boolean)), (⟨"RoundBench$Sides", "takes", "(LRoundBench$Net;I)Z"⟩, prog_10_method_2_code, 3, (some .boolean)), (⟨"RoundBench$Sums", "takes", "(LRoundBench$Net;I)Z"⟩, prog_11_method_2_code, 3, (some .boolean)), (⟨"RoundBench$Ways", "takes", "(LRoundBench$Net;I)Z"⟩, prog_12_method_2_code, 3, (some .boolean)), (⟨"RoundBench$Course", "reset", "(I)V"⟩, prog_6_method_2_code, 2, none), (⟨"RoundBench$Course", "setFresh", "(Z)V"⟩, prog_6_method_3_code, 3, none), (⟨"RoundBench$Chosen", "start", "(LRoundBench$Course;)V"⟩, prog_3_method_3_code, 2, none), (⟨"RoundBench$Course", "holdEverywhere", "(III)V"⟩, prog_6_method_4_code, 4, none), (⟨"RoundBench$Colours", "start", "(LRoundBench$Course;)V"⟩, prog_4_method_3_code, 2, none), (⟨"RoundBench$Course", "holdIdentities", "()V"⟩, prog_6_method_5_code, 1, none), (⟨"RoundBench$Course", "growTree", "()V"⟩, prog_6_method_8_code, 2, none), (⟨"RoundBench$Net", "nearerNeighbour", "(I)I"⟩, prog_8_method_14_code, 3, (some .int)), (⟨"RoundBench$Core", "start", "(LRoundBench$Course;)V"⟩, prog_5_method_3_code, 3, none), (⟨"RoundBench$Net", "countNeighbours", "(I)I"⟩, prog_8_method_8_code, 4, (some .int)), (⟨"RoundBench$Least", "start", "(LRoundBench$Course;)V"⟩, prog_7_method_3_code, 2, none), (⟨"RoundBench$Pairs", "start", "(LRoundBench$Course;)V"⟩, prog_9_method_3_code, 2, none), (⟨"RoundBench$Sides", "start", "(LRoundBench$Course;)V"⟩, prog_10_method_3_code, 2, none), (⟨"RoundBench$Sums", "start", "(LRoundBench$Course;)V"⟩, prog_11_method_3_code, 4, none), (⟨"RoundBench$Ways", "start", "(LRoundBench$Course;)V"⟩, prog_12_method_3_code, 2, none), (⟨"RoundBench$Course", "settle", "()V"⟩, prog_6_method_7_code, 2, none), (⟨"RoundBench", "round", "()I"⟩, prog_1_method_7_code, 1, (some .int)), (⟨"RoundBench$Chosen", "isOver", "(LRoundBench$Course;)Z"⟩, prog_3_method_4_code, 3, (some .boolean)), (⟨"RoundBench$Colours", "isOver", "(LRoundBench$Course;)Z"⟩, prog_4_method_4_code, 2, (some .boolean)), (⟨"RoundBench$Core", "isOver", "(LRoundBench$Course;)Z"⟩, prog_5_method_4_code, 3, (some .boolean)), (⟨"RoundBench$Core", "drops", "(LRoundBench$Course;I)Z"⟩, prog_5_method_7_code, 2, (some .boolean)), (⟨"RoundBench$Course", "countNeighboursWith", "(II)I"⟩, prog_6_method_9_code, 5, (some .int)), (⟨"RoundBench$Least", "isOver", "(LRoundBench$Course;)Z"⟩, prog_7_method_4_code, 2, (some .boolean)), (⟨"RoundBench$Course", "countFreshLetters", "()I"⟩, prog_6_method_11_code, 3, (some .int)), (⟨"RoundBench$Pairs", "isOver", "(LRoundBench$Course;)Z"⟩, prog_9_method_4_code, 2, (some .boolean)), (⟨"RoundBench$Course", "countLettersAmong", "(I)I"⟩, prog_6_method_10_code, 4, (some .int)), (⟨"RoundBench$Sides", "isOver", "(LRoundBench$Course;)Z"⟩, prog_10_method_4_code, 2, (some .boolean)), (⟨"RoundBench$Sums", "isOver", "(LRoundBench$Course;)Z"⟩, prog_11_method_4_code, 2, (some .boolean)), (⟨"RoundBench$Ways", "isOver", "(LRoundBench$Course;)Z"⟩, prog_12_method_4_code, 2, (some .boolean)), (⟨"RoundBench", "playRound", "()I"⟩, prog_1_method_14_code, 2, (some .int)), (⟨"RoundBench$Chosen", "countLetters", "(LRoundBench$Course;)I"⟩, prog_3_method_5_code, 2, (some .int)), (⟨"RoundBench$Colours", "countLetters", "(LRoundBench$Course;)I"⟩, prog_4_method_5_code, 2, (some .int)), (⟨"RoundBench$Core", "countLetters", "(LRoundBench$Course;)I"⟩, prog_5_method_5_code, 4, (some .int)), (⟨"RoundBench$Least", "countLetters", "(LRoundBench$Course;)I"⟩, prog_7_method_5_code, 2, (some .int)), (⟨"RoundBench$Pairs", "countLetters", "(LRoundBench$Course;)I"⟩, prog_9_method_5_code, 2, (some .int)), (⟨"RoundBench$Sides", "countLetters", "(LRoundBench$Course;)I"⟩, prog_10_method_5_code, 2, (some .int)), (⟨"RoundBench$Sums", "countLetters", "(LRoundBench$Course;)I"⟩, prog_11_method_5_code, 4, (some .int)), (⟨"RoundBench$Sums", "isDue", "(LRoundBench$Course;I)Z"⟩, prog_11_method_7_code, 2, (some .boolean)), (⟨"RoundBench$Ways", "countLetters", "(LRoundBench$Course;)I"⟩, prog_12_method_5_code, 2, (some .int)), (⟨"RoundBench$Chosen", "change", "(LRoundBench$Course;)V"⟩, prog_3_method_6_code, 3, none), (⟨"RoundBench$Chosen", "decide", "(LRoundBench$Course;I)V"⟩, prog_3_method_7_code, 2, none), (⟨"RoundBench$Chosen", "wins", "(LRoundBench$Course;I)Z"⟩, prog_3_method_8_code, 3, (some .boolean)), (⟨"RoundBench$Chosen", "hasWinnerBeside", "(LRoundBench$Course;I)Z"⟩, prog_3_method_9_code, 3, (some .boolean)), (⟨"RoundBench$Colours", "change", "(LRoundBench$Course;)V"⟩, prog_4_method_6_code, 6, none), (⟨"RoundBench$Colours", "lowestDifference", "(II)I"⟩, prog_4_method_7_code, 4, (some .int)), (⟨"RoundBench$Core", "change", "(LRoundBench$Course;)V"⟩, prog_5_method_6_code, 3, none), (⟨"RoundBench$Least", "change", "(LRoundBench$Course;)V"⟩, prog_7_method_6_code, 3, none), (⟨"RoundBench$Least", "learn", "(LRoundBench$Course;I)V"⟩, prog_7_method_7_code, 3, none), (⟨"RoundBench$Pairs", "change", "(LRoundBench$Course;)V"⟩, prog_9_method_6_code, 4, none), (⟨"RoundBench$Pairs", "favourite", "(LRoundBench$Course;I)I"⟩, prog_9_method_7_code, 5, (some .int)), (⟨"RoundBench$Net", "isHeavier", "(II)Z"⟩, prog_8_method_9_code, 3, (some .boolean)), (⟨"RoundBench$Sides", "change", "(LRoundBench$Course;)V"⟩, prog_10_method_6_code, 4, none), (⟨"RoundBench$Sides", "deliver", "(LRoundBench$Course;II)V"⟩, prog_10_method_7_code, 3, none), (⟨"RoundBench$Sums", "change", "(LRoundBench$Course;)V"⟩, prog_11_method_6_code, 3, none), (⟨"RoundBench$Sums", "handUp", "(LRoundBench$Course;I)V"⟩, prog_11_method_8_code, 3, none), (⟨"RoundBench$Ways", "change", "(LRoundBench$Course;)V"⟩, prog_12_method_6_code, 3, none), (⟨"RoundBench$Ways", "shorten", "(LRoundBench$Course;I)V"⟩, prog_12_method_7_code, 4, none), (⟨"RoundBench$Net", "weightBetween", "(II)I"⟩, prog_8_method_7_code, 3, (some .int)), (⟨"RoundBench$Course", "markFresh", "()V"⟩, prog_6_method_6_code, 2, none), (⟨"RoundBench", "run", "(I)I"⟩, prog_1_method_8_code, 4, (some .int)), (⟨"java/lang/Math", "min", "(II)I"⟩, prog_15_method_69_code, 2, (some .int)), (⟨"RoundBench", "finished", "()Z"⟩, prog_1_method_9_code, 1, (some .boolean)), (⟨"RoundBench", "rounds", "()I"⟩, prog_1_method_10_code, 1, (some .int)), (⟨"RoundBench", "letters", "()I"⟩, prog_1_method_11_code, 1, (some .int)), (⟨"RoundBench", "held", "(II)I"⟩, prog_1_method_12_code, 3, (some .int)), (⟨"RoundBenchModel", "<init>", "()V"⟩, prog_14_method_1_code, 1, none), (⟨"RoundBenchModel", "net", "(I)Z"⟩, prog_14_method_5_code, 3, (some .boolean)), (⟨"RoundBenchModel", "change", "()V"⟩, prog_14_method_4_code, 1, none), (⟨"RoundBenchModel", "edge", "(III)I"⟩, prog_14_method_9_code, 4, (some .int)), (⟨"RoundBenchModel", "isNode", "(I)Z"⟩, prog_14_method_3_code, 2, (some .boolean)), (⟨"RoundBenchModel", "areNeighbours", "(II)Z"⟩, prog_14_method_7_code, 3, (some .boolean)), (⟨"RoundBenchModel", "between", "(II)I"⟩, prog_14_method_6_code, 4, (some .int)), (⟨"RoundBenchModel", "identity", "(II)Z"⟩, prog_14_method_10_code, 3, (some .boolean)), (⟨"RoundBenchModel", "ready", "()I"⟩, prog_14_method_12_code, 3, (some .int)), (⟨"RoundBenchModel", "measure", "()V"⟩, prog_14_method_11_code, 5, none), (⟨"RoundBenchModel", "choose", "(II)Z"⟩, prog_14_method_13_code, 4, (some .boolean)), (⟨"RoundBenchModel", "plant", "()V"⟩, prog_14_method_16_code, 4, none), (⟨"RoundBenchModel", "nearer", "(II)I"⟩, prog_14_method_15_code, 4, (some .int)), (⟨"RoundBenchModel", "far", "(II)I"⟩, prog_14_method_14_code, 3, (some .int)), (⟨"RoundBenchModel", "pick", "()V"⟩, prog_14_method_19_code, 6, none), (⟨"RoundBenchModel", "match", "()V"⟩, prog_14_method_22_code, 9, none), (⟨"RoundBenchModel", "isHeavier", "(II)Z"⟩, prog_14_method_20_code, 3, (some .boolean)), (⟨"RoundBenchModel", "isOf", "(II)Z"⟩, prog_14_method_21_code, 3, (some .boolean)), (⟨"RoundBenchModel", "peel", "()V"⟩, prog_14_method_24_code, 4, none), (⟨"RoundBenchModel", "inside", "(II)I"⟩, prog_14_method_23_code, 5, (some .int)), (⟨"RoundBenchModel", "round", "()I"⟩, prog_14_method_39_code, 2, (some .int)), (⟨"RoundBenchModel", "isFinished", "()Z"⟩, prog_14_method_38_code, 3, (some .boolean)), (⟨"RoundBenchModel", "isOver", "(II)Z"⟩, prog_14_method_32_code, 3, (some .boolean)), (⟨"RoundBenchModel", "lettersIn", "(I)I"⟩, prog_14_method_37_code, 4, (some .int)), (⟨"RoundBenchModel", "openEdges", "(I)I"⟩, prog_14_method_35_code, 4, (some .int)), (⟨"RoundBenchModel", "lettersOf", "(II)I"⟩, prog_14_method_36_code, 4, (some .int)), (⟨"RoundBenchModel", "leastOf", "(II)I"⟩, prog_14_method_25_code, 5, (some .int)), (⟨"RoundBenchModel", "degree", "(I)I"⟩, prog_14_method_8_code, 4, (some .int)), (⟨"RoundBenchModel", "heldWays", "(III)I"⟩, prog_14_method_29_code, 8, (some .int)), (⟨"RoundBenchModel", "reckonWays", "(I)V"⟩, prog_14_method_27_code, 7, none), (⟨"RoundBenchModel", "lastWay", "(II)I"⟩, prog_14_method_28_code, 4, (some .int)), (⟨"RoundBenchModel", "wayOf", "(II)I"⟩, prog_14_method_26_code, 3, (some .int)), (⟨"RoundBenchModel", "run", "(I)I"⟩, prog_14_method_40_code, 3, (some .int)), (⟨"RoundBenchModel", "finished", "()Z"⟩, prog_14_method_41_code, 1, (some .boolean)), (⟨"RoundBenchModel", "rounds", "()I"⟩, prog_14_method_42_code, 1, (some .int)), (⟨"RoundBenchModel", "letters", "()I"⟩, prog_14_method_43_code, 1, (some .int)), (⟨"RoundBenchModel", "held", "(II)I"⟩, prog_14_method_44_code, 3, (some .int)), (⟨"RoundBenchModel", "heldAfter", "(III)I"⟩, prog_14_method_34_code, 5, (some .int)), (⟨"RoundBenchModel", "heldSums", "(III)I"⟩, prog_14_method_30_code, 8, (some .int)), (⟨"RoundBenchModel", "sumUnder", "(I)I"⟩, prog_14_method_18_code, 4, (some .int)), (⟨"RoundBenchModel", "isUnder", "(II)Z"⟩, prog_14_method_17_code, 4, (some .boolean)), (⟨"RoundBenchModel", "heldColour", "(II)I"⟩, prog_14_method_31_code, 6, (some .int)), (⟨"RoundBenchModel", "heldSide", "(III)I"⟩, prog_14_method_33_code, 7, (some .int))]
def am_R0 : String := "RoundBench"
def am_T0 : u_T := fun k => match k with
  | 0 => ("RoundBench", "course", "LRoundBench$Course;", true)
  | 1 => ("RoundBench", "algorithms", "[LRoundBench$Algorithm;", true)
  | 2 => ("RoundBench", "chosen", "LRoundBench$Algorithm;", false)
  | _ => ("RoundBench", "netIsReady", "Z", false)
def am_t0 : Nat → FieldType := fun k => match k with
  | 0 => .object "RoundBench$Course"
  | 1 => .array (.object "RoundBench$Algorithm")
  | 2 => .object "RoundBench$Algorithm"
  | _ => .boolean
def am_R1 : String := "RoundBench$Course"
def am_T1 : u_T := fun k => match k with
  | 0 => ("RoundBench$Course", "net", "LRoundBench$Net;", true)
  | 1 => ("RoundBench$Course", "held", "[[I", true)
  | 2 => ("RoundBench$Course", "before", "[[I", true)
  | 3 => ("RoundBench$Course", "fresh", "[Z", true)
  | 4 => ("RoundBench$Course", "parents", "[I", true)
  | 5 => ("RoundBench$Course", "root", "I", false)
  | 6 => ("RoundBench$Course", "round", "I", false)
  | _ => ("RoundBench$Course", "letters", "I", false)
def am_t1 : Nat → FieldType := fun k => match k with
  | 0 => .object "RoundBench$Net"
  | 1 => .array (.array .int)
  | 2 => .array (.array .int)
  | 3 => .array .boolean
  | 4 => .array .int
  | 5 => .int
  | 6 => .int
  | _ => .int
def am_R2 : String := "RoundBench$Net"
def am_T2 : u_T := fun k => match k with
  | 0 => ("RoundBench$Net", "identities", "[I", true)
  | 1 => ("RoundBench$Net", "weights", "[I", true)
  | 2 => ("RoundBench$Net", "edgeBetween", "[[I", true)
  | 3 => ("RoundBench$Net", "far", "[I", true)
  | 4 => ("RoundBench$Net", "nodes", "I", false)
  | _ => ("RoundBench$Net", "edges", "I", false)
def am_t2 : Nat → FieldType := fun k => match k with
  | 0 => .array .int
  | 1 => .array .int
  | 2 => .array (.array .int)
  | 3 => .array .int
  | 4 => .int
  | _ => .int
def am_R3 : String := "RoundBench$Least"
def am_T3 : u_T := fun k => match k with
  | _ => ("", "", "", false)
def am_t3 : Nat → FieldType := fun k => match k with
  | _ => .int
def am_R4 : String := "RoundBench$Ways"
def am_T4 : u_T := fun k => match k with
  | _ => ("", "", "", false)
def am_t4 : Nat → FieldType := fun k => match k with
  | _ => .int
def am_R5 : String := "RoundBench$Sums"
def am_T5 : u_T := fun k => match k with
  | _ => ("", "", "", false)
def am_t5 : Nat → FieldType := fun k => match k with
  | _ => .int
def am_R6 : String := "RoundBench$Colours"
def am_T6 : u_T := fun k => match k with
  | _ => ("", "", "", false)
def am_t6 : Nat → FieldType := fun k => match k with
  | _ => .int
def am_R7 : String := "RoundBench$Chosen"
def am_T7 : u_T := fun k => match k with
  | _ => ("", "", "", false)
def am_t7 : Nat → FieldType := fun k => match k with
  | _ => .int
def am_R8 : String := "RoundBench$Pairs"
def am_T8 : u_T := fun k => match k with
  | _ => ("", "", "", false)
def am_t8 : Nat → FieldType := fun k => match k with
  | _ => .int
def am_R9 : String := "RoundBench$Core"
def am_T9 : u_T := fun k => match k with
  | _ => ("", "", "", false)
def am_t9 : Nat → FieldType := fun k => match k with
  | _ => .int
def am_R10 : String := "RoundBench$Sides"
def am_T10 : u_T := fun k => match k with
  | _ => ("", "", "", false)
def am_t10 : Nat → FieldType := fun k => match k with
  | _ => .int
def am_R11 : String := "RoundBenchModel"
def am_T11 : u_T := fun k => match k with
  | 0 => ("RoundBenchModel", "n", "I", false)
  | 1 => ("RoundBenchModel", "edges", "I", false)
  | 2 => ("RoundBenchModel", "first", "[I", true)
  | 3 => ("RoundBenchModel", "second", "[I", true)
  | 4 => ("RoundBenchModel", "weights", "[I", true)
  | 5 => ("RoundBenchModel", "identities", "[I", true)
  | 6 => ("RoundBenchModel", "isReady", "Z", false)
  | 7 => ("RoundBenchModel", "far", "[I", true)
  | 8 => ("RoundBenchModel", "algorithm", "I", false)
  | 9 => ("RoundBenchModel", "root", "I", false)
  | 10 => ("RoundBenchModel", "done", "I", false)
  | 11 => ("RoundBenchModel", "sent", "I", false)
  | 12 => ("RoundBenchModel", "parents", "[I", true)
  | 13 => ("RoundBenchModel", "heights", "[I", true)
  | 14 => ("RoundBenchModel", "ends", "[I", true)
  | 15 => ("RoundBenchModel", "whens", "[I", true)
  | 16 => ("RoundBenchModel", "sums", "[I", true)
  | 17 => ("RoundBenchModel", "colours", "[I", true)
  | _ => ("RoundBenchModel", "before", "[I", true)
def am_t11 : Nat → FieldType := fun k => match k with
  | 0 => .int
  | 1 => .int
  | 2 => .array .int
  | 3 => .array .int
  | 4 => .array .int
  | 5 => .array .int
  | 6 => .boolean
  | 7 => .array .int
  | 8 => .int
  | 9 => .int
  | 10 => .int
  | 11 => .int
  | 12 => .array .int
  | 13 => .array .int
  | 14 => .array .int
  | 15 => .array .int
  | 16 => .array .int
  | 17 => .array .int
  | _ => .array .int
abbrev am_cl : List vw_C := [(am_R0, am_T0, 4), (am_R1, am_T1, 8), (am_R2, am_T2, 6), (am_R3, am_T3, 0), (am_R4, am_T4, 0), (am_R5, am_T5, 0), (am_R6, am_T6, 0), (am_R7, am_T7, 0), (am_R8, am_T8, 0), (am_R9, am_T9, 0), (am_R10, am_T10, 0), (am_R11, am_T11, 19)]
def am_tl : List (Nat → FieldType) := [am_t0, am_t1, am_t2, am_t3, am_t4, am_t5, am_t6, am_t7, am_t8, am_t9, am_t10, am_t11]
/-- the abstract methods that a call may name, and what it runs by the class of the receiver: method, places of words -/
def am_vx : List MethodName := [⟨"RoundBench$Algorithm", "takes", "(LRoundBench$Net;I)Z"⟩, ⟨"RoundBench$Algorithm", "start", "(LRoundBench$Course;)V"⟩, ⟨"RoundBench$Algorithm", "isOver", "(LRoundBench$Course;)Z"⟩, ⟨"RoundBench$Algorithm", "countLetters", "(LRoundBench$Course;)I"⟩, ⟨"RoundBench$Algorithm", "change", "(LRoundBench$Course;)V"⟩]
def am_vt : List (List (Option (Nat × List Nat))) := [[none, none, none, some (33, [328, 329, 40, 330]), some (37, [342, 343, 41, 344]), some (36, [338, 339, 42, 340]), some (31, [321, 322, 43, 323]), some (30, [318, 319, 44, 320]), some (34, [331, 332, 45, 333]), some (32, [325, 326, 46, 327]), some (35, [334, 335, 47, 336]), none], [none, none, none, some (48, [393, 394, 40, 395]), some (52, [413, 414, 41, 415]), some (51, [407, 408, 42, 409]), some (42, [365, 366, 43, 367]), some (40, [357, 358, 44, 359]), some (49, [399, 400, 45, 401]), some (46, [385, 386, 46, 387]), some (50, [403, 404, 47, 405]), none], [none, none, none, some (60, [445, 446, 40, 447]), some (66, [468, 469, 41, 470]), some (65, [465, 466, 42, 467]), some (56, [431, 432, 43, 433]), some (55, [428, 429, 44, 430]), some (62, [453, 454, 45, 455]), some (57, [434, 435, 46, 436]), some (64, [461, 462, 47, 463]), none], [none, none, none, some (71, [489, 490, 40, 491]), some (76, [504, 505, 41, 506]), some (74, [498, 499, 42, 500]), some (69, [483, 484, 43, 485]), some (68, [479, 480, 44, 481]), some (72, [492, 493, 45, 494]), some (70, [486, 487, 46, 488]), some (73, [495, 496, 47, 497]), none], [none, none, none, some (84, [532, 533, 40, 534]), some (93, [562, 563, 41, 564]), some (91, [556, 557, 42, 558]), some (81, [523, 524, 43, 525]), some (77, [510, 511, 44, 512]), some (86, [539, 540, 45, 541]), some (83, [529, 530, 46, 531]), some (89, [549, 550, 47, 551]), none]]
/-- places of the words that say a class may stand in an array of algorithms -/
def am_ca : List (Option Nat) := [none, none, none, some 837, some 841, some 840, some 835, some 834, some 838, some 836, some 839, none]
end
section
/-! What the tables of part 02 say, checked against the bytes and the words by evaluation. -/
def am_op (m i : Nat) : Option am_O := (am_codes.getD m [])[i]?
def am_mt (m : Nat) : MethodName × ByteArray × Nat × Option FieldType := am_mts.getD m (⟨"", "", ""⟩, ⟨#[]⟩, 0, none)
def am_y (m : Nat) : MethodName := (am_mt m).1
def am_b (m : Nat) : ByteArray := (am_mt m).2.1
def am_mL (m : Nat) : Nat := (am_mt m).2.2.1
def am_r (m : Nat) : Option FieldType := (am_mt m).2.2.2
def am_pc (m i : Nat) : Nat := match am_op m i with
  | some o => o.2.1
  | none => 0
/-- the word at place k is w -/
def am_w (k : Nat) (w : Cond) : Bool := decide (lw_tbl[k]? = some w)
def am_kd (ci : Nat) : vw_C := am_cl.getD ci ("", fun _ => ("", "", "", false), 0)
def am_tys : List FieldType := [.int, .boolean, .array .int, .object "RoundBench$Algorithm"]
def am_nm (s : String) : Bool := decide (s ≠ "java/lang/invoke/MethodHandle") && decide (s ≠ "java/lang/invoke/VarHandle")
def am_np (y : MethodName) (n : Nat) : Bool := decide ((parseMethodDescriptor y.desc).map (fun d => d.parameters.length) = some n)
/-- what each instruction asks of the tables, its decoding apart -/
def am_cx (m i : Nat) (ins : Instr) (pc a b : Nat) (v : Int32) (ws : List Nat) : Bool := match ins with
  | .aconst_null | .iaload | .aaload | .baload | .iastore | .aastore | .bastore | .pop | .dup | .dup2 | .iadd | .isub | .imul | .irem | .ishr | .iand | .ixor | .arraylength => am_pc m (i + 1) == pc + 1
  | .iconst n => (am_pc m (i + 1) == pc + 1) && decide (Int32.ofInt n = v)
  | .bipush n => (am_pc m (i + 1) == pc + 2) && decide ((Int8.ofInt n).toInt32 = v)
  | .sipush n => (am_pc m (i + 1) == pc + 3) && decide ((Int16.ofInt n).toInt32 = v)
  | .ldc k => (am_pc m (i + 1) == pc + 2) && am_w (ws.getD 0 0) (.constant (am_y m).cls k v)
  | .iload k | .aload k => (am_pc m (i + 1) == pc + 2) && (k == a)
  | .istore k | .astore k => (am_pc m (i + 1) == pc + 2) && (k == a) && decide (a < am_mL m)
  | .iload_n k | .aload_n k => (am_pc m (i + 1) == pc + 1) && (k.val == a)
  | .istore_n k | .astore_n k => (am_pc m (i + 1) == pc + 1) && (k.val == a) && decide (a < am_mL m)
  | .iinc k n => (am_pc m (i + 1) == pc + 3) && (k == a) && decide (a < am_mL m) && decide (Int32.ofInt n = v)
  | .ifCond _ off | .if_icmp _ off | .ifnull off | .ifnonnull off => (am_pc m (i + 1) == pc + 3) && decide ((pc : Int) + off = (am_pc m a : Int))
  | .goto off => decide ((pc : Int) + off = (am_pc m a : Int))
  | .tableswitch dflt lo hi offs => decide ((pc : Int) + dflt = (am_pc m a : Int)) && decide (lo = v.toInt) && decide (hi = lo + b - 1) && decide (offs.toList.map (fun o => (pc : Int) + o) = ws.map (fun j => (am_pc m j : Int))) && (ws.length == b)
  | .ireturn => decide (am_r m = some .int) || decide (am_r m = some .boolean)
  | .return_ => decide (am_r m = none)
  | .getfield k => (am_pc m (i + 1) == pc + 3) && decide (a < am_cl.length) && decide (b < (am_kd a).2.2) && am_w (ws.getD 0 0) (.fieldLink (am_y m).cls k ((am_kd a).2.1 b).1 ((am_kd a).2.1 b).2.1 ((am_kd a).2.1 b).2.2.1)
  | .putfield k => (am_pc m (i + 1) == pc + 3) && decide (a < am_cl.length) && decide (b < (am_kd a).2.2) && am_w (ws.getD 0 0) (.fieldLink (am_y m).cls k ((am_kd a).2.1 b).1 ((am_kd a).2.1 b).2.1 ((am_kd a).2.1 b).2.2.1) && (!((am_kd a).2.1 b).2.2.2 || (decide ((am_y m).name = "<init>") && decide (((am_kd a).2.1 b).1 = (am_y m).cls)))
  | .invokevirtual k => (am_pc m (i + 1) == pc + 3) && (if v = 1 then am_w (ws.getD 0 0) (.methodLink (am_y m).cls k (am_vx.getD a ⟨"", "", ""⟩)) && am_w (ws.getD 1 0) (.sameMethod (am_vx.getD a ⟨"", "", ""⟩).cls (am_vx.getD a ⟨"", "", ""⟩).cls (am_vx.getD a ⟨"", "", ""⟩).name (am_vx.getD a ⟨"", "", ""⟩).desc) && am_w (ws.getD 2 0) (.declares (am_vx.getD a ⟨"", "", ""⟩)) && am_nm (am_vx.getD a ⟨"", "", ""⟩).cls && am_np (am_vx.getD a ⟨"", "", ""⟩) b
      else am_w (ws.getD 0 0) (.methodLink (am_y m).cls k (am_y a)) && am_w (ws.getD 1 0) (.instanceMethod (am_y a)) && am_w (ws.getD 2 0) (.selects (am_y a).cls (am_y a) (am_y a)) && am_w (ws.getD 3 0) (.initialized (am_y a).cls) && am_w (ws.getD 4 0) (.code (am_y a) (am_b a) (am_mL a) (am_r a)) && am_nm (am_y a).cls && am_np (am_y a) b)
  | .invokespecial k => (am_pc m (i + 1) == pc + 3) && (if v = 2 then am_w (ws.getD 0 0) (.methodLink (am_y m).cls k objectInit) && am_w (ws.getD 1 0) (.instanceMethod objectInit) && am_w (ws.getD 2 0) (.code objectInit ⟨#[0xb1]⟩ 1 none)
      else (if v = 1 then am_w (ws.getD 0 0) (.methodLinkNest (am_y m).cls k (am_y a) "RoundBench") else am_w (ws.getD 0 0) (.methodLink (am_y m).cls k (am_y a))) && am_w (ws.getD 1 0) (.instanceMethod (am_y a)) && am_w (ws.getD 2 0) (.initialized (am_y a).cls) && am_w (ws.getD 3 0) (.code (am_y a) (am_b a) (am_mL a) none) && decide (am_r a = none) && decide ((am_y a).name = "<init>") && am_nm (am_y a).cls && am_np (am_y a) b)
  | .invokestatic k => (am_pc m (i + 1) == pc + 3) && (if v = 2 then am_w (ws.getD 0 0) (.methodLink (am_y m).cls k arraycopyName) && am_w (ws.getD 1 0) (.native arraycopyName) && am_w (ws.getD 2 0) (.static arraycopyName) && am_w (ws.getD 3 0) (.initialized "java/lang/System")
      else am_w (ws.getD 0 0) (.methodLink (am_y m).cls k (am_y a)) && am_w (ws.getD 1 0) (.static (am_y a)) && am_w (ws.getD 2 0) (.initialized (am_y a).cls) && am_w (ws.getD 3 0) (.code (am_y a) (am_b a) (am_mL a) (am_r a)) && am_nm (am_y a).cls && am_np (am_y a) b)
  | .new k => (am_pc m (i + 1) == pc + 3) && decide (a < am_cl.length) && am_w (ws.getD 0 0) (.classLink (am_y m).cls k (am_kd a).1) && am_w (ws.getD 1 0) (.instantiable (am_kd a).1 (am_kd a).2.2) && am_w (ws.getD 2 0) (.initialized (am_kd a).1)
  | .newarray ty => (am_pc m (i + 1) == pc + 2) && decide (am_tys[a]? = some (newarray.typeOf ty)) && am_w (ws.getD 0 0) (.arrayClass (newarray.typeOf ty))
  | .anewarray k => (am_pc m (i + 1) == pc + 3) && (a == 3) && am_w (ws.getD 0 0) (.classLink (am_y m).cls k "RoundBench$Algorithm") && am_w (ws.getD 1 0) (.arrayOver (.object "RoundBench$Algorithm"))
  | .multianewarray k n => (am_pc m (i + 1) == pc + 4) && (n == 2) && (a == 2) && am_w (ws.getD 0 0) (.classLink (am_y m).cls k "[[I") && am_w (ws.getD 1 0) (.arrayOver (.array .int)) && am_w (ws.getD 2 0) (.arrayClass .int)
  | _ => false
/-- the lengths of the instructions that are used -/
def am_ln (pc : Nat) : Instr → Nat
  | .bipush _ | .ldc _ | .iload _ | .aload _ | .istore _ | .astore _ | .newarray _ => 2
  | .sipush _ | .iinc .. | .ifCond .. | .if_icmp .. | .ifnull _ | .ifnonnull _ | .goto _ | .getfield _ | .putfield _ | .invokevirtual _ | .invokespecial _ | .invokestatic _ | .new _ | .anewarray _ => 3
  | .multianewarray .. => 4
  | .tableswitch _ _ _ offs => 1 + (3 - pc % 4) + 12 + 4 * offs.size
  | _ => 1
def am_ck (m i : Nat) (o : am_O) : Bool := decide (decode (am_b m) o.2.1 = .ok (o.1, am_ln o.2.1 o.1)) && am_cx m i o.1 o.2.1 o.2.2.1 o.2.2.2.1 o.2.2.2.2.1 o.2.2.2.2.2
def am_ckl (m : Nat) : Nat → List am_O → Bool
  | _, [] => true
  | i, o :: l => am_ck m i o && am_ckl m (i + 1) l
def am_ckm (m : Nat) : Bool := am_ckl m 0 (am_codes.getD m [])
theorem am_ckl_at {m : Nat} : ∀ (l : List am_O) (k i : Nat) (o : am_O), am_ckl m k l = true → l[i]? = some o → am_ck m (k + i) o = true
  | [], k, i, o, _, h => by simp at h
  | a :: l, k, 0, o, h, e => by
    simp only [am_ckl, Bool.and_eq_true] at h
    simp at e
    rw [← e]
    exact h.1
  | a :: l, k, i + 1, o, h, e => by
    simp only [am_ckl, Bool.and_eq_true] at h
    rw [List.getElem?_cons_succ] at e
    have := am_ckl_at l (k + 1) i o h.2 e
    rwa [show k + 1 + i = k + (i + 1) by omega] at this
end
section
/-! every row of every method of part 02, by evaluation -/
set_option maxRecDepth 100000 in
theorem am_ck0 : am_ckm 0 = true := by decide +kernel
set_option maxRecDepth 100000 in
theorem am_ck1 : am_ckm 1 = true := by decide +kernel
set_option maxRecDepth 100000 in
theorem am_ck2 : am_ckm 2 = true := by decide +kernel
set_option maxRecDepth 100000 in
theorem am_ck3 : am_ckm 3 = true := by decide +kernel
set_option maxRecDepth 100000 in
theorem am_ck4 : am_ckm 4 = true := by decide +kernel
set_option maxRecDepth 100000 in
theorem am_ck5 : am_ckm 5 = true := by decide +kernel
set_option maxRecDepth 100000 in
theorem am_ck6 : am_ckm 6 = true := by decide +kernel
set_option maxRecDepth 100000 in
theorem am_ck7 : am_ckm 7 = true := by decide +kernel
set_option maxRecDepth 100000 in
theorem am_ck8 : am_ckm 8 = true := by decide +kernel
set_option maxRecDepth 100000 in
theorem am_ck9 : am_ckm 9 = true := by decide +kernel
set_option maxRecDepth 100000 in
theorem am_ck10 : am_ckm 10 = true := by decide +kernel
set_option maxRecDepth 100000 in
theorem am_ck11 : am_ckm 11 = true := by decide +kernel
set_option maxRecDepth 100000 in
theorem am_ck12 : am_ckm 12 = true := by decide +kernel
set_option maxRecDepth 100000 in
theorem am_ck13 : am_ckm 13 = true := by decide +kernel
set_option maxRecDepth 100000 in
theorem am_ck14 : am_ckm 14 = true := by decide +kernel
set_option maxRecDepth 100000 in
theorem am_ck15 : am_ckm 15 = true := by decide +kernel
set_option maxRecDepth 100000 in
theorem am_ck16 : am_ckm 16 = true := by decide +kernel
set_option maxRecDepth 100000 in
theorem am_ck17 : am_ckm 17 = true := by decide +kernel
set_option maxRecDepth 100000 in
theorem am_ck18 : am_ckm 18 = true := by decide +kernel
set_option maxRecDepth 100000 in
theorem am_ck19 : am_ckm 19 = true := by decide +kernel
set_option maxRecDepth 100000 in
theorem am_ck20 : am_ckm 20 = true := by decide +kernel
set_option maxRecDepth 100000 in
theorem am_ck21 : am_ckm 21 = true := by decide +kernel
set_option maxRecDepth 100000 in
theorem am_ck22 : am_ckm 22 = true := by decide +kernel
set_option maxRecDepth 100000 in
theorem am_ck23 : am_ckm 23 = true := by decide +kernel
set_option maxRecDepth 100000 in
theorem am_ck24 : am_ckm 24 = true := by decide +kernel
set_option maxRecDepth 100000 in
theorem am_ck25 : am_ckm 25 = true := by decide +kernel
set_option maxRecDepth 100000 in
theorem am_ck26 : am_ckm 26 = true := by decide +kernel
set_option maxRecDepth 100000 in
theorem am_ck27 : am_ckm 27 = true := by decide +kernel
set_option maxRecDepth 100000 in
theorem am_ck28 : am_ckm 28 = true := by decide +kernel
set_option maxRecDepth 100000 in
theorem am_ck29 : am_ckm 29 = true := by decide +kernel
set_option maxRecDepth 100000 in
theorem am_ck30 : am_ckm 30 = true := by decide +kernel
set_option maxRecDepth 100000 in
theorem am_ck31 : am_ckm 31 = true := by decide +kernel
set_option maxRecDepth 100000 in
theorem am_ck32 : am_ckm 32 = true := by decide +kernel
set_option maxRecDepth 100000 in
theorem am_ck33 : am_ckm 33 = true := by decide +kernel
set_option maxRecDepth 100000 in
theorem am_ck34 : am_ckm 34 = true := by decide +kernel
set_option maxRecDepth 100000 in
theorem am_ck35 : am_ckm 35 = true := by decide +kernel
set_option maxRecDepth 100000 in
theorem am_ck36 : am_ckm 36 = true := by decide +kernel
set_option maxRecDepth 100000 in
theorem am_ck37 : am_ckm 37 = true := by decide +kernel
set_option maxRecDepth 100000 in
theorem am_ck38 : am_ckm 38 = true := by decide +kernel
set_option maxRecDepth 100000 in
theorem am_ck39 : am_ckm 39 = true := by decide +kernel
set_option maxRecDepth 100000 in
theorem am_ck40 : am_ckm 40 = true := by decide +kernel
set_option maxRecDepth 100000 in
theorem am_ck41 : am_ckm 41 = true := by decide +kernel
set_option maxRecDepth 100000 in
theorem am_ck42 : am_ckm 42 = true := by decide +kernel
set_option maxRecDepth 100000 in
theorem am_ck43 : am_ckm 43 = true := by decide +kernel
set_option maxRecDepth 100000 in
theorem am_ck44 : am_ckm 44 = true := by decide +kernel
set_option maxRecDepth 100000 in
theorem am_ck45 : am_ckm 45 = true := by decide +kernel
set_option maxRecDepth 100000 in
theorem am_ck46 : am_ckm 46 = true := by decide +kernel
set_option maxRecDepth 100000 in
theorem am_ck47 : am_ckm 47 = true := by decide +kernel
set_option maxRecDepth 100000 in
theorem am_ck48 : am_ckm 48 = true := by decide +kernel
set_option maxRecDepth 100000 in
theorem am_ck49 : am_ckm 49 = true := by decide +kernel
set_option maxRecDepth 100000 in
theorem am_ck50 : am_ckm 50 = true := by decide +kernel
set_option maxRecDepth 100000 in
theorem am_ck51 : am_ckm 51 = true := by decide +kernel
set_option maxRecDepth 100000 in
theorem am_ck52 : am_ckm 52 = true := by decide +kernel
set_option maxRecDepth 100000 in
theorem am_ck53 : am_ckm 53 = true := by decide +kernel
set_option maxRecDepth 100000 in
theorem am_ck54 : am_ckm 54 = true := by decide +kernel
set_option maxRecDepth 100000 in
theorem am_ck55 : am_ckm 55 = true := by decide +kernel
set_option maxRecDepth 100000 in
theorem am_ck56 : am_ckm 56 = true := by decide +kernel
set_option maxRecDepth 100000 in
theorem am_ck57 : am_ckm 57 = true := by decide +kernel
set_option maxRecDepth 100000 in
theorem am_ck58 : am_ckm 58 = true := by decide +kernel
set_option maxRecDepth 100000 in
theorem am_ck59 : am_ckm 59 = true := by decide +kernel
set_option maxRecDepth 100000 in
theorem am_ck60 : am_ckm 60 = true := by decide +kernel
set_option maxRecDepth 100000 in
theorem am_ck61 : am_ckm 61 = true := by decide +kernel
set_option maxRecDepth 100000 in
theorem am_ck62 : am_ckm 62 = true := by decide +kernel
set_option maxRecDepth 100000 in
theorem am_ck63 : am_ckm 63 = true := by decide +kernel
set_option maxRecDepth 100000 in
theorem am_ck64 : am_ckm 64 = true := by decide +kernel
set_option maxRecDepth 100000 in
theorem am_ck65 : am_ckm 65 = true := by decide +kernel
set_option maxRecDepth 100000 in
theorem am_ck66 : am_ckm 66 = true := by decide +kernel
set_option maxRecDepth 100000 in
theorem am_ck67 : am_ckm 67 = true := by decide +kernel
set_option maxRecDepth 100000 in
theorem am_ck68 : am_ckm 68 = true := by decide +kernel
set_option maxRecDepth 100000 in
theorem am_ck69 : am_ckm 69 = true := by decide +kernel
set_option maxRecDepth 100000 in
theorem am_ck70 : am_ckm 70 = true := by decide +kernel
set_option maxRecDepth 100000 in
theorem am_ck71 : am_ckm 71 = true := by decide +kernel
set_option maxRecDepth 100000 in
theorem am_ck72 : am_ckm 72 = true := by decide +kernel
set_option maxRecDepth 100000 in
theorem am_ck73 : am_ckm 73 = true := by decide +kernel
set_option maxRecDepth 100000 in
theorem am_ck74 : am_ckm 74 = true := by decide +kernel
set_option maxRecDepth 100000 in
theorem am_ck75 : am_ckm 75 = true := by decide +kernel
set_option maxRecDepth 100000 in
theorem am_ck76 : am_ckm 76 = true := by decide +kernel
set_option maxRecDepth 100000 in
theorem am_ck77 : am_ckm 77 = true := by decide +kernel
set_option maxRecDepth 100000 in
theorem am_ck78 : am_ckm 78 = true := by decide +kernel
set_option maxRecDepth 100000 in
theorem am_ck79 : am_ckm 79 = true := by decide +kernel
set_option maxRecDepth 100000 in
theorem am_ck80 : am_ckm 80 = true := by decide +kernel
set_option maxRecDepth 100000 in
theorem am_ck81 : am_ckm 81 = true := by decide +kernel
set_option maxRecDepth 100000 in
theorem am_ck82 : am_ckm 82 = true := by decide +kernel
set_option maxRecDepth 100000 in
theorem am_ck83 : am_ckm 83 = true := by decide +kernel
set_option maxRecDepth 100000 in
theorem am_ck84 : am_ckm 84 = true := by decide +kernel
set_option maxRecDepth 100000 in
theorem am_ck85 : am_ckm 85 = true := by decide +kernel
set_option maxRecDepth 100000 in
theorem am_ck86 : am_ckm 86 = true := by decide +kernel
set_option maxRecDepth 100000 in
theorem am_ck87 : am_ckm 87 = true := by decide +kernel
set_option maxRecDepth 100000 in
theorem am_ck88 : am_ckm 88 = true := by decide +kernel
set_option maxRecDepth 100000 in
theorem am_ck89 : am_ckm 89 = true := by decide +kernel
set_option maxRecDepth 100000 in
theorem am_ck90 : am_ckm 90 = true := by decide +kernel
set_option maxRecDepth 100000 in
theorem am_ck91 : am_ckm 91 = true := by decide +kernel
set_option maxRecDepth 100000 in
theorem am_ck92 : am_ckm 92 = true := by decide +kernel
set_option maxRecDepth 100000 in
theorem am_ck93 : am_ckm 93 = true := by decide +kernel
set_option maxRecDepth 100000 in
theorem am_ck94 : am_ckm 94 = true := by decide +kernel
set_option maxRecDepth 100000 in
theorem am_ck95 : am_ckm 95 = true := by decide +kernel
set_option maxRecDepth 100000 in
theorem am_ck96 : am_ckm 96 = true := by decide +kernel
set_option maxRecDepth 100000 in
theorem am_ck97 : am_ckm 97 = true := by decide +kernel
set_option maxRecDepth 100000 in
theorem am_ck98 : am_ckm 98 = true := by decide +kernel
set_option maxRecDepth 100000 in
theorem am_ck99 : am_ckm 99 = true := by decide +kernel
set_option maxRecDepth 100000 in
theorem am_ck100 : am_ckm 100 = true := by decide +kernel
set_option maxRecDepth 100000 in
theorem am_ck101 : am_ckm 101 = true := by decide +kernel
set_option maxRecDepth 100000 in
theorem am_ck102 : am_ckm 102 = true := by decide +kernel
set_option maxRecDepth 100000 in
theorem am_ck103 : am_ckm 103 = true := by decide +kernel
set_option maxRecDepth 100000 in
theorem am_ck104 : am_ckm 104 = true := by decide +kernel
set_option maxRecDepth 100000 in
theorem am_ck105 : am_ckm 105 = true := by decide +kernel
set_option maxRecDepth 100000 in
theorem am_ck106 : am_ckm 106 = true := by decide +kernel
set_option maxRecDepth 100000 in
theorem am_ck107 : am_ckm 107 = true := by decide +kernel
set_option maxRecDepth 100000 in
theorem am_ck108 : am_ckm 108 = true := by decide +kernel
set_option maxRecDepth 100000 in
theorem am_ck109 : am_ckm 109 = true := by decide +kernel
set_option maxRecDepth 100000 in
theorem am_ck110 : am_ckm 110 = true := by decide +kernel
set_option maxRecDepth 100000 in
theorem am_ck111 : am_ckm 111 = true := by decide +kernel
set_option maxRecDepth 100000 in
theorem am_ck112 : am_ckm 112 = true := by decide +kernel
set_option maxRecDepth 100000 in
theorem am_ck113 : am_ckm 113 = true := by decide +kernel
set_option maxRecDepth 100000 in
theorem am_ck114 : am_ckm 114 = true := by decide +kernel
set_option maxRecDepth 100000 in
theorem am_ck115 : am_ckm 115 = true := by decide +kernel
set_option maxRecDepth 100000 in
theorem am_ck116 : am_ckm 116 = true := by decide +kernel
set_option maxRecDepth 100000 in
theorem am_ck117 : am_ckm 117 = true := by decide +kernel
set_option maxRecDepth 100000 in
theorem am_ck118 : am_ckm 118 = true := by decide +kernel
set_option maxRecDepth 100000 in
theorem am_ck119 : am_ckm 119 = true := by decide +kernel
set_option maxRecDepth 100000 in
theorem am_ck120 : am_ckm 120 = true := by decide +kernel
set_option maxRecDepth 100000 in
theorem am_ck121 : am_ckm 121 = true := by decide +kernel
set_option maxRecDepth 100000 in
theorem am_ck122 : am_ckm 122 = true := by decide +kernel
set_option maxRecDepth 100000 in
theorem am_ck123 : am_ckm 123 = true := by decide +kernel
set_option maxRecDepth 100000 in
theorem am_ck124 : am_ckm 124 = true := by decide +kernel
set_option maxRecDepth 100000 in
theorem am_ck125 : am_ckm 125 = true := by decide +kernel
set_option maxRecDepth 100000 in
theorem am_ck126 : am_ckm 126 = true := by decide +kernel
set_option maxRecDepth 100000 in
theorem am_ck127 : am_ckm 127 = true := by decide +kernel
set_option maxRecDepth 100000 in
theorem am_ck128 : am_ckm 128 = true := by decide +kernel
set_option maxRecDepth 100000 in
theorem am_ck129 : am_ckm 129 = true := by decide +kernel
set_option maxRecDepth 100000 in
theorem am_ck130 : am_ckm 130 = true := by decide +kernel
set_option maxRecDepth 100000 in
theorem am_ck131 : am_ckm 131 = true := by decide +kernel
set_option maxRecDepth 100000 in
theorem am_ck132 : am_ckm 132 = true := by decide +kernel
set_option maxRecDepth 100000 in
theorem am_ck133 : am_ckm 133 = true := by decide +kernel
set_option maxRecDepth 100000 in
theorem am_ck134 : am_ckm 134 = true := by decide +kernel
set_option maxRecDepth 100000 in
theorem am_ck135 : am_ckm 135 = true := by decide +kernel
set_option maxRecDepth 100000 in
theorem am_ck136 : am_ckm 136 = true := by decide +kernel
set_option maxRecDepth 100000 in
theorem am_ck137 : am_ckm 137 = true := by decide +kernel
set_option maxRecDepth 100000 in
theorem am_ck138 : am_ckm 138 = true := by decide +kernel
set_option maxRecDepth 100000 in
theorem am_ck139 : am_ckm 139 = true := by decide +kernel
set_option maxRecDepth 100000 in
theorem am_ck140 : am_ckm 140 = true := by decide +kernel
set_option maxRecDepth 100000 in
theorem am_ck141 : am_ckm 141 = true := by decide +kernel
set_option maxRecDepth 100000 in
theorem am_ck142 : am_ckm 142 = true := by decide +kernel
set_option maxRecDepth 100000 in
theorem am_ck143 : am_ckm 143 = true := by decide +kernel
set_option maxRecDepth 100000 in
theorem am_ck144 : am_ckm 144 = true := by decide +kernel
set_option maxRecDepth 100000 in
theorem am_ck145 : am_ckm 145 = true := by decide +kernel
theorem am_cks : ∀ m : Nat, m < 146 → am_ckm m = true
  | 0, _ => am_ck0
  | 1, _ => am_ck1
  | 2, _ => am_ck2
  | 3, _ => am_ck3
  | 4, _ => am_ck4
  | 5, _ => am_ck5
  | 6, _ => am_ck6
  | 7, _ => am_ck7
  | 8, _ => am_ck8
  | 9, _ => am_ck9
  | 10, _ => am_ck10
  | 11, _ => am_ck11
  | 12, _ => am_ck12
  | 13, _ => am_ck13
  | 14, _ => am_ck14
  | 15, _ => am_ck15
  | 16, _ => am_ck16
  | 17, _ => am_ck17
  | 18, _ => am_ck18
  | 19, _ => am_ck19
  | 20, _ => am_ck20
  | 21, _ => am_ck21
  | 22, _ => am_ck22
  | 23, _ => am_ck23
  | 24, _ => am_ck24
  | 25, _ => am_ck25
  | 26, _ => am_ck26
  | 27, _ => am_ck27
  | 28, _ => am_ck28
  | 29, _ => am_ck29
  | 30, _ => am_ck30
  | 31, _ => am_ck31
  | 32, _ => am_ck32
  | 33, _ => am_ck33
  | 34, _ => am_ck34
  | 35, _ => am_ck35
  | 36, _ => am_ck36
  | 37, _ => am_ck37
  | 38, _ => am_ck38
  | 39, _ => am_ck39
  | 40, _ => am_ck40
  | 41, _ => am_ck41
  | 42, _ => am_ck42
  | 43, _ => am_ck43
  | 44, _ => am_ck44
  | 45, _ => am_ck45
  | 46, _ => am_ck46
  | 47, _ => am_ck47
  | 48, _ => am_ck48
  | 49, _ => am_ck49
  | 50, _ => am_ck50
  | 51, _ => am_ck51
  | 52, _ => am_ck52
  | 53, _ => am_ck53
  | 54, _ => am_ck54
  | 55, _ => am_ck55
  | 56, _ => am_ck56
  | 57, _ => am_ck57
  | 58, _ => am_ck58
  | 59, _ => am_ck59
  | 60, _ => am_ck60
  | 61, _ => am_ck61
  | 62, _ => am_ck62
  | 63, _ => am_ck63
  | 64, _ => am_ck64
  | 65, _ => am_ck65
  | 66, _ => am_ck66
  | 67, _ => am_ck67
  | 68, _ => am_ck68
  | 69, _ => am_ck69
  | 70, _ => am_ck70
  | 71, _ => am_ck71
  | 72, _ => am_ck72
  | 73, _ => am_ck73
  | 74, _ => am_ck74
  | 75, _ => am_ck75
  | 76, _ => am_ck76
  | 77, _ => am_ck77
  | 78, _ => am_ck78
  | 79, _ => am_ck79
  | 80, _ => am_ck80
  | 81, _ => am_ck81
  | 82, _ => am_ck82
  | 83, _ => am_ck83
  | 84, _ => am_ck84
  | 85, _ => am_ck85
  | 86, _ => am_ck86
  | 87, _ => am_ck87
  | 88, _ => am_ck88
  | 89, _ => am_ck89
  | 90, _ => am_ck90
  | 91, _ => am_ck91
  | 92, _ => am_ck92
  | 93, _ => am_ck93
  | 94, _ => am_ck94
  | 95, _ => am_ck95
  | 96, _ => am_ck96
  | 97, _ => am_ck97
  | 98, _ => am_ck98
  | 99, _ => am_ck99
  | 100, _ => am_ck100
  | 101, _ => am_ck101
  | 102, _ => am_ck102
  | 103, _ => am_ck103
  | 104, _ => am_ck104
  | 105, _ => am_ck105
  | 106, _ => am_ck106
  | 107, _ => am_ck107
  | 108, _ => am_ck108
  | 109, _ => am_ck109
  | 110, _ => am_ck110
  | 111, _ => am_ck111
  | 112, _ => am_ck112
  | 113, _ => am_ck113
  | 114, _ => am_ck114
  | 115, _ => am_ck115
  | 116, _ => am_ck116
  | 117, _ => am_ck117
  | 118, _ => am_ck118
  | 119, _ => am_ck119
  | 120, _ => am_ck120
  | 121, _ => am_ck121
  | 122, _ => am_ck122
  | 123, _ => am_ck123
  | 124, _ => am_ck124
  | 125, _ => am_ck125
  | 126, _ => am_ck126
  | 127, _ => am_ck127
  | 128, _ => am_ck128
  | 129, _ => am_ck129
  | 130, _ => am_ck130
  | 131, _ => am_ck131
  | 132, _ => am_ck132
  | 133, _ => am_ck133
  | 134, _ => am_ck134
  | 135, _ => am_ck135
  | 136, _ => am_ck136
  | 137, _ => am_ck137
  | 138, _ => am_ck138
  | 139, _ => am_ck139
  | 140, _ => am_ck140
  | 141, _ => am_ck141
  | 142, _ => am_ck142
  | 143, _ => am_ck143
  | 144, _ => am_ck144
  | 145, _ => am_ck145
  | n + 146, h => absurd h (by omega)
theorem am_cko {m i : Nat} {o : am_O} (h : am_op m i = some o) : am_ck m i o = true := by
  by_cases hm : m < 146
  · have := am_ckl_at (am_codes.getD m []) 0 i o (am_cks m hm) h
    rwa [Nat.zero_add] at this
  · have e : am_codes.getD m [] = [] := by
      rw [List.getD_eq_getElem?_getD, List.getElem?_eq_none (by show 146 ≤ m; omega)]
      rfl
    unfold am_op at h
    rw [e] at h
    simp at h
end
section
/-! THE ABSTRACT MACHINE: cells by number; AW says of a method's frame, at its i-th instruction, that the machine ends there as K says. -/
/-- a cell: an array (its kind's place in am_tys, length, ints or numbers of cells), or an object (its kind's place in am_cl, fields) -/
abbrev am_C : Type := (Nat × Nat × ((Nat → Int32) ⊕ (Nat → Option Nat))) ⊕ (Nat × List Value)
abbrev am_M : Type := List am_C
abbrev am_L : Type := List (Option Value)
abbrev am_K : Type := Option Value → am_M → Prop
/-- launch; numbers of kinds and slots; numbers of the arrays' kinds; the first address; the script's address, length, ints -/
abbrev am_G : Type := Launch × va_G × (Nat → ClassId) × Nat × Nat × Nat × (Nat → Int32)
def am_D (g : am_G) : va_G := g.2.1
def am_ac (g : am_G) : Nat → ClassId := g.2.2.1
def am_base (g : am_G) : Nat := g.2.2.2.1
def am_scr (g : am_G) : Nat := g.2.2.2.2.1
def am_sl (g : am_G) : Nat := g.2.2.2.2.2.1
def am_sx (g : am_G) : Nat → Int32 := g.2.2.2.2.2.2
/-- a value with a number of a cell, as the machine has it; retAddr stands for the script -/
def am_v (g : am_G) : Value → Value
  | .ref i => .ref (am_base g + i)
  | .retAddr _ => .ref (am_scr g)
  | v => v
def am_e (g : am_G) : am_C → va_E
  | .inl (t, n, .inl f) => .inl (am_ac g t, n, .inl f)
  | .inl (t, n, .inr f) => .inl (am_ac g t, n, .inr (.inr (.inr (.inr fun j => (f j).map (fun i => am_base g + i)))))
  | .inr (ci, fs) => .inr (ci, fs.map (am_v g))
def am_A (g : am_G) : Nat → Prop := fun q => am_base g ≤ q
/-- the heap holds the cells M from the first address on, nothing else there, and the script -/
def am_H (g : am_G) (U : State) (M : am_M) (H : Heap) : Prop :=
  H.size = am_base g + M.length ∧ (∀ (i : Nat) (c : am_C), M[i]? = some c → va_at (am_D g) am_cl (am_base g + i, am_e g c) H) ∧ va_X (am_scr g) (am_sl g) (am_sx g) U H ∧ am_scr g < am_base g
def am_Sy (g : am_G) (U : State) : Prop := va_K (am_D g) am_cl [] U ∧ ∀ (t : Nat) (ty : FieldType), am_tys[t]? = some ty → ArrOfT U (am_ac g t) ty ∧ U.vm.findClass ("[" ++ ty.toString) = some (am_ac g t)
def am_Cx (g : am_G) (p : Program) (s : State) (mid : MethodId) (args : Array Value) (meth : Method) (c : Code) (m : Nat) : Prop :=
  p.tables.exec = Jvm.exec ∧ c.code = am_b m ∧ meth.sig.returnType = am_r m ∧ c.maxLocals = am_mL m ∧ s.vm.findClass (am_y m).cls = some mid.cls ∧ ((am_y m).name = "<init>" → meth.name = "<init>") ∧ meth.locks = false ∧ (∀ w ∈ lw_tbl, w.before args s = true) ∧ am_Sy g s ∧ am_base g ≤ s.heap.size
def am_Lr (g : am_G) (ls : Array Slot) (n : Nat) (L : am_L) : Prop := ls.size = n ∧ lv_wf ls ∧ L.length = n ∧ ∀ (i : Nat) (v : Value), L[i]? = some (some v) → v.category = 1 ∧ ls[i]? = some (.val (am_v g v))
/-- the j-th instruction ends the method with r -/
def am_rt (m j : Nat) : Option Value → Prop
  | none => decode (am_b m) (am_pc m j) = .ok (.return_, 1) ∧ am_r m = none
  | some (.int x) => decode (am_b m) (am_pc m j) = .ok (.ireturn, 1) ∧ (am_r m = some .int ∨ am_r m = some .boolean ∧ (x = 0 ∨ x = 1))
  | _ => False
def am_rs (g : am_G) (r : Option Value) : List Value := (r.map (am_v g)).toList
def AW (g : am_G) (d nc ns m i : Nat) (L : am_L) (st : List Value) (M : am_M) (K : am_K) : Prop :=
  ∀ (p : Program) (e : Env) (R : Room) (s : State) (mid : MethodId) (args : Array Value) (below : List Frame) (meth : Method) (c : Code) (H : Heap) (locs : List Loc) (cells slots : Nat) (Q : State → Prop) (ls : Array Slot),
    am_Cx g p s mid args meth c m → d ≤ R.frames → 40 * d ≤ R.locals → cells + nc ≤ R.cells → slots + ns ≤ R.slots → am_H g s M H → va_S (am_A g) s.heap H locs → am_Lr g ls (am_mL m) L →
    (∀ (r : Option Value) (M' : am_M) (H' : Heap) (locs' : List Loc) (cells' slots' j : Nat) (ls' : Array Slot), K r M' → am_H g s M' H' → va_S (am_A g) s.heap H' locs' → cells' ≤ R.cells → slots' ≤ R.slots → am_rt m j r → W p g.1 e R s mid args below meth c H' locs' cells' slots' Q (F0 mid (am_pc m j) ls' (am_rs g r))) →
    W p g.1 e R s mid args below meth c H locs cells slots Q (F0 mid (am_pc m i) ls (st.map (am_v g)))
theorem am_dec {m i : Nat} {ins : Instr} {pc a b : Nat} {v : Int32} {ws : List Nat} (h : am_op m i = some (ins, pc, a, b, v, ws)) : decode (am_b m) (am_pc m i) = .ok (ins, am_ln (am_pc m i) ins) ∧ am_cx m i ins (am_pc m i) a b v ws = true := by
  have hp : am_pc m i = pc := by unfold am_pc; rw [h]
  have hc := am_cko h
  unfold am_ck at hc
  rw [Bool.and_eq_true, decide_eq_true_eq] at hc
  rw [hp]
  exact hc
theorem am_word {k : Nat} {w : Cond} {args : Array Value} {s : State} (hts : ∀ w ∈ lw_tbl, w.before args s = true) (h : am_w k w = true) : w.before args s = true := hts w (List.mem_of_getElem? (of_decide_eq_true h))
theorem am_wmem {k : Nat} {w : Cond} (h : am_w k w = true) : w ∈ lw_tbl := List.mem_of_getElem? (of_decide_eq_true h)
theorem am_kd_at {a : Nat} (h : a < am_cl.length) : am_cl[a]? = some ((am_kd a).1, (am_kd a).2.1, (am_kd a).2.2) := by
  unfold am_kd
  rw [List.getD_eq_getElem?_getD, List.getElem?_eq_getElem h]
  rfl
theorem am_cat {g : am_G} {v : Value} (h : v.category = 1) : (am_v g v).category = 1 := by
  cases v <;> first | rfl | exact h
section AMR
variable {g : am_G} {d nc ns m i : Nat} {L : am_L} {st : List Value} {M : am_M} {K : am_K} {pc a b : Nat} {v : Int32} {ws : List Nat}
theorem am_lift {j : Nat} {st' : List Value} (hW : ∀ {p : Program} {e : Env} {R : Room} {s : State} {mid : MethodId} {args : Array Value} {below : List Frame} {meth : Method} {c : Code} {H : Heap} {locs : List Loc} {cells slots : Nat} {Q : State → Prop} {ls : Array Slot}, am_Cx g p s mid args meth c m → am_Lr g ls (am_mL m) L → am_H g s M H → va_S (am_A g) s.heap H locs →
    W p g.1 e R s mid args below meth c H locs cells slots Q (F0 mid (am_pc m j) ls (st'.map (am_v g))) → W p g.1 e R s mid args below meth c H locs cells slots Q (F0 mid (am_pc m i) ls (st.map (am_v g)))) (k : AW g d nc ns m j L st' M K) : AW g d nc ns m i L st M K :=
  fun p e R s mid args below meth c H locs cells slots Q ls C h1 h2 h3 h4 hH hS hL hQ => hW C hL hH hS (k p e R s mid args below meth c H locs cells slots Q ls C h1 h2 h3 h4 hH hS hL hQ)
theorem am_eqp {j : Nat} {L' : am_L} {st' : List Value} {M' : am_M} (h1 : L = L') (h2 : st = st') (h3 : M = M') (k : AW g d nc ns m i L' st' M' K) : AW g d nc ns m i L st M K := by subst h1; subst h2; subst h3; exact k
theorem am_mono {d' nc' ns' : Nat} {K' : am_K} (hd : d ≤ d') (hn : nc ≤ nc') (hs : ns ≤ ns') (hK : ∀ r M, K r M → K' r M) (k : AW g d nc ns m i L st M K) : AW g d' nc' ns' m i L st M K' :=
  fun p e R s mid args below meth c H locs cells slots Q ls C h1 h2 h3 h4 hH hS hL hQ => k p e R s mid args below meth c H locs cells slots Q ls C (Nat.le_trans hd h1) (Nat.le_trans (Nat.mul_le_mul_left 40 hd) h2) (by omega) (by omega) hH hS hL (fun r M' H' locs' cells' slots' j ls' hk => hQ r M' H' locs' cells' slots' j ls' (hK r M' hk))
-- constants
theorem am_null (h : am_op m i = some (.aconst_null, pc, a, b, v, ws)) (k : AW g d nc ns m (i + 1) L (.null :: st) M K) : AW g d nc ns m i L st M K := by
  obtain ⟨hd, hx⟩ := am_dec h
  have hn : am_pc m (i + 1) = am_pc m i + 1 := by simpa [am_cx] using hx
  refine am_lift (fun C _ _ _ w => ?_) k
  rw [hn] at w
  exact lv_null C.1 C.2.1 hd w
theorem am_iconst {n : Int} (h : am_op m i = some (.iconst n, pc, a, b, v, ws)) (k : AW g d nc ns m (i + 1) L (.int v :: st) M K) : AW g d nc ns m i L st M K := by
  obtain ⟨hd, hx⟩ := am_dec h
  simp only [am_cx, Bool.and_eq_true, beq_iff_eq, decide_eq_true_eq] at hx
  refine am_lift (fun C _ _ _ w => ?_) k
  rw [hx.1] at w
  exact lv_iconst C.1 C.2.1 hd hx.2 w
theorem am_bipush {n : Int} (h : am_op m i = some (.bipush n, pc, a, b, v, ws)) (k : AW g d nc ns m (i + 1) L (.int v :: st) M K) : AW g d nc ns m i L st M K := by
  obtain ⟨hd, hx⟩ := am_dec h
  simp only [am_cx, Bool.and_eq_true, beq_iff_eq, decide_eq_true_eq] at hx
  refine am_lift (fun C _ _ _ w => ?_) k
  rw [hx.1] at w
  exact lv_bipush C.1 C.2.1 hd hx.2 w
theorem am_sipush {n : Int} (h : am_op m i = some (.sipush n, pc, a, b, v, ws)) (k : AW g d nc ns m (i + 1) L (.int v :: st) M K) : AW g d nc ns m i L st M K := by
  obtain ⟨hd, hx⟩ := am_dec h
  simp only [am_cx, Bool.and_eq_true, beq_iff_eq, decide_eq_true_eq] at hx
  refine am_lift (fun C _ _ _ w => ?_) k
  rw [hx.1] at w
  exact lv_sipush C.1 C.2.1 hd hx.2 w
theorem am_ldc {n : Nat} (h : am_op m i = some (.ldc n, pc, a, b, v, ws)) (k : AW g d nc ns m (i + 1) L (.int v :: st) M K) : AW g d nc ns m i L st M K := by
  obtain ⟨hd, hx⟩ := am_dec h
  simp only [am_cx, Bool.and_eq_true, beq_iff_eq] at hx
  refine am_lift (fun C _ _ _ w => ?_) k
  rw [hx.1] at w
  exact lv_ldc C.1 C.2.1 C.2.2.2.2.1 (am_word C.2.2.2.2.2.2.2.1 hx.2) hd w
-- locals
theorem am_iload_n {k9 : Fin 4} {x : Int32} (h : am_op m i = some (.iload_n k9, pc, a, b, v, ws)) (hl : L[a]? = some (some (.int x))) (k : AW g d nc ns m (i + 1) L (.int x :: st) M K) : AW g d nc ns m i L st M K := by
  obtain ⟨hd, hx⟩ := am_dec h
  simp only [am_cx, Bool.and_eq_true, beq_iff_eq] at hx
  refine am_lift (fun C hL _ _ w => ?_) k
  rw [hx.1] at w
  exact lv_iload_n C.1 C.2.1 hd hx.2 (hL.2.2.2 a _ hl).2 w
theorem am_iload {k9 : Nat} {x : Int32} (h : am_op m i = some (.iload k9, pc, a, b, v, ws)) (hl : L[a]? = some (some (.int x))) (k : AW g d nc ns m (i + 1) L (.int x :: st) M K) : AW g d nc ns m i L st M K := by
  obtain ⟨hd, hx⟩ := am_dec h
  simp only [am_cx, Bool.and_eq_true, beq_iff_eq] at hx
  obtain ⟨hn, rfl⟩ := hx
  refine am_lift (fun C hL _ _ w => ?_) k
  rw [hn] at w
  exact lv_iload C.1 C.2.1 hd (hL.2.2.2 _ _ hl).2 w
theorem am_aload_n {k9 : Fin 4} {o : Value} (h : am_op m i = some (.aload_n k9, pc, a, b, v, ws)) (hl : L[a]? = some (some o)) (ho : (match o with | .ref _ | .null | .retAddr _ => true | _ => false) = true) (k : AW g d nc ns m (i + 1) L (o :: st) M K) : AW g d nc ns m i L st M K := by
  obtain ⟨hd, hx⟩ := am_dec h
  simp only [am_cx, Bool.and_eq_true, beq_iff_eq] at hx
  refine am_lift (fun C hL _ _ w => ?_) k
  rw [hx.1] at w
  have hl2 := (hL.2.2.2 a _ hl).2
  cases o with
  | ref z => exact lv_aload_n C.1 C.2.1 hd hx.2 hl2 w
  | retAddr z => exact lv_aload_n C.1 C.2.1 hd hx.2 hl2 w
  | null => exact lv_aload_nN C.1 C.2.1 hd hx.2 hl2 w
  | _ => cases ho
theorem am_aload {k9 : Nat} {o : Value} (h : am_op m i = some (.aload k9, pc, a, b, v, ws)) (hl : L[a]? = some (some o)) (ho : (match o with | .ref _ | .null | .retAddr _ => true | _ => false) = true) (k : AW g d nc ns m (i + 1) L (o :: st) M K) : AW g d nc ns m i L st M K := by
  obtain ⟨hd, hx⟩ := am_dec h
  simp only [am_cx, Bool.and_eq_true, beq_iff_eq] at hx
  obtain ⟨hn, rfl⟩ := hx
  refine am_lift (fun C hL _ _ w => ?_) k
  rw [hn] at w
  have hl2 := (hL.2.2.2 _ _ hl).2
  cases o with
  | ref z => exact lv_aload C.1 C.2.1 hd hl2 w
  | retAddr z => exact lv_aload C.1 C.2.1 hd hl2 w
  | null => exact lv_aloadN C.1 C.2.1 hd hl2 w
  | _ => cases ho
end AMR
/-- the locals that are set, by their places -/
def am_ll (g : am_G) : Nat → am_L → List (Nat × Value)
  | _, [] => []
  | k, none :: L => am_ll g (k + 1) L
  | k, some v :: L => (k, am_v g v) :: am_ll g (k + 1) L
theorem am_ll_of {g : am_G} : ∀ (L : am_L) (k i : Nat) (v : Value), L[i]? = some (some v) → (k + i, am_v g v) ∈ am_ll g k L
  | [], k, i, v, h => by simp at h
  | none :: L, k, 0, v, h => by simp at h
  | some w :: L, k, 0, v, h => by
    simp at h
    subst h
    exact List.mem_cons_self
  | none :: L, k, i + 1, v, h => by
    rw [List.getElem?_cons_succ] at h
    have := am_ll_of (g := g) L (k + 1) i v h
    rw [show k + (i + 1) = k + 1 + i by omega]
    exact this
  | some w :: L, k, i + 1, v, h => by
    rw [List.getElem?_cons_succ] at h
    have := am_ll_of (g := g) L (k + 1) i v h
    rw [show k + (i + 1) = k + 1 + i by omega]
    exact List.mem_cons_of_mem _ this
theorem am_ll_to {g : am_G} : ∀ (L : am_L) (k : Nat) (q : Nat × Value), q ∈ am_ll g k L → ∃ (i : Nat) (v : Value), L[i]? = some (some v) ∧ q = (k + i, am_v g v)
  | [], k, q, h => by cases h
  | none :: L, k, q, h => by
    obtain ⟨i, v, h1, h2⟩ := am_ll_to L (k + 1) q h
    exact ⟨i + 1, v, by rw [List.getElem?_cons_succ]; exact h1, by rw [h2, show k + 1 + i = k + (i + 1) by omega]⟩
  | some w :: L, k, q, h => by
    rcases List.mem_cons.mp h with h | h
    · exact ⟨0, w, rfl, h⟩
    · obtain ⟨i, v, h1, h2⟩ := am_ll_to L (k + 1) q h
      exact ⟨i + 1, v, by rw [List.getElem?_cons_succ]; exact h1, by rw [h2, show k + 1 + i = k + (i + 1) by omega]⟩
theorem am_Lr.has {g : am_G} {ls : Array Slot} {n : Nat} {L : am_L} (h : am_Lr g ls n L) : lv_has ls n (am_ll g 0 L) := by
  refine ⟨h.1, h.2.1, fun q hq => ?_⟩
  obtain ⟨i, v, h1, rfl⟩ := am_ll_to L 0 q hq
  rw [Nat.zero_add]
  exact (h.2.2.2 i v h1).2
theorem am_Lr.store {g : am_G} {ls ls' : Array Slot} {n a : Nat} {L : am_L} {v : Value} (h : am_Lr g ls n L) (hv : v.category = 1) (ha : a < n)
    (h' : lv_has ls' n ((a, am_v g v) :: (am_ll g 0 L).filter (fun q => !(q.1 == a) && !(q.1 + 1 == a && q.2.category == 2)))) : am_Lr g ls' n (L.set a (some v)) := by
  refine ⟨h'.1, h'.2.1, by rw [List.length_set]; exact h.2.2.1, fun i w hw => ?_⟩
  by_cases hi : a = i
  · subst hi
    rw [List.getElem?_set_self (by rw [h.2.2.1]; exact ha)] at hw
    simp at hw
    subst hw
    exact ⟨hv, h'.2.2 _ List.mem_cons_self⟩
  · rw [List.getElem?_set_ne hi] at hw
    have hc := (h.2.2.2 i w hw).1
    refine ⟨hc, h'.2.2 (i, am_v g w) (List.mem_cons_of_mem _ (List.mem_filter.mpr ⟨?_, ?_⟩))⟩
    · have := am_ll_of (g := g) L 0 i w hw
      rwa [Nat.zero_add] at this
    · have hc2 := am_cat (g := g) hc
      have h2 : ¬ i = a := fun q => hi q.symm
      simp [h2, hc2]
section AMS
variable {g : am_G} {d nc ns m i : Nat} {L : am_L} {st : List Value} {M : am_M} {K : am_K} {pc a b : Nat} {v : Int32} {ws : List Nat}
theorem am_istore_n {k9 : Fin 4} {x : Int32} (h : am_op m i = some (.istore_n k9, pc, a, b, v, ws)) (k : AW g d nc ns m (i + 1) (L.set a (some (.int x))) st M K) : AW g d nc ns m i L (.int x :: st) M K := by
  obtain ⟨hd, hx⟩ := am_dec h
  simp only [am_cx, Bool.and_eq_true, beq_iff_eq, decide_eq_true_eq] at hx
  intro p e R s mid args below meth c H locs cells slots Q ls C h1 h2 h3 h4 hH hS hL hQ
  refine lv_istore_n C.1 C.2.1 hd hx.1.2 hL.has hx.2 rfl (fun ls' h' => ?_)
  rw [← hx.1.1]
  exact k p e R s mid args below meth c H locs cells slots Q ls' C h1 h2 h3 h4 hH hS (hL.store (v := .int x) rfl hx.2 h') hQ
theorem am_istore {k9 : Nat} {x : Int32} (h : am_op m i = some (.istore k9, pc, a, b, v, ws)) (k : AW g d nc ns m (i + 1) (L.set a (some (.int x))) st M K) : AW g d nc ns m i L (.int x :: st) M K := by
  obtain ⟨hd, hx⟩ := am_dec h
  simp only [am_cx, Bool.and_eq_true, beq_iff_eq, decide_eq_true_eq] at hx
  obtain ⟨⟨hn, rfl⟩, ha⟩ := hx
  intro p e R s mid args below meth c H locs cells slots Q ls C h1 h2 h3 h4 hH hS hL hQ
  refine lv_istore C.1 C.2.1 hd hL.has ha rfl (fun ls' h' => ?_)
  rw [← hn]
  exact k p e R s mid args below meth c H locs cells slots Q ls' C h1 h2 h3 h4 hH hS (hL.store (v := .int x) rfl ha h') hQ
theorem am_astore_n {k9 : Fin 4} {o : Nat} (h : am_op m i = some (.astore_n k9, pc, a, b, v, ws)) (k : AW g d nc ns m (i + 1) (L.set a (some (.ref o))) st M K) : AW g d nc ns m i L (.ref o :: st) M K := by
  obtain ⟨hd, hx⟩ := am_dec h
  simp only [am_cx, Bool.and_eq_true, beq_iff_eq, decide_eq_true_eq] at hx
  intro p e R s mid args below meth c H locs cells slots Q ls C h1 h2 h3 h4 hH hS hL hQ
  refine lv_astore_n C.1 C.2.1 hd hx.1.2 hL.has hx.2 rfl (fun ls' h' => ?_)
  rw [← hx.1.1]
  exact k p e R s mid args below meth c H locs cells slots Q ls' C h1 h2 h3 h4 hH hS (hL.store (v := .ref o) rfl hx.2 h') hQ
theorem am_iinc {k9 : Nat} {n : Int} {x : Int32} (h : am_op m i = some (.iinc k9 n, pc, a, b, v, ws)) (hl : L[a]? = some (some (.int x))) (k : AW g d nc ns m (i + 1) (L.set a (some (.int (x + v)))) st M K) : AW g d nc ns m i L st M K := by
  obtain ⟨hd, hx⟩ := am_dec h
  simp only [am_cx, Bool.and_eq_true, beq_iff_eq, decide_eq_true_eq] at hx
  obtain ⟨⟨⟨hn, rfl⟩, ha⟩, rfl⟩ := hx
  intro p e R s mid args below meth c H locs cells slots Q ls C h1 h2 h3 h4 hH hS hL hQ
  have hm := am_ll_of (g := g) L 0 _ _ hl
  rw [Nat.zero_add] at hm
  obtain ⟨k8, hk8⟩ := List.getElem?_of_mem hm
  refine lv_iinc C.1 C.2.1 hd hL.has hk8 rfl ha rfl (fun ls' h' => ?_)
  rw [← hn]
  exact k p e R s mid args below meth c H locs cells slots Q ls' C h1 h2 h3 h4 hH hS (hL.store (v := .int _) rfl ha h') hQ
end AMS
end
section
/-! rows of the abstract machine: stack, arithmetic, branches (written by a program) -/
section AMB
variable {g : am_G} {d nc ns m i : Nat} {L : am_L} {st : List Value} {M : am_M} {K : am_K} {pc a b : Nat} {v : Int32} {ws : List Nat}
theorem am_iadd {x y : Int32} (h : am_op m i = some (.iadd, pc, a, b, v, ws)) (k : AW g d nc ns m (i + 1) L (.int (x + y) :: st) M K) : AW g d nc ns m i L (.int y :: .int x :: st) M K := by
  obtain ⟨hd, hx⟩ := am_dec h
  have hn : am_pc m (i + 1) = am_pc m i + 1 := by simpa [am_cx] using hx
  refine am_lift (fun C _ _ _ w => ?_) k
  rw [hn] at w
  exact lv_iadd C.1 C.2.1 hd w
theorem am_isub {x y : Int32} (h : am_op m i = some (.isub, pc, a, b, v, ws)) (k : AW g d nc ns m (i + 1) L (.int (x - y) :: st) M K) : AW g d nc ns m i L (.int y :: .int x :: st) M K := by
  obtain ⟨hd, hx⟩ := am_dec h
  have hn : am_pc m (i + 1) = am_pc m i + 1 := by simpa [am_cx] using hx
  refine am_lift (fun C _ _ _ w => ?_) k
  rw [hn] at w
  exact lv_isub C.1 C.2.1 hd w
theorem am_imul {x y : Int32} (h : am_op m i = some (.imul, pc, a, b, v, ws)) (k : AW g d nc ns m (i + 1) L (.int (x * y) :: st) M K) : AW g d nc ns m i L (.int y :: .int x :: st) M K := by
  obtain ⟨hd, hx⟩ := am_dec h
  have hn : am_pc m (i + 1) = am_pc m i + 1 := by simpa [am_cx] using hx
  refine am_lift (fun C _ _ _ w => ?_) k
  rw [hn] at w
  exact lv_imul C.1 C.2.1 hd w
theorem am_iand {x y : Int32} (h : am_op m i = some (.iand, pc, a, b, v, ws)) (k : AW g d nc ns m (i + 1) L (.int (x &&& y) :: st) M K) : AW g d nc ns m i L (.int y :: .int x :: st) M K := by
  obtain ⟨hd, hx⟩ := am_dec h
  have hn : am_pc m (i + 1) = am_pc m i + 1 := by simpa [am_cx] using hx
  refine am_lift (fun C _ _ _ w => ?_) k
  rw [hn] at w
  exact lv_iand C.1 C.2.1 hd w
theorem am_ixor {x y : Int32} (h : am_op m i = some (.ixor, pc, a, b, v, ws)) (k : AW g d nc ns m (i + 1) L (.int (x ^^^ y) :: st) M K) : AW g d nc ns m i L (.int y :: .int x :: st) M K := by
  obtain ⟨hd, hx⟩ := am_dec h
  have hn : am_pc m (i + 1) = am_pc m i + 1 := by simpa [am_cx] using hx
  refine am_lift (fun C _ _ _ w => ?_) k
  rw [hn] at w
  exact lv_ixor C.1 C.2.1 hd w
theorem am_ishr {x y : Int32} (h : am_op m i = some (.ishr, pc, a, b, v, ws)) (k : AW g d nc ns m (i + 1) L (.int (x >>> (y &&& 31)) :: st) M K) : AW g d nc ns m i L (.int y :: .int x :: st) M K := by
  obtain ⟨hd, hx⟩ := am_dec h
  have hn : am_pc m (i + 1) = am_pc m i + 1 := by simpa [am_cx] using hx
  refine am_lift (fun C _ _ _ w => ?_) k
  rw [hn] at w
  exact lv_ishr C.1 C.2.1 hd w
theorem am_irem {x y : Int32} (h : am_op m i = some (.irem, pc, a, b, v, ws)) (hy : ¬ y = 0) (k : AW g d nc ns m (i + 1) L (.int (x - x / y * y) :: st) M K) : AW g d nc ns m i L (.int y :: .int x :: st) M K := by
  obtain ⟨hd, hx⟩ := am_dec h
  have hn : am_pc m (i + 1) = am_pc m i + 1 := by simpa [am_cx] using hx
  refine am_lift (fun C _ _ _ w => ?_) k
  rw [hn] at w
  exact lv_irem C.1 C.2.1 hd hy w
theorem am_dup {u : Value} (h : am_op m i = some (.dup, pc, a, b, v, ws)) (hu : u.category = 1) (k : AW g d nc ns m (i + 1) L (u :: u :: st) M K) : AW g d nc ns m i L (u :: st) M K := by
  obtain ⟨hd, hx⟩ := am_dec h
  have hn : am_pc m (i + 1) = am_pc m i + 1 := by simpa [am_cx] using hx
  refine am_lift (fun C _ _ _ w => ?_) k
  rw [hn] at w
  exact lv_dup C.1 C.2.1 hd (am_cat hu) w
theorem am_pop {u : Value} (h : am_op m i = some (.pop, pc, a, b, v, ws)) (hu : u.category = 1) (k : AW g d nc ns m (i + 1) L st M K) : AW g d nc ns m i L (u :: st) M K := by
  obtain ⟨hd, hx⟩ := am_dec h
  have hn : am_pc m (i + 1) = am_pc m i + 1 := by simpa [am_cx] using hx
  refine am_lift (fun C _ _ _ w => ?_) k
  rw [hn] at w
  exact lv_pop C.1 C.2.1 hd (am_cat hu) w
theorem am_dup2 {u w9 : Value} (h : am_op m i = some (.dup2, pc, a, b, v, ws)) (hu : u.category = 1) (hw : w9.category = 1) (k : AW g d nc ns m (i + 1) L (u :: w9 :: u :: w9 :: st) M K) : AW g d nc ns m i L (u :: w9 :: st) M K := by
  obtain ⟨hd, hx⟩ := am_dec h
  have hn : am_pc m (i + 1) = am_pc m i + 1 := by simpa [am_cx] using hx
  refine am_lift (fun C _ _ _ w => ?_) k
  rw [hn] at w
  exact lv_dup2_11 C.1 C.2.1 hd (am_cat hu) (am_cat hw) w
theorem am_goto {off : Int} (h : am_op m i = some (.goto off, pc, a, b, v, ws)) (k : AW g d nc ns m a L st M K) : AW g d nc ns m i L st M K := by
  obtain ⟨hd, hx⟩ := am_dec h
  have hn : ((am_pc m i : Nat) : Int) + off = ((am_pc m a : Nat) : Int) := by simpa [am_cx] using hx
  refine am_lift (fun C _ _ _ w => ?_) k
  exact lv_goto C.1 C.2.1 hd hn w
theorem am_if_eq {x : Int32} {off : Int} (h : am_op m i = some (.ifCond .eq off, pc, a, b, v, ws)) (kt : x = 0 → AW g d nc ns m a L st M K) (kf : ¬ x = 0 → AW g d nc ns m (i + 1) L st M K) : AW g d nc ns m i L (.int x :: st) M K := by
  obtain ⟨hd, hx⟩ := am_dec h
  simp only [am_cx, Bool.and_eq_true, beq_iff_eq, decide_eq_true_eq] at hx
  intro p e R s mid args below meth c H locs cells slots Q ls C h1 h2 h3 h4 hH hS hL hQ
  refine lv_if_eq C.1 C.2.1 hd hx.2 (fun q => ?_) (fun q => ?_)
  · exact kt q p e R s mid args below meth c H locs cells slots Q ls C h1 h2 h3 h4 hH hS hL hQ
  · rw [← hx.1]
    exact kf q p e R s mid args below meth c H locs cells slots Q ls C h1 h2 h3 h4 hH hS hL hQ
theorem am_icmp_eq {x y : Int32} {off : Int} (h : am_op m i = some (.if_icmp .eq off, pc, a, b, v, ws)) (kt : x = y → AW g d nc ns m a L st M K) (kf : ¬ x = y → AW g d nc ns m (i + 1) L st M K) : AW g d nc ns m i L (.int y :: .int x :: st) M K := by
  obtain ⟨hd, hx⟩ := am_dec h
  simp only [am_cx, Bool.and_eq_true, beq_iff_eq, decide_eq_true_eq] at hx
  intro p e R s mid args below meth c H locs cells slots Q ls C h1 h2 h3 h4 hH hS hL hQ
  refine lv_icmp_eq C.1 C.2.1 hd hx.2 (fun q => ?_) (fun q => ?_)
  · exact kt q p e R s mid args below meth c H locs cells slots Q ls C h1 h2 h3 h4 hH hS hL hQ
  · rw [← hx.1]
    exact kf q p e R s mid args below meth c H locs cells slots Q ls C h1 h2 h3 h4 hH hS hL hQ
theorem am_if_ne {x : Int32} {off : Int} (h : am_op m i = some (.ifCond .ne off, pc, a, b, v, ws)) (kt : ¬ x = 0 → AW g d nc ns m a L st M K) (kf : x = 0 → AW g d nc ns m (i + 1) L st M K) : AW g d nc ns m i L (.int x :: st) M K := by
  obtain ⟨hd, hx⟩ := am_dec h
  simp only [am_cx, Bool.and_eq_true, beq_iff_eq, decide_eq_true_eq] at hx
  intro p e R s mid args below meth c H locs cells slots Q ls C h1 h2 h3 h4 hH hS hL hQ
  refine lv_if_ne C.1 C.2.1 hd hx.2 (fun q => ?_) (fun q => ?_)
  · exact kt q p e R s mid args below meth c H locs cells slots Q ls C h1 h2 h3 h4 hH hS hL hQ
  · rw [← hx.1]
    exact kf q p e R s mid args below meth c H locs cells slots Q ls C h1 h2 h3 h4 hH hS hL hQ
theorem am_icmp_ne {x y : Int32} {off : Int} (h : am_op m i = some (.if_icmp .ne off, pc, a, b, v, ws)) (kt : ¬ x = y → AW g d nc ns m a L st M K) (kf : x = y → AW g d nc ns m (i + 1) L st M K) : AW g d nc ns m i L (.int y :: .int x :: st) M K := by
  obtain ⟨hd, hx⟩ := am_dec h
  simp only [am_cx, Bool.and_eq_true, beq_iff_eq, decide_eq_true_eq] at hx
  intro p e R s mid args below meth c H locs cells slots Q ls C h1 h2 h3 h4 hH hS hL hQ
  refine lv_icmp_ne C.1 C.2.1 hd hx.2 (fun q => ?_) (fun q => ?_)
  · exact kt q p e R s mid args below meth c H locs cells slots Q ls C h1 h2 h3 h4 hH hS hL hQ
  · rw [← hx.1]
    exact kf q p e R s mid args below meth c H locs cells slots Q ls C h1 h2 h3 h4 hH hS hL hQ
theorem am_if_lt {x : Int32} {off : Int} (h : am_op m i = some (.ifCond .lt off, pc, a, b, v, ws)) (kt : x < 0 → AW g d nc ns m a L st M K) (kf : ¬ x < 0 → AW g d nc ns m (i + 1) L st M K) : AW g d nc ns m i L (.int x :: st) M K := by
  obtain ⟨hd, hx⟩ := am_dec h
  simp only [am_cx, Bool.and_eq_true, beq_iff_eq, decide_eq_true_eq] at hx
  intro p e R s mid args below meth c H locs cells slots Q ls C h1 h2 h3 h4 hH hS hL hQ
  refine lv_if_lt C.1 C.2.1 hd hx.2 (fun q => ?_) (fun q => ?_)
  · exact kt q p e R s mid args below meth c H locs cells slots Q ls C h1 h2 h3 h4 hH hS hL hQ
  · rw [← hx.1]
    exact kf q p e R s mid args below meth c H locs cells slots Q ls C h1 h2 h3 h4 hH hS hL hQ
theorem am_icmp_lt {x y : Int32} {off : Int} (h : am_op m i = some (.if_icmp .lt off, pc, a, b, v, ws)) (kt : x < y → AW g d nc ns m a L st M K) (kf : ¬ x < y → AW g d nc ns m (i + 1) L st M K) : AW g d nc ns m i L (.int y :: .int x :: st) M K := by
  obtain ⟨hd, hx⟩ := am_dec h
  simp only [am_cx, Bool.and_eq_true, beq_iff_eq, decide_eq_true_eq] at hx
  intro p e R s mid args below meth c H locs cells slots Q ls C h1 h2 h3 h4 hH hS hL hQ
  refine lv_icmp_lt C.1 C.2.1 hd hx.2 (fun q => ?_) (fun q => ?_)
  · exact kt q p e R s mid args below meth c H locs cells slots Q ls C h1 h2 h3 h4 hH hS hL hQ
  · rw [← hx.1]
    exact kf q p e R s mid args below meth c H locs cells slots Q ls C h1 h2 h3 h4 hH hS hL hQ
theorem am_if_ge {x : Int32} {off : Int} (h : am_op m i = some (.ifCond .ge off, pc, a, b, v, ws)) (kt : 0 ≤ x → AW g d nc ns m a L st M K) (kf : ¬ 0 ≤ x → AW g d nc ns m (i + 1) L st M K) : AW g d nc ns m i L (.int x :: st) M K := by
  obtain ⟨hd, hx⟩ := am_dec h
  simp only [am_cx, Bool.and_eq_true, beq_iff_eq, decide_eq_true_eq] at hx
  intro p e R s mid args below meth c H locs cells slots Q ls C h1 h2 h3 h4 hH hS hL hQ
  refine lv_if_ge C.1 C.2.1 hd hx.2 (fun q => ?_) (fun q => ?_)
  · exact kt q p e R s mid args below meth c H locs cells slots Q ls C h1 h2 h3 h4 hH hS hL hQ
  · rw [← hx.1]
    exact kf q p e R s mid args below meth c H locs cells slots Q ls C h1 h2 h3 h4 hH hS hL hQ
theorem am_icmp_ge {x y : Int32} {off : Int} (h : am_op m i = some (.if_icmp .ge off, pc, a, b, v, ws)) (kt : y ≤ x → AW g d nc ns m a L st M K) (kf : ¬ y ≤ x → AW g d nc ns m (i + 1) L st M K) : AW g d nc ns m i L (.int y :: .int x :: st) M K := by
  obtain ⟨hd, hx⟩ := am_dec h
  simp only [am_cx, Bool.and_eq_true, beq_iff_eq, decide_eq_true_eq] at hx
  intro p e R s mid args below meth c H locs cells slots Q ls C h1 h2 h3 h4 hH hS hL hQ
  refine lv_icmp_ge C.1 C.2.1 hd hx.2 (fun q => ?_) (fun q => ?_)
  · exact kt q p e R s mid args below meth c H locs cells slots Q ls C h1 h2 h3 h4 hH hS hL hQ
  · rw [← hx.1]
    exact kf q p e R s mid args below meth c H locs cells slots Q ls C h1 h2 h3 h4 hH hS hL hQ
theorem am_if_gt {x : Int32} {off : Int} (h : am_op m i = some (.ifCond .gt off, pc, a, b, v, ws)) (kt : 0 < x → AW g d nc ns m a L st M K) (kf : ¬ 0 < x → AW g d nc ns m (i + 1) L st M K) : AW g d nc ns m i L (.int x :: st) M K := by
  obtain ⟨hd, hx⟩ := am_dec h
  simp only [am_cx, Bool.and_eq_true, beq_iff_eq, decide_eq_true_eq] at hx
  intro p e R s mid args below meth c H locs cells slots Q ls C h1 h2 h3 h4 hH hS hL hQ
  refine lv_if_gt C.1 C.2.1 hd hx.2 (fun q => ?_) (fun q => ?_)
  · exact kt q p e R s mid args below meth c H locs cells slots Q ls C h1 h2 h3 h4 hH hS hL hQ
  · rw [← hx.1]
    exact kf q p e R s mid args below meth c H locs cells slots Q ls C h1 h2 h3 h4 hH hS hL hQ
theorem am_icmp_gt {x y : Int32} {off : Int} (h : am_op m i = some (.if_icmp .gt off, pc, a, b, v, ws)) (kt : y < x → AW g d nc ns m a L st M K) (kf : ¬ y < x → AW g d nc ns m (i + 1) L st M K) : AW g d nc ns m i L (.int y :: .int x :: st) M K := by
  obtain ⟨hd, hx⟩ := am_dec h
  simp only [am_cx, Bool.and_eq_true, beq_iff_eq, decide_eq_true_eq] at hx
  intro p e R s mid args below meth c H locs cells slots Q ls C h1 h2 h3 h4 hH hS hL hQ
  refine lv_icmp_gt C.1 C.2.1 hd hx.2 (fun q => ?_) (fun q => ?_)
  · exact kt q p e R s mid args below meth c H locs cells slots Q ls C h1 h2 h3 h4 hH hS hL hQ
  · rw [← hx.1]
    exact kf q p e R s mid args below meth c H locs cells slots Q ls C h1 h2 h3 h4 hH hS hL hQ
theorem am_if_le {x : Int32} {off : Int} (h : am_op m i = some (.ifCond .le off, pc, a, b, v, ws)) (kt : x ≤ 0 → AW g d nc ns m a L st M K) (kf : ¬ x ≤ 0 → AW g d nc ns m (i + 1) L st M K) : AW g d nc ns m i L (.int x :: st) M K := by
  obtain ⟨hd, hx⟩ := am_dec h
  simp only [am_cx, Bool.and_eq_true, beq_iff_eq, decide_eq_true_eq] at hx
  intro p e R s mid args below meth c H locs cells slots Q ls C h1 h2 h3 h4 hH hS hL hQ
  refine lv_if_le C.1 C.2.1 hd hx.2 (fun q => ?_) (fun q => ?_)
  · exact kt q p e R s mid args below meth c H locs cells slots Q ls C h1 h2 h3 h4 hH hS hL hQ
  · rw [← hx.1]
    exact kf q p e R s mid args below meth c H locs cells slots Q ls C h1 h2 h3 h4 hH hS hL hQ
theorem am_icmp_le {x y : Int32} {off : Int} (h : am_op m i = some (.if_icmp .le off, pc, a, b, v, ws)) (kt : x ≤ y → AW g d nc ns m a L st M K) (kf : ¬ x ≤ y → AW g d nc ns m (i + 1) L st M K) : AW g d nc ns m i L (.int y :: .int x :: st) M K := by
  obtain ⟨hd, hx⟩ := am_dec h
  simp only [am_cx, Bool.and_eq_true, beq_iff_eq, decide_eq_true_eq] at hx
  intro p e R s mid args below meth c H locs cells slots Q ls C h1 h2 h3 h4 hH hS hL hQ
  refine lv_icmp_le C.1 C.2.1 hd hx.2 (fun q => ?_) (fun q => ?_)
  · exact kt q p e R s mid args below meth c H locs cells slots Q ls C h1 h2 h3 h4 hH hS hL hQ
  · rw [← hx.1]
    exact kf q p e R s mid args below meth c H locs cells slots Q ls C h1 h2 h3 h4 hH hS hL hQ
theorem am_ifnull_r {o9 : Nat} {off : Int} (h : am_op m i = some (.ifnull off, pc, a, b, v, ws)) (k : AW g d nc ns m (i + 1) L st M K) : AW g d nc ns m i L (.ref o9 :: st) M K := by
  obtain ⟨hd, hx⟩ := am_dec h
  simp only [am_cx, Bool.and_eq_true, beq_iff_eq, decide_eq_true_eq] at hx
  refine am_lift (fun C _ _ _ w => ?_) k
  rw [hx.1] at w
  exact lv_ifnull C.1 C.2.1 hd w
theorem am_ifnull_n {off : Int} (h : am_op m i = some (.ifnull off, pc, a, b, v, ws)) (k : AW g d nc ns m a L st M K) : AW g d nc ns m i L (.null :: st) M K := by
  obtain ⟨hd, hx⟩ := am_dec h
  simp only [am_cx, Bool.and_eq_true, beq_iff_eq, decide_eq_true_eq] at hx
  refine am_lift (fun C _ _ _ w => ?_) k
  exact lv_ifnullN C.1 C.2.1 hd hx.2 w
theorem am_ifnonnull_r {o9 : Nat} {off : Int} (h : am_op m i = some (.ifnonnull off, pc, a, b, v, ws)) (k : AW g d nc ns m a L st M K) : AW g d nc ns m i L (.ref o9 :: st) M K := by
  obtain ⟨hd, hx⟩ := am_dec h
  simp only [am_cx, Bool.and_eq_true, beq_iff_eq, decide_eq_true_eq] at hx
  refine am_lift (fun C _ _ _ w => ?_) k
  exact lv_ifnonnull C.1 C.2.1 hd hx.2 w
theorem am_ifnonnull_n {off : Int} (h : am_op m i = some (.ifnonnull off, pc, a, b, v, ws)) (k : AW g d nc ns m (i + 1) L st M K) : AW g d nc ns m i L (.null :: st) M K := by
  obtain ⟨hd, hx⟩ := am_dec h
  simp only [am_cx, Bool.and_eq_true, beq_iff_eq, decide_eq_true_eq] at hx
  refine am_lift (fun C _ _ _ w => ?_) k
  rw [hx.1] at w
  exact lv_ifnonnullN C.1 C.2.1 hd w
theorem am_ireturn {x : Int32} (h : am_op m i = some (.ireturn, pc, a, b, v, ws)) (hr : am_r m = some .boolean → x = 0 ∨ x = 1) (k : K (some (.int x)) M) : AW g d nc ns m i L [.int x] M K := by
  obtain ⟨hd, hx⟩ := am_dec h
  simp only [am_cx, Bool.or_eq_true, decide_eq_true_eq] at hx
  intro p e R s mid args below meth c H locs cells slots Q ls C h1 h2 h3 h4 hH hS hL hQ
  exact hQ (some (.int x)) M H locs cells slots i ls k hH hS (by omega) (by omega) ⟨hd, hx.elim Or.inl (fun q => Or.inr ⟨q, hr q⟩)⟩
theorem am_return (h : am_op m i = some (.return_, pc, a, b, v, ws)) (k : K none M) : AW g d nc ns m i L [] M K := by
  obtain ⟨hd, hx⟩ := am_dec h
  simp only [am_cx, decide_eq_true_eq] at hx
  intro p e R s mid args below meth c H locs cells slots Q ls C h1 h2 h3 h4 hH hS hL hQ
  exact hQ none M H locs cells slots i ls k hH hS (by omega) (by omega) ⟨hd, hx⟩
end AMB
end
section
/-! rows of the abstract machine: fields and arrays -/
theorem am_lay0 : ∀ w ∈ u_ws am_R0 am_T0 4, w ∈ lw_tbl := by decide +kernel
theorem am_tok0 : ∀ k, k < 4 → parseFieldDescriptor (am_T0 k).2.2.1 = some (am_t0 k) := by decide +kernel
theorem am_nok0 : ∀ x, x < 4 → ∀ y, y < 4 → x ≠ y → (am_T0 x).2.1 ≠ (am_T0 y).2.1 := by decide +kernel
theorem am_lay1 : ∀ w ∈ u_ws am_R1 am_T1 8, w ∈ lw_tbl := by decide +kernel
theorem am_tok1 : ∀ k, k < 8 → parseFieldDescriptor (am_T1 k).2.2.1 = some (am_t1 k) := by decide +kernel
theorem am_nok1 : ∀ x, x < 8 → ∀ y, y < 8 → x ≠ y → (am_T1 x).2.1 ≠ (am_T1 y).2.1 := by decide +kernel
theorem am_lay2 : ∀ w ∈ u_ws am_R2 am_T2 6, w ∈ lw_tbl := by decide +kernel
theorem am_tok2 : ∀ k, k < 6 → parseFieldDescriptor (am_T2 k).2.2.1 = some (am_t2 k) := by decide +kernel
theorem am_nok2 : ∀ x, x < 6 → ∀ y, y < 6 → x ≠ y → (am_T2 x).2.1 ≠ (am_T2 y).2.1 := by decide +kernel
theorem am_lay3 : ∀ w ∈ u_ws am_R3 am_T3 0, w ∈ lw_tbl := by decide +kernel
theorem am_tok3 : ∀ k, k < 0 → parseFieldDescriptor (am_T3 k).2.2.1 = some (am_t3 k) := by decide +kernel
theorem am_nok3 : ∀ x, x < 0 → ∀ y, y < 0 → x ≠ y → (am_T3 x).2.1 ≠ (am_T3 y).2.1 := by decide +kernel
theorem am_lay4 : ∀ w ∈ u_ws am_R4 am_T4 0, w ∈ lw_tbl := by decide +kernel
theorem am_tok4 : ∀ k, k < 0 → parseFieldDescriptor (am_T4 k).2.2.1 = some (am_t4 k) := by decide +kernel
theorem am_nok4 : ∀ x, x < 0 → ∀ y, y < 0 → x ≠ y → (am_T4 x).2.1 ≠ (am_T4 y).2.1 := by decide +kernel
theorem am_lay5 : ∀ w ∈ u_ws am_R5 am_T5 0, w ∈ lw_tbl := by decide +kernel
theorem am_tok5 : ∀ k, k < 0 → parseFieldDescriptor (am_T5 k).2.2.1 = some (am_t5 k) := by decide +kernel
theorem am_nok5 : ∀ x, x < 0 → ∀ y, y < 0 → x ≠ y → (am_T5 x).2.1 ≠ (am_T5 y).2.1 := by decide +kernel
theorem am_lay6 : ∀ w ∈ u_ws am_R6 am_T6 0, w ∈ lw_tbl := by decide +kernel
theorem am_tok6 : ∀ k, k < 0 → parseFieldDescriptor (am_T6 k).2.2.1 = some (am_t6 k) := by decide +kernel
theorem am_nok6 : ∀ x, x < 0 → ∀ y, y < 0 → x ≠ y → (am_T6 x).2.1 ≠ (am_T6 y).2.1 := by decide +kernel
theorem am_lay7 : ∀ w ∈ u_ws am_R7 am_T7 0, w ∈ lw_tbl := by decide +kernel
theorem am_tok7 : ∀ k, k < 0 → parseFieldDescriptor (am_T7 k).2.2.1 = some (am_t7 k) := by decide +kernel
theorem am_nok7 : ∀ x, x < 0 → ∀ y, y < 0 → x ≠ y → (am_T7 x).2.1 ≠ (am_T7 y).2.1 := by decide +kernel
theorem am_lay8 : ∀ w ∈ u_ws am_R8 am_T8 0, w ∈ lw_tbl := by decide +kernel
theorem am_tok8 : ∀ k, k < 0 → parseFieldDescriptor (am_T8 k).2.2.1 = some (am_t8 k) := by decide +kernel
theorem am_nok8 : ∀ x, x < 0 → ∀ y, y < 0 → x ≠ y → (am_T8 x).2.1 ≠ (am_T8 y).2.1 := by decide +kernel
theorem am_lay9 : ∀ w ∈ u_ws am_R9 am_T9 0, w ∈ lw_tbl := by decide +kernel
theorem am_tok9 : ∀ k, k < 0 → parseFieldDescriptor (am_T9 k).2.2.1 = some (am_t9 k) := by decide +kernel
theorem am_nok9 : ∀ x, x < 0 → ∀ y, y < 0 → x ≠ y → (am_T9 x).2.1 ≠ (am_T9 y).2.1 := by decide +kernel
theorem am_lay10 : ∀ w ∈ u_ws am_R10 am_T10 0, w ∈ lw_tbl := by decide +kernel
theorem am_tok10 : ∀ k, k < 0 → parseFieldDescriptor (am_T10 k).2.2.1 = some (am_t10 k) := by decide +kernel
theorem am_nok10 : ∀ x, x < 0 → ∀ y, y < 0 → x ≠ y → (am_T10 x).2.1 ≠ (am_T10 y).2.1 := by decide +kernel
theorem am_lay11 : ∀ w ∈ u_ws am_R11 am_T11 19, w ∈ lw_tbl := by decide +kernel
theorem am_tok11 : ∀ k, k < 19 → parseFieldDescriptor (am_T11 k).2.2.1 = some (am_t11 k) := by decide +kernel
theorem am_nok11 : ∀ x, x < 19 → ∀ y, y < 19 → x ≠ y → (am_T11 x).2.1 ≠ (am_T11 y).2.1 := by decide +kernel
def am_ft (a : Nat) : Nat → FieldType := am_tl.getD a (fun _ => .int)
theorem am_lay : ∀ a : Nat, a < am_cl.length → ∀ w ∈ u_ws (am_kd a).1 (am_kd a).2.1 (am_kd a).2.2, w ∈ lw_tbl
  | 0, _ => am_lay0
  | 1, _ => am_lay1
  | 2, _ => am_lay2
  | 3, _ => am_lay3
  | 4, _ => am_lay4
  | 5, _ => am_lay5
  | 6, _ => am_lay6
  | 7, _ => am_lay7
  | 8, _ => am_lay8
  | 9, _ => am_lay9
  | 10, _ => am_lay10
  | 11, _ => am_lay11
  | n + 12, h => absurd h (by show ¬ n + 12 < 12; omega)
theorem am_tok : ∀ a : Nat, a < am_cl.length → ∀ k, k < (am_kd a).2.2 → parseFieldDescriptor ((am_kd a).2.1 k).2.2.1 = some (am_ft a k)
  | 0, _ => am_tok0
  | 1, _ => am_tok1
  | 2, _ => am_tok2
  | 3, _ => am_tok3
  | 4, _ => am_tok4
  | 5, _ => am_tok5
  | 6, _ => am_tok6
  | 7, _ => am_tok7
  | 8, _ => am_tok8
  | 9, _ => am_tok9
  | 10, _ => am_tok10
  | 11, _ => am_tok11
  | n + 12, h => absurd h (by show ¬ n + 12 < 12; omega)
theorem am_nok : ∀ a : Nat, a < am_cl.length → ∀ x, x < (am_kd a).2.2 → ∀ y, y < (am_kd a).2.2 → x ≠ y → ((am_kd a).2.1 x).2.1 ≠ ((am_kd a).2.1 y).2.1
  | 0, _ => am_nok0
  | 1, _ => am_nok1
  | 2, _ => am_nok2
  | 3, _ => am_nok3
  | 4, _ => am_nok4
  | 5, _ => am_nok5
  | 6, _ => am_nok6
  | 7, _ => am_nok7
  | 8, _ => am_nok8
  | 9, _ => am_nok9
  | 10, _ => am_nok10
  | 11, _ => am_nok11
  | n + 12, h => absurd h (by show ¬ n + 12 < 12; omega)
/-- may a value stand in a field or an array of the type -/
def am_fb : FieldType → Value → Bool
  | .int, .int _ => true
  | .boolean, .int x => decide (x = 0) || decide (x = 1)
  | .object _, .null | .object _, .ref _ | .array _, .null | .array _, .ref _ => true
  | _, _ => false
theorem am_fb_ok {g : am_G} {ty : FieldType} {w : Value} (h : am_fb ty w = true) : narrow ty (am_v g w) = am_v g w ∧ fits ty (am_v g w) = true := by
  cases ty <;> cases w <;> first | (exact ⟨rfl, rfl⟩) | (cases h; done) | skip
  rename_i x
  simp only [am_fb, Bool.or_eq_true, decide_eq_true_eq] at h
  rcases h with rfl | rfl <;> exact ⟨by rfl, by rfl⟩
theorem am_fb_v {g : am_G} {ty : FieldType} {w : Value} (h : am_fb ty w = true) : (∃ x, am_v g w = .int x) ∨ am_v g w = .null ∨ ∃ q, am_v g w = .ref q := by
  cases ty <;> cases w <;> first | (cases h; done) | exact Or.inl ⟨_, rfl⟩ | exact Or.inr (Or.inl rfl) | exact Or.inr (Or.inr ⟨_, rfl⟩)
theorem am_H.put {g : am_G} {U : State} {M : am_M} {H H1 : Heap} {o : Nat} {c0 c : am_C} (hH : am_H g U M H) (ho : M[o]? = some c0) (he : va_at (am_D g) am_cl (am_base g + o, am_e g c) H1) (z : H1.size = H.size) (oq : ∀ q : Nat, q ≠ am_base g + o → H1[q]? = H[q]?) : am_H g U (M.set o c) H1 := by
  obtain ⟨h1, h2, h3, h4⟩ := hH
  refine ⟨by rw [z, h1, List.length_set], fun i c' hi => ?_, h3.kept (oq _ (by omega)), h4⟩
  by_cases e : o = i
  · subst e
    have hl : o < M.length := (List.getElem?_eq_some_iff.mp ho).1
    rw [List.getElem?_set_self hl] at hi
    cases hi
    exact he
  · rw [List.getElem?_set_ne e] at hi
    exact (h2 i c' hi).kept (oq _ (by show am_base g + i ≠ am_base g + o; omega))
theorem am_H.push {g : am_G} {U : State} {M : am_M} {H H1 : Heap} {c : am_C} (hH : am_H g U M H) (he : va_at (am_D g) am_cl (H.size, am_e g c) H1) (z : H1.size = H.size + 1) (oq : ∀ q : Nat, q < H.size → H1[q]? = H[q]?) : am_H g U (M ++ [c]) H1 := by
  obtain ⟨h1, h2, h3, h4⟩ := hH
  refine ⟨by rw [z, h1, List.length_append]; rfl, fun i c' hi => ?_, h3.kept (oq _ (by omega)), h4⟩
  by_cases e : i < M.length
  · rw [List.getElem?_append_left e] at hi
    exact (h2 i c' hi).kept (oq _ (by show am_base g + i < H.size; omega))
  · rw [List.getElem?_append_right (by omega)] at hi
    have h0 : i - M.length < 1 := (List.getElem?_eq_some_iff.mp hi).1
    have e1 : i = M.length := by omega
    subst e1
    rw [Nat.sub_self] at hi
    cases hi
    rw [← h1]
    exact he
theorem am_K1 {g : am_G} {U : State} (h : am_Sy g U) {t : Nat} {ty : FieldType} (ht : am_tys[t]? = some ty) (hp : match ty with | .object _ => False | _ => True) : va_K (am_D g) am_cl [(am_ac g t, ty)] U := by
  refine ⟨h.1.1, fun k q hk => ?_⟩
  match k, hk with
  | 0, hk =>
    cases hk
    refine ⟨(h.2 t ty ht).1, ?_⟩
    have := (h.2 t ty ht).2
    cases ty <;> first | exact this | exact hp.elim
  | k + 1, hk => simp at hk
theorem am_P1 {g : am_G} {U : State} {M : am_M} {H : Heap} {o : Nat} {c : am_C} (hH : am_H g U M H) (ho : M[o]? = some c) : va_P (am_D g) am_cl [(am_base g + o, am_e g c)] H := by
  intro k q hk
  match k, hk with
  | 0, hk => cases hk; exact hH.2.1 o c ho
  | k + 1, hk => simp at hk
section AMH
variable {g : am_G} {d nc ns m i : Nat} {L : am_L} {st : List Value} {M : am_M} {K : am_K} {pc a b : Nat} {v : Int32} {ws : List Nat}
theorem am_get {k9 o : Nat} {fs : List Value} {u : Value} (h : am_op m i = some (.getfield k9, pc, a, b, v, ws)) (ho : M[o]? = some (.inr (a, fs))) (hu : fs[b]? = some u) (k : AW g d nc ns m (i + 1) L (u :: st) M K) : AW g d nc ns m i L (.ref o :: st) M K := by
  obtain ⟨hd, hx⟩ := am_dec h
  simp only [am_cx, Bool.and_eq_true, beq_iff_eq, decide_eq_true_eq] at hx
  obtain ⟨⟨⟨hn, ha⟩, hb⟩, hw⟩ := hx
  refine am_lift (fun C _ hH _ w => ?_) k
  rw [hn] at w
  obtain ⟨hx0, hb0, -, -, hown, -, -, hts, hSy, -⟩ := C
  exact va_get (D := am_D g) (ci := a) (v := am_v g u) (fs := fs.map (am_v g)) (C := (am_kd a).1) (T := (am_kd a).2.1) (N := (am_kd a).2.2) hx0 hb0 hts (am_lay a ha) hown hSy.1 (am_P1 hH ho) 0 rfl (am_kd_at ha) b hb (am_word hts hw) (fun _ h9 => h9) (by rw [List.getElem?_map, hu]; rfl) hd w
set_option maxHeartbeats 1000000 in
theorem am_put {k9 o : Nat} {fs : List Value} {u : Value} (h : am_op m i = some (.putfield k9, pc, a, b, v, ws)) (ho : M[o]? = some (.inr (a, fs))) (hl : b < fs.length) (hu : am_fb (am_ft a b) u = true) (k : AW g d nc ns m (i + 1) L st (M.set o (.inr (a, fs.set b u))) K) : AW g d nc ns m i L (u :: .ref o :: st) M K := by
  obtain ⟨hd, hx⟩ := am_dec h
  simp only [am_cx, Bool.and_eq_true, beq_iff_eq, decide_eq_true_eq, Bool.or_eq_true, Bool.not_eq_true'] at hx
  obtain ⟨⟨⟨⟨hn, ha⟩, hb⟩, hw⟩, hfin⟩ := hx
  intro p e R s mid args below meth c H locs cells slots Q ls C h1 h2 h3 h4 hH hS hL hQ
  obtain ⟨hx0, hb0, -, -, hown, hnm, -, hts, hSy, -⟩ := id C
  have hc := am_kd_at ha
  have hK := hSy.1
  have hap := va_apart (own := (am_y m).cls) hts (am_lay a ha) (am_ft a) (am_tok a ha) (am_nok a ha) hK hc
  obtain ⟨r, e1, cell, q1, q2, q3, q4⟩ := hH.2.1 o _ ho
  have hr : r = ((am_kd a).1, (am_kd a).2.1, (am_kd a).2.2) := Option.some.inj (e1.symm.trans hc)
  subst hr
  obtain ⟨hSl, hfc, kC, hkC, hkind⟩ := hK.1 a _ hc
  obtain ⟨cf, kf, fi, f, hi, hsl⟩ := hSl b hb
  have hst := (u_facts hfc hkC (u_lays hts (am_lay a ha) hb) hi).1
  obtain ⟨hnar, hfit⟩ := am_fb_ok (g := g) hu
  have hlay := hts _ (am_lay a ha _ (u_in_lay hb))
  have hslot : f.slot < cell.slots.size := by rw [hsl]; exact k2_hasslot (q4 b hb)
  have cont : ∀ H' : Heap, H'[am_base g + o]? = some (cell.setSlot f.slot (am_v g u)) → H'.size = H.size → (∀ q, q ≠ am_base g + o → H'[q]? = H[q]?) → W p g.1 e R s mid args below meth c H' (locs ++ [⟨am_base g + o, f.slot⟩]) cells slots Q (F0 mid (am_pc m i + 3) ls (st.map (am_v g))) := by
    intro H' g1 g2 g3
    rw [← hn]
    refine k p e R s mid args below meth c H' _ cells slots Q ls C h1 h2 h3 h4 (hH.put ho ?_ g2 g3) (hS.put g2 g3 (Nat.le_add_right _ _)) hL hQ
    rw [hsl] at g1
    refine ⟨_, hc, t_OB.to (V := updV (vp_V (fs.map (am_v g))) b (am_v g u)) ⟨_, g1, q2, q3, t_set q4 hap hb _⟩ (fun j _ => ?_)⟩
    show _ = vp_V ((fs.set b u).map (am_v g)) j
    rw [List.map_set]
    exact vp_updV_set (by rw [List.length_map]; exact hl) _ j
  unfold u_lay at hlay
  by_cases hf : ((am_kd a).2.1 b).2.2.2 = true
  · rw [if_pos hf] at hlay
    have hfi : (am_y m).name = "<init>" ∧ ((am_kd a).2.1 b).1 = (am_y m).cls := by
      rcases hfin with q | q
      · rw [hf] at q; cases q
      · exact q
    have hcf : mid.cls = cf := by
      obtain ⟨_, _, c', _, _, _, -, -, hf', -, -, -, hown2, -⟩ := Cond.laysFinal_spec hlay
      have e9 : c' = cf := by have := hi.symm.trans hf'; simp at this; exact this.1.symm
      rw [hfi.2] at hown2
      rw [← e9]
      exact Option.some.inj (hown.symm.trans hown2)
    have h6 := u_fits hfc hkC hkind (Or.inr hlay) hi (am_tok a ha b hb) hnar hfit
    exact W.putFinK hx0 hb0 hown (am_word hts hw) hi hst hcf (hnm hfi.1) (by rw [q2]; exact h6) q1 q3 hslot rfl rfl hd cont
  · rw [if_neg hf] at hlay
    have h6 := u_store hfc hkC hkind hlay hi (am_tok a ha b hb) hnar hfit
    exact W.putK hx0 hb0 (f := f) ⟨hown, am_word hts hw, ⟨_, _, _, hi⟩, hst⟩ (by rw [q2]; exact h6) q1 q3 hslot rfl rfl hd cont
theorem am_iald {o n k8 : Nat} {f : Nat → Int32} {x : Int32} (h : am_op m i = some (.iaload, pc, a, b, v, ws)) (ho : M[o]? = some (.inl (0, n, .inl f))) (hx8 : x = nI k8) (hk : k8 < n) (hn8 : n < 2 ^ 31) (k : AW g d nc ns m (i + 1) L (.int (f k8) :: st) M K) : AW g d nc ns m i L (.int x :: .ref o :: st) M K := by
  obtain ⟨hd, hx⟩ := am_dec h
  have hn : am_pc m (i + 1) = am_pc m i + 1 := by simpa [am_cx] using hx
  subst hx8
  refine am_lift (fun C _ hH _ w => ?_) k
  rw [hn] at w
  refine va_iald C.1 C.2.1 (am_K1 (t := 0) (ty := .int) C.2.2.2.2.2.2.2.2.1 rfl trivial) (am_P1 hH ho) 0 0 rfl rfl (vp_in_nI hk hn8) hd ?_
  rw [nI_clamp (by omega)]
  exact w
theorem am_bald {o n k8 : Nat} {f : Nat → Int32} {x : Int32} (h : am_op m i = some (.baload, pc, a, b, v, ws)) (ho : M[o]? = some (.inl (1, n, .inl f))) (hx8 : x = nI k8) (hk : k8 < n) (hn8 : n < 2 ^ 31) (k : AW g d nc ns m (i + 1) L (.int (f k8) :: st) M K) : AW g d nc ns m i L (.int x :: .ref o :: st) M K := by
  obtain ⟨hd, hx⟩ := am_dec h
  have hn : am_pc m (i + 1) = am_pc m i + 1 := by simpa [am_cx] using hx
  subst hx8
  refine am_lift (fun C _ hH _ w => ?_) k
  rw [hn] at w
  refine va_zald C.1 C.2.1 (am_K1 (t := 1) (ty := .boolean) C.2.2.2.2.2.2.2.2.1 rfl trivial) (am_P1 hH ho) 0 0 rfl rfl (vp_in_nI hk hn8) hd ?_
  rw [nI_clamp (by omega)]
  exact w
/-- a row of an array of arrays, or an object out of an array -/
theorem am_aald {o n k8 t j : Nat} {f : Nat → Option Nat} {x : Int32} (h : am_op m i = some (.aaload, pc, a, b, v, ws)) (ho : M[o]? = some (.inl (t, n, .inr f))) (ht : t = 2 ∨ t = 3) (hx8 : x = nI k8) (hk : k8 < n) (hn8 : n < 2 ^ 31) (hj : f k8 = some j) (k : AW g d nc ns m (i + 1) L (.ref j :: st) M K) : AW g d nc ns m i L (.int x :: .ref o :: st) M K := by
  obtain ⟨hd, hx⟩ := am_dec h
  have hn : am_pc m (i + 1) = am_pc m i + 1 := by simpa [am_cx] using hx
  subst hx8
  refine am_lift (fun C _ hH _ w => ?_) k
  rw [hn] at w
  have hcell : _ = some (vp_cell _ _) := hH.2.1 o _ ho
  have hin : ¬ (nI k8 < 0 ∨ n ≤ (nI k8).toNatClampNeg) := vp_in_nI hk hn8
  have hv : (arrV (am_ac g t) n (fun j => va_rf ((f j).map (fun i => am_base g + i)))).slots[(nI k8).toNatClampNeg]? = some (.ref (am_base g + j)) := by
    rw [nI_clamp (by omega), arrV_read _ _ hk, hj]
    rfl
  rcases ht with rfl | rfl
  · exact W.aald (ty := .array .int) C.1 C.2.1 hcell ((C.2.2.2.2.2.2.2.2.1.2 2 _ rfl).1 n _) rfl (fun q => by cases q) (by show ¬ (_ ∨ (arrV _ _ _).slots.size ≤ _); rw [arrV_size]; exact hin) hv rfl rfl hd w
  · exact W.aald (ty := .object "RoundBench$Algorithm") C.1 C.2.1 hcell ((C.2.2.2.2.2.2.2.2.1.2 3 _ rfl).1 n _) rfl (fun q => by cases q) (by show ¬ (_ ∨ (arrV _ _ _).slots.size ≤ _); rw [arrV_size]; exact hin) hv rfl rfl hd w
theorem am_iast {o n k8 : Nat} {f : Nat → Int32} {x y : Int32} (h : am_op m i = some (.iastore, pc, a, b, v, ws)) (ho : M[o]? = some (.inl (0, n, .inl f))) (hx8 : x = nI k8) (hk : k8 < n) (hn8 : n < 2 ^ 31) (k : AW g d nc ns m (i + 1) L st (M.set o (.inl (0, n, .inl (upd f k8 y)))) K) : AW g d nc ns m i L (.int y :: .int x :: .ref o :: st) M K := by
  obtain ⟨hd, hx⟩ := am_dec h
  have hn : am_pc m (i + 1) = am_pc m i + 1 := by simpa [am_cx] using hx
  subst hx8
  intro p e R s mid args below meth c H locs cells slots Q ls C h1 h2 h3 h4 hH hS hL hQ
  have hcell : _ = some (vp_cell _ _) := hH.2.1 o _ ho
  refine W.iast C.1 C.2.1 hcell ((C.2.2.2.2.2.2.2.2.1.2 0 _ rfl).1 n _) (fun q => by cases q) (by show ¬ (_ ∨ (arrV _ _ _).slots.size ≤ _); rw [arrV_size]; exact vp_in_nI hk hn8) rfl rfl hd (fun H' g1 g2 g3 => ?_)
  have hp : W p g.1 e R s mid args below meth c H' (locs ++ [⟨am_base g + o, (nI k8).toNatClampNeg⟩]) cells slots Q (F0 mid (am_pc m (i + 1)) ls (st.map (am_v g))) := by
    refine k p e R s mid args below meth c H' _ cells slots Q ls C h1 h2 h3 h4 (hH.put ho ?_ g2 g3) (hS.put g2 g3 (Nat.le_add_right _ _)) hL hQ
    show H'[am_base g + o]? = some (vp_cell _ _)
    rw [g1, vp_cell_i]
    refine congrArg some ?_
    show (arrV _ _ _).setSlot _ _ = _
    rw [arrV_store, nI_clamp (by omega)]
    show arrV _ _ _ = arrV _ _ (fun j => Value.int (upd f k8 y j))
    refine congrArg (arrV _ _) (funext fun q => ?_)
    by_cases hq : q = k8
    · simp [updV, upd, hq]
    · simp [updV, upd, hq]
  rw [hn] at hp
  exact hp
theorem am_bast {o n k8 : Nat} {f : Nat → Int32} {x y : Int32} (h : am_op m i = some (.bastore, pc, a, b, v, ws)) (ho : M[o]? = some (.inl (1, n, .inl f))) (hx8 : x = nI k8) (hk : k8 < n) (hn8 : n < 2 ^ 31) (hy : y = 0 ∨ y = 1) (k : AW g d nc ns m (i + 1) L st (M.set o (.inl (1, n, .inl (upd f k8 y)))) K) : AW g d nc ns m i L (.int y :: .int x :: .ref o :: st) M K := by
  obtain ⟨hd, hx⟩ := am_dec h
  have hn : am_pc m (i + 1) = am_pc m i + 1 := by simpa [am_cx] using hx
  subst hx8
  intro p e R s mid args below meth c H locs cells slots Q ls C h1 h2 h3 h4 hH hS hL hQ
  have hcell : _ = some (vp_cell _ _) := hH.2.1 o _ ho
  have hy2 : narrow .boolean (.int y) = .int y := by rcases hy with rfl | rfl <;> rfl
  refine W.zast C.1 C.2.1 hcell ((C.2.2.2.2.2.2.2.2.1.2 1 _ rfl).1 n _) (fun q => by cases q) (by show ¬ (_ ∨ (arrV _ _ _).slots.size ≤ _); rw [arrV_size]; exact vp_in_nI hk hn8) rfl rfl hd (fun H' g1 g2 g3 => ?_)
  have hp : W p g.1 e R s mid args below meth c H' (locs ++ [⟨am_base g + o, (nI k8).toNatClampNeg⟩]) cells slots Q (F0 mid (am_pc m (i + 1)) ls (st.map (am_v g))) := by
    refine k p e R s mid args below meth c H' _ cells slots Q ls C h1 h2 h3 h4 (hH.put ho ?_ g2 g3) (hS.put g2 g3 (Nat.le_add_right _ _)) hL hQ
    show H'[am_base g + o]? = some (vp_cell _ _)
    rw [g1, vp_cell_i, hy2]
    refine congrArg some ?_
    show (arrV _ _ _).setSlot _ _ = _
    rw [arrV_store, nI_clamp (by omega)]
    show arrV _ _ _ = arrV _ _ (fun j => Value.int (upd f k8 y j))
    refine congrArg (arrV _ _) (funext fun q => ?_)
    by_cases hq : q = k8
    · simp [updV, upd, hq]
    · simp [updV, upd, hq]
  rw [hn] at hp
  exact hp
theorem am_alen {o n : Nat} {f : Nat → Int32} (h : am_op m i = some (.arraylength, pc, a, b, v, ws)) (ho : M[o]? = some (.inl (0, n, .inl f))) (k : AW g d nc ns m (i + 1) L (.int (nI n) :: st) M K) : AW g d nc ns m i L (.ref o :: st) M K := by
  obtain ⟨hd, hx⟩ := am_dec h
  have hn : am_pc m (i + 1) = am_pc m i + 1 := by simpa [am_cx] using hx
  refine am_lift (fun C _ hH _ w => ?_) k
  rw [hn] at w
  exact va_alen C.1 C.2.1 (am_K1 (t := 0) (ty := .int) C.2.2.2.2.2.2.2.2.1 rfl trivial) (am_P1 hH ho) 0 0 rfl rfl rfl hd w
theorem am_alen3 {o n : Nat} {f : Nat → Option Nat} (h : am_op m i = some (.arraylength, pc, a, b, v, ws)) (ho : M[o]? = some (.inl (3, n, .inr f))) (k : AW g d nc ns m (i + 1) L (.int (nI n) :: st) M K) : AW g d nc ns m i L (.ref o :: st) M K := by
  obtain ⟨hd, hx⟩ := am_dec h
  have hn : am_pc m (i + 1) = am_pc m i + 1 := by simpa [am_cx] using hx
  refine am_lift (fun C _ hH _ w => ?_) k
  rw [hn] at w
  have hcell : _ = some (vp_cell _ _) := hH.2.1 o _ ho
  exact W.alen (n := nI n) C.1 C.2.1 hcell ((C.2.2.2.2.2.2.2.2.1.2 3 _ rfl).1 n _) (by show (arrV _ _ _).slots.size.toInt32 = _; rw [arrV_size] <;> rfl) rfl rfl hd w
-- the script
theorem am_sald {z k8 : Nat} {x : Int32} (h : am_op m i = some (.iaload, pc, a, b, v, ws)) (hx8 : x = nI k8) (hk : k8 < am_sl g) (hn8 : am_sl g < 2 ^ 31) (k : AW g d nc ns m (i + 1) L (.int (am_sx g k8) :: st) M K) : AW g d nc ns m i L (.int x :: .retAddr z :: st) M K := by
  obtain ⟨hd, hx⟩ := am_dec h
  have hn : am_pc m (i + 1) = am_pc m i + 1 := by simpa [am_cx] using hx
  subst hx8
  refine am_lift (fun C _ hH hS w => ?_) k
  rw [hn] at w
  refine va_sld (A := am_A g) C.1 C.2.1 hH.2.2.1 (by have := hH.1; have := hH.2.2.2; omega) (by have := hH.2.2.2; unfold am_A; omega) ⟨Nat.le_refl _, fun _ _ _ => rfl, hS.2.2⟩ (vp_in_nI hk hn8) hd ?_
  rw [nI_clamp (by omega)]
  exact w
theorem am_slen {z : Nat} (h : am_op m i = some (.arraylength, pc, a, b, v, ws)) (k : AW g d nc ns m (i + 1) L (.int (nI (am_sl g)) :: st) M K) : AW g d nc ns m i L (.retAddr z :: st) M K := by
  obtain ⟨hd, hx⟩ := am_dec h
  have hn : am_pc m (i + 1) = am_pc m i + 1 := by simpa [am_cx] using hx
  refine am_lift (fun C _ hH hS w => ?_) k
  rw [hn] at w
  exact va_slen (A := am_A g) C.1 C.2.1 hH.2.2.1 (by have := hH.1; have := hH.2.2.2; omega) (by have := hH.2.2.2; unfold am_A; omega) ⟨Nat.le_refl _, fun _ _ _ => rfl, hS.2.2⟩ hd w
end AMH
end
section
/-! calls: every word of lw_tbl stays, so one list of words serves every method -/
def am_gw (w : Cond) : Bool := (w.onTables && (w.keeps || w.keepsFace)) || (match w with
  | .methodLinkNest .. | .arrayClass _ | .arrayOver _ => true
  | _ => false)
set_option maxRecDepth 100000 in
theorem am_gws : lw_tbl.all am_gw = true := by decide +kernel
/-- an array over arrays: what its word says, and that it stays -/
def am_isA (comp : ClassId) (x : Class) : Bool := match x.kind with
  | .array component _ => component == comp
  | _ => false
theorem am_AOs {t : FieldType} {args : Array Value} {u : State} (h : (Cond.arrayOver (.array t)).before args u = true) : ∃ (comp c : ClassId) (k : Class), u.vm.findClass (FieldType.array t).toString = some comp ∧ (u.vm.classes.findIdx? fun (x : Class) => match x.kind with | .array component _ => component == comp | _ => false) = some c ∧ u.vm.classes[c]? = some k ∧ k.kind = .array comp (.array t) ∧ u.vm.findClass ("[" ++ (FieldType.array t).toString) = some c := by
  unfold Cond.before Cond.holds at h
  simp only [Cond.value, beq_iff_eq] at h
  cases hc : u.vm.findClass (FieldType.array t).toString with
  | none => simp [hc] at h
  | some comp =>
    simp only [hc, Option.bind_some, Option.bind_eq_some_iff, Option.map_eq_some_iff] at h
    obtain ⟨c, hi, k, hk, hb⟩ := h
    obtain ⟨hlt, hp, -⟩ := Array.findIdx?_eq_some_iff_getElem.mp hi
    have hkk : u.vm.classes[c] = k := (Array.getElem?_eq_some_iff.mp hk).2
    rw [hkk] at hp
    cases hkind : k.kind with
    | array component ty =>
      rw [hkind] at hb hp
      simp at hb hp
      exact ⟨comp, c, k, rfl, hi, hk, by rw [hkind, hp, hb.1], hb.2⟩
    | _ => rw [hkind] at hb; simp at hb
theorem am_AOm {t : FieldType} {args a' : Array Value} {u U : State} (hvm : u.vm.Alike U.vm) (h : (Cond.arrayOver (.array t)).before args u = true) : (Cond.arrayOver (.array t)).before a' U = true := by
  obtain ⟨comp, c, k, h1, h2, h3, h4, h5⟩ := am_AOs h
  obtain ⟨k', hk', he⟩ := hvm.2.2 _ _ h3
  have hi : U.vm.classes.findIdx? (am_isA comp) = some c := by
    have b1 : U.vm.bare.classes.findIdx? (am_isA comp) = U.vm.classes.findIdx? (am_isA comp) := va_idx_bare U.vm comp
    have b2 : u.vm.bare.classes.findIdx? (am_isA comp) = u.vm.classes.findIdx? (am_isA comp) := va_idx_bare u.vm comp
    have h2 : u.vm.classes.findIdx? (am_isA comp) = some c := h2
    rw [← b1]
    first | rw [hvm.bare_eq] | rw [← hvm.bare_eq]
    rw [b2]
    exact h2
  have hkind : k'.kind = .array comp (.array t) := by rw [he]; exact h4
  have f1 : U.vm.findClass (FieldType.array t).toString = some comp := by rw [hvm.findClass]; exact h1
  have f2 : U.vm.findClass ("[" ++ (FieldType.array t).toString) = some c := by rw [hvm.findClass]; exact h5
  unfold Cond.before Cond.holds
  simp only [Cond.value]
  rw [f1, Option.bind_some]
  refine (congrArg (fun o : Option Nat => (o.bind (fun c => (U.vm.classes[c]?).map fun (k : Class) => match k.kind with | .array _ ty => decide (ty = FieldType.array t) && decide (U.vm.findClass ("[" ++ (FieldType.array t).toString) = some c) | _ => false) == some true)) hi).trans ?_
  simp [hk', hkind, f2]
theorem am_AOw {ty : FieldType} {args a' : Array Value} {s U : State} (hW : s.WarmedH U.vm) (h : (Cond.arrayOver ty).before args s = true) : (Cond.arrayOver ty).before a' U = true := by
  cases ty with
  | object C => exact va_AO.use (va_AO.moved hW.alike (va_AO.of h))
  | array t => exact am_AOm hW.alike h
  | _ =>
    unfold Cond.before Cond.holds at h
    simp [Cond.value] at h
theorem am_warm {args a' : Array Value} {s U : State} (hW : s.WarmedH U.vm) {w : Cond} (hw : am_gw w = true) (h : w.before args s = true) : w.before a' U = true := by
  unfold am_gw at hw
  rw [Bool.or_eq_true] at hw
  rcases hw with hw | hw
  · rw [Bool.and_eq_true, Bool.or_eq_true] at hw
    rcases hw.2 with hk | hk
    · exact word_at hW (Or.inl (by rw [hw.1, hk]; rfl)) h
    · have h1 : w.before args (s.setVm U.vm) = true := Cond.before_shiftedFace (State.Shifted.of_warmed hW) _ hk h
      have h2 := Cond.onTables_vm (A := args) (A' := a') (U := s) (U' := U) U.vm w hw.1
      rw [h2] at h1
      exact h1
  · cases w <;> first | (cases hw; done) | skip
    all_goals first
      | exact va_Nw.use rfl (va_Nw.warmM hW (va_Nw.of rfl h))
      | exact word_at hW (Or.inr ⟨_, rfl⟩) h
      | exact am_AOw hW h
theorem am_hts {args a' : Array Value} {s U : State} (hW : s.WarmedH U.vm) (hts : ∀ w ∈ lw_tbl, w.before args s = true) : ∀ w ∈ lw_tbl, w.before a' U = true := fun w h => am_warm hW (List.all_eq_true.mp am_gws w h) (hts w h)
theorem am_Sy.moved {g : am_G} {u U : State} (hvm : u.vm.Alike U.vm) (h : am_Sy g u) : am_Sy g U := ⟨va_K.moved hvm h.1, fun t ty ht => ⟨arrOfT_moved hvm (h.2 t ty ht).1, by rw [hvm.findClass]; exact (h.2 t ty ht).2⟩⟩
theorem am_H.moved {g : am_G} {u U : State} {M : am_M} {H : Heap} (hvm : u.vm.Alike U.vm) (h : am_H g u M H) : am_H g U M H := ⟨h.1, h.2.1, h.2.2.1.moved hvm, h.2.2.2⟩
def am_ws (m : Nat) : List Cond := .code (am_y m) (am_b m) (am_mL m) (am_r m) :: lw_tbl
def am_rm (d nc ns : Nat) : Room := { frames := d, cells := nc, slots := ns, locals := 40 * d }
def am_Pc (g : am_G) (as : List Value) (M : am_M) : Array Value → State → Prop := fun v U => v = (as.map (am_v g)).toArray ∧ am_Sy g U ∧ am_H g U M U.heap
def am_rk : Option Value → Prop
  | none => True
  | some (.int _) => True
  | _ => False
def am_Qc (g : am_G) (K : am_K) : Array Value → State → Outcome → State → Prop := fun _ st o t => ∃ (r : Option Value) (M' : am_M), o = .returned (r.map (am_v g)) ∧ am_rk r ∧ K r M' ∧ am_H g t M' t.heap ∧ va_F (am_A g) st t
theorem am_blind (g : am_G) (as : List Value) (M : am_M) : FrameBlind (am_Pc g as M) := by
  intro a U fr mk h
  obtain ⟨h1, h2, h3⟩ := h
  exact ⟨h1, am_Sy.moved (u := U) (U := U.calling fr mk a) (Vm.Alike.refl U.vm) h2, am_H.moved (u := U) (U := U.calling fr mk a) (Vm.Alike.refl U.vm) h3⟩
/-- a frame's locals at its start -/
def am_L0 (m : Nat) (as : List Value) : am_L := as.map some ++ List.replicate (am_mL m - as.length) none
theorem am_args : ∀ (vs : List Value) (k j : Nat) (v : Value), (∀ v ∈ vs, v.category = 1) → vs[j]? = some v → (k + j, v) ∈ lv_args k vs
  | [], k, j, v, _, h => by simp at h
  | u :: vs, k, 0, v, _, h => by
    simp at h
    subst h
    exact List.mem_cons_self
  | u :: vs, k, j + 1, v, hc, h => by
    rw [List.getElem?_cons_succ] at h
    have hu : ¬ u.category = 2 := by rw [hc u List.mem_cons_self]; decide
    show _ ∈ (k, u) :: lv_args (if u.category = 2 then k + 2 else k + 1) vs
    rw [if_neg hu, show k + (j + 1) = k + 1 + j by omega]
    exact List.mem_cons_of_mem _ (am_args vs (k + 1) j v (fun v h => hc v (List.mem_cons_of_mem _ h)) h)
theorem am_sl_len : ∀ vs : List Value, (∀ v ∈ vs, v.category = 1) → (lg_sl vs).length = vs.length
  | [], _ => rfl
  | u :: vs, hc => by
    have hu : ¬ u.category = 2 := by rw [hc u List.mem_cons_self]; decide
    have ih := am_sl_len vs (fun v h => hc v (List.mem_cons_of_mem _ h))
    unfold lg_sl at ih ⊢
    rw [List.flatMap_cons, if_neg hu, List.length_append, ih]
    simp
    omega
set_option maxHeartbeats 1000000 in
/-- a method's contract out of its walk -/
theorem am_met {g : am_G} {d nc ns m : Nat} {as : List Value} {M : am_M} {K : am_K} (hy : plainName (am_y m).cls = true) (hp : am_pc m 0 = 0) (hlen : as.length ≤ am_mL m) (hcat : ∀ v ∈ as, v.category = 1) (k : AW g d nc ns m 0 (am_L0 m as) [] M K) :
    Met g.1 (am_y m) (am_ws m) (am_rm d nc ns) (am_Pc g as M) (am_Qc g K) nc ns (am_A g) := by
  refine Met.ofW (cc := am_b m) (maxL := am_mL m) (ret := am_r m) hy rfl ?_
  intro p e s mid args below meth c s₁ B hml hv
  obtain ⟨rfl, hSy, hH⟩ := hv
  have hts := atoms_spec (ws := am_ws m) B.pre
  have hown := findClass_of_methodNamed B.named
  have hnm := (name_of_methodNamed B.named B.method).1
  have hcat2 : ∀ v ∈ as.map (am_v g), v.category = 1 := by
    intro v hv
    obtain ⟨u, hu, rfl⟩ := List.mem_map.mp hv
    exact am_cat (hcat u hu)
  have hsl := am_sl_len _ hcat2
  rw [List.length_map] at hsl
  have hl := lv_entry (as.map (am_v g)) (n := am_mL m) (by rw [hsl]; exact hlen)
  rw [lg_entry_eq]
  generalize (lg_sl (as.map (am_v g)) ++ List.replicate (am_mL m - (lg_sl (as.map (am_v g))).length) Slot.unset).toArray = ls at hl ⊢
  have hL : am_Lr g ls (am_mL m) (am_L0 m as) := by
    refine ⟨hl.1, hl.2.1, by simp [am_L0]; omega, fun i v hv => ?_⟩
    unfold am_L0 at hv
    by_cases hi : i < as.length
    · rw [List.getElem?_append_left (by rw [List.length_map]; exact hi), List.getElem?_map] at hv
      have hv2 : as[i]? = some v := by
        cases h9 : as[i]? with
        | none => rw [h9] at hv; cases hv
        | some u => rw [h9] at hv; simp at hv; rw [hv]
      refine ⟨hcat v (List.mem_of_getElem? hv2), ?_⟩
      have := am_args (as.map (am_v g)) 0 i (am_v g v) hcat2 (by rw [List.getElem?_map, hv2]; rfl)
      rw [Nat.zero_add] at this
      exact hl.2.2 _ this
    · rw [List.getElem?_append_right (by rw [List.length_map]; omega)] at hv
      have := List.mem_of_getElem? hv
      have := List.eq_of_mem_replicate this
      cases this
  have hw : ∀ w ∈ lw_tbl, w.before (as.map (am_v g)).toArray s = true := fun w h => hts w (List.mem_cons_of_mem _ h)
  have hbs : am_base g ≤ s.heap.size := by have := hH.1; omega
  have fin := k p e (am_rm d nc ns) s mid (as.map (am_v g)).toArray below meth c s.heap [] 0 0 (MQ below (am_Qc g K) (as.map (am_v g)).toArray s nc ns (am_A g)) ls ⟨B.exec, B.bytes, B.returns, hml, hown, fun h9 => hnm.trans h9, B.notSynchronized, hw, hSy, hbs⟩ (Nat.le_refl _) (Nat.le_refl _) (by show 0 + nc ≤ nc; omega) (by show 0 + ns ≤ ns; omega) hH va_S.rf hL
    (fun r M' H' locs' cells' slots' j ls' hk hH' hS' hc' hs' hrt => by
      refine W.widen (k := nc) (n := ns) hc' hs' ?_
      have hlocks := B.notSynchronized
      have hfr : ∀ q ∈ locs', am_A g q.base := hS'.2.2
      match r, hrt, hk with
      | none, hrt, hk =>
        exact W.vret B.exec B.bytes (B.returns.trans hrt.2) (fun t ht hW => ⟨none, M', rfl, trivial, hk, by rw [ht]; exact hH'.moved hW.alike, hS'.F ht⟩) hfr hrt.1
      | some (.int x), hrt, hk =>
        have hq : ∀ t : State, t.heap = H' → s.WarmedH t.vm → am_Qc g K (as.map (am_v g)).toArray s (.returned (some (.int x))) t := fun t ht hW => ⟨some (.int x), M', rfl, trivial, hk, by rw [ht]; exact hH'.moved hW.alike, hS'.F ht⟩
        rcases hrt.2 with h9 | ⟨h9, h8⟩
        · exact W.iret B.exec B.bytes (B.returns.trans h9) hq hfr hrt.1
        · exact W.zret (ty := .boolean) B.exec B.bytes (B.returns.trans h9) (by rcases h8 with rfl | rfl <;> rfl) hq hfr hrt.1)
  rw [hp] at fin
  exact fin
/-- behind a call -/
theorem am_back {g : am_G} {p : Program} {e : Env} {R : Room} {s : State} {mid : MethodId} {args : Array Value} {below : List Frame} {meth : Method} {c : Code} {H : Heap} {locs : List Loc} {cells slots nc ns pc : Nat} {Q : State → Prop} {ls : Array Slot} {st0 rest : List Value} {aa : Array Value} {K' : am_K}
    (hr : va_Run p g.1 e R s mid args below meth c H locs cells slots nc ns (F0 mid pc ls st0) rest (am_Qc g K' aa) (am_A g)) (hS : va_S (am_A g) s.heap H locs)
    (kk : ∀ (r : Option Value) (M' : am_M) (H1 : Heap) (locs1 : List Loc), K' r M' → am_rk r → am_H g s M' H1 → va_S (am_A g) s.heap H1 locs1 → W p g.1 e R s mid args below meth c H1 locs1 (cells + nc) (slots + ns) Q (F0 mid (pc + 3) ls ((r.map (am_v g)).toList ++ rest))) : W p g.1 e R s mid args below meth c H locs cells slots Q (F0 mid pc ls st0) := by
  intro T hT X
  obtain ⟨v, st₀, t, T', L, h0, X', hL, e1, e2, ⟨r, M', ho, hrk, hk, hH', hz, hf⟩, stp⟩ := hr T hT X
  have hv : v = r.map (am_v g) := Outcome.returned.inj ho
  subst hv
  rw [h0] at hz hf
  have hvm : t.vm.Alike s.vm := by rw [← e2]; exact X'.warmed.alike.symm
  obtain ⟨t2, a1, b1⟩ := kk r M' T'.heap (locs ++ L) hk hrk (by rw [e1]; exact hH'.moved hvm)
    ⟨Nat.le_trans hS.1 (by rw [e1]; exact hz), fun q h1 h2 => by rw [e1, hf q (Nat.lt_of_lt_of_le h1 hS.1) h2]; exact hS.2.1 q h1 h2, fun q hq => by
      rcases List.mem_append.mp hq with h | h
      · exact hS.2.2 q h
      · exact hL q h⟩ T' rfl X'
  exact ⟨t2, stp t2 a1, b1⟩
/-- what may be seen of a call by evaluation: the callee, its arguments, what lies below them -/
def am_okc (a b : Nat) (as st : List Value) : Bool := plainName (am_y a).cls && (am_pc a 0 == 0) && (as.length == b) && decide (as.length < am_mL a + 1) && decide (am_mL a ≤ 21) && as.all (fun v => v.category == 1) && decide ((st.map fun v => v.category).sum ≤ 8)
theorem am_stc {g : am_G} : ∀ st : List Value, ((st.map (am_v g)).map fun v => v.category).sum = (st.map fun v => v.category).sum
  | [] => rfl
  | v :: st => by
    rw [List.map_cons, List.map_cons, List.map_cons, List.sum_cons, List.sum_cons, am_stc st]
    congr 1
    cases v <;> rfl
theorem am_np_len {y : MethodName} {n : Nat} (h : am_np y n = true) : ∀ sig, parseMethodDescriptor y.desc = some sig → n = sig.parameters.length := by
  intro sig hs
  have := of_decide_eq_true h
  rw [hs] at this
  exact (Option.some.inj this).symm
theorem am_nm_ne {s : String} (h : am_nm s = true) : s ≠ "java/lang/invoke/MethodHandle" ∧ s ≠ "java/lang/invoke/VarHandle" := by
  unfold am_nm at h
  rw [Bool.and_eq_true, decide_eq_true_eq, decide_eq_true_eq] at h
  exact h
section AMC
variable {g : am_G} {d nc ns nc' ns' m i : Nat} {L : am_L} {st stk : List Value} {M : am_M} {K K' : am_K} {pc a b : Nat} {v : Int32} {ws : List Nat}
theorem am_wsh {args : Array Value} {s : State} (hts : ∀ w ∈ lw_tbl, w.before args s = true) (hc : Cond.code (am_y a) (am_b a) (am_mL a) (am_r a) ∈ lw_tbl) : ∀ w ∈ am_ws a, ∀ (a' : Array Value) (U : State), s.WarmedH U.vm → w.before a' U = true := by
  intro w hw a' U hW
  rcases List.mem_cons.mp hw with rfl | hw
  · exact am_hts hW hts _ hc
  · exact am_hts hW hts w hw
set_option maxHeartbeats 1000000 in
/-- invokevirtual of a method that is no abstract one -/
theorem am_cV {k9 o ci : Nat} {fs : List Value} (as : List Value) (h : am_op m i = some (.invokevirtual k9, pc, a, b, 0, ws)) (hst : stk = as.reverse ++ .ref o :: st) (ho : M[o]? = some (.inr (ci, fs))) (hci : am_cl[ci]? = some ((am_y a).cls, (am_kd ci).2.1, (am_kd ci).2.2)) (hok : am_okc a (b + 1) (.ref o :: as) st = true)
    (kc : AW g d nc' ns' a 0 (am_L0 a (.ref o :: as)) [] M K') (kk : ∀ (r : Option Value) (M' : am_M), K' r M' → am_rk r → AW g (d + 1) nc ns m (i + 1) L (r.toList ++ st) M' K) : AW g (d + 1) (nc + nc') (ns + ns') m i L stk M K := by
  subst hst
  obtain ⟨hd, hx⟩ := am_dec h
  simp only [am_cx, Bool.and_eq_true, beq_iff_eq, if_neg (show ¬ (0 : Int32) = 1 by decide)] at hx
  obtain ⟨hn, ⟨⟨⟨⟨⟨w0, w1⟩, w2⟩, w3⟩, w4⟩, w5⟩, w6⟩ := hx
  unfold am_okc at hok
  simp only [Bool.and_eq_true, beq_iff_eq, decide_eq_true_eq, List.all_eq_true] at hok
  obtain ⟨⟨⟨⟨⟨⟨k0, k1⟩, k2⟩, k3⟩, k4⟩, k5⟩, k6⟩ := hok
  intro p e R s mid args below meth c H locs cells slots Q ls C h1 h2 h3 h4 hH hS hL hQ
  obtain ⟨hx0, hb0, -, hml, hown, -, -, hts, hSy, -⟩ := id C
  have hM := am_met k0 k1 (by omega) k5 kc
  have hrun := va_runV (l := g.1) (e := e) (below := below) (meth := meth) (R := R) (locs := locs) (cells := cells) (slots := slots) (Ts := lw_tbl) (C := (am_y a).cls) (b := am_base g + o) (As := as.map (am_v g)) (rest := st.map (am_v g)) (n := b) (g := F0 mid (am_pc m i) ls ((as.reverse ++ .ref o :: st).map (am_v g))) (nL := am_mL m) ⟨hx0, hb0, hml, hown, hts⟩ hM
    ⟨⟨rfl, rfl, by show d + 1 ≤ _; omega, by show 8 + (am_mL a + 11) + 40 * d ≤ _; omega, am_wsh hts (am_wmem w4), List.mem_cons_self, am_word hts w4, am_word hts w3, am_nm_ne w5, am_np_len w6, am_word hts w0⟩, am_word hts w1, am_word hts w2⟩
    ⟨am_blind g _ _, va_recv (ci := ci) (q0 := 0) hSy.1 (am_P1 hH ho) hci rfl, fun U hU hW => ⟨rfl, hSy.moved hW.alike, by rw [hU]; exact hH.moved hW.alike⟩⟩ rfl (by rw [List.length_map]; simpa using k2) hL.1 (by show List.map _ _ = _; rw [List.map_append, List.map_reverse]; rfl) (lv_room (by rw [am_stc]; exact k6)) hd ⟨by omega, by omega⟩
  refine am_back hrun hS (fun r M' H1 locs1 hk hrk hH1 hS1 => ?_)
  have fin := kk r M' hk hrk p e R s mid args below meth c H1 locs1 (cells + nc') (slots + ns') Q ls C h1 h2 (by omega) (by omega) hH1 hS1 hL hQ
  rw [hn, List.map_append] at fin
  have e9 : (r.toList).map (am_v g) = (r.map (am_v g)).toList := by cases r <;> rfl
  rw [e9] at fin
  exact fin
end AMC
end
section
/-! the other calls, System.arraycopy, switches -/
def am_vn (a : Nat) : MethodName := am_vx.getD a ⟨"", "", ""⟩
def am_va (a ci : Nat) : Option (Nat × List Nat) := (am_vt.getD a []).getD ci none
def am_vck (a ci : Nat) : Bool := match am_va a ci with
  | none => true
  | some (f, ws) => am_w (ws.getD 0 0) (.selects (am_kd ci).1 (am_vn a) (am_y f)) && am_w (ws.getD 1 0) (.instanceMethod (am_y f)) && am_w (ws.getD 2 0) (.initialized (am_y f).cls) && am_w (ws.getD 3 0) (.code (am_y f) (am_b f) (am_mL f) (am_r f))
set_option maxRecDepth 100000 in
theorem am_vcks : ((List.range 5).all fun a => (List.range 12).all fun ci => am_vck a ci) = true := by decide +kernel
theorem am_vck_at {a ci : Nat} (ha : a < 5) (hc : ci < 12) : am_vck a ci = true := by
  have h := List.all_eq_true.mp am_vcks a (List.mem_range.mpr ha)
  exact List.all_eq_true.mp h ci (List.mem_range.mpr hc)
section AMD
variable {g : am_G} {d nc ns nc' ns' m i : Nat} {L : am_L} {st stk : List Value} {M : am_M} {K K' : am_K} {pc a b : Nat} {v : Int32} {ws : List Nat}
set_option maxHeartbeats 1000000 in
/-- invokevirtual of an abstract method: the receiver's kind says which is run -/
theorem am_cA {k9 o ci f : Nat} {fs : List Value} {ws2 : List Nat} (as : List Value) (h : am_op m i = some (.invokevirtual k9, pc, a, b, 1, ws)) (hst : stk = as.reverse ++ .ref o :: st) (ho : M[o]? = some (.inr (ci, fs))) (hva : am_va a ci = some (f, ws2)) (ha5 : a < 5) (hc12 : ci < 12) (hok : am_okc f (b + 1) (.ref o :: as) st = true)
    (kc : AW g d nc' ns' f 0 (am_L0 f (.ref o :: as)) [] M K') (kk : ∀ (r : Option Value) (M' : am_M), K' r M' → am_rk r → AW g (d + 1) nc ns m (i + 1) L (r.toList ++ st) M' K) : AW g (d + 1) (nc + nc') (ns + ns') m i L stk M K := by
  subst hst
  obtain ⟨hd, hx⟩ := am_dec h
  simp only [am_cx, Bool.and_eq_true, beq_iff_eq, if_true] at hx
  obtain ⟨hn, ⟨⟨⟨w0, w1⟩, w2⟩, w5⟩, w6⟩ := hx
  have hv := am_vck_at ha5 hc12
  unfold am_vck at hv
  rw [hva] at hv
  simp only [Bool.and_eq_true] at hv
  obtain ⟨⟨⟨x0, x1⟩, x2⟩, x3⟩ := hv
  unfold am_okc at hok
  simp only [Bool.and_eq_true, beq_iff_eq, decide_eq_true_eq, List.all_eq_true] at hok
  obtain ⟨⟨⟨⟨⟨⟨k0, k1⟩, k2⟩, k3⟩, k4⟩, k5⟩, k6⟩ := hok
  intro p e R s mid args below meth c H locs cells slots Q ls C h1 h2 h3 h4 hH hS hL hQ
  obtain ⟨hx0, hb0, -, hml, hown, -, -, hts, hSy, -⟩ := id C
  have hM := am_met k0 k1 (by omega) k5 kc
  have hrun := va_runU (l := g.1) (e := e) (below := below) (meth := meth) (R := R) (locs := locs) (cells := cells) (slots := slots) (Ts := lw_tbl) (C := (am_kd ci).1) (owner := (am_vn a).cls) (x := am_vn a) (b := am_base g + o) (As := as.map (am_v g)) (rest := st.map (am_v g)) (n := b) (g := F0 mid (am_pc m i) ls ((as.reverse ++ .ref o :: st).map (am_v g))) (nL := am_mL m) ⟨hx0, hb0, hml, hown, hts⟩ hM
    ⟨⟨rfl, rfl, by show d + 1 ≤ _; omega, by show 8 + (am_mL f + 11) + 40 * d ≤ _; omega, am_wsh hts (am_wmem x3), List.mem_cons_self⟩, am_word hts x3, am_word hts x2, am_nm_ne w5, am_np_len w6, am_word hts w0, am_word hts w1, va_Decl.abs (va_Nw.of rfl (am_word hts w2)), am_word hts x0, am_word hts x1⟩
    ⟨am_blind g _ _, va_recv (ci := ci) (q0 := 0) hSy.1 (am_P1 hH ho) (am_kd_at hc12) rfl, fun U hU hW => ⟨rfl, hSy.moved hW.alike, by rw [hU]; exact hH.moved hW.alike⟩⟩ rfl (by rw [List.length_map]; simpa using k2) hL.1 (by show List.map _ _ = _; rw [List.map_append, List.map_reverse]; rfl) (lv_room (by rw [am_stc]; exact k6)) hd ⟨by omega, by omega⟩
  refine am_back hrun hS (fun r M' H1 locs1 hk hrk hH1 hS1 => ?_)
  have fin := kk r M' hk hrk p e R s mid args below meth c H1 locs1 (cells + nc') (slots + ns') Q ls C h1 h2 (by omega) (by omega) hH1 hS1 hL hQ
  rw [hn, List.map_append] at fin
  have e9 : (r.toList).map (am_v g) = (r.map (am_v g)).toList := by cases r <;> rfl
  rw [e9] at fin
  exact fin
set_option maxHeartbeats 1000000 in
theorem am_cS {k9 : Nat} (as : List Value) (h : am_op m i = some (.invokestatic k9, pc, a, b, 0, ws)) (hst : stk = as.reverse ++ st) (hok : am_okc a b as st = true)
    (kc : AW g d nc' ns' a 0 (am_L0 a as) [] M K') (kk : ∀ (r : Option Value) (M' : am_M), K' r M' → am_rk r → AW g (d + 1) nc ns m (i + 1) L (r.toList ++ st) M' K) : AW g (d + 1) (nc + nc') (ns + ns') m i L stk M K := by
  subst hst
  obtain ⟨hd, hx⟩ := am_dec h
  simp only [am_cx, Bool.and_eq_true, beq_iff_eq, if_neg (show ¬ (0 : Int32) = 2 by decide)] at hx
  obtain ⟨hn, ⟨⟨⟨⟨w0, w1⟩, w3⟩, w4⟩, w5⟩, w6⟩ := hx
  unfold am_okc at hok
  simp only [Bool.and_eq_true, beq_iff_eq, decide_eq_true_eq, List.all_eq_true] at hok
  obtain ⟨⟨⟨⟨⟨⟨k0, k1⟩, k2⟩, k3⟩, k4⟩, k5⟩, k6⟩ := hok
  intro p e R s mid args below meth c H locs cells slots Q ls C h1 h2 h3 h4 hH hS hL hQ
  obtain ⟨hx0, hb0, -, hml, hown, -, -, hts, hSy, -⟩ := id C
  have hM := am_met k0 k1 (by omega) k5 kc
  have hrun := va_runS (l := g.1) (e := e) (below := below) (meth := meth) (R := R) (locs := locs) (cells := cells) (slots := slots) (Ts := lw_tbl) (As := as.map (am_v g)) (rest := st.map (am_v g)) (n := b) (g := F0 mid (am_pc m i) ls ((as.reverse ++ st).map (am_v g))) (nL := am_mL m) ⟨hx0, hb0, hml, hown, hts⟩ hM
    ⟨⟨rfl, rfl, by show d + 1 ≤ _; omega, by show 8 + (am_mL a + 11) + 40 * d ≤ _; omega, am_wsh hts (am_wmem w4), List.mem_cons_self, am_word hts w4, am_word hts w3, am_nm_ne w5, am_np_len w6, am_word hts w0⟩, am_word hts w1⟩
    ⟨am_blind g _ _, fun U hU hW => ⟨rfl, hSy.moved hW.alike, by rw [hU]; exact hH.moved hW.alike⟩⟩ rfl (by rw [List.length_map]; exact k2) hL.1 (by show List.map _ _ = _; rw [List.map_append, List.map_reverse]) (lv_room (by rw [am_stc]; exact k6)) hd ⟨by omega, by omega⟩
  refine am_back hrun hS (fun r M' H1 locs1 hk hrk hH1 hS1 => ?_)
  have fin := kk r M' hk hrk p e R s mid args below meth c H1 locs1 (cells + nc') (slots + ns') Q ls C h1 h2 (by omega) (by omega) hH1 hS1 hL hQ
  rw [hn, List.map_append] at fin
  have e9 : (r.toList).map (am_v g) = (r.map (am_v g)).toList := by cases r <;> rfl
  rw [e9] at fin
  exact fin
set_option maxHeartbeats 1000000 in
/-- a constructor, by a plain link -/
theorem am_cI {k9 o : Nat} (as : List Value) (h : am_op m i = some (.invokespecial k9, pc, a, b, 0, ws)) (hst : stk = as.reverse ++ .ref o :: st) (hok : am_okc a (b + 1) (.ref o :: as) st = true)
    (kc : AW g d nc' ns' a 0 (am_L0 a (.ref o :: as)) [] M K') (kk : ∀ (r : Option Value) (M' : am_M), K' r M' → am_rk r → AW g (d + 1) nc ns m (i + 1) L (r.toList ++ st) M' K) : AW g (d + 1) (nc + nc') (ns + ns') m i L stk M K := by
  subst hst
  obtain ⟨hd, hx⟩ := am_dec h
  simp only [am_cx, Bool.and_eq_true, beq_iff_eq, decide_eq_true_eq, if_neg (show ¬ (0 : Int32) = 2 by decide), if_neg (show ¬ (0 : Int32) = 1 by decide)] at hx
  obtain ⟨hn, ⟨⟨⟨⟨⟨⟨w0, w1⟩, w3⟩, w4⟩, wr⟩, wn⟩, w5⟩, w6⟩ := hx
  unfold am_okc at hok
  simp only [Bool.and_eq_true, beq_iff_eq, decide_eq_true_eq, List.all_eq_true] at hok
  obtain ⟨⟨⟨⟨⟨⟨k0, k1⟩, k2⟩, k3⟩, k4⟩, k5⟩, k6⟩ := hok
  intro p e R s mid args below meth c H locs cells slots Q ls C h1 h2 h3 h4 hH hS hL hQ
  obtain ⟨hx0, hb0, -, hml, hown, -, -, hts, hSy, -⟩ := id C
  have hM := am_met k0 k1 (by omega) k5 kc
  have hrun := va_runI (l := g.1) (e := e) (below := below) (meth := meth) (R := R) (locs := locs) (cells := cells) (slots := slots) (Ts := lw_tbl) (b := am_base g + o) (As := as.map (am_v g)) (rest := st.map (am_v g)) (n := b) (g := F0 mid (am_pc m i) ls ((as.reverse ++ .ref o :: st).map (am_v g))) (nL := am_mL m) ⟨hx0, hb0, hml, hown, hts⟩ hM
    ⟨⟨rfl, rfl, by show d + 1 ≤ _; omega, by show 8 + (am_mL a + 11) + 40 * d ≤ _; omega, am_wsh hts (by rw [wr]; exact am_wmem w4), by unfold am_ws; rw [wr]; exact List.mem_cons_self, am_word hts w4, am_word hts w3, am_nm_ne w5, am_np_len w6, am_word hts w0⟩, wn, am_word hts w1⟩
    ⟨am_blind g _ _, fun U hU hW => ⟨rfl, hSy.moved hW.alike, by rw [hU]; exact hH.moved hW.alike⟩⟩ rfl (by rw [List.length_map]; simpa using k2) hL.1 (by show List.map _ _ = _; rw [List.map_append, List.map_reverse]; rfl) (lv_room (by rw [am_stc]; exact k6)) hd ⟨by omega, by omega⟩
  refine am_back hrun hS (fun r M' H1 locs1 hk hrk hH1 hS1 => ?_)
  have fin := kk r M' hk hrk p e R s mid args below meth c H1 locs1 (cells + nc') (slots + ns') Q ls C h1 h2 (by omega) (by omega) hH1 hS1 hL hQ
  rw [hn, List.map_append] at fin
  have e9 : (r.toList).map (am_v g) = (r.map (am_v g)).toList := by cases r <;> rfl
  rw [e9] at fin
  exact fin
set_option maxHeartbeats 1000000 in
/-- a constructor of a nest mate -/
theorem am_cN {k9 o : Nat} (as : List Value) (h : am_op m i = some (.invokespecial k9, pc, a, b, 1, ws)) (hst : stk = as.reverse ++ .ref o :: st) (hok : am_okc a (b + 1) (.ref o :: as) st = true)
    (kc : AW g d nc' ns' a 0 (am_L0 a (.ref o :: as)) [] M K') (kk : ∀ (r : Option Value) (M' : am_M), K' r M' → am_rk r → AW g (d + 1) nc ns m (i + 1) L (r.toList ++ st) M' K) : AW g (d + 1) (nc + nc') (ns + ns') m i L stk M K := by
  subst hst
  obtain ⟨hd, hx⟩ := am_dec h
  simp only [am_cx, Bool.and_eq_true, beq_iff_eq, decide_eq_true_eq, if_neg (show ¬ (1 : Int32) = 2 by decide), if_true] at hx
  obtain ⟨hn, ⟨⟨⟨⟨⟨⟨w0, w1⟩, w3⟩, w4⟩, wr⟩, wn⟩, w5⟩, w6⟩ := hx
  unfold am_okc at hok
  simp only [Bool.and_eq_true, beq_iff_eq, decide_eq_true_eq, List.all_eq_true] at hok
  obtain ⟨⟨⟨⟨⟨⟨k0, k1⟩, k2⟩, k3⟩, k4⟩, k5⟩, k6⟩ := hok
  intro p e R s mid args below meth c H locs cells slots Q ls C h1 h2 h3 h4 hH hS hL hQ
  obtain ⟨hx0, hb0, -, hml, hown, -, -, hts, hSy, -⟩ := id C
  have hM := am_met k0 k1 (by omega) k5 kc
  have hrun := va_runIN (l := g.1) (e := e) (below := below) (meth := meth) (R := R) (locs := locs) (cells := cells) (slots := slots) (Ts := lw_tbl) (host := "RoundBench") (b := am_base g + o) (As := as.map (am_v g)) (rest := st.map (am_v g)) (n := b) (g := F0 mid (am_pc m i) ls ((as.reverse ++ .ref o :: st).map (am_v g))) (nL := am_mL m) ⟨hx0, hb0, hml, hown, hts⟩ hM
    ⟨⟨⟨rfl, rfl, by show d + 1 ≤ _; omega, by show 8 + (am_mL a + 11) + 40 * d ≤ _; omega, am_wsh hts (by rw [wr]; exact am_wmem w4), by unfold am_ws; rw [wr]; exact List.mem_cons_self⟩, am_word hts w4, am_word hts w3, am_nm_ne w5, am_np_len w6, am_word hts w0⟩, wn, am_word hts w1⟩
    ⟨am_blind g _ _, fun U hU hW => ⟨rfl, hSy.moved hW.alike, by rw [hU]; exact hH.moved hW.alike⟩⟩ rfl (by rw [List.length_map]; simpa using k2) hL.1 (by show List.map _ _ = _; rw [List.map_append, List.map_reverse]; rfl) (lv_room (by rw [am_stc]; exact k6)) hd ⟨by omega, by omega⟩
  refine am_back hrun hS (fun r M' H1 locs1 hk hrk hH1 hS1 => ?_)
  have fin := kk r M' hk hrk p e R s mid args below meth c H1 locs1 (cells + nc') (slots + ns') Q ls C h1 h2 (by omega) (by omega) hH1 hS1 hL hQ
  rw [hn, List.map_append] at fin
  have e9 : (r.toList).map (am_v g) = (r.map (am_v g)).toList := by cases r <;> rfl
  rw [e9] at fin
  exact fin
/-- Object's own constructor -/
theorem am_cO {k9 o : Nat} (h : am_op m i = some (.invokespecial k9, pc, a, b, 2, ws)) (hs8 : (st.map fun v => v.category).sum ≤ 8) (k : AW g (d + 1) nc ns m (i + 1) L st M K) : AW g (d + 1) nc ns m i L (.ref o :: st) M K := by
  obtain ⟨hd, hx⟩ := am_dec h
  simp only [am_cx, Bool.and_eq_true, beq_iff_eq, if_true] at hx
  obtain ⟨hn, ⟨w0, w1⟩, w2⟩ := hx
  intro p e R s mid args below meth c H locs cells slots Q ls C h1 h2 h3 h4 hH hS hL hQ
  obtain ⟨hx0, hb0, -, hml, hown, -, -, hts, hSy, -⟩ := id C
  refine W.objInit hx0 hb0 hown (am_word hts w0) (am_word hts w1) (am_word hts w2) rfl (by rw [hml]; exact hL.1) rfl hd (by omega) (by have := lv_room (m := mid) (pc := am_pc m i) (ls := ls) (rest := st.map (am_v g)) (st := st.map (am_v g)) (by rw [am_stc]; exact hs8); show 2 * (F0 mid (am_pc m i) ls _).monitorRoom + _ + 12 ≤ _; exact Nat.le_trans (Nat.add_le_add_right this 12) (by omega)) ?_
  have fin := k p e R s mid args below meth c H locs cells slots Q ls C h1 h2 h3 h4 hH hS hL hQ
  rw [hn] at fin
  exact fin
/-- tableswitch, by the int -/
theorem am_swIn {dflt lo hi : Int} {offs : Array Int} {x : Int32} {j tgt : Nat} (h : am_op m i = some (.tableswitch dflt lo hi offs, pc, a, b, v, ws)) (hx9 : x.toInt = v.toInt + j) (hj : j < b) (ht : ws[j]? = some tgt) (k : AW g d nc ns m tgt L st M K) : AW g d nc ns m i L (.int x :: st) M K := by
  obtain ⟨hd, hx⟩ := am_dec h
  simp only [am_cx, Bool.and_eq_true, beq_iff_eq, decide_eq_true_eq] at hx
  obtain ⟨⟨⟨⟨w0, w1⟩, w2⟩, w3⟩, w4⟩ := hx
  have hl : (offs.toList.map (fun o => ((am_pc m i : Nat) : Int) + o))[j]? = some ((am_pc m tgt : Nat) : Int) := by rw [w3, List.getElem?_map, ht]; rfl
  rw [List.getElem?_map] at hl
  cases ho : offs.toList[j]? with
  | none => rw [ho] at hl; cases hl
  | some off =>
    rw [ho] at hl
    have hl : ((am_pc m i : Nat) : Int) + off = ((am_pc m tgt : Nat) : Int) := Option.some.inj hl
    refine am_lift (fun C _ _ _ w => ?_) k
    refine lv_tableIn C.1 C.2.1 hd (by omega) (by omega) (off := off) ?_ hl w
    rw [hx9, w1, show (v.toInt + (j : Int) - v.toInt).toNat = j by omega, ← Array.getElem?_toList]
    exact ho
theorem am_swOut {dflt lo hi : Int} {offs : Array Int} {x : Int32} (h : am_op m i = some (.tableswitch dflt lo hi offs, pc, a, b, v, ws)) (hx9 : x.toInt < v.toInt ∨ v.toInt + b ≤ x.toInt) (k : AW g d nc ns m a L st M K) : AW g d nc ns m i L (.int x :: st) M K := by
  obtain ⟨hd, hx⟩ := am_dec h
  simp only [am_cx, Bool.and_eq_true, beq_iff_eq, decide_eq_true_eq] at hx
  obtain ⟨⟨⟨⟨w0, w1⟩, w2⟩, w3⟩, w4⟩ := hx
  refine am_lift (fun C _ _ _ w => ?_) k
  exact lv_tableOut C.1 C.2.1 hd (by omega) w0 w
end AMD
end
section
/-! System.arraycopy of int arrays; new objects and arrays -/
section AME
variable {g : am_G} {d nc ns m i : Nat} {L : am_L} {st : List Value} {M : am_M} {K : am_K} {pc a b : Nat} {v : Int32} {ws : List Nat}
set_option maxHeartbeats 1000000 in
/-- the first n ints of one array into another one -/
theorem am_copy {k9 o o2 n0 n1 n : Nat} {f f2 : Nat → Int32} (h : am_op m i = some (.invokestatic k9, pc, a, b, 2, ws)) (ho : M[o]? = some (.inl (0, n0, .inl f))) (ho2 : M[o2]? = some (.inl (0, n1, .inl f2))) (hn0 : n ≤ n0) (hn1 : n ≤ n1) (hn : n < 2 ^ 31) (hs8 : (st.map fun v => v.category).sum ≤ 8)
    (k : AW g (d + 1) nc ns m (i + 1) L st (M.set o2 (.inl (0, n1, .inl (va_cpy f f2 0 0 n)))) K) : AW g (d + 1) nc ns m i L (.int (nI n) :: .int 0 :: .ref o2 :: .int 0 :: .ref o :: st) M K := by
  obtain ⟨hd, hx⟩ := am_dec h
  simp only [am_cx, Bool.and_eq_true, beq_iff_eq, if_true] at hx
  obtain ⟨hn3, ⟨⟨w0, w1⟩, w2⟩, w3⟩ := hx
  intro p e R s mid args below meth c H locs cells slots Q ls C h1 h2 h3 h4 hH hS hL hQ
  obtain ⟨hx0, hb0, -, hml, hown, -, -, hts, hSy, -⟩ := id C
  have hc0 : H[am_base g + o]? = some (arrV (am_ac g 0) n0 (fun j => .int (f j))) := hH.2.1 o _ ho
  have hc1 : H[am_base g + o2]? = some (arrV (am_ac g 0) n1 (fun j => .int (f2 j))) := hH.2.1 o2 _ ho2
  obtain ⟨-, k0, hk0, cm0, hkk0⟩ := (hSy.2 0 _ rfl).1 n0 (fun j => .int (f j))
  obtain ⟨-, k1, hk1, cm1, hkk1⟩ := (hSy.2 0 _ rfl).1 n1 (fun j => .int (f2 j))
  have hcl : (nI n).toNatClampNeg = n := nI_clamp hn
  have hti : (nI n).toInt = (n : Int) := nI_toInt hn
  intro T hT X
  obtain ⟨vm', X', step⟩ := X.arraycopy hx0 hown (am_word hts w0) (am_word hts w1) (am_word hts w2) (am_word hts w3) (src := am_base g + o) (dst := am_base g + o2) (srcPos := 0) (destPos := 0) (n := nI n) (by rw [hT]; exact hc0) (by rw [hT]; exact hc1)
    (fun _ h => by cases h) (fun _ h => by cases h) (fun h => by cases h) (fun h => by cases h) hk0 hk1 hkk0 hkk1 rfl (by decide) (by decide) (nI_pos hn)
    (by rw [hti, arrV_size]; show ¬ ((0 : Int32).toInt + (n : Int) > (n0 : Int)); rw [Int32.toInt_zero]; omega)
    (by rw [hti, arrV_size]; show ¬ ((0 : Int32).toInt + (n : Int) > (n1 : Int)); rw [Int32.toInt_zero]; omega)
    (fun vm₁ _ j hj => by
      rw [hcl] at hj
      have e0 : (arrV (am_ac g 0) n0 (fun j => Value.int (f j))).slots.getD ((0 : Int32).toNatClampNeg + j) .null = .int (f j) := by
        rw [show (0 : Int32).toNatClampNeg + j = j by rw [show (0 : Int32).toNatClampNeg = 0 by decide]; omega, Array.getD_eq_getD_getElem?, arrV_read _ _ (by omega)]
        rfl
      rw [e0]
      exact ⟨rfl, trivial⟩)
    (g := F0 mid (am_pc m i) ls (.int (nI n) :: .int 0 :: .ref (am_base g + o2) :: .int 0 :: .ref (am_base g + o) :: st.map (am_v g))) rfl (by rw [hml]; exact hL.1) (rest := st.map (am_v g)) rfl (by rw [hb0]; exact hd) (by omega) (by
      have := lv_room (m := mid) (pc := am_pc m i) (ls := ls) (rest := (.int (nI n) :: .int 0 :: .ref (am_base g + o2) :: .int 0 :: .ref (am_base g + o) :: st.map (am_v g))) (st := st.map (am_v g)) (by rw [am_stc]; exact hs8)
      have h5 : nativeFrameWords "java/lang/System" "arraycopy" 5 + 11 ≤ 32 := by decide +kernel
      exact Nat.le_trans (Nat.add_le_add this h5) (by omega))
  have e1 : copied (arrV (am_ac g 0) n0 (fun j => .int (f j))) (arrV (am_ac g 0) n1 (fun j => .int (f2 j))) 0 0 (nI n) = arrV (am_ac g 0) n1 (fun j => .int (va_cpy f f2 0 0 n j)) := by
    have := va_copied (fun z => Value.int z) (am_ac g 0) (am_ac g 0) (n0 := n0) (n1 := n1) (sp := 0) (dp := 0) (n := n) f f2 (by omega)
    rw [← this]
    show _ = Cell.storeRun _ 0 (Cell.stretch _ 0 n)
    unfold copied
    rw [hcl]
    rfl
  rw [e1] at X' step
  have hl : am_base g + o2 < H.size := (Array.getElem?_eq_some_iff.mp hc1).1
  generalize hcN : arrV (am_ac g 0) n1 (fun j => Value.int (va_cpy f f2 0 0 n j)) = cN at X' step
  have hheap : ((T.setVm vm').setCell (am_base g + o2) cN).heap = H.setIfInBounds (am_base g + o2) cN := by rw [← hT]; rfl
  have g1 : (H.setIfInBounds (am_base g + o2) cN)[am_base g + o2]? = some cN := by simp [Array.getElem?_setIfInBounds, hl]
  have g3 : ∀ q : Nat, q ≠ am_base g + o2 → (H.setIfInBounds (am_base g + o2) cN)[q]? = H[q]? := fun q hq => by simp [Array.getElem?_setIfInBounds, Ne.symm hq]
  have hSl : ∀ LL : List Loc, (∀ q ∈ LL, q.base = am_base g + o2) → va_S (am_A g) s.heap (H.setIfInBounds (am_base g + o2) cN) (locs ++ LL) := fun LL hLL => ⟨by simp; exact hS.1, fun q a1 a2 => by
      rw [g3 q (fun e => a2 (by rw [e]; exact Nat.le_add_right _ _))]
      exact hS.2.1 q a1 a2, fun q hq => by
      rcases List.mem_append.mp hq with h | h
      · exact hS.2.2 q h
      · rw [hLL q h]
        exact Nat.le_add_right _ _⟩
  have fin := fun (LL : List Loc) (hLL : ∀ q ∈ LL, q.base = am_base g + o2) => k p e R s mid args below meth c (H.setIfInBounds (am_base g + o2) cN) (locs ++ LL) cells slots Q ls C h1 h2 h3 h4 (hH.put ho2 (c := .inl (0, n1, .inl (va_cpy f f2 0 0 n))) (by show _ = some (vp_cell _ _); rw [g1, ← hcN]; rfl) (by simp) g3) (hSl LL hLL) hL hQ
  simp only [hn3] at fin
  obtain ⟨t, a1, b1⟩ := fin _ (fun q hq => by obtain ⟨z, -, hz⟩ := List.mem_map.mp hq; rw [← hz]) _ hheap X'
  exact ⟨t, step t a1, b1⟩
theorem am_zero {g : am_G} {ty : FieldType} {w : Value} (h : (match ty with | .int | .boolean => w == .int 0 | .object _ | .array _ => w == .null | _ => false) = true) : defaultValue ty = am_v g w := by
  cases ty <;> simp at h <;> subst h <;> rfl
/-- a new object: its fields are zero -/
theorem am_new {k9 n : Nat} {fs : List Value} (h : am_op m i = some (.new k9, pc, a, b, v, ws)) (hn : (am_kd a).2.2 = n) (hfs : ∀ j, j < n → (match am_ft a j with | .int | .boolean => vp_V fs j == .int 0 | .object _ | .array _ => vp_V fs j == .null | _ => false) = true) (hlen : fs.length = n)
    (k : AW g d nc ns m (i + 1) L (.ref M.length :: st) (M ++ [.inr (a, fs)]) K) : AW g d (nc + 1) (ns + n) m i L st M K := by
  obtain ⟨hd, hx⟩ := am_dec h
  simp only [am_cx, Bool.and_eq_true, beq_iff_eq, decide_eq_true_eq] at hx
  obtain ⟨⟨⟨⟨hn3, ha⟩, w0⟩, w1⟩, w2⟩ := hx
  intro p e R s mid args below meth c H locs cells slots Q ls C h1 h2 h3 h4 hH hS hL hQ
  obtain ⟨hx0, hb0, -, hml, hown, -, -, hts, hSy, -⟩ := id C
  subst hn
  have hKn := hSy.1.1 a _ (am_kd_at ha)
  refine W.newcK hx0 hb0 hown (am_word hts w0) (am_word hts w1) (am_word hts w2) rfl hd (by omega) (by omega) hKn.2.1 rfl fun H1 kC hkC e1 z1 o1 => ?_
  have hob := (u_born (am_ft a) hts (am_lay a ha) hKn hkC e1 (am_tok a ha)).to (V' := vp_V (fs.map (am_v g))) (fun j hj => by
    rw [am_zero (g := g) (hfs j hj)]
    simp [vp_V, List.getD_eq_getElem?_getD, List.getElem?_map]
    rw [List.getElem?_eq_getElem (by omega)]
    rfl)
  have hH1 : am_H g s (M ++ [.inr (a, fs)]) H1 := hH.push (c := .inr (a, fs)) ⟨_, am_kd_at ha, hob⟩ z1 o1
  have fin := k p e R s mid args below meth c H1 locs (cells + 1) (slots + (am_kd a).2.2) Q ls C h1 h2 (by omega) (by omega) hH1 ⟨Nat.le_trans hS.1 (by omega), fun x g1 g2 => (o1 x (Nat.lt_of_lt_of_le g1 hS.1)).trans (hS.2.1 x g1 g2), hS.2.2⟩ hL hQ
  rw [hn3] at fin
  have e5 : am_v g (.ref M.length) = .ref H.size := by rw [hH.1]; rfl
  rw [List.map_cons, e5] at fin
  exact fin
theorem am_newa {ty : ArrayType} {n : Nat} {x : Int32} (h : am_op m i = some (.newarray ty, pc, a, b, v, ws)) (hx9 : x = nI n) (hn : n < 1000000) (hty : ty = .int ∨ ty = .boolean)
    (k : AW g d nc ns m (i + 1) L (.ref M.length :: st) (M ++ [.inl (a, n, .inl fun _ => 0)]) K) : AW g d (nc + 1) (ns + n) m i L (.int x :: st) M K := by
  obtain ⟨hd, hx⟩ := am_dec h
  simp only [am_cx, Bool.and_eq_true, beq_iff_eq, decide_eq_true_eq] at hx
  obtain ⟨⟨hn3, ha⟩, w0⟩ := hx
  subst hx9
  intro p e R s mid args below meth c H locs cells slots Q ls C h1 h2 h3 h4 hH hS hL hQ
  obtain ⟨hx0, hb0, -, hml, hown, -, -, hts, hSy, -⟩ := id C
  refine va_newaK hx0 hb0 (am_word hts w0) rfl hd rfl (nI_pos (by omega)) (nI_clamp (by omega)) (by rcases hty with rfl | rfl <;> (simp only [newarray.typeOf, componentBytes]; omega)) (by omega) (by omega) rfl fun H1 cA e1 z1 o1 hAr hNm => ?_
  have hcA : cA = am_ac g a := Option.some.inj (hNm.symm.trans (hSy.2 a _ ha).2)
  subst hcA
  have hH1 : am_H g s (M ++ [.inl (a, n, .inl fun _ => 0)]) H1 := hH.push (c := .inl (a, n, .inl fun _ => 0)) (by
    show H1[H.size]? = some (vp_cell _ _)
    rw [e1]
    rcases hty with rfl | rfl <;> rfl) z1 o1
  have fin := k p e R s mid args below meth c H1 locs (cells + 1) (slots + n) Q ls C h1 h2 (by omega) (by omega) hH1 ⟨Nat.le_trans hS.1 (by omega), fun x g1 g2 => (o1 x (Nat.lt_of_lt_of_le g1 hS.1)).trans (hS.2.1 x g1 g2), hS.2.2⟩ hL hQ
  rw [hn3] at fin
  have e5 : am_v g (.ref M.length) = .ref H.size := by rw [hH.1]; rfl
  rw [List.map_cons, e5] at fin
  exact fin
theorem am_anew {k9 n : Nat} {x : Int32} (h : am_op m i = some (.anewarray k9, pc, a, b, v, ws)) (hx9 : x = nI n) (hn : n < 1000000)
    (k : AW g d nc ns m (i + 1) L (.ref M.length :: st) (M ++ [.inl (3, n, .inr fun _ => none)]) K) : AW g d (nc + 1) (ns + n) m i L (.int x :: st) M K := by
  obtain ⟨hd, hx⟩ := am_dec h
  simp only [am_cx, Bool.and_eq_true, beq_iff_eq, decide_eq_true_eq] at hx
  obtain ⟨⟨⟨hn3, ha⟩, w0⟩, w1⟩ := hx
  subst hx9
  intro p e R s mid args below meth c H locs cells slots Q ls C h1 h2 h3 h4 hH hS hL hQ
  obtain ⟨hx0, hb0, -, hml, hown, -, -, hts, hSy, -⟩ := id C
  have hcl : (nI n).toNatClampNeg = n := nI_clamp (by omega)
  refine W.anew hx0 hb0 hown (am_word hts w0) (am_word hts w1) rfl hd rfl (nI_pos (by omega)) (by rw [hcl]; omega) (by omega) (by rw [hcl]; omega) fun cA kA comp f1 f2 f3 f4 => ?_
  rw [hcl]
  have hcA : cA = am_ac g 3 := Option.some.inj (f1.symm.trans (hSy.2 3 _ rfl).2)
  subst hcA
  generalize hH1 : H.push ({ cls := am_ac g 3, slots := Array.replicate n .null, vm := .none } : Cell) = H1
  have z1 : H1.size = H.size + 1 := by rw [← hH1, Array.size_push]
  have e1 : H1[H.size]? = some (arrV (am_ac g 3) n (fun _ => .null)) := by rw [← hH1, Array.getElem?_push_size, ← arrV_new]
  have o1 : ∀ q : Nat, q < H.size → H1[q]? = H[q]? := fun q hq => by rw [← hH1, Array.getElem?_push, if_neg (Nat.ne_of_lt hq)]
  have hH2 : am_H g s (M ++ [.inl (3, n, .inr fun _ => none)]) H1 := hH.push (c := .inl (3, n, .inr fun _ => none)) (by
    show H1[H.size]? = some (vp_cell _ _)
    rw [e1]
    rfl) z1 o1
  have fin := k p e R s mid args below meth c H1 locs (cells + 1) (slots + n) Q ls C h1 h2 (by omega) (by omega) hH2 ⟨Nat.le_trans hS.1 (by omega), fun x g1 g2 => (o1 x (Nat.lt_of_lt_of_le g1 hS.1)).trans (hS.2.1 x g1 g2), hS.2.2⟩ hL hQ
  rw [hn3] at fin
  have e5 : am_v g (.ref M.length) = .ref H.size := by rw [hH.1]; rfl
  rw [List.map_cons, e5] at fin
  exact fin
end AME
end
section
/-! an algorithm into the array of them; new int[n][k] -/
theorem am_ao3 : Cond.arrayOver (.object "RoundBench$Algorithm") ∈ lw_tbl := by decide +kernel
theorem am_cas : ∀ ci : Nat, 3 ≤ ci → ci < 11 → Cond.castable (am_kd ci).1 "RoundBench$Algorithm" ∈ lw_tbl
  | 3, _, _ => by decide +kernel
  | 4, _, _ => by decide +kernel
  | 5, _, _ => by decide +kernel
  | 6, _, _ => by decide +kernel
  | 7, _, _ => by decide +kernel
  | 8, _, _ => by decide +kernel
  | 9, _, _ => by decide +kernel
  | 10, _, _ => by decide +kernel
section AMF
variable {g : am_G} {d nc ns m i : Nat} {L : am_L} {st : List Value} {M : am_M} {K : am_K} {pc a b : Nat} {v : Int32} {ws : List Nat}
set_option maxHeartbeats 1000000 in
theorem am_aast {o q n k8 ci : Nat} {f : Nat → Option Nat} {fs : List Value} {x : Int32} (h : am_op m i = some (.aastore, pc, a, b, v, ws)) (ho : M[o]? = some (.inl (3, n, .inr f))) (hq : M[q]? = some (.inr (ci, fs))) (hc3 : 3 ≤ ci) (hc11 : ci < 11) (hx8 : x = nI k8) (hk : k8 < n) (hn8 : n < 2 ^ 31)
    (k : AW g d nc ns m (i + 1) L st (M.set o (.inl (3, n, .inr (va_up f k8 (some q))))) K) : AW g d nc ns m i L (.ref q :: .int x :: .ref o :: st) M K := by
  obtain ⟨hd, hx⟩ := am_dec h
  have hn : am_pc m (i + 1) = am_pc m i + 1 := by simpa [am_cx] using hx
  subst hx8
  intro p e R s mid args below meth c H locs cells slots Q ls C h1 h2 h3 h4 hH hS hL hQ
  obtain ⟨hx0, hb0, -, hml, hown, -, -, hts, hSy, -⟩ := id C
  have hcell : _ = some (vp_cell _ _) := hH.2.1 o _ ho
  obtain ⟨r', hr', cellV, g1, g2, g3, -⟩ := hH.2.1 q _ hq
  have hc12 : ci < am_cl.length := by show ci < 12; omega
  have hcls := (hSy.1.1 ci _ (am_kd_at hc12)).2
  obtain ⟨comp, cA, kA, f1, f2, f3, f4, f5⟩ := Cond.arrayOver_spec (hts _ am_ao3)
  have hcA : am_ac g 3 = cA := Option.some.inj ((hSy.2 3 _ rfl).2.symm.trans f5)
  obtain ⟨kE, hkE, -⟩ := Vm.findClass_spec f1
  obtain ⟨c0, t1, y1, y2, y3⟩ := Cond.castable_spec (hts _ (am_cas ci hc3 hc11))
  have e0 : c0 = (am_D g).1 ci := Option.some.inj (y1.symm.trans hcls.1)
  have e1 : t1 = comp := Option.some.inj (y2.symm.trans f1)
  subst e0
  subst e1
  obtain ⟨kC, hkC, -⟩ := hcls.2
  have hin := vp_in_nI hk hn8
  refine W.aast (t := .object "RoundBench$Algorithm") (cv := cellV) hx0 hb0 hcell (fun q h => by cases h) (fun h => by cases h) (k := kA) (comp := t1) (by show s.vm.classes[am_ac g 3]? = _; rw [hcA]; exact f3) f4 rfl hkE ⟨fun z => hin (Or.inl z), by show _ < (arrV _ _ _).slots.size; rw [arrV_size]; exact Nat.not_le.mp fun z => hin (Or.inr z)⟩ g1 (fun q h => by rw [g3] at h; cases h) (kv := kC) (by rw [g2]; exact hkC) (by rw [g2]; exact y3) rfl rfl hd (fun H' z1 z2 z3 => ?_)
  have hp : W p g.1 e R s mid args below meth c H' (locs ++ [⟨am_base g + o, (nI k8).toNatClampNeg⟩]) cells slots Q (F0 mid (am_pc m (i + 1)) ls (st.map (am_v g))) := by
    refine k p e R s mid args below meth c H' _ cells slots Q ls C h1 h2 h3 h4 (hH.put ho ?_ z2 z3) (hS.put z2 z3 (Nat.le_add_right _ _)) hL hQ
    show H'[am_base g + o]? = some (vp_cell _ _)
    rw [z1]
    refine congrArg some ?_
    show (arrV _ _ _).setSlot _ _ = arrV _ _ (fun j => va_rf ((va_up f k8 (some q) j).map (fun i => am_base g + i)))
    rw [arrV_store, nI_clamp (by omega)]
    refine congrArg (arrV _ _) (funext fun j => ?_)
    by_cases hj : j = k8
    · simp [updV, va_up, hj, va_rf]
    · simp [updV, va_up, hj]
  rw [hn] at hp
  exact hp
end AMF
/-- the heap while new int[n][k] is being made: i rows are there -/
def am_gr (T : State) (cA cI : ClassId) (N k : Nat) : Nat → State
  | 0 => T.pushCell (arrV cA N (fun _ => .null))
  | i + 1 => ((am_gr T cA cI N k i).pushCell (arrV cI k (fun _ => .int 0))).setCell T.heap.size ((arrV cA N (fun j => if j < i then .ref (T.heap.size + 1 + j) else .null)).setSlot i (.ref (T.heap.size + 1 + i)))
theorem am_gro (cA : ClassId) (N h0 i : Nat) : (arrV cA N (fun j => if j < i then .ref (h0 + 1 + j) else .null)).setSlot i (.ref (h0 + 1 + i)) = arrV cA N (fun j => if j < i + 1 then .ref (h0 + 1 + j) else .null) := by
  rw [arrV_store]
  refine congrArg (arrV cA N) (funext fun j => ?_)
  by_cases e : j = i
  · subst e
    simp [updV]
  · by_cases h : j < i
    · simp [updV, e, h, show j < i + 1 by omega]
    · simp [updV, e, h, show ¬ j < i + 1 by omega]
theorem am_grf (T : State) (cA cI : ClassId) (N k : Nat) : ∀ i : Nat, (am_gr T cA cI N k i).heap.size = T.heap.size + 1 + i ∧ (am_gr T cA cI N k i).heap[T.heap.size]? = some (arrV cA N (fun j => if j < i then .ref (T.heap.size + 1 + j) else .null)) ∧ (am_gr T cA cI N k i).vm = T.vm ∧ (am_gr T cA cI N k i).slotsUsed = T.slotsUsed + N + i * k ∧
    (∀ x : Nat, x < T.heap.size → (am_gr T cA cI N k i).heap[x]? = T.heap[x]?) ∧ (∀ j : Nat, j < i → (am_gr T cA cI N k i).heap[T.heap.size + 1 + j]? = some (arrV cI k (fun _ => .int 0)))
  | 0 => by
    refine ⟨by simp [am_gr], ?_, rfl, by simp [am_gr, arrV_size], fun x hx => State.heap_pushCell_of_lt _ _ hx, fun j hj => absurd hj (Nat.not_lt_zero _)⟩
    show (T.pushCell _).heap[T.heap.size]? = _
    rw [State.heap_pushCell_size]
    simp
  | i + 1 => by
    obtain ⟨f1, f2, f3, f4, f5, f6⟩ := am_grf T cA cI N k i
    have hlt : T.heap.size < (am_gr T cA cI N k i).heap.size := by omega
    have hb : ((am_gr T cA cI N k i).pushCell (arrV cI k (fun _ => .int 0))).heap[T.heap.size]? = some (arrV cA N (fun j => if j < i then .ref (T.heap.size + 1 + j) else .null)) := by rw [State.heap_pushCell_of_lt (h := hlt)]; exact f2
    refine ⟨?_, ?_, by simp [am_gr, f3], ?_, fun x hx => ?_, fun j hj => ?_⟩
    · simp [am_gr, State.setCell, f1]; omega
    · rw [← am_gro]
      exact State.heap_setCell_self hb
    · simp [am_gr, f4, arrV_size, Nat.succ_mul, Cell.setSlot]
      have := arrV_size cA N (fun j => if j < i then Value.ref (T.heap.size + 1 + j) else .null)
      first | omega | (rw [State.slotsUsed_setCell_same hb (by simp [Cell.setSlot])]; simp [f4, arrV_size]; omega)
    · show (State.setCell _ _ _).heap[x]? = _
      have hx2 : x < (am_gr T cA cI N k i).heap.size := by omega
      rw [State.heap_setCell_other (Nat.ne_of_gt hx), State.heap_pushCell_of_lt (h := hx2)]
      exact f5 x hx
    · show (State.setCell _ _ _).heap[_]? = _
      rw [State.heap_setCell_other (show T.heap.size ≠ T.heap.size + 1 + j by omega)]
      rcases Nat.lt_or_ge j i with hj2 | hj2
      · have hx2 : T.heap.size + 1 + j < (am_gr T cA cI N k i).heap.size := by omega
        rw [State.heap_pushCell_of_lt (h := hx2)]
        exact f6 j hj2
      · have e : j = i := by omega
        subst e
        rw [← f1]
        exact State.heap_pushCell_size _ _
theorem am_grt (T : State) (fr : JFrame) (cA cI : ClassId) (N k : Nat) : ∀ i : Nat, am_gr (T.setTop fr) cA cI N k i = (am_gr T cA cI N k i).setTop fr
  | 0 => rfl
  | i + 1 => by simp only [am_gr, am_grt T fr cA cI N k i, State.heap_setTop, State.pushCell_setTop, State.setCell_setTop]
section AMW
variable {E : CtlPost} {e : Env} {d : Bool} {acts : List Action} {s : State}
theorem am_wpna {c comp : ClassId} {k : Class} {type : FieldType} {len : Nat} {z : Value} (hk : s.vm.classes[c]? = some k) (hkind : k.kind = .array comp type)
    (hlimit : ¬ len > e.platform.arrayLengthLimit) (hheap : ¬ len * componentBytes type > e.platform.maxHeapBytes) (hfit : fits type z = true) (hdef : z.isDefault = true) {Q : Addr → Pre}
    (h1 : s.heap.size < e.platform.maxCells) (h2 : s.slotsUsed + len ≤ e.platform.maxSlots) (hq : Q s.heap.size d acts (s.pushCell (arrV c len (fun _ => z)))) :
    wp (Jvm.newArray c len z) Q E e d acts s := by
  rw [← arrV_new] at hq
  have hfits : ∀ i v, (Array.replicate len z)[i]? = some v → s.fitsSlot c .none i v = true := by
    intro i v hv
    rw [Array.getElem?_replicate] at hv
    split at hv
    · cases hv
      simp [State.fitsSlot, State.slotType?, hk, hkind, hfit]
    · cases hv
  have hda : allocActs (Array.replicate len z) s.heap.size acts = acts := by
    have hall : ((Array.replicate len z).all (·.isDefault)) = true := by
      rw [Array.all_replicate]
      split <;> simp [hdef]
    unfold allocActs
    rw [if_pos hall]
  simp only [Jvm.newArray, Jvm.arrayFits, wp_bind', W.ask, W.ite, hlimit, if_false, wp_pure', W.theClass, hk, hkind, hheap, W.alloc, W.stop, Option.some.injEq, exists_eq_left', Array.size_replicate, hda]
  rw [if_neg (by omega)]
  exact ⟨h1, h2, hfits, hq⟩
end AMW
end
section
/-! new int[n][k], on: the loop, the machine's step, the row -/
section AMX
variable {E : CtlPost} {e : Env} {d : Bool} {acts : List Action} {s : State}
theorem am_wpm {cA cI cc : ClassId} {k kc : Class} {n w : Int32} (hk : s.vm.classes[cA]? = some k) (hkind : k.kind = .array cI (.array .int)) (hkc : s.vm.classes[cI]? = some kc) (hkindc : kc.kind = .array cc .int) (hn : ¬ n < 0) (hw : ¬ w < 0)
    (hl1 : ¬ n.toNatClampNeg > e.platform.arrayLengthLimit) (hh1 : ¬ n.toNatClampNeg * componentBytes (.array .int) > e.platform.maxHeapBytes) (hl2 : ¬ w.toNatClampNeg > e.platform.arrayLengthLimit) (hh2 : ¬ w.toNatClampNeg * componentBytes .int > e.platform.maxHeapBytes)
    (hc : s.heap.size + 1 + n.toNatClampNeg ≤ e.platform.maxCells) (hs : s.slotsUsed + n.toNatClampNeg + n.toNatClampNeg * w.toNatClampNeg ≤ e.platform.maxSlots)
    {Q : Addr → Pre} (hq : ∀ d' acts', Q s.heap.size d' acts' (am_gr s cA cI n.toNatClampNeg w.toNatClampNeg n.toNatClampNeg)) : wp (multianewarray.make cA [n, w]) Q E e d acts s := by
  generalize hN : n.toNatClampNeg = N at hl1 hh1 hc hs hq
  generalize hK : w.toNatClampNeg = K at hl2 hh2 hs hq
  have hfind : ([w].find? (· < 0)) = none := by simp [hw]
  rw [multianewarray.make]
  simp only [wp_bind', W.ite, hn, if_false, wp_pure', W.theClass, hk, hkind, Option.some.injEq, exists_eq_left', hN]
  refine am_wpna hk hkind hl1 hh1 rfl rfl (by omega) (by have := Nat.zero_le (N * K); omega) ?_
  simp only [hfind]
  rw [ite_self, wp_bind', Std.Legacy.Range.forIn_eq_forIn_range']
  have hsz : ([:N] : Std.Legacy.Range).size = N := by simp [Std.Legacy.Range.size]
  rw [hsz]
  show wp (forIn (List.range' 0 N 1) PUnit.unit _) _ E e d acts _
  refine wp_forIn_inv (fun rest s' => ∃ j, j ≤ N ∧ rest = List.range' j (N - j) ∧ s' = am_gr s cA cI N K j) _ _ ⟨0, Nat.zero_le _, rfl, rfl⟩ ?_ ?_
  · rintro x rest s' d' acts' Q' ⟨j, hj, hl, rfl⟩ hnext
    have hlt : j < N := by
      rcases Nat.lt_or_ge j N with h | h
      · exact h
      · rw [show N - j = 0 by omega] at hl
        simp at hl
    obtain ⟨rfl, hrest⟩ : x = j ∧ rest = List.range' (j + 1) (N - (j + 1)) := by
      rw [show N - j = (N - (j + 1)) + 1 by omega, List.range'_succ] at hl
      exact ⟨(List.cons.inj hl).1, (List.cons.inj hl).2⟩
    obtain ⟨f1, f2, f3, f4, -, -⟩ := am_grf s cA cI N K x
    have hmul : x * K + K ≤ N * K := by
      have := Nat.mul_le_mul_right K (show x + 1 ≤ N from hlt)
      rw [Nat.succ_mul] at this
      exact this
    simp only [wp_bind']
    rw [multianewarray.make]
    simp only [wp_bind', W.ite, hw, if_false, wp_pure', W.theClass, f3, hkc, hkindc, Option.some.injEq, exists_eq_left', hK]
    refine am_wpna (by rw [f3]; exact hkc) hkindc hl2 hh2 rfl rfl (by rw [f1]; omega) (by rw [f4]; omega) ?_
    have hlt0 : s.heap.size < (am_gr s cA cI N K x).heap.size := by rw [f1]; omega
    simp only [wp_bind', W.writeLoc, wp_pure']
    refine ⟨arrV cA N (fun j => if j < x then .ref (s.heap.size + 1 + j) else .null), by rw [State.heap_pushCell_of_lt (h := hlt0)]; exact f2, (by intro h; cases h), by rw [arrV_size]; exact hlt, ?_, hnext _ _ _ ⟨x + 1, hlt, hrest, ?_⟩⟩
    · show State.fitsSlot _ cA .none x _ = true
      simp [State.fitsSlot, State.slotType?, f3, hk, hkind, fits]
    · rw [f1]
      rfl
  · rintro s' d' acts' ⟨j, hj, hl, rfl⟩
    have hjN : j = N := by
      rcases Nat.lt_or_ge j N with h | h
      · rw [show N - j = (N - (j + 1)) + 1 by omega, List.range'_succ] at hl
        cases hl
      · omega
    subst hjN
    simp only [wp_pure']
    exact hq _ _
end AMX
section AMY
variable {p : Program} {l : Launch} {e : Env} {R : Room} {s : State} {m : MethodId} {args : Array Value} {below : List Frame} {meth : Method} {c : Code} {T : State} {locs : List Loc} {cells slots : Nat}
theorem am_grS (X : Stand p l e R s m args below meth c T locs cells slots) (cA cI : ClassId) (N k : Nat) : ∀ i : Nat, Stand p l e R s m args below meth c (am_gr T cA cI N k i) (locs ++ (List.range i).map fun j => ⟨T.heap.size, j⟩) (cells + 1 + i) (slots + N + i * k)
  | 0 => by
    have h := X.pushed (arrV cA N (fun _ => .null))
    rw [arrV_size] at h
    simpa [am_gr] using h
  | i + 1 => by
    have Xi := am_grS X cA cI N k i
    obtain ⟨f1, f2, -⟩ := am_grf T cA cI N k i
    have hlt0 : T.heap.size < (am_gr T cA cI N k i).heap.size := by rw [f1]; omega
    have hcell : ((am_gr T cA cI N k i).pushCell (arrV cI k (fun _ => .int 0))).heap[T.heap.size]? = some (arrV cA N (fun j => if j < i then .ref (T.heap.size + 1 + j) else .null)) := by rw [State.heap_pushCell_of_lt (h := hlt0)]; exact f2
    have h := (Xi.pushed (arrV cI k (fun _ => .int 0))).stored hcell i (.ref (T.heap.size + 1 + i))
    rw [arrV_size] at h
    have e2 : (locs ++ (List.range (i + 1)).map fun j => (⟨T.heap.size, j⟩ : Loc)) = (locs ++ (List.range i).map fun j => (⟨T.heap.size, j⟩ : Loc)) ++ [⟨T.heap.size, i⟩] := by simp [List.range_succ, List.append_assoc]
    have e3 : slots + N + (i + 1) * k = slots + N + i * k + k := by rw [Nat.succ_mul]; omega
    rw [e2, e3]
    exact h
set_option maxHeartbeats 2000000 in
theorem am_mnaS (X : Stand p l e R s m args below meth c T locs cells slots) (hexec : p.tables.exec = Jvm.exec) {own : String} {index : Nat} (hown : s.vm.findClass own = some m.cls) (hclink : (Cond.classLink own index "[[I").before args s = true)
    (hover : (Cond.arrayOver (.array .int)).before args s = true) (harr : (Cond.arrayClass .int).before args s = true)
    {g : JFrame} (hg : g.method = m) (hdg : decode c.code g.pc = .ok (.multianewarray index 2, 4)) {n k : Int32} {rest : List Value} (hstack : g.stack = .int k :: .int n :: rest)
    (hn : ¬ n < 0) (hk : ¬ k < 0) (hb1 : n.toNatClampNeg ≤ 1000) (hb2 : k.toNatClampNeg ≤ 1000)
    (hcells : cells + (1 + n.toNatClampNeg) ≤ R.cells) (hslots : slots + (n.toNatClampNeg + n.toNatClampNeg * k.toNatClampNeg) ≤ R.slots) :
    ∃ (vm₁ : Vm) (cA cI : ClassId), s.WarmedH vm₁ ∧ s.vm.findClass "[[I" = some cA ∧ s.vm.findClass "[I" = some cI ∧
      Stand p l e R s m args below meth c (am_gr (T.setVm vm₁) cA cI n.toNatClampNeg k.toNatClampNeg n.toNatClampNeg) (locs ++ (List.range n.toNatClampNeg).map fun j => ⟨T.heap.size, j⟩) (cells + 1 + n.toNatClampNeg) (slots + n.toNatClampNeg + n.toNatClampNeg * k.toNatClampNeg) ∧
      ∀ target, Steps p.tables e below ((am_gr (T.setVm vm₁) cA cI n.toNatClampNeg k.toNatClampNeg n.toNatClampNeg).setTop { g with pc := g.pc + 4, stack := .ref T.heap.size :: rest }) target → Steps p.tables e below (T.setTop g) target := by
  subst hg
  have hpl : e.platform.magicAccessors = ({} : Platform).magicAccessors := by rw [X.admits.platform]
  obtain ⟨cI, cA, kA, hcI, -, hkA, hkindA, hnameA⟩ := am_AOs hover
  obtain ⟨cI', kC, cc, hcI', hkC, hkindC⟩ := Cond.arrayClass_spec harr
  have e0 : (FieldType.array .int).toString = "[I" := by decide +kernel
  have e1 : ("[" ++ FieldType.int.toString : String) = "[I" := by decide +kernel
  have e2 : ("[" ++ (FieldType.array .int).toString : String) = "[[I" := by decide +kernel
  rw [e0] at hcI
  rw [e1] at hcI'
  rw [e2] at hnameA
  have ecomp : cI' = cI := Option.some.inj (hcI'.symm.trans hcI)
  subst ecomp
  obtain ⟨c0, hfc0, hcl⟩ := Cond.classLink_spec hown hclink e.platform hpl
  cases hnameA.symm.trans hfc0
  obtain ⟨hg₁, hwarm₁, hready₁⟩ := State.classEntry (e := e) X.warmed hcl
  generalize T.vm.noted g.method.cls index (.cls cA) = vm₁ at hg₁ hwarm₁ hready₁
  have hal : s.vm.Alike vm₁ := hwarm₁.alike
  obtain ⟨kA₁, hkA₁, heA⟩ := hal.2.2 _ _ hkA
  obtain ⟨kC₁, hkC₁, heC⟩ := hal.2.2 _ _ hkC
  have hkindA₁ : kA₁.kind = .array cI' (.array .int) := by rw [heA]; exact hkindA
  have hkindC₁ : kC₁.kind = .array cc .int := by rw [heC]; exact hkindC
  have X₁ := X.noted hwarm₁
  obtain ⟨hr1, hr2⟩ := X.roomAbove hcells hslots
  refine ⟨vm₁, cA, cI', hwarm₁, hnameA, hcI, am_grS X₁ cA cI' _ _ _, fun target hrest => ?_⟩
  have hl1 : ¬ n.toNatClampNeg > e.platform.arrayLengthLimit := by rw [Launch.admits_arrayLengthLimit X.admits]; omega
  have hh1 : ¬ n.toNatClampNeg * componentBytes (.array .int) > e.platform.maxHeapBytes := by
    rw [Launch.admits_maxHeapBytes X.admits]
    show ¬ n.toNatClampNeg * 4 > 536870912
    omega
  have hl2 : ¬ k.toNatClampNeg > e.platform.arrayLengthLimit := by rw [Launch.admits_arrayLengthLimit X.admits]; omega
  have hh2 : ¬ k.toNatClampNeg * componentBytes .int > e.platform.maxHeapBytes := by
    rw [Launch.admits_maxHeapBytes X.admits]
    show ¬ k.toNatClampNeg * 4 > 536870912
    omega
  jvm_step X.here [hexec, hdg]
  simp only [multianewarray.sem, wp_bind', W.resolveClassAt_links (State.method?_setTop g X.here.top) hg₁]
  rw [W.popN, if_neg (by decide)]
  refine ⟨g, State.topJava?_setTop' (s := T.setVm vm₁) g X.here.top, [.int n, .int k], rest, rfl, hstack, ?_⟩
  simp only [List.mapM_cons, List.mapM_nil, wp_bind', wp_pure']
  refine am_wpm (k := kA₁) (kc := kC₁) (cI := cI') (cc := cc) hkA₁ hkindA₁ hkC₁ hkindC₁ hn hk hl1 hh1 hl2 hh2 (by show T.heap.size + 1 + _ ≤ _; omega) (by show T.slotsUsed + _ + _ ≤ _; omega) (fun d' acts' => ?_)
  have XF := am_grS X₁ cA cI' n.toNatClampNeg k.toNatClampNeg n.toNatClampNeg
  have eS : ((T.setTop g).setVm vm₁).setTop { g with stack := rest } = (T.setVm vm₁).setTop { g with stack := rest } := by
    show ((T.setVm vm₁).setTop g).setTop _ = _
    rw [State.setTop_setTop]
  rw [eS, am_grt]
  simp only [wp_bind', W.mark, W.pushRef, State.topJava?_setTop' _ XF.here.top, Option.some.injEq, exists_eq_left', State.setTop_setTop, State.heap_setTop]
  intro acts
  simp [jvm, XF.here.top]
  exact hrest
end AMY
section AMZ
variable {g : am_G} {d nc ns m i : Nat} {L : am_L} {st : List Value} {M : am_M} {K : am_K} {pc a b : Nat} {v : Int32} {ws : List Nat}
theorem am_H.push2 {U : State} {H H1 : Heap} {N k : Nat} (hH : am_H g U M H) (z : H1.size = H.size + 1 + N) (h0 : H1[H.size]? = some (arrV (am_ac g 2) N (fun j => if j < N then .ref (H.size + 1 + j) else .null))) (hold : ∀ x : Nat, x < H.size → H1[x]? = H[x]?) (hrow : ∀ j : Nat, j < N → H1[H.size + 1 + j]? = some (arrV (am_ac g 0) k (fun _ => .int 0))) :
    am_H g U (M ++ .inl (2, N, .inr fun j => if j < N then some (M.length + 1 + j) else none) :: List.replicate N (.inl (0, k, .inl fun _ => 0))) H1 := by
  obtain ⟨h1, h2, h3, h4⟩ := hH
  refine ⟨by rw [z, h1, List.length_append, List.length_cons, List.length_replicate]; omega, fun i c' hi => ?_, h3.kept (hold _ (by omega)), h4⟩
  by_cases e : i < M.length
  · rw [List.getElem?_append_left e] at hi
    exact (h2 i c' hi).kept (hold _ (by show am_base g + i < H.size; omega))
  · rw [List.getElem?_append_right (by omega)] at hi
    by_cases e2 : i = M.length
    · subst e2
      rw [Nat.sub_self] at hi
      cases hi
      show H1[am_base g + M.length]? = some (vp_cell _ _)
      rw [← h1, h0]
      refine congrArg some ?_
      show _ = arrV _ _ (fun j => va_rf ((if j < N then some (M.length + 1 + j) else none).map (fun i => am_base g + i)))
      refine congrArg (arrV _ _) (funext fun j => ?_)
      by_cases hj : j < N
      · rw [if_pos hj, if_pos hj]
        show Value.ref (H.size + 1 + j) = Value.ref (am_base g + (M.length + 1 + j))
        rw [show H.size + 1 + j = am_base g + (M.length + 1 + j) by omega]
      · rw [if_neg hj, if_neg hj]
        rfl
    · rw [show i - M.length = (i - M.length - 1) + 1 by omega, List.getElem?_cons_succ] at hi
      have hl : i - M.length - 1 < N := by
        have := (List.getElem?_eq_some_iff.mp hi).1
        rwa [List.length_replicate] at this
      rw [List.getElem?_replicate, if_pos hl] at hi
      cases hi
      show H1[am_base g + i]? = some (vp_cell _ _)
      rw [show am_base g + i = H.size + 1 + (i - M.length - 1) by omega, hrow _ hl]
      rfl
theorem am_mna {k9 N k8 : Nat} {x y : Int32} (h : am_op m i = some (.multianewarray k9 2, pc, a, b, v, ws)) (hx9 : x = nI N) (hy9 : y = nI k8) (hN : N ≤ 1000) (hk8 : k8 ≤ 1000)
    (k : AW g d nc ns m (i + 1) L (.ref M.length :: st) (M ++ .inl (2, N, .inr fun j => if j < N then some (M.length + 1 + j) else none) :: List.replicate N (.inl (0, k8, .inl fun _ => 0))) K) : AW g d (nc + (1 + N)) (ns + (N + N * k8)) m i L (.int y :: .int x :: st) M K := by
  obtain ⟨hd, hx⟩ := am_dec h
  simp only [am_cx, Bool.and_eq_true, beq_iff_eq] at hx
  obtain ⟨⟨⟨⟨⟨hn3, -⟩, ha⟩, w0⟩, w1⟩, w2⟩ := hx
  subst hx9
  subst hy9
  intro p e R s mid args below meth c H locs cells slots Q ls C h1 h2 h3 h4 hH hS hL hQ
  obtain ⟨hx0, hb0, -, hml, hown, -, -, hts, hSy, -⟩ := id C
  have c1 : (nI N).toNatClampNeg = N := nI_clamp (by omega)
  have c2 : (nI k8).toNatClampNeg = k8 := nI_clamp (by omega)
  intro T hT X
  obtain ⟨vm₁, cA, cI, hW, fA, fI, X', step⟩ := am_mnaS X hx0 hown (am_word hts w0) (am_word hts w1) (am_word hts w2) (g := F0 mid (am_pc m i) ls (.int (nI k8) :: .int (nI N) :: st.map (am_v g))) rfl (by rw [hb0]; exact hd) rfl (nI_pos (by omega)) (nI_pos (by omega)) (by omega) (by omega) (by rw [c1]; omega) (by rw [c1, c2]; omega)
  rw [c1, c2] at X' step
  have hcA : cA = am_ac g 2 := Option.some.inj (fA.symm.trans (hSy.2 2 _ rfl).2)
  have hcI : cI = am_ac g 0 := Option.some.inj (fI.symm.trans (hSy.2 0 _ rfl).2)
  subst hcA
  subst hcI
  obtain ⟨f1, f2, f3, f4, f5, f6⟩ := am_grf (T.setVm vm₁) (am_ac g 2) (am_ac g 0) N k8 N
  have hTh : (T.setVm vm₁).heap = H := hT
  rw [hTh] at f1 f2 f5 f6
  have hH1 := hH.push2 f1 f2 f5 f6
  have hsz : T.heap.size = H.size := by rw [hT]
  have fin := k p e R s mid args below meth c _ (locs ++ (List.range N).map fun j => ⟨T.heap.size, j⟩) (cells + 1 + N) (slots + N + N * k8) Q ls C h1 h2 (by omega) (by omega) hH1 ⟨Nat.le_trans hS.1 (by omega), fun x g1 g2 => (f5 x (Nat.lt_of_lt_of_le g1 hS.1)).trans (hS.2.1 x g1 g2), fun q hq => by
    rcases List.mem_append.mp hq with h | h
    · exact hS.2.2 q h
    · obtain ⟨j, -, rfl⟩ := List.mem_map.mp h
      show am_base g ≤ T.heap.size
      rw [hsz, hH.1]
      omega⟩ hL hQ
  rw [hn3] at fin
  have e5 : am_v g (.ref M.length) = .ref T.heap.size := by rw [hsz, hH.1]; rfl
  rw [List.map_cons, e5] at fin
  obtain ⟨t, a1, b1⟩ := fin _ rfl X'
  exact ⟨t, step t a1, b1⟩
end AMZ
end
section
/-! calls without room for new cells, and what is seen of them by evaluation -/
def am_okm (a : Nat) : Bool := plainName (am_y a).cls && (am_pc a 0 == 0) && decide (am_mL a ≤ 21)
set_option maxRecDepth 100000 in
theorem am_okms : ((List.range 146).all fun a => (Nat.beq a 2 || Nat.beq a 98) || am_okm a) = true := by decide +kernel
/-- the numbers of the methods, Object's own constructor and Math.min apart -/
def am_in (a : Nat) : Bool := Nat.blt a 146 && !(Nat.beq a 2 || Nat.beq a 98)
def am_okd (a b : Nat) (as st : List Value) : Bool := Nat.beq as.length b && Nat.ble as.length (am_mL a) && as.all (fun v => Nat.beq v.category 1) && Nat.ble ((st.map fun v => v.category).sum) 8
theorem am_okc_of {a b : Nat} {as st : List Value} (ha : am_in a = true) (h : am_okd a b as st = true) : am_okc a b as st = true := by
  unfold am_in at ha
  rw [Bool.and_eq_true, Bool.not_eq_true'] at ha
  have h1 := List.all_eq_true.mp am_okms a (List.mem_range.mpr (by simpa [Nat.blt_eq] using ha.1))
  rw [ha.2, Bool.false_or] at h1
  unfold am_okm at h1
  unfold am_okd at h
  unfold am_okc
  simp only [Bool.and_eq_true, beq_iff_eq, decide_eq_true_eq, Nat.ble_eq, List.all_eq_true] at h h1 ⊢
  exact ⟨⟨⟨⟨⟨⟨h1.1.1, h1.1.2⟩, Nat.eq_of_beq_eq_true h.1.1.1⟩, by omega⟩, h1.2⟩, fun v hv => Nat.eq_of_beq_eq_true (h.1.2 v hv)⟩, h.2⟩
/-- the answer and the cells behind a method, told exactly -/
def am_is (r0 : Option Value) (M0 : am_M) : am_K := fun r M => r = r0 ∧ M = M0
section AMQ
variable {g : am_G} {d m i : Nat} {L : am_L} {st stk : List Value} {M M0 : am_M} {K K' : am_K} {pc a b : Nat} {v : Int32} {ws : List Nat} {r0 : Option Value}
theorem am_V {k9 o ci : Nat} {fs : List Value} (as : List Value) (h : am_op m i = some (.invokevirtual k9, pc, a, b, 0, ws)) (hst : stk = as.reverse ++ .ref o :: st) (ho : M[o]? = some (.inr (ci, fs))) (hci : am_cl[ci]? = some ((am_y a).cls, (am_kd ci).2.1, (am_kd ci).2.2)) (ha : am_in a = true) (hok : am_okd a (b + 1) (.ref o :: as) st = true)
    (kc : AW g d 0 0 a 0 (am_L0 a (.ref o :: as)) [] M K') (kk : ∀ (r : Option Value) (M' : am_M), K' r M' → am_rk r → AW g (d + 1) 0 0 m (i + 1) L (r.toList ++ st) M' K) : AW g (d + 1) 0 0 m i L stk M K := am_cV (nc := 0) (ns := 0) (nc' := 0) (ns' := 0) as h hst ho hci (am_okc_of ha hok) kc kk
theorem am_A5 {k9 o ci f : Nat} {fs : List Value} {ws2 : List Nat} (as : List Value) (h : am_op m i = some (.invokevirtual k9, pc, a, b, 1, ws)) (hst : stk = as.reverse ++ .ref o :: st) (ho : M[o]? = some (.inr (ci, fs))) (hva : am_va a ci = some (f, ws2)) (ha5 : Nat.blt a 5 = true) (hc12 : Nat.blt ci 12 = true) (ha : am_in f = true) (hok : am_okd f (b + 1) (.ref o :: as) st = true)
    (kc : AW g d 0 0 f 0 (am_L0 f (.ref o :: as)) [] M K') (kk : ∀ (r : Option Value) (M' : am_M), K' r M' → am_rk r → AW g (d + 1) 0 0 m (i + 1) L (r.toList ++ st) M' K) : AW g (d + 1) 0 0 m i L stk M K := am_cA (nc := 0) (ns := 0) (nc' := 0) (ns' := 0) as h hst ho hva (by simpa [Nat.blt_eq] using ha5) (by simpa [Nat.blt_eq] using hc12) (am_okc_of ha hok) kc kk
theorem am_S {k9 : Nat} (as : List Value) (h : am_op m i = some (.invokestatic k9, pc, a, b, 0, ws)) (hst : stk = as.reverse ++ st) (ha : am_in a = true) (hok : am_okd a b as st = true)
    (kc : AW g d 0 0 a 0 (am_L0 a as) [] M K') (kk : ∀ (r : Option Value) (M' : am_M), K' r M' → am_rk r → AW g (d + 1) 0 0 m (i + 1) L (r.toList ++ st) M' K) : AW g (d + 1) 0 0 m i L stk M K := am_cS (nc := 0) (ns := 0) (nc' := 0) (ns' := 0) as h hst (am_okc_of ha hok) kc kk
/-- the same, where the answer and the cells are told exactly -/
theorem am_Vx {k9 o ci : Nat} {fs : List Value} (as : List Value) (h : am_op m i = some (.invokevirtual k9, pc, a, b, 0, ws)) (hst : stk = as.reverse ++ .ref o :: st) (ho : M[o]? = some (.inr (ci, fs))) (hci : am_cl[ci]? = some ((am_y a).cls, (am_kd ci).2.1, (am_kd ci).2.2)) (ha : am_in a = true) (hok : am_okd a (b + 1) (.ref o :: as) st = true)
    (kc : AW g d 0 0 a 0 (am_L0 a (.ref o :: as)) [] M (am_is r0 M0)) (kk : AW g (d + 1) 0 0 m (i + 1) L (r0.toList ++ st) M0 K) : AW g (d + 1) 0 0 m i L stk M K := am_V as h hst ho hci ha hok kc (by rintro _ _ ⟨rfl, rfl⟩ _; exact kk)
theorem am_Ax {k9 o ci f : Nat} {fs : List Value} {ws2 : List Nat} (as : List Value) (h : am_op m i = some (.invokevirtual k9, pc, a, b, 1, ws)) (hst : stk = as.reverse ++ .ref o :: st) (ho : M[o]? = some (.inr (ci, fs))) (hva : am_va a ci = some (f, ws2)) (ha5 : Nat.blt a 5 = true) (hc12 : Nat.blt ci 12 = true) (ha : am_in f = true) (hok : am_okd f (b + 1) (.ref o :: as) st = true)
    (kc : AW g d 0 0 f 0 (am_L0 f (.ref o :: as)) [] M (am_is r0 M0)) (kk : AW g (d + 1) 0 0 m (i + 1) L (r0.toList ++ st) M0 K) : AW g (d + 1) 0 0 m i L stk M K := am_A5 as h hst ho hva ha5 hc12 ha hok kc (by rintro _ _ ⟨rfl, rfl⟩ _; exact kk)
theorem am_Sx {k9 : Nat} (as : List Value) (h : am_op m i = some (.invokestatic k9, pc, a, b, 0, ws)) (hst : stk = as.reverse ++ st) (ha : am_in a = true) (hok : am_okd a b as st = true)
    (kc : AW g d 0 0 a 0 (am_L0 a as) [] M (am_is r0 M0)) (kk : AW g (d + 1) 0 0 m (i + 1) L (r0.toList ++ st) M0 K) : AW g (d + 1) 0 0 m i L stk M K := am_S as h hst ha hok kc (by rintro _ _ ⟨rfl, rfl⟩ _; exact kk)
end AMQ
theorem am_minc : (98 : Nat) < 146 ∧ am_y 98 = Lib.Math.min.name ∧ am_b 98 = Lib.Math.min.code ∧ am_mL 98 = 2 ∧ am_r 98 = some .int := ⟨by decide, by decide +kernel, by decide +kernel, by decide +kernel, by decide +kernel⟩
/-- Math.min -/
theorem am_min {g : am_G} {d m i : Nat} {L : am_L} {st : List Value} {M : am_M} {K : am_K} {pc b : Nat} {ws : List Nat} {k9 : Nat} {x y : Int32} (h : am_op m i = some (.invokestatic k9, pc, 98, b, 0, ws)) (hs8 : (st.map fun v => v.category).sum ≤ 8) (k : AW g (d + 1) 0 0 m (i + 1) L (.int (if y < x then y else x) :: st) M K) : AW g (d + 1) 0 0 m i L (.int y :: .int x :: st) M K := by
  obtain ⟨hd, hx⟩ := am_dec h
  simp only [am_cx, Bool.and_eq_true, beq_iff_eq, if_neg (show ¬ (0 : Int32) = 2 by decide)] at hx
  obtain ⟨hn, ⟨⟨⟨⟨w0, w1⟩, w3⟩, w4⟩, w5⟩, w6⟩ := hx
  obtain ⟨-, e1, e2, e3, e4⟩ := am_minc
  rw [e1] at w0 w1 w3 w4
  rw [e2, e3, e4] at w4
  intro p e R s mid args below meth c H locs cells slots Q ls C h1 h2 h3 h4 hH hS hL hQ
  obtain ⟨hx0, hb0, -, hml, hown, -, -, hts, hSy, -⟩ := id C
  have fin := k p e R s mid args below meth c H locs cells slots Q ls C h1 h2 h3 h4 hH hS hL hQ
  rw [hn] at fin
  exact va_mmin hx0 hb0 (by rw [hml, hL.1]) hown (am_word hts w0) (am_word hts w1) (am_word hts w3) (am_word hts w4) (by omega) (by rw [am_stc]; omega) (by omega) (by omega) hd fin
/-! THE CELLS of the run: 0 RoundBench, 1 Course, 2 Net, 3 identities, 4 weights, 5 edgeBetween (rows 6 .. 17), 18 far, 19 held (rows 20 .. 22), 23 before (rows 24 .. 26), 27 fresh, 28 parents, 29 algorithms, 30 .. 37 the eight; 38 RoundBenchModel, 39 first, 40 second, 41 weights, 42 identities, 43 far, 44 parents, 45 heights, 46 ends, 47 whens, 48 sums, 49 colours, 50 before. S k j: the j-th int of cell k (a field's by its place); ch: which is chosen. -/
def am_ch (ch : Option Nat) : Value := match ch with
  | none => .null
  | some k => .ref (30 + k)
abbrev am_S0 : Type := Nat → Nat → Int32
def mem (ch : Option Nat) (S : am_S0) : am_M := [
  .inr (0, [.ref 1, .ref 29, am_ch ch, .int (S 0 3)]),
  .inr (1, [.ref 2, .ref 19, .ref 23, .ref 27, .ref 28, .int (S 1 5), .int (S 1 6), .int (S 1 7)]),
  .inr (2, [.ref 3, .ref 4, .ref 5, .ref 18, .int (S 2 4), .int (S 2 5)]),
  .inl (0, 12, .inl (S 3)), .inl (0, 24, .inl (S 4)), .inl (2, 12, .inr fun j => if j < 12 then some (6 + j) else none),
  .inl (0, 12, .inl (S 6)), .inl (0, 12, .inl (S 7)), .inl (0, 12, .inl (S 8)), .inl (0, 12, .inl (S 9)), .inl (0, 12, .inl (S 10)), .inl (0, 12, .inl (S 11)), .inl (0, 12, .inl (S 12)), .inl (0, 12, .inl (S 13)), .inl (0, 12, .inl (S 14)), .inl (0, 12, .inl (S 15)), .inl (0, 12, .inl (S 16)), .inl (0, 12, .inl (S 17)),
  .inl (0, 12, .inl (S 18)), .inl (2, 3, .inr fun j => if j < 3 then some (20 + j) else none), .inl (0, 12, .inl (S 20)), .inl (0, 12, .inl (S 21)), .inl (0, 12, .inl (S 22)),
  .inl (2, 3, .inr fun j => if j < 3 then some (24 + j) else none), .inl (0, 12, .inl (S 24)), .inl (0, 12, .inl (S 25)), .inl (0, 12, .inl (S 26)), .inl (1, 12, .inl (S 27)), .inl (0, 12, .inl (S 28)),
  .inl (3, 8, .inr fun j => if j < 8 then some (30 + j) else none), .inr (3, []), .inr (4, []), .inr (5, []), .inr (6, []), .inr (7, []), .inr (8, []), .inr (9, []), .inr (10, []),
  .inr (11, [.int (S 38 0), .int (S 38 1), .ref 39, .ref 40, .ref 41, .ref 42, .int (S 38 6), .ref 43, .int (S 38 8), .int (S 38 9), .int (S 38 10), .int (S 38 11), .ref 44, .ref 45, .ref 46, .ref 47, .ref 48, .ref 49, .ref 50]),
  .inl (0, 24, .inl (S 39)), .inl (0, 24, .inl (S 40)), .inl (0, 24, .inl (S 41)), .inl (0, 12, .inl (S 42)), .inl (0, 144, .inl (S 43)), .inl (0, 12, .inl (S 44)), .inl (0, 12, .inl (S 45)), .inl (0, 12, .inl (S 46)), .inl (0, 12, .inl (S 47)), .inl (0, 168, .inl (S 48)), .inl (0, 12, .inl (S 49)), .inl (0, 12, .inl (S 50))]
/-- cell k's ints become f -/
def am_up (S : am_S0) (k : Nat) (f : Nat → Int32) : am_S0 := fun j => if j = k then f else S j
/-- the v-th row of a grid -/
theorem mem_eb {ch : Option Nat} {S : am_S0} : ∀ v : Nat, v < 12 → (mem ch S)[6 + v]? = some (.inl (0, 12, .inl (S (6 + v))))
  | 0, _ | 1, _ | 2, _ | 3, _ | 4, _ | 5, _ | 6, _ | 7, _ | 8, _ | 9, _ | 10, _ | 11, _ => rfl
  | n + 12, h => absurd h (by omega)
theorem mem_eb_set {ch : Option Nat} {S : am_S0} {f : Nat → Int32} : ∀ v : Nat, v < 12 → (mem ch S).set (6 + v) (.inl (0, 12, .inl f)) = mem ch (am_up S (6 + v) f)
  | 0, _ | 1, _ | 2, _ | 3, _ | 4, _ | 5, _ | 6, _ | 7, _ | 8, _ | 9, _ | 10, _ | 11, _ => rfl
  | n + 12, h => absurd h (by omega)
theorem mem_he {ch : Option Nat} {S : am_S0} : ∀ v : Nat, v < 3 → (mem ch S)[20 + v]? = some (.inl (0, 12, .inl (S (20 + v))))
  | 0, _ | 1, _ | 2, _ => rfl
  | n + 3, h => absurd h (by omega)
theorem mem_he_set {ch : Option Nat} {S : am_S0} {f : Nat → Int32} : ∀ v : Nat, v < 3 → (mem ch S).set (20 + v) (.inl (0, 12, .inl f)) = mem ch (am_up S (20 + v) f)
  | 0, _ | 1, _ | 2, _ => rfl
  | n + 3, h => absurd h (by omega)
theorem mem_be {ch : Option Nat} {S : am_S0} : ∀ v : Nat, v < 3 → (mem ch S)[24 + v]? = some (.inl (0, 12, .inl (S (24 + v))))
  | 0, _ | 1, _ | 2, _ => rfl
  | n + 3, h => absurd h (by omega)
theorem mem_be_set {ch : Option Nat} {S : am_S0} {f : Nat → Int32} : ∀ v : Nat, v < 3 → (mem ch S).set (24 + v) (.inl (0, 12, .inl f)) = mem ch (am_up S (24 + v) f)
  | 0, _ | 1, _ | 2, _ => rfl
  | n + 3, h => absurd h (by omega)
theorem mem_al {ch : Option Nat} {S : am_S0} : ∀ v : Nat, v < 8 → (mem ch S)[30 + v]? = some (.inr (3 + v, []))
  | 0, _ | 1, _ | 2, _ | 3, _ | 4, _ | 5, _ | 6, _ | 7, _ => rfl
  | n + 8, h => absurd h (by omega)
end
section
/-! pure words: iteration, counting, truth as an int -/
def itr {σ : Type} (f : Nat → σ → σ) : Nat → σ → σ
  | 0, s => s
  | n + 1, s => f n (itr f n s)
def cnt (p : Nat → Bool) : Nat → Nat
  | 0 => 0
  | n + 1 => bif p n then cnt p n + 1 else cnt p n
def anyb (p : Nat → Bool) : Nat → Bool
  | 0 => false
  | n + 1 => anyb p n || p n
/-- the least u below n with p -/
def fst? (p : Nat → Bool) : Nat → Option Nat
  | 0 => none
  | n + 1 => match fst? p n with
    | some u => some u
    | none => bif p n then some n else none
def bi (b : Bool) : Int32 := bif b then 1 else 0
theorem bi_01 (b : Bool) : bi b = 0 ∨ bi b = 1 := by cases b <;> simp [bi]
theorem bi_0 {b : Bool} (h : bi b = 0) : b = false := by
  cases b
  · rfl
  · exact absurd h (by decide)
theorem bi_1 {b : Bool} (h : ¬ bi b = 0) : b = true := by
  cases b
  · exact absurd rfl h
  · rfl
theorem cnt_le (p : Nat → Bool) : ∀ n, cnt p n ≤ n
  | 0 => Nat.le_refl _
  | n + 1 => by
    have := cnt_le p n
    unfold cnt
    cases p n <;> simp <;> omega
theorem cnt_congr {p q : Nat → Bool} : ∀ n, (∀ u, u < n → p u = q u) → cnt p n = cnt q n
  | 0, _ => rfl
  | n + 1, h => by
    unfold cnt
    rw [h n (by omega), cnt_congr n (fun u hu => h u (by omega))]
theorem anyb_true {p : Nat → Bool} : ∀ {n : Nat}, anyb p n = true ↔ ∃ u, u < n ∧ p u = true
  | 0 => by simp [anyb]
  | n + 1 => by
    unfold anyb
    rw [Bool.or_eq_true, anyb_true]
    constructor
    · rintro (⟨u, h1, h2⟩ | h)
      · exact ⟨u, by omega, h2⟩
      · exact ⟨n, by omega, h⟩
    · rintro ⟨u, h1, h2⟩
      rcases Nat.lt_or_ge u n with h | h
      · exact Or.inl ⟨u, h, h2⟩
      · have : u = n := by omega
        subst this
        exact Or.inr h2
theorem anyb_false {p : Nat → Bool} {n : Nat} (h : ∀ u, u < n → p u = false) : anyb p n = false := by
  cases e : anyb p n
  · rfl
  · obtain ⟨u, h1, h2⟩ := anyb_true.mp e
    rw [h u h1] at h2
    cases h2
theorem fst?_none {p : Nat → Bool} : ∀ {n : Nat}, (∀ u, u < n → p u = false) → fst? p n = none
  | 0, _ => rfl
  | n + 1, h => by
    unfold fst?
    rw [fst?_none (fun u hu => h u (by omega)), h n (by omega)]
    rfl
theorem fst?_some {p : Nat → Bool} {v : Nat} (hv : p v = true) (hl : ∀ u, u < v → p u = false) : ∀ {n : Nat}, v < n → fst? p n = some v
  | 0, h => absurd h (Nat.not_lt_zero _)
  | n + 1, h => by
    unfold fst?
    rcases Nat.lt_or_ge v n with h1 | h1
    · rw [fst?_some hv hl h1]
    · have : v = n := by omega
      subst this
      rw [fst?_none hl, hv]
      rfl
theorem neg1_nI (n : Nat) (h : n < 2 ^ 31) : ¬ (-1 : Int32) = nI n := by
  intro e
  have : (-1 : Int32).toInt = (nI n).toInt := by rw [e]
  rw [nI_toInt h] at this
  have h2 : (-1 : Int32).toInt = -1 := by decide
  omega
theorem am_Leq {g : am_G} {d nc ns m i : Nat} {L L' : am_L} {st : List Value} {M : am_M} {K : am_K} (h : L = L') (k : AW g d nc ns m i L' st M K) : AW g d nc ns m i L st M K := by subst h; exact k
theorem am_Meq {g : am_G} {d nc ns m i : Nat} {L : am_L} {st : List Value} {M M' : am_M} {K : am_K} (h : M = M') (k : AW g d nc ns m i L st M' K) : AW g d nc ns m i L st M K := by subst h; exact k
/-- a loop from the count v to n, its cells and locals by the count -/
theorem am_for {g : am_G} {d m h : Nat} {K : am_K} (n : Nat) (L : Nat → am_L) (M : Nat → am_M) (hb : ∀ v, v < n → AW g d 0 0 m h (L (v + 1)) [] (M (v + 1)) K → AW g d 0 0 m h (L v) [] (M v) K) (he : AW g d 0 0 m h (L n) [] (M n) K) : ∀ k v, v + k = n → AW g d 0 0 m h (L v) [] (M v) K
  | 0, v, e => by
    have : v = n := by omega
    subst this
    exact he
  | k + 1, v, e => hb v (by omega) (am_for n L M hb he k (v + 1) (by omega))
/-- the same, with a state that the loop carries -/
theorem am_forS {g : am_G} {d m h : Nat} {K : am_K} {σ : Type} (n : Nat) (L : Nat → σ → am_L) (M : Nat → σ → am_M) (I : Nat → σ → Prop) (hb : ∀ v s, v < n → I v s → (∀ s', I (v + 1) s' → AW g d 0 0 m h (L (v + 1) s') [] (M (v + 1) s') K) → AW g d 0 0 m h (L v s) [] (M v s) K) (he : ∀ s, I n s → AW g d 0 0 m h (L n s) [] (M n s) K) : ∀ k v s, v + k = n → I v s → AW g d 0 0 m h (L v s) [] (M v s) K
  | 0, v, s, e, hi => by
    have : v = n := by omega
    subst this
    exact he s hi
  | k + 1, v, s, e, hi => hb v s (by omega) hi (fun s' h' => am_forS n L M I hb he k (v + 1) s' (by omega) h')
/-- nodes -/
theorem nd_lt {S : am_S0} {n v : Nat} (hN : S 2 4 = nI n) (hn : n ≤ 12) (hv : v < n) : ¬ S 2 4 ≤ nI v := by rw [hN]; exact nI_ge hv (by omega)
theorem nd_ge {S : am_S0} {n : Nat} (hN : S 2 4 = nI n) (hn : n ≤ 12) : S 2 4 ≤ nI n := by rw [hN]; exact nI_le (Nat.le_refl _) (by omega)
theorem nm_lt {S : am_S0} {n v : Nat} (hN : S 38 0 = nI n) (hn : n ≤ 12) (hv : v < n) : ¬ S 38 0 ≤ nI v := by rw [hN]; exact nI_ge hv (by omega)
theorem nm_ge {S : am_S0} {n : Nat} (hN : S 38 0 = nI n) (hn : n ≤ 12) : S 38 0 ≤ nI n := by rw [hN]; exact nI_le (Nat.le_refl _) (by omega)
theorem am_forI {g : am_G} {d m h : Nat} {K : am_K} (n : Nat) (L : Nat → am_L) (M : Nat → am_M) (I : Nat → Prop) (hb : ∀ v, v < n → I v → (I (v + 1) → AW g d 0 0 m h (L (v + 1)) [] (M (v + 1)) K) → AW g d 0 0 m h (L v) [] (M v) K) (he : I n → AW g d 0 0 m h (L n) [] (M n) K) : ∀ k v, v + k = n → I v → AW g d 0 0 m h (L v) [] (M v) K
  | 0, v, e, hi => by
    have : v = n := by omega
    subst this
    exact he hi
  | k + 1, v, e, hi => hb v (by omega) hi (fun h' => am_forI n L M I hb he k (v + 1) (by omega) h')
/-- an edge's number, or NONE -/
def em (x : Option Nat) : Int32 := match x with
  | none => -1
  | some e => nI e
/-- the class's net: n nodes; E u w the number of the edge between u and w -/
def NetIs (S : am_S0) (n : Nat) (E : Nat → Nat → Option Nat) : Prop := S 2 4 = nI n ∧ n ≤ 12 ∧ (∀ u w, u < 12 → w < 12 → S (6 + u) w = em (E u w)) ∧ ∀ u w e, E u w = some e → e < 24
theorem NetIs.up {S : am_S0} {n : Nat} {E : Nat → Nat → Option Nat} {k : Nat} {f : Nat → Int32} (h : NetIs S n E) (hk : k ≠ 2 ∧ (k < 6 ∨ 18 ≤ k)) : NetIs (am_up S k f) n E := by
  obtain ⟨h1, h2, h3, h4⟩ := h
  refine ⟨?_, h2, fun u w hu hw => ?_, h4⟩
  · unfold am_up
    rw [if_neg (fun q => hk.1 q.symm)]
    exact h1
  · unfold am_up
    rw [if_neg (by omega)]
    exact h3 u w hu hw
theorem em_n1 {x : Option Nat} (h : ∀ e, x = some e → e < 24) : em x = -1 ↔ x = none := by
  cases x with
  | none => simp [em]
  | some e =>
    constructor
    · intro q
      exact absurd q.symm (neg1_nI e (by have := h e rfl; omega))
    · intro q
      cases q
theorem am_up_up (S : am_S0) (k : Nat) (f f2 : Nat → Int32) : am_up (am_up S k f) k f2 = am_up S k f2 := by
  funext j
  unfold am_up
  split <;> rfl
theorem am_up_self (S : am_S0) (k : Nat) : am_up S k (S k) = S := by
  funext j
  unfold am_up
  split
  · next h => rw [h]
  · rfl
theorem am_up_at (S : am_S0) (k : Nat) (f : Nat → Int32) : am_up S k f k = f := if_pos rfl
theorem am_up_ne (S : am_S0) {k j : Nat} (f : Nat → Int32) (h : j ≠ k) : am_up S k f j = S j := if_neg h
/-- the first n places become x -/
def fil (n : Nat) (x : Int32) (f : Nat → Int32) : Nat → Int32 := fun j => if j < n then x else f j
theorem fil_0 (x : Int32) (f : Nat → Int32) : fil 0 x f = f := rfl
theorem fil_s (n : Nat) (x : Int32) (f : Nat → Int32) : upd (fil n x f) n x = fil (n + 1) x f := by
  funext j
  unfold upd fil
  by_cases h : j = n
  · rw [if_pos h, if_pos (by omega)]
  · rw [if_neg h]
    by_cases h2 : j < n
    · rw [if_pos h2, if_pos (by omega)]
    · rw [if_neg h2, if_neg (by omega)]
/-- what one step from x out does to the distances -/
def rch (E : Nat → Nat → Option Nat) (x k : Nat) (f : Nat → Int32) : Nat → Int32 := fun u => if u < k ∧ (E x u).isSome = true ∧ f u = -1 then f x + 1 else f u
theorem rch_0 (E : Nat → Nat → Option Nat) (x : Nat) (f : Nat → Int32) : rch E x 0 f = f := by
  funext u
  unfold rch
  rw [if_neg (by omega)]
theorem rch_no {E : Nat → Nat → Option Nat} {x k : Nat} {f : Nat → Int32} (h : ¬ ((E x k).isSome = true ∧ f k = -1)) : rch E x (k + 1) f = rch E x k f := by
  funext u
  unfold rch
  by_cases hu : u = k
  · subst hu
    rw [if_neg (fun q => h q.2), if_neg (by omega)]
  · by_cases h2 : u < k ∧ (E x u).isSome = true ∧ f u = -1
    · rw [if_pos h2, if_pos ⟨by omega, h2.2⟩]
    · rw [if_neg h2, if_neg (fun q => h2 ⟨by omega, q.2⟩)]
theorem rch_yes {E : Nat → Nat → Option Nat} {x k : Nat} {f : Nat → Int32} (h : (E x k).isSome = true) (h1 : f k = -1) : upd (rch E x k f) k (f x + 1) = rch E x (k + 1) f := by
  funext u
  unfold upd rch
  by_cases hu : u = k
  · subst hu
    rw [if_pos rfl, if_pos ⟨by omega, h, h1⟩]
  · rw [if_neg hu]
    by_cases h2 : u < k ∧ (E x u).isSome = true ∧ f u = -1
    · rw [if_pos h2, if_pos ⟨by omega, h2.2⟩]
    · rw [if_neg h2, if_neg (fun q => h2 ⟨by omega, q.2⟩)]
theorem rch_at {E : Nat → Nat → Option Nat} {x k u : Nat} {f : Nat → Int32} (h : k ≤ u ∨ ¬ f u = -1) : rch E x k f u = f u := by
  unfold rch
  rw [if_neg (fun q => h.elim (fun h => absurd q.1 (by omega)) (fun h => h q.2.2))]
/-- the distances from a node, layer by layer, as the class measures them -/
def lvl (E : Nat → Nat → Option Nat) (n t : Nat) (k : Nat) (f : Nat → Int32) : Nat → Int32 := itr (fun v f => if f v = nI t then rch E v n f else f) k f
def msr (E : Nat → Nat → Option Nat) (n k : Nat) (f : Nat → Int32) : Nat → Int32 := itr (fun t f => lvl E n t n f) k f
def far0 (x : Nat) (f : Nat → Int32) : Nat → Int32 := upd (fil 12 (-1) f) x 0
end
section
/-! the class: Net -/
section CNET
variable {g : am_G} {d : Nat} {ch : Option Nat} {S : am_S0} {n : Nat} {E : Nat → Nat → Option Nat}
/-- hasNode(v) -/
theorem s_hasNode (x : Int32) : AW g d 0 0 20 0 (am_L0 20 [.ref 2, .int x]) [] (mem ch S) (am_is (some (.int (bi (decide (0 ≤ x) && decide (x < S 2 4))))) (mem ch S)) := by
  refine am_iload_n rfl rfl ?_
  refine am_if_lt rfl (fun h1 => ?_) (fun h1 => ?_)
  · refine am_iconst rfl ?_
    refine am_ireturn rfl (fun _ => by decide) ⟨?_, rfl⟩
    first | rw [decide_eq_true (Int32.not_lt.mp h1), decide_eq_true (Int32.not_le.mp h5)]; rfl | rw [decide_eq_false (fun q => absurd q (Int32.not_lt.mpr h5)), Bool.and_false]; rfl | rw [decide_eq_false (fun q => absurd h1 (Int32.not_lt.mpr q)), Bool.false_and]; rfl
  · refine am_iload_n rfl rfl ?_
    refine am_aload_n rfl rfl rfl ?_
    refine am_get rfl rfl rfl ?_
    refine am_icmp_ge rfl (fun h5 => ?_) (fun h5 => ?_)
    · refine am_iconst rfl ?_
      refine am_ireturn rfl (fun _ => by decide) ⟨?_, rfl⟩
      first | rw [decide_eq_true (Int32.not_lt.mp h1), decide_eq_true (Int32.not_le.mp h5)]; rfl | rw [decide_eq_false (fun q => absurd q (Int32.not_lt.mpr h5)), Bool.and_false]; rfl | rw [decide_eq_false (fun q => absurd h1 (Int32.not_lt.mpr q)), Bool.false_and]; rfl
    · refine am_iconst rfl ?_
      refine am_goto rfl ?_
      refine am_ireturn rfl (fun _ => by decide) ⟨?_, rfl⟩
      first | rw [decide_eq_true (Int32.not_lt.mp h1), decide_eq_true (Int32.not_le.mp h5)]; rfl | rw [decide_eq_false (fun q => absurd q (Int32.not_lt.mpr h5)), Bool.and_false]; rfl | rw [decide_eq_false (fun q => absurd h1 (Int32.not_lt.mpr q)), Bool.false_and]; rfl
/-- areNeighbours(a, b) -/
theorem s_areN (N : NetIs S n E) (u w : Nat) (hu : u < 12) (hw : w < 12) : AW g d 0 0 21 0 (am_L0 21 [.ref 2, .int (nI u), .int (nI w)]) [] (mem ch S) (am_is (some (.int (bi (E u w).isSome))) (mem ch S)) := by
  refine am_aload_n rfl rfl rfl ?_
  refine am_get rfl rfl rfl ?_
  refine am_iload_n rfl rfl ?_
  refine am_aald rfl rfl (Or.inl rfl) rfl hu (by decide) (if_pos hu) ?_
  refine am_iload_n rfl rfl ?_
  refine am_iald rfl (mem_eb u hu) rfl hw (by decide) ?_
  refine am_iconst rfl ?_
  rw [N.2.2.1 u w hu hw]
  refine am_icmp_eq rfl (fun h7 => ?_) (fun h7 => ?_)
  · rw [em_n1 (N.2.2.2 u w)] at h7
    refine am_iconst rfl ?_
    exact am_ireturn rfl (fun _ => by decide) ⟨by rw [h7]; rfl, rfl⟩
  · rw [em_n1 (N.2.2.2 u w)] at h7
    refine am_iconst rfl ?_
    refine am_goto rfl ?_
    exact am_ireturn rfl (fun _ => by decide) ⟨by rw [Option.isSome_iff_ne_none.mpr h7]; rfl, rfl⟩
/-- weightBetween(a, b) -/
theorem s_weightB (N : NetIs S n E) (u w e : Nat) (hu : u < 12) (hw : w < 12) (he : E u w = some e) : AW g d 0 0 95 0 (am_L0 95 [.ref 2, .int (nI u), .int (nI w)]) [] (mem ch S) (am_is (some (.int (S 4 e))) (mem ch S)) := by
  refine am_aload_n rfl rfl rfl ?_
  refine am_get rfl rfl rfl ?_
  refine am_aload_n rfl rfl rfl ?_
  refine am_get rfl rfl rfl ?_
  refine am_iload_n rfl rfl ?_
  refine am_aald rfl rfl (Or.inl rfl) rfl hu (by decide) (if_pos hu) ?_
  refine am_iload_n rfl rfl ?_
  refine am_iald rfl (mem_eb u hu) rfl hw (by decide) ?_
  refine am_iald rfl rfl (by rw [N.2.2.1 u w hu hw, he]; rfl) (N.2.2.2 u w e he) (by decide) ?_
  refine am_ireturn rfl (fun h => absurd h (by decide)) ⟨?_, rfl⟩
  rfl
/-- countNeighbours(v) -/
theorem s_countN (N : NetIs S n E) (x : Nat) (hx : x < 12) : AW g (d + 1) 0 0 47 0 (am_L0 47 [.ref 2, .int (nI x)]) [] (mem ch S) (am_is (some (.int (nI (cnt (fun u => (E x u).isSome) n)))) (mem ch S)) := by
  have hn := N.2.1
  refine am_iconst rfl ?_
  refine am_istore_n rfl ?_
  refine am_iconst rfl ?_
  refine am_istore_n rfl ?_
  show AW g (d + 1) 0 0 47 4 [some (.ref 2), some (.int (nI x)), some (.int (nI (cnt (fun u => (E x u).isSome) 0))), some (.int (nI 0))] [] (mem ch S) _
  refine am_for (n) (fun v => [some (.ref 2), some (.int (nI x)), some (.int (nI (cnt (fun u => (E x u).isSome) v))), some (.int (nI v))]) (fun v => mem ch S) (fun v hv k => ?_) ?_ n 0 (by omega)
  · refine am_iload_n rfl rfl ?_
    refine am_aload_n rfl rfl rfl ?_
    refine am_get rfl rfl rfl ?_
    refine am_icmp_ge rfl (fun h => absurd h (nd_lt N.1 N.2.1 hv)) (fun _ => ?_)
    refine am_aload_n rfl rfl rfl ?_
    refine am_iload_n rfl rfl ?_
    refine am_iload_n rfl rfl ?_
    refine am_Vx [.int (nI x), .int (nI v)] rfl rfl rfl rfl rfl rfl (s_areN N x v hx (by omega)) ?_
    refine am_if_eq rfl (fun h12 => ?_) (fun h12 => ?_)
    · refine am_iinc rfl rfl ?_
      refine am_goto rfl ?_
      first
        | (simp only [cnt, bi_0 h12, cond_false, nI_succ] at k; exact k)
        | (simp only [cnt, bi_1 h12, cond_true, nI_succ] at k; exact k)
    · refine am_iinc rfl rfl ?_
      refine am_iinc rfl rfl ?_
      refine am_goto rfl ?_
      first
        | (simp only [cnt, bi_0 h12, cond_false, nI_succ] at k; exact k)
        | (simp only [cnt, bi_1 h12, cond_true, nI_succ] at k; exact k)
  · refine am_iload_n rfl rfl ?_
    refine am_aload_n rfl rfl rfl ?_
    refine am_get rfl rfl rfl ?_
    refine am_icmp_ge rfl (fun _ => ?_) (fun h => absurd (nd_ge N.1 N.2.1) h)
    refine am_iload_n rfl rfl ?_
    refine am_ireturn rfl (fun h => absurd h (by decide)) ⟨?_, rfl⟩
    rfl
/-- isHeavier(edge, other) -/
def hvy (w : Nat → Int32) (e f : Nat) : Bool := bif decide (w e = w f) then decide (e < f) else decide (w f < w e)
theorem s_heavier (e f : Nat) (he : e < 24) (hf : f < 24) : AW g d 0 0 88 0 (am_L0 88 [.ref 2, .int (nI e), .int (nI f)]) [] (mem ch S) (am_is (some (.int (bi (hvy (S 4) e f)))) (mem ch S)) := by
  refine am_aload_n rfl rfl rfl ?_
  refine am_get rfl rfl rfl ?_
  refine am_iload_n rfl rfl ?_
  refine am_iald rfl rfl rfl (by omega) (by decide) ?_
  refine am_aload_n rfl rfl rfl ?_
  refine am_get rfl rfl rfl ?_
  refine am_iload_n rfl rfl ?_
  refine am_iald rfl rfl rfl (by omega) (by decide) ?_
  refine am_icmp_eq rfl (fun h8 => ?_) (fun h8 => ?_)
  · refine am_iload_n rfl rfl ?_
    refine am_iload_n rfl rfl ?_
    refine am_icmp_ge rfl (fun h24 => ?_) (fun h24 => ?_)
    · refine am_iconst rfl ?_
      refine am_ireturn rfl (fun _ => by decide) ⟨?_, rfl⟩
      unfold hvy
      rw [decide_eq_true h8]
      rw [nI_leI (by omega) (by omega)] at h24
      first | rw [decide_eq_true (Nat.not_le.mp h24)]; rfl | rw [decide_eq_false (Nat.not_lt.mpr h24)]; rfl
    · refine am_iconst rfl ?_
      refine am_goto rfl ?_
      refine am_ireturn rfl (fun _ => by decide) ⟨?_, rfl⟩
      unfold hvy
      rw [decide_eq_true h8]
      rw [nI_leI (by omega) (by omega)] at h24
      first | rw [decide_eq_true (Nat.not_le.mp h24)]; rfl | rw [decide_eq_false (Nat.not_lt.mpr h24)]; rfl
  · refine am_aload_n rfl rfl rfl ?_
    refine am_get rfl rfl rfl ?_
    refine am_iload_n rfl rfl ?_
    refine am_iald rfl rfl rfl (by omega) (by decide) ?_
    refine am_aload_n rfl rfl rfl ?_
    refine am_get rfl rfl rfl ?_
    refine am_iload_n rfl rfl ?_
    refine am_iald rfl rfl rfl (by omega) (by decide) ?_
    refine am_icmp_le rfl (fun h17 => ?_) (fun h17 => ?_)
    · refine am_iconst rfl ?_
      refine am_ireturn rfl (fun _ => by decide) ⟨?_, rfl⟩
      unfold hvy
      rw [decide_eq_false h8]
      first | rw [decide_eq_true (Int32.not_le.mp h17)]; rfl | rw [decide_eq_false (Int32.not_lt.mpr h17)]; rfl
    · refine am_iconst rfl ?_
      refine am_goto rfl ?_
      refine am_ireturn rfl (fun _ => by decide) ⟨?_, rfl⟩
      unfold hvy
      rw [decide_eq_false h8]
      first | rw [decide_eq_true (Int32.not_le.mp h17)]; rfl | rw [decide_eq_false (Int32.not_lt.mpr h17)]; rfl
/-- hasTwins() -/
def twn (ids : Nat → Int32) (n : Nat) : Bool := anyb (fun a => anyb (fun b => decide (a < b) && decide (ids a = ids b)) n) n
theorem s_twins (N : NetIs S n E) : AW g d 0 0 28 0 (am_L0 28 [.ref 2]) [] (mem ch S) (am_is (some (.int (bi (twn (S 3) n)))) (mem ch S)) := by
  have hn := N.2.1
  refine am_iconst rfl ?_
  refine am_istore_n rfl ?_
  show AW g d 0 0 28 2 [some (.ref 2), some (.int (nI 0)), none] [] (mem ch S) _
  have key : ∀ (y : Option Value), AW g d 0 0 28 2 [some (.ref 2), some (.int (nI 0)), y] [] (mem ch S) (am_is (some (.int (bi (twn (S 3) n)))) (mem ch S)) := by
    intro y
    refine am_forS n (fun v y => [some (.ref 2), some (.int (nI v)), y]) (fun _ _ => mem ch S) (fun v _ => ∀ a b, a < v → a < b → b < n → ¬ S 3 a = S 3 b) (fun v y hv hi k => ?_) (fun y hi => ?_) n 0 y (by omega) (fun a b h => absurd h (Nat.not_lt_zero _))
    · refine am_iload_n rfl rfl ?_
      refine am_aload_n rfl rfl rfl ?_
      refine am_get rfl rfl rfl ?_
      refine am_icmp_ge rfl (fun h => absurd h (nd_lt N.1 N.2.1 hv)) (fun _ => ?_)
      refine am_iload_n rfl rfl ?_
      refine am_iconst rfl ?_
      refine am_iadd rfl ?_
      refine am_istore_n rfl ?_
      rw [nI_1]
      show AW g d 0 0 28 10 [some (.ref 2), some (.int (nI v)), some (.int (nI (v + 1)))] [] (mem ch S) _
      have hv0 := hv
      have hi0 := hi
      have k0 := k
      refine am_forI (n) (fun w => [some (.ref 2), some (.int (nI v)), some (.int (nI w))]) (fun w => mem ch S) (fun w => v + 1 ≤ w ∧ ∀ b, v < b → b < w → ¬ S 3 v = S 3 b) (fun w hv hi k => ?_) (fun hi => ?_) (n - (v + 1)) (v + 1) (by omega) ⟨Nat.le_refl _, fun b h1 h2 => absurd h2 (by omega)⟩
      · have hi2 := hi
        refine am_iload_n rfl rfl ?_
        refine am_aload_n rfl rfl rfl ?_
        refine am_get rfl rfl rfl ?_
        refine am_icmp_ge rfl (fun h => absurd h (nd_lt N.1 N.2.1 hv)) (fun _ => ?_)
        refine am_aload_n rfl rfl rfl ?_
        refine am_get rfl rfl rfl ?_
        refine am_iload_n rfl rfl ?_
        refine am_iald rfl rfl rfl (by omega) (by decide) ?_
        refine am_aload_n rfl rfl rfl ?_
        refine am_get rfl rfl rfl ?_
        refine am_iload_n rfl rfl ?_
        refine am_iald rfl rfl rfl (by omega) (by decide) ?_
        refine am_icmp_ne rfl (fun h22 => ?_) (fun h22 => ?_)
        · refine am_iinc rfl rfl ?_
          refine am_goto rfl ?_
          have k := k ⟨by omega, fun b h1 h2 => by
            by_cases e : b = w
            · rw [e]; exact h22
            · exact hi2.2 b h1 (by omega)⟩
          simp only [nI_succ] at k
          exact k
        · refine am_iconst rfl ?_
          refine am_ireturn rfl (fun _ => by decide) ⟨?_, rfl⟩
          have e : twn (S 3) n = true := anyb_true.mpr ⟨v, hv0, anyb_true.mpr ⟨w, hv, by simp only [decide_eq_true (show v < w by omega), Bool.true_and]; exact decide_eq_true h22⟩⟩
          rw [e]
          rfl
      · refine am_iload_n rfl rfl ?_
        refine am_aload_n rfl rfl rfl ?_
        refine am_get rfl rfl rfl ?_
        refine am_icmp_ge rfl (fun _ => ?_) (fun h => absurd (nd_ge N.1 N.2.1) h)
        refine am_iinc rfl rfl ?_
        refine am_goto rfl ?_
        have k := k0 (some (.int (nI n))) (fun a b h1 h2 h3 => by
          by_cases e : a = v
          · subst e; exact hi.2 b h2 h3
          · exact hi0 a b (by omega) h2 h3)
        simp only [nI_succ] at k
        exact k
    · refine am_iload_n rfl rfl ?_
      refine am_aload_n rfl rfl rfl ?_
      refine am_get rfl rfl rfl ?_
      refine am_icmp_ge rfl (fun _ => ?_) (fun h => absurd (nd_ge N.1 N.2.1) h)
      refine am_iconst rfl ?_
      refine am_ireturn rfl (fun _ => by decide) ⟨?_, rfl⟩
      have e : twn (S 3) n = false := anyb_false (fun a ha => anyb_false (fun b hb => by
        by_cases h : a < b
        · rw [decide_eq_false (hi a b ha h hb), Bool.and_false]
        · rw [decide_eq_false h, Bool.false_and]))
      rw [e]
      rfl
  exact key none
/-- Arrays.fill(a, x) -/
theorem s_fill {M : am_M} {o : Nat} {N : Nat} {f : Nat → Int32} (ho : M[o]? = some (.inl (0, N, .inl f))) (hN : N < 2 ^ 31) (x : Int32) : AW g d 0 0 6 0 (am_L0 6 [.ref o, .int x]) [] M (am_is none (M.set o (.inl (0, N, .inl (fil N x f))))) := by
  have hl : o < M.length := (List.getElem?_eq_some_iff.mp ho).1
  have e0 : M.set o (.inl (0, N, .inl (fil 0 x f))) = M := by
    rw [fil_0]
    apply List.ext_getElem?
    intro j
    by_cases e : o = j
    · subst e
      rw [List.getElem?_set_self hl, ho]
    · rw [List.getElem?_set_ne e]
  refine am_iconst rfl ?_
  refine am_istore_n rfl ?_
  refine am_aload_n rfl rfl rfl ?_
  refine am_alen rfl ho ?_
  refine am_istore_n rfl ?_
  show AW g d 0 0 6 5 [some (.ref o), some (.int x), some (.int (nI 0)), some (.int (nI N))] [] M _
  refine am_Meq e0.symm ?_
  refine am_for (N) (fun v => [some (.ref o), some (.int x), some (.int (nI v)), some (.int (nI N))]) (fun v => M.set o (.inl (0, N, .inl (fil v x f)))) (fun v hv k => ?_) ?_ N 0 (by omega)
  · refine am_iload_n rfl rfl ?_
    refine am_iload_n rfl rfl ?_
    refine am_icmp_ge rfl (fun h => absurd h (nI_ge hv hN)) (fun _ => ?_)
    refine am_aload_n rfl rfl rfl ?_
    refine am_iload_n rfl rfl ?_
    refine am_iload_n rfl rfl ?_
    refine am_iast rfl (List.getElem?_set_self hl) rfl hv hN ?_
    refine am_iinc rfl rfl ?_
    refine am_goto rfl ?_
    simp only [nI_succ] at k
    rw [List.set_set, fil_s]
    exact k
  · refine am_iload_n rfl rfl ?_
    refine am_iload_n rfl rfl ?_
    refine am_icmp_ge rfl (fun _ => ?_) (fun h => absurd (nI_le (Nat.le_refl _) hN) h)
    exact am_return rfl ⟨rfl, rfl⟩
/-- reachNeighbours(v) -/
theorem s_reach (N : NetIs S n E) (x : Nat) (hx : x < 12) (h1 : ¬ S 18 x = -1) : AW g (d + 1) 0 0 27 0 (am_L0 27 [.ref 2, .int (nI x)]) [] (mem ch S) (am_is none (mem ch (am_up S 18 (rch E x n (S 18))))) := by
  have hn := N.2.1
  refine am_iconst rfl ?_
  refine am_istore_n rfl ?_
  refine am_Meq (M' := mem ch (am_up S 18 (rch E x 0 (S 18)))) (by rw [rch_0, am_up_self]) ?_
  refine am_for (n) (fun v => [some (.ref 2), some (.int (nI x)), some (.int (nI v))]) (fun v => mem ch (am_up S 18 (rch E x v (S 18)))) (fun v hv k => ?_) ?_ n 0 (by omega)
  · refine am_iload_n rfl rfl ?_
    refine am_aload_n rfl rfl rfl ?_
    refine am_get rfl rfl rfl ?_
    refine am_icmp_ge rfl (fun h => absurd h (nd_lt (N.up (k := 18) (by decide)).1 N.2.1 hv)) (fun _ => ?_)
    refine am_aload_n rfl rfl rfl ?_
    refine am_iload_n rfl rfl ?_
    refine am_iload_n rfl rfl ?_
    refine am_Vx [.int (nI x), .int (nI v)] rfl rfl rfl rfl rfl rfl (s_areN (N.up (by decide)) x v hx (by omega)) ?_
    refine am_if_eq rfl (fun h10 => ?_) (fun h10 => ?_)
    · refine am_iinc rfl rfl ?_
      refine am_goto rfl ?_
      have h10 := bi_0 h10
      rw [rch_no (fun q => absurd q.1 (by rw [h10]; decide))] at k
      simp only [nI_succ] at k
      exact k
    · refine am_aload_n rfl rfl rfl ?_
      refine am_get rfl rfl rfl ?_
      refine am_iload_n rfl rfl ?_
      refine am_iald rfl rfl rfl (by omega) (by decide) ?_
      refine am_iconst rfl ?_
      rw [am_up_at, rch_at (Or.inl (Nat.le_refl v))]
      refine am_icmp_ne rfl (fun h16 => ?_) (fun h16 => ?_)
      · rw [rch_no (fun q => h16 q.2)] at k
        refine am_iinc rfl rfl ?_
        refine am_goto rfl ?_
        simp only [nI_succ] at k
        exact k
      · refine am_aload_n rfl rfl rfl ?_
        refine am_get rfl rfl rfl ?_
        refine am_iload_n rfl rfl ?_
        refine am_aload_n rfl rfl rfl ?_
        refine am_get rfl rfl rfl ?_
        refine am_iload_n rfl rfl ?_
        refine am_iald rfl rfl rfl (by omega) (by decide) ?_
        refine am_iconst rfl ?_
        refine am_iadd rfl ?_
        refine am_iast rfl rfl rfl (by omega) (by decide) ?_
        refine am_Meq (M' := mem ch (am_up S 18 (rch E x (v + 1) (S 18)))) ?_ ?_
        · show mem ch (am_up (am_up S 18 (rch E x v (S 18))) 18 (upd (am_up S 18 (rch E x v (S 18)) 18) v (am_up S 18 (rch E x v (S 18)) 18 x + 1))) = _
          rw [am_up_up, am_up_at, rch_at (Or.inr h1), rch_yes (bi_1 h10) h16]
        · refine am_iinc rfl rfl ?_
          refine am_goto rfl ?_
          simp only [nI_succ] at k
          exact k
  · refine am_iload_n rfl rfl ?_
    refine am_aload_n rfl rfl rfl ?_
    refine am_get rfl rfl rfl ?_
    refine am_icmp_ge rfl (fun _ => ?_) (fun h => absurd (nd_ge (N.up (k := 18) (by decide)).1 N.2.1) h)
    exact am_return rfl ⟨rfl, rfl⟩
/-- measureFrom(start) -/
theorem lvl_0 (E : Nat → Nat → Option Nat) (n t : Nat) (f : Nat → Int32) : lvl E n t 0 f = f := rfl
theorem lvl_s (E : Nat → Nat → Option Nat) (n t k : Nat) (f : Nat → Int32) : lvl E n t (k + 1) f = if lvl E n t k f k = nI t then rch E k n (lvl E n t k f) else lvl E n t k f := rfl
theorem msr_s (E : Nat → Nat → Option Nat) (n k : Nat) (f : Nat → Int32) : msr E n (k + 1) f = lvl E n k n (msr E n k f) := rfl
theorem s_measure (N : NetIs S n E) (x : Nat) (hx : x < 12) : AW g (d + 2) 0 0 26 0 (am_L0 26 [.ref 2, .int (nI x)]) [] (mem ch S) (am_is none (mem ch (am_up S 18 (msr E n n (far0 x (S 18)))))) := by
  have hn := N.2.1
  refine am_aload_n rfl rfl rfl ?_
  refine am_get rfl rfl rfl ?_
  refine am_iconst rfl ?_
  refine am_Sx [.ref 18, .int (-1)] rfl rfl rfl rfl (s_fill (d := d + 1) rfl (by decide) (-1)) ?_
  refine am_aload_n rfl rfl rfl ?_
  refine am_get rfl rfl rfl ?_
  refine am_iload_n rfl rfl ?_
  refine am_iconst rfl ?_
  refine am_iast (n := 12) (f := fil 12 (-1) (S 18)) rfl rfl rfl hx (by decide) ?_
  refine am_iconst rfl ?_
  refine am_istore_n rfl ?_
  refine am_Meq (M' := mem ch (am_up S 18 (msr E n 0 (far0 x (S 18))))) rfl ?_
  show AW g (d + 2) 0 0 26 11 [some (.ref 2), some (.int (nI x)), some (.int (nI 0)), none] [] _ _
  have key : ∀ y : Option Value, AW g (d + 2) 0 0 26 11 [some (.ref 2), some (.int (nI x)), some (.int (nI 0)), y] [] (mem ch (am_up S 18 (msr E n 0 (far0 x (S 18))))) (am_is none (mem ch (am_up S 18 (msr E n n (far0 x (S 18)))))) := by
    intro y
    refine am_forS n (fun t y => [some (.ref 2), some (.int (nI x)), some (.int (nI t)), y]) (fun t _ => mem ch (am_up S 18 (msr E n t (far0 x (S 18))))) (fun _ _ => True) (fun t y ht _ k0 => ?_) (fun y _ => ?_) n 0 y (by omega) trivial
    · refine am_iload_n rfl rfl ?_
      refine am_aload_n rfl rfl rfl ?_
      refine am_get rfl rfl rfl ?_
      refine am_icmp_ge rfl (fun h => absurd h (nd_lt (N.up (k := 18) (by decide)).1 N.2.1 ht)) (fun _ => ?_)
      refine am_iconst rfl ?_
      refine am_istore_n rfl ?_
      generalize hF : msr E n t (far0 x (S 18)) = F
      rw [msr_s, hF] at k0
      show AW g (d + 2) 0 0 26 17 [some (.ref 2), some (.int (nI x)), some (.int (nI t)), some (.int (nI 0))] [] (mem ch (am_up S 18 (lvl E n t 0 F))) _
      refine am_for (n) (fun v => [some (.ref 2), some (.int (nI x)), some (.int (nI t)), some (.int (nI v))]) (fun v => mem ch (am_up S 18 (lvl E n t v F))) (fun v hv k => ?_) ?_ n 0 (by omega)
      · refine am_iload_n rfl rfl ?_
        refine am_aload_n rfl rfl rfl ?_
        refine am_get rfl rfl rfl ?_
        refine am_icmp_ge rfl (fun h => absurd h (nd_lt (N.up (k := 18) (by decide)).1 N.2.1 hv)) (fun _ => ?_)
        refine am_aload_n rfl rfl rfl ?_
        refine am_get rfl rfl rfl ?_
        refine am_iload_n rfl rfl ?_
        refine am_iald rfl rfl rfl (by omega) (by decide) ?_
        refine am_iload_n rfl rfl ?_
        refine am_icmp_ne rfl (fun h26 => ?_) (fun h26 => ?_)
        · have h27 : ¬ lvl E n t v F v = nI t := h26
          rw [lvl_s, if_neg h27] at k
          refine am_iinc rfl rfl ?_
          refine am_goto rfl ?_
          simp only [nI_succ] at k
          exact k
        · have h27 : lvl E n t v F v = nI t := h26
          rw [lvl_s, if_pos h27] at k
          refine am_aload_n rfl rfl rfl ?_
          refine am_iload_n rfl rfl ?_
          refine am_Vx [.int (nI v)] rfl rfl rfl rfl rfl rfl (s_reach (d := d) (N.up (k := 18) (by decide)) v (by omega) (by show ¬ lvl E n t v F v = -1; rw [h27]; exact fun q => neg1_nI t (by omega) q.symm)) ?_
          rw [am_up_up]
          refine am_iinc rfl rfl ?_
          refine am_goto rfl ?_
          simp only [nI_succ] at k
          exact k
      · refine am_iload_n rfl rfl ?_
        refine am_aload_n rfl rfl rfl ?_
        refine am_get rfl rfl rfl ?_
        refine am_icmp_ge rfl (fun _ => ?_) (fun h => absurd (nd_ge (N.up (k := 18) (by decide)).1 N.2.1) h)
        refine am_iinc rfl rfl ?_
        refine am_goto rfl ?_
        have k0 := k0 (some (.int (nI n))) trivial
        simp only [nI_succ] at k0
        exact k0
    · refine am_iload_n rfl rfl ?_
      refine am_aload_n rfl rfl rfl ?_
      refine am_get rfl rfl rfl ?_
      refine am_icmp_ge rfl (fun _ => ?_) (fun h => absurd (nd_ge (N.up (k := 18) (by decide)).1 N.2.1) h)
      exact am_return rfl ⟨rfl, rfl⟩
  exact key none
/-- isConnected() -/
theorem s_connected (N : NetIs S n E) : AW g (d + 3) 0 0 25 0 (am_L0 25 [.ref 2]) [] (mem ch S) (am_is (some (.int (bi (!anyb (fun v => decide (msr E n n (far0 0 (S 18)) v = -1)) n)))) (mem ch (am_up S 18 (msr E n n (far0 0 (S 18)))))) := by
  have hn := N.2.1
  refine am_aload_n rfl rfl rfl ?_
  refine am_iconst rfl ?_
  refine am_Vx [.int (nI 0)] rfl rfl rfl rfl rfl rfl (s_measure (d := d) N 0 (by decide)) ?_
  refine am_iconst rfl ?_
  refine am_istore_n rfl ?_
  generalize hF : msr E n n (far0 0 (S 18)) = F
  show AW g (d + 3) 0 0 25 5 [some (.ref 2), some (.int (nI 0))] [] (mem ch (am_up S 18 F)) _
  refine am_forI (n) (fun v => [some (.ref 2), some (.int (nI v))]) (fun v => mem ch (am_up S 18 F)) (fun v => ∀ u, u < v → ¬ F u = -1) (fun v hv hi k => ?_) (fun hi => ?_) n 0 (by omega) (fun u h => absurd h (Nat.not_lt_zero _))
  · refine am_iload_n rfl rfl ?_
    refine am_aload_n rfl rfl rfl ?_
    refine am_get rfl rfl rfl ?_
    refine am_icmp_ge rfl (fun h => absurd h (nd_lt (N.up (k := 18) (by decide)).1 N.2.1 hv)) (fun _ => ?_)
    refine am_aload_n rfl rfl rfl ?_
    refine am_get rfl rfl rfl ?_
    refine am_iload_n rfl rfl ?_
    refine am_iald rfl rfl rfl (by omega) (by decide) ?_
    refine am_iconst rfl ?_
    refine am_icmp_ne rfl (fun h14 => ?_) (fun h14 => ?_)
    · refine am_iinc rfl rfl ?_
      refine am_goto rfl ?_
      have k := k (fun u hu => by
        by_cases e : u = v
        · rw [e]; exact h14
        · exact hi u (by omega))
      simp only [nI_succ] at k
      exact k
    · refine am_iconst rfl ?_
      refine am_ireturn rfl (fun _ => by decide) ⟨?_, rfl⟩
      rw [show anyb (fun v => decide (F v = -1)) n = true from anyb_true.mpr ⟨v, hv, decide_eq_true h14⟩]
      rfl
  · refine am_iload_n rfl rfl ?_
    refine am_aload_n rfl rfl rfl ?_
    refine am_get rfl rfl rfl ?_
    refine am_icmp_ge rfl (fun _ => ?_) (fun h => absurd (nd_ge (N.up (k := 18) (by decide)).1 N.2.1) h)
    refine am_iconst rfl ?_
    refine am_ireturn rfl (fun _ => by decide) ⟨?_, rfl⟩
    rw [anyb_false (p := fun v => decide (F v = -1)) (fun u hu => decide_eq_false (hi u hu))]
    rfl
/-- nearerNeighbour(v) -/
def nrr (E : Nat → Nat → Option Nat) (n : Nat) (f : Nat → Int32) (x : Nat) : Option Nat := bif decide (0 < f x) then fst? (fun u => (E x u).isSome && decide (f u = f x - 1)) n else none
theorem s_nearer (N : NetIs S n E) (x : Nat) (hx : x < 12) : AW g (d + 1) 0 0 45 0 (am_L0 45 [.ref 2, .int (nI x)]) [] (mem ch S) (am_is (some (.int (em (nrr E n (S 18) x)))) (mem ch S)) := by
  have hn := N.2.1
  refine am_aload_n rfl rfl rfl ?_
  refine am_get rfl rfl rfl ?_
  refine am_iload_n rfl rfl ?_
  refine am_iald rfl rfl rfl (by omega) (by decide) ?_
  refine am_if_gt rfl (fun h4 => ?_) (fun h4 => ?_)
  · refine am_iconst rfl ?_
    refine am_istore_n rfl ?_
    show AW g (d + 1) 0 0 45 9 [some (.ref 2), some (.int (nI x)), some (.int (nI 0))] [] (mem ch S) _
    unfold nrr
    rw [decide_eq_true h4, cond_true]
    refine am_forI (n) (fun v => [some (.ref 2), some (.int (nI x)), some (.int (nI v))]) (fun v => mem ch S) (fun v => ∀ u, u < v → ((E x u).isSome && decide (S 18 u = S 18 x - 1)) = false) (fun v hv hi k => ?_) (fun hi => ?_) n 0 (by omega) (fun u h => absurd h (Nat.not_lt_zero _))
    · refine am_iload_n rfl rfl ?_
      refine am_aload_n rfl rfl rfl ?_
      refine am_get rfl rfl rfl ?_
      refine am_icmp_ge rfl (fun h => absurd h (nd_lt N.1 N.2.1 hv)) (fun _ => ?_)
      refine am_aload_n rfl rfl rfl ?_
      refine am_iload_n rfl rfl ?_
      refine am_iload_n rfl rfl ?_
      refine am_Vx [.int (nI x), .int (nI v)] rfl rfl rfl rfl rfl rfl (s_areN N x v hx (by omega)) ?_
      refine am_if_eq rfl (fun h17 => ?_) (fun h17 => ?_)
      · refine am_iinc rfl rfl ?_
        refine am_goto rfl ?_
        have k := k (fun u hu => by
          by_cases e : u = v
          · subst e
            first | rw [bi_0 h17, Bool.false_and] | rw [decide_eq_false h28, Bool.and_false]
          · exact hi u (by omega))
        simp only [nI_succ] at k
        exact k
      · refine am_aload_n rfl rfl rfl ?_
        refine am_get rfl rfl rfl ?_
        refine am_iload_n rfl rfl ?_
        refine am_iald rfl rfl rfl (by omega) (by decide) ?_
        refine am_aload_n rfl rfl rfl ?_
        refine am_get rfl rfl rfl ?_
        refine am_iload_n rfl rfl ?_
        refine am_iald rfl rfl rfl (by omega) (by decide) ?_
        refine am_iconst rfl ?_
        refine am_isub rfl ?_
        refine am_icmp_ne rfl (fun h28 => ?_) (fun h28 => ?_)
        · refine am_iinc rfl rfl ?_
          refine am_goto rfl ?_
          have k := k (fun u hu => by
            by_cases e : u = v
            · subst e
              first | rw [bi_0 h17, Bool.false_and] | rw [decide_eq_false h28, Bool.and_false]
            · exact hi u (by omega))
          simp only [nI_succ] at k
          exact k
        · refine am_iload_n rfl rfl ?_
          refine am_ireturn rfl (fun h => absurd h (by decide)) ⟨?_, rfl⟩
          rw [fst?_some (v := v) (by rw [bi_1 h17, Bool.true_and]; exact decide_eq_true h28) hi hv]
          rfl
    · refine am_iload_n rfl rfl ?_
      refine am_aload_n rfl rfl rfl ?_
      refine am_get rfl rfl rfl ?_
      refine am_icmp_ge rfl (fun _ => ?_) (fun h => absurd (nd_ge N.1 N.2.1) h)
      refine am_iconst rfl ?_
      refine am_ireturn rfl (fun h => absurd h (by decide)) ⟨?_, rfl⟩
      rw [fst?_none hi]
      rfl
  · refine am_iconst rfl ?_
    refine am_ireturn rfl (fun h => absurd h (by decide)) ⟨?_, rfl⟩
    unfold nrr
    rw [decide_eq_false h4, cond_false]
    rfl
/-- a node's number, seen from an int -/
theorem hasN_of {x : Int32} (hN : S 2 4 = nI n) (hn : n ≤ 12) (h : (decide (0 ≤ x) && decide (x < S 2 4)) = true) : ∃ v, v < n ∧ x = nI v := by
  rw [Bool.and_eq_true, decide_eq_true_eq, decide_eq_true_eq] at h
  obtain ⟨v, hv, rfl⟩ := nI_of (Int32.not_lt.mpr h.1)
  rw [hN, nI_ltI hv (by omega)] at h
  exact ⟨v, h.2, rfl⟩
theorem hasN_to {v : Nat} (hN : S 2 4 = nI n) (hn : n ≤ 12) (hv : v < n) : (decide (0 ≤ nI v) && decide (nI v < S 2 4)) = true := by
  rw [Bool.and_eq_true, decide_eq_true_eq, decide_eq_true_eq, hN]
  exact ⟨nI_pos' (by omega), nI_lt hv (by omega)⟩
/-- takesEdge(a, b, weight) -/
def tks (S : am_S0) (E : Nat → Nat → Option Nat) (x y w : Int32) : Bool := decide (S 2 5 < 24) && (decide (0 ≤ x) && decide (x < S 2 4)) && (decide (0 ≤ y) && decide (y < S 2 4)) && !decide (x = y) && !(E x.toNatClampNeg y.toNatClampNeg).isSome && decide (1 ≤ w) && decide (w ≤ 999)
theorem s_takesEdge (N : NetIs S n E) (x y w : Int32) : AW g (d + 1) 0 0 19 0 (am_L0 19 [.ref 2, .int x, .int y, .int w]) [] (mem ch S) (am_is (some (.int (bi (tks S E x y w)))) (mem ch S)) := by
  have hn := N.2.1
  refine am_aload_n rfl rfl rfl ?_
  refine am_get rfl rfl rfl ?_
  refine am_bipush rfl ?_
  refine am_icmp_ge rfl (fun h3 => ?_) (fun h3 => ?_)
  · refine am_iconst rfl ?_
    refine am_ireturn rfl (fun _ => by decide) ⟨?_, rfl⟩
    unfold tks
    first
      | (rw [decide_eq_true (Int32.not_le.mp h3), bi_1 h7, bi_1 h11, decide_eq_false h14, nI_clamp (by omega), nI_clamp (by omega), bi_0 h19, decide_eq_true (Int32.not_lt.mp h22), decide_eq_true (Int32.not_lt.mp h25)]; rfl)
      | (rw [decide_eq_false (Int32.not_lt.mpr h3)]; rfl)
      | (rw [bi_0 h7]; simp [bi]; done)
      | (rw [bi_0 h11]; simp [bi]; done)
      | (rw [decide_eq_true h14]; simp [bi]; done)
      | (rw [nI_clamp (by omega), nI_clamp (by omega), bi_1 h19]; simp [bi]; done)
      | (rw [decide_eq_false (Int32.not_le.mpr h22)]; simp [bi]; done)
      | (rw [decide_eq_false (Int32.not_le.mpr h25)]; simp [bi]; done)
  · refine am_aload_n rfl rfl rfl ?_
    refine am_iload_n rfl rfl ?_
    refine am_Vx [.int x] rfl rfl rfl rfl rfl rfl (s_hasNode (d := d) x) ?_
    refine am_if_eq rfl (fun h7 => ?_) (fun h7 => ?_)
    · refine am_iconst rfl ?_
      refine am_ireturn rfl (fun _ => by decide) ⟨?_, rfl⟩
      unfold tks
      first
        | (rw [decide_eq_true (Int32.not_le.mp h3), bi_1 h7, bi_1 h11, decide_eq_false h14, nI_clamp (by omega), nI_clamp (by omega), bi_0 h19, decide_eq_true (Int32.not_lt.mp h22), decide_eq_true (Int32.not_lt.mp h25)]; rfl)
        | (rw [decide_eq_false (Int32.not_lt.mpr h3)]; rfl)
        | (rw [bi_0 h7]; simp [bi]; done)
        | (rw [bi_0 h11]; simp [bi]; done)
        | (rw [decide_eq_true h14]; simp [bi]; done)
        | (rw [nI_clamp (by omega), nI_clamp (by omega), bi_1 h19]; simp [bi]; done)
        | (rw [decide_eq_false (Int32.not_le.mpr h22)]; simp [bi]; done)
        | (rw [decide_eq_false (Int32.not_le.mpr h25)]; simp [bi]; done)
    · refine am_aload_n rfl rfl rfl ?_
      refine am_iload_n rfl rfl ?_
      refine am_Vx [.int y] rfl rfl rfl rfl rfl rfl (s_hasNode (d := d) y) ?_
      refine am_if_eq rfl (fun h11 => ?_) (fun h11 => ?_)
      · refine am_iconst rfl ?_
        refine am_ireturn rfl (fun _ => by decide) ⟨?_, rfl⟩
        unfold tks
        first
          | (rw [decide_eq_true (Int32.not_le.mp h3), bi_1 h7, bi_1 h11, decide_eq_false h14, nI_clamp (by omega), nI_clamp (by omega), bi_0 h19, decide_eq_true (Int32.not_lt.mp h22), decide_eq_true (Int32.not_lt.mp h25)]; rfl)
          | (rw [decide_eq_false (Int32.not_lt.mpr h3)]; rfl)
          | (rw [bi_0 h7]; simp [bi]; done)
          | (rw [bi_0 h11]; simp [bi]; done)
          | (rw [decide_eq_true h14]; simp [bi]; done)
          | (rw [nI_clamp (by omega), nI_clamp (by omega), bi_1 h19]; simp [bi]; done)
          | (rw [decide_eq_false (Int32.not_le.mpr h22)]; simp [bi]; done)
          | (rw [decide_eq_false (Int32.not_le.mpr h25)]; simp [bi]; done)
      · refine am_iload_n rfl rfl ?_
        refine am_iload_n rfl rfl ?_
        refine am_icmp_eq rfl (fun h14 => ?_) (fun h14 => ?_)
        · refine am_iconst rfl ?_
          refine am_ireturn rfl (fun _ => by decide) ⟨?_, rfl⟩
          unfold tks
          first
            | (rw [decide_eq_true (Int32.not_le.mp h3), bi_1 h7, bi_1 h11, decide_eq_false h14, nI_clamp (by omega), nI_clamp (by omega), bi_0 h19, decide_eq_true (Int32.not_lt.mp h22), decide_eq_true (Int32.not_lt.mp h25)]; rfl)
            | (rw [decide_eq_false (Int32.not_lt.mpr h3)]; rfl)
            | (rw [bi_0 h7]; simp [bi]; done)
            | (rw [bi_0 h11]; simp [bi]; done)
            | (rw [decide_eq_true h14]; simp [bi]; done)
            | (rw [nI_clamp (by omega), nI_clamp (by omega), bi_1 h19]; simp [bi]; done)
            | (rw [decide_eq_false (Int32.not_le.mpr h22)]; simp [bi]; done)
            | (rw [decide_eq_false (Int32.not_le.mpr h25)]; simp [bi]; done)
        · refine am_aload_n rfl rfl rfl ?_
          refine am_iload_n rfl rfl ?_
          refine am_iload_n rfl rfl ?_
          obtain ⟨a, ha, rfl⟩ := hasN_of N.1 hn (bi_1 h7)
          obtain ⟨b, hb, rfl⟩ := hasN_of N.1 hn (bi_1 h11)
          refine am_Vx [.int (nI a), .int (nI b)] rfl rfl rfl rfl rfl rfl (s_areN N a b (by omega) (by omega)) ?_
          refine am_if_ne rfl (fun h19 => ?_) (fun h19 => ?_)
          · refine am_iconst rfl ?_
            refine am_ireturn rfl (fun _ => by decide) ⟨?_, rfl⟩
            unfold tks
            first
              | (rw [decide_eq_true (Int32.not_le.mp h3), bi_1 h7, bi_1 h11, decide_eq_false h14, nI_clamp (by omega), nI_clamp (by omega), bi_0 h19, decide_eq_true (Int32.not_lt.mp h22), decide_eq_true (Int32.not_lt.mp h25)]; rfl)
              | (rw [decide_eq_false (Int32.not_lt.mpr h3)]; rfl)
              | (rw [bi_0 h7]; simp [bi]; done)
              | (rw [bi_0 h11]; simp [bi]; done)
              | (rw [decide_eq_true h14]; simp [bi]; done)
              | (rw [nI_clamp (by omega), nI_clamp (by omega), bi_1 h19]; simp [bi]; done)
              | (rw [decide_eq_false (Int32.not_le.mpr h22)]; simp [bi]; done)
              | (rw [decide_eq_false (Int32.not_le.mpr h25)]; simp [bi]; done)
          · refine am_iload_n rfl rfl ?_
            refine am_iconst rfl ?_
            refine am_icmp_lt rfl (fun h22 => ?_) (fun h22 => ?_)
            · refine am_iconst rfl ?_
              refine am_ireturn rfl (fun _ => by decide) ⟨?_, rfl⟩
              unfold tks
              first
                | (rw [decide_eq_true (Int32.not_le.mp h3), bi_1 h7, bi_1 h11, decide_eq_false h14, nI_clamp (by omega), nI_clamp (by omega), bi_0 h19, decide_eq_true (Int32.not_lt.mp h22), decide_eq_true (Int32.not_lt.mp h25)]; rfl)
                | (rw [decide_eq_false (Int32.not_lt.mpr h3)]; rfl)
                | (rw [bi_0 h7]; simp [bi]; done)
                | (rw [bi_0 h11]; simp [bi]; done)
                | (rw [decide_eq_true h14]; simp [bi]; done)
                | (rw [nI_clamp (by omega), nI_clamp (by omega), bi_1 h19]; simp [bi]; done)
                | (rw [decide_eq_false (Int32.not_le.mpr h22)]; simp [bi]; done)
                | (rw [decide_eq_false (Int32.not_le.mpr h25)]; simp [bi]; done)
            · refine am_iload_n rfl rfl ?_
              refine am_sipush rfl ?_
              refine am_icmp_gt rfl (fun h25 => ?_) (fun h25 => ?_)
              · refine am_iconst rfl ?_
                refine am_ireturn rfl (fun _ => by decide) ⟨?_, rfl⟩
                unfold tks
                first
                  | (rw [decide_eq_true (Int32.not_le.mp h3), bi_1 h7, bi_1 h11, decide_eq_false h14, nI_clamp (by omega), nI_clamp (by omega), bi_0 h19, decide_eq_true (Int32.not_lt.mp h22), decide_eq_true (Int32.not_lt.mp h25)]; rfl)
                  | (rw [decide_eq_false (Int32.not_lt.mpr h3)]; rfl)
                  | (rw [bi_0 h7]; simp [bi]; done)
                  | (rw [bi_0 h11]; simp [bi]; done)
                  | (rw [decide_eq_true h14]; simp [bi]; done)
                  | (rw [nI_clamp (by omega), nI_clamp (by omega), bi_1 h19]; simp [bi]; done)
                  | (rw [decide_eq_false (Int32.not_le.mpr h22)]; simp [bi]; done)
                  | (rw [decide_eq_false (Int32.not_le.mpr h25)]; simp [bi]; done)
              · refine am_iconst rfl ?_
                refine am_goto rfl ?_
                refine am_ireturn rfl (fun _ => by decide) ⟨?_, rfl⟩
                unfold tks
                first
                  | (rw [decide_eq_true (Int32.not_le.mp h3), bi_1 h7, bi_1 h11, decide_eq_false h14, nI_clamp (by omega), nI_clamp (by omega), bi_0 h19, decide_eq_true (Int32.not_lt.mp h22), decide_eq_true (Int32.not_lt.mp h25)]; rfl)
                  | (rw [decide_eq_false (Int32.not_lt.mpr h3)]; rfl)
                  | (rw [bi_0 h7]; simp [bi]; done)
                  | (rw [bi_0 h11]; simp [bi]; done)
                  | (rw [decide_eq_true h14]; simp [bi]; done)
                  | (rw [nI_clamp (by omega), nI_clamp (by omega), bi_1 h19]; simp [bi]; done)
                  | (rw [decide_eq_false (Int32.not_le.mpr h22)]; simp [bi]; done)
                  | (rw [decide_eq_false (Int32.not_le.mpr h25)]; simp [bi]; done)
/-- addEdge(a, b, weight) -/
def addE (S : am_S0) (a b m : Nat) (w : Int32) : am_S0 := am_up (am_up (am_up (am_up S 4 (upd (S 4) m w)) (6 + a) (upd (S (6 + a)) b (nI m))) (6 + b) (upd (S (6 + b)) a (nI m))) 2 (upd (S 2) 5 (nI m + 1))
theorem s_addEdge (a b m : Nat) (w : Int32) (ha : a < 12) (hb : b < 12) (hab : a ≠ b) (hm : m < 24) (hS : S 2 5 = nI m) : AW g d 0 0 22 0 (am_L0 22 [.ref 2, .int (nI a), .int (nI b), .int w]) [] (mem ch S) (am_is (some (.int (nI m))) (mem ch (addE S a b m w))) := by
  refine am_aload_n rfl rfl rfl ?_
  refine am_get rfl rfl rfl ?_
  rw [hS]
  refine am_istore rfl ?_
  refine am_aload_n rfl rfl rfl ?_
  refine am_get rfl rfl rfl ?_
  refine am_iload rfl rfl ?_
  refine am_iload_n rfl rfl ?_
  refine am_iast rfl rfl rfl hm (by decide) ?_
  refine am_Meq (M' := mem ch (am_up S 4 (upd (S 4) m w))) rfl ?_
  generalize hS1 : am_up S 4 (upd (S 4) m w) = S1
  have h6 : ∀ u, S1 (6 + u) = S (6 + u) := fun u => by rw [← hS1]; exact am_up_ne _ _ (by omega)
  have h2 : S1 2 = S 2 := by rw [← hS1]; rfl
  refine am_aload_n rfl rfl rfl ?_
  refine am_get rfl rfl rfl ?_
  refine am_iload_n rfl rfl ?_
  refine am_aald rfl rfl (Or.inl rfl) rfl ha (by decide) (if_pos ha) ?_
  refine am_iload_n rfl rfl ?_
  refine am_iload rfl rfl ?_
  refine am_iast rfl (mem_eb a ha) rfl hb (by decide) ?_
  refine am_Meq (mem_eb_set a ha) ?_
  refine am_aload_n rfl rfl rfl ?_
  refine am_get rfl rfl rfl ?_
  refine am_iload_n rfl rfl ?_
  refine am_aald rfl rfl (Or.inl rfl) rfl hb (by decide) (if_pos hb) ?_
  refine am_iload_n rfl rfl ?_
  refine am_iload rfl rfl ?_
  refine am_iast rfl (mem_eb b hb) rfl ha (by decide) ?_
  refine am_Meq (mem_eb_set b hb) ?_
  have e2 : am_up (am_up S1 (6 + a) (upd (S1 (6 + a)) b (nI m))) (6 + b) (upd (am_up S1 (6 + a) (upd (S1 (6 + a)) b (nI m)) (6 + b)) a (nI m)) 2 = S 2 := by
    rw [am_up_ne _ _ (by omega), am_up_ne _ _ (by omega), h2]
  rw [am_up_ne _ _ (show 6 + b ≠ 6 + a by omega), h6, h6] at e2 ⊢
  generalize hS2 : am_up (am_up S1 (6 + a) (upd (S (6 + a)) b (nI m))) (6 + b) (upd (S (6 + b)) a (nI m)) = S2 at e2 ⊢
  refine am_aload_n rfl rfl rfl ?_
  refine am_dup rfl rfl ?_
  refine am_get rfl rfl rfl ?_
  refine am_iconst rfl ?_
  refine am_iadd rfl ?_
  refine am_put rfl rfl (Nat.le_of_ble_eq_true rfl) rfl ?_
  refine am_Meq (M' := mem ch (addE S a b m w)) ?_ ?_
  · unfold addE
    rw [hS1, hS2]
    show mem ch (am_up S2 2 (upd (S2 2) 5 (S2 2 5 + 1))) = _
    rw [e2, hS]
  · refine am_iload rfl rfl ?_
    refine am_ireturn rfl (fun h => absurd h (by decide)) ⟨?_, rfl⟩
    rfl
/-- clear(n) -/
def clr1 (v : Nat) (S : am_S0) : am_S0 := am_up (am_up S 3 (upd (S 3) v (nI v + 1))) (6 + v) (fil 12 (-1) (S (6 + v)))
def clr0 (S : am_S0) (x : Int32) : am_S0 := am_up S 2 (upd (upd (S 2) 4 x) 5 0)
theorem itr_s {σ : Type} (f : Nat → σ → σ) (k : Nat) (s : σ) : itr f (k + 1) s = f k (itr f k s) := rfl
theorem s_clear (x : Int32) : AW g (d + 1) 0 0 5 0 (am_L0 5 [.ref 2, .int x]) [] (mem ch S) (am_is none (mem ch (itr clr1 12 (clr0 S x)))) := by
  refine am_aload_n rfl rfl rfl ?_
  refine am_iload_n rfl rfl ?_
  refine am_put rfl rfl (Nat.le_of_ble_eq_true rfl) rfl ?_
  refine am_aload_n rfl rfl rfl ?_
  refine am_iconst rfl ?_
  refine am_put rfl rfl (Nat.le_of_ble_eq_true rfl) rfl ?_
  refine am_iconst rfl ?_
  refine am_istore_n rfl ?_
  refine am_Meq (M' := mem ch (itr clr1 0 (clr0 S x))) rfl ?_
  show AW g (d + 1) 0 0 5 8 [some (.ref 2), some (.int x), some (.int (nI 0))] [] _ _
  refine am_for (12) (fun v => [some (.ref 2), some (.int x), some (.int (nI v))]) (fun v => mem ch (itr clr1 v (clr0 S x))) (fun v hv k => ?_) ?_ 12 0 (by omega)
  · rw [itr_s] at k
    generalize itr clr1 v (clr0 S x) = S1 at k ⊢
    refine am_iload_n rfl rfl ?_
    refine am_bipush rfl ?_
    refine am_icmp_ge rfl (fun h => absurd h (nI_ge hv (by decide))) (fun _ => ?_)
    refine am_aload_n rfl rfl rfl ?_
    refine am_get rfl rfl rfl ?_
    refine am_iload_n rfl rfl ?_
    refine am_iload_n rfl rfl ?_
    refine am_iconst rfl ?_
    refine am_iadd rfl ?_
    refine am_iast rfl rfl rfl hv (by decide) ?_
    refine am_Meq (M' := mem ch (am_up S1 3 (upd (S1 3) v (nI v + 1)))) rfl ?_
    refine am_aload_n rfl rfl rfl ?_
    refine am_get rfl rfl rfl ?_
    refine am_iload_n rfl rfl ?_
    refine am_aald rfl rfl (Or.inl rfl) rfl hv (by decide) (if_pos hv) ?_
    refine am_iconst rfl ?_
    refine am_Sx [.ref (6 + v), .int (-1)] rfl rfl rfl rfl (s_fill (d := d) (mem_eb v hv) (by decide) (-1)) ?_
    refine am_Meq (mem_eb_set v hv) ?_
    rw [am_up_ne _ _ (show 6 + v ≠ 3 by omega)]
    refine am_iinc rfl rfl ?_
    refine am_goto rfl ?_
    unfold clr1 at k
    simp only [nI_succ] at k
    exact k
  · refine am_iload_n rfl rfl ?_
    refine am_bipush rfl ?_
    refine am_icmp_ge rfl (fun _ => ?_) (fun h => absurd (nI_le (Nat.le_refl 12) (by decide)) h)
    exact am_return rfl ⟨rfl, rfl⟩
end CNET
end
section
/-! the class: Course -/
/-- the first n places become F -/
def pw (n : Nat) (F f : Nat → Int32) : Nat → Int32 := fun j => if j < n then F j else f j
theorem pw_0 (F f : Nat → Int32) : pw 0 F f = f := rfl
theorem pw_s (n : Nat) (F f : Nat → Int32) : upd (pw n F f) n (F n) = pw (n + 1) F f := by
  funext j
  unfold upd pw
  by_cases h : j = n
  · rw [if_pos h, if_pos (by omega), h]
  · rw [if_neg h]
    by_cases h2 : j < n
    · rw [if_pos h2, if_pos (by omega)]
    · rw [if_neg h2, if_neg (by omega)]
theorem pw_lt {n j : Nat} {F f : Nat → Int32} (h : j < n) : pw n F f j = F j := if_pos h
theorem pw_ge {n j : Nat} {F f : Nat → Int32} (h : n ≤ j) : pw n F f j = f j := if_neg (Nat.not_lt.mpr h)
theorem cpy_pw (n : Nat) (F f : Nat → Int32) : va_cpy F f 0 0 n = pw n F f := by
  funext j
  unfold va_cpy pw
  by_cases h : j < n
  · rw [if_pos ⟨Nat.zero_le _, by omega⟩, if_pos h, Nat.zero_add, Nat.sub_zero]
  · rw [if_neg (by omega), if_neg h]
theorem fil_pw (n : Nat) (x : Int32) (f : Nat → Int32) : fil n x f = pw n (fun _ => x) f := rfl
def sm (f : Nat → Nat) : Nat → Nat
  | 0 => 0
  | n + 1 => sm f n + f n
def deg (E : Nat → Nat → Option Nat) (n v : Nat) : Nat := cnt (fun u => (E v u).isSome) n
section CCRS
variable {g : am_G} {d : Nat} {ch : Option Nat} {S : am_S0} {n : Nat} {E : Nat → Nat → Option Nat}
/-- setFresh(b) -/
theorem s_setFresh (x : Int32) (hx : x = 0 ∨ x = 1) : AW g d 0 0 39 0 (am_L0 39 [.ref 1, .int x]) [] (mem ch S) (am_is none (mem ch (am_up S 27 (pw 12 (fun _ => x) (S 27))))) := by
  refine am_iconst rfl ?_
  refine am_istore_n rfl ?_
  refine am_Meq (M' := mem ch (am_up S 27 (pw 0 (fun _ => x) (S 27)))) (by rw [pw_0, am_up_self]) ?_
  refine am_for (12) (fun v => [some (.ref 1), some (.int x), some (.int (nI v))]) (fun v => mem ch (am_up S 27 (pw v (fun _ => x) (S 27)))) (fun v hv k => ?_) ?_ 12 0 (by omega)
  · refine am_iload_n rfl rfl ?_
    refine am_bipush rfl ?_
    refine am_icmp_ge rfl (fun h => absurd h (nI_ge hv (by decide))) (fun _ => ?_)
    refine am_aload_n rfl rfl rfl ?_
    refine am_get rfl rfl rfl ?_
    refine am_iload_n rfl rfl ?_
    refine am_iload_n rfl rfl ?_
    refine am_bast rfl rfl rfl hv (by decide) hx ?_
    refine am_Meq (M' := mem ch (am_up S 27 (pw (v + 1) (fun _ => x) (S 27)))) ?_ ?_
    · show mem ch (am_up (am_up S 27 (pw v (fun _ => x) (S 27))) 27 (upd (pw v (fun _ => x) (S 27)) v x)) = _
      rw [am_up_up]
      exact congrArg (fun q => mem ch (am_up S 27 q)) (pw_s v (fun _ => x) (S 27))
    refine am_iinc rfl rfl ?_
    refine am_goto rfl ?_
    simp only [nI_succ] at k
    exact k
  · refine am_iload_n rfl rfl ?_
    refine am_bipush rfl ?_
    refine am_icmp_ge rfl (fun _ => ?_) (fun h => absurd (nI_le (Nat.le_refl 12) (by decide)) h)
    exact am_return rfl ⟨rfl, rfl⟩
/-- reset(root) -/
def rst (S : am_S0) (x : Int32) : am_S0 := am_up (am_up S 1 (upd (upd (upd (S 1) 5 x) 6 0) 7 0)) 27 (pw 12 (fun _ => 0) (S 27))
theorem s_reset (x : Int32) : AW g (d + 1) 0 0 38 0 (am_L0 38 [.ref 1, .int x]) [] (mem ch S) (am_is none (mem ch (rst S x))) := by
  refine am_aload_n rfl rfl rfl ?_
  refine am_iload_n rfl rfl ?_
  refine am_put rfl rfl (Nat.le_of_ble_eq_true rfl) rfl ?_
  refine am_aload_n rfl rfl rfl ?_
  refine am_iconst rfl ?_
  refine am_put rfl rfl (Nat.le_of_ble_eq_true rfl) rfl ?_
  refine am_aload_n rfl rfl rfl ?_
  refine am_iconst rfl ?_
  refine am_put rfl rfl (Nat.le_of_ble_eq_true rfl) rfl ?_
  refine am_aload_n rfl rfl rfl ?_
  refine am_iconst rfl ?_
  refine am_Meq (M' := mem ch (am_up S 1 (upd (upd (upd (S 1) 5 x) 6 0) 7 0))) rfl ?_
  refine am_Vx [.int 0] rfl rfl rfl rfl rfl rfl (s_setFresh (d := d) 0 (Or.inl rfl)) ?_
  exact am_return rfl ⟨rfl, rfl⟩
/-- holdEverywhere(x, y, z) -/
def hld (S : am_S0) (x y z : Int32) : am_S0 := am_up (am_up (am_up S 20 (pw 12 (fun _ => x) (S 20))) 21 (pw 12 (fun _ => y) (S 21))) 22 (pw 12 (fun _ => z) (S 22))
theorem s_holdE (x y z : Int32) : AW g (d + 1) 0 0 41 0 (am_L0 41 [.ref 1, .int x, .int y, .int z]) [] (mem ch S) (am_is none (mem ch (hld S x y z))) := by
  refine am_aload_n rfl rfl rfl ?_
  refine am_get rfl rfl rfl ?_
  refine am_iconst rfl ?_
  refine am_aald (k8 := 0) rfl rfl (Or.inl rfl) rfl (by decide) (by decide) rfl ?_
  refine am_iload_n rfl rfl ?_
  refine am_Sx [.ref 20, .int x] rfl rfl rfl rfl (s_fill (d := d) rfl (by decide) x) ?_
  refine am_Meq (M' := mem ch (am_up S 20 (pw 12 (fun _ => x) (S 20)))) rfl ?_
  refine am_aload_n rfl rfl rfl ?_
  refine am_get rfl rfl rfl ?_
  refine am_iconst rfl ?_
  refine am_aald (k8 := 1) rfl rfl (Or.inl rfl) rfl (by decide) (by decide) rfl ?_
  refine am_iload_n rfl rfl ?_
  refine am_Sx [.ref 21, .int y] rfl rfl rfl rfl (s_fill (d := d) rfl (by decide) y) ?_
  refine am_Meq (M' := mem ch (am_up (am_up S 20 (pw 12 (fun _ => x) (S 20))) 21 (pw 12 (fun _ => y) (S 21)))) rfl ?_
  refine am_aload_n rfl rfl rfl ?_
  refine am_get rfl rfl rfl ?_
  refine am_iconst rfl ?_
  refine am_aald (k8 := 2) rfl rfl (Or.inl rfl) rfl (by decide) (by decide) rfl ?_
  refine am_iload_n rfl rfl ?_
  refine am_Sx [.ref 22, .int z] rfl rfl rfl rfl (s_fill (d := d) rfl (by decide) z) ?_
  exact am_return rfl ⟨rfl, rfl⟩
/-- holdIdentities() -/
theorem s_holdI : AW g (d + 1) 0 0 43 0 (am_L0 43 [.ref 1]) [] (mem ch S) (am_is none (mem ch (am_up S 20 (pw 12 (S 3) (S 20))))) := by
  refine am_aload_n rfl rfl rfl ?_
  refine am_get rfl rfl rfl ?_
  refine am_get rfl rfl rfl ?_
  refine am_iconst rfl ?_
  refine am_aload_n rfl rfl rfl ?_
  refine am_get rfl rfl rfl ?_
  refine am_iconst rfl ?_
  refine am_aald (k8 := 0) rfl rfl (Or.inl rfl) rfl (by decide) (by decide) rfl ?_
  refine am_iconst rfl ?_
  refine am_bipush rfl ?_
  refine am_copy (n := 12) rfl rfl rfl (by decide) (by decide) (by decide) (by decide) ?_
  refine am_Meq (M' := mem ch (am_up S 20 (va_cpy (S 3) (S 20) 0 0 12))) rfl ?_
  rw [cpy_pw]
  exact am_return rfl ⟨rfl, rfl⟩
/-- settle() -/
def stl (S : am_S0) : am_S0 := am_up (am_up (am_up S 24 (pw 12 (S 20) (S 24))) 25 (pw 12 (S 21) (S 25))) 26 (pw 12 (S 22) (S 26))
def stl1 (v : Nat) (S : am_S0) : am_S0 := am_up S (24 + v) (pw 12 (S (20 + v)) (S (24 + v)))
theorem s_settle : AW g (d + 1) 0 0 53 0 (am_L0 53 [.ref 1]) [] (mem ch S) (am_is none (mem ch (stl S))) := by
  refine am_iconst rfl ?_
  refine am_istore_n rfl ?_
  refine am_Meq (M' := mem ch (itr stl1 0 S)) rfl ?_
  show AW g (d + 1) 0 0 53 2 [some (.ref 1), some (.int (nI 0))] [] _ _
  refine am_for (3) (fun v => [some (.ref 1), some (.int (nI v))]) (fun v => mem ch (itr stl1 v S)) (fun v hv k => ?_) ?_ 3 0 (by omega)
  · rw [itr_s] at k
    generalize itr stl1 v S = S1 at k ⊢
    refine am_iload_n rfl rfl ?_
    refine am_iconst rfl ?_
    refine am_icmp_ge rfl (fun h => absurd h (nI_ge hv (by decide))) (fun _ => ?_)
    refine am_aload_n rfl rfl rfl ?_
    refine am_get rfl rfl rfl ?_
    refine am_iload_n rfl rfl ?_
    refine am_aald rfl rfl (Or.inl rfl) rfl hv (by decide) (if_pos hv) ?_
    refine am_iconst rfl ?_
    refine am_aload_n rfl rfl rfl ?_
    refine am_get rfl rfl rfl ?_
    refine am_iload_n rfl rfl ?_
    refine am_aald rfl rfl (Or.inl rfl) rfl hv (by decide) (if_pos hv) ?_
    refine am_iconst rfl ?_
    refine am_bipush rfl ?_
    refine am_copy (n := 12) rfl (mem_he v hv) (mem_be v hv) (by decide) (by decide) (by decide) (by decide) ?_
    refine am_Meq (mem_be_set v hv) ?_
    rw [cpy_pw]
    refine am_iinc rfl rfl ?_
    refine am_goto rfl ?_
    unfold stl1 at k
    simp only [nI_succ] at k
    exact k
  · refine am_iload_n rfl rfl ?_
    refine am_iconst rfl ?_
    refine am_icmp_ge rfl (fun _ => ?_) (fun h => absurd (nI_le (Nat.le_refl 3) (by decide)) h)
    exact am_return rfl ⟨rfl, rfl⟩
/-- growTree() -/
def grw (E : Nat → Nat → Option Nat) (n x : Nat) (S : am_S0) : am_S0 := am_up (am_up S 18 (msr E n n (far0 x (S 18)))) 28 (pw n (fun v => em (nrr E n (msr E n n (far0 x (S 18))) v)) (S 28))
theorem s_grow (N : NetIs S n E) (x : Nat) (hx : x < 12) (hr : S 1 5 = nI x) : AW g (d + 3) 0 0 44 0 (am_L0 44 [.ref 1]) [] (mem ch S) (am_is none (mem ch (grw E n x S))) := by
  have hn := N.2.1
  refine am_aload_n rfl rfl rfl ?_
  refine am_get rfl rfl rfl ?_
  refine am_aload_n rfl rfl rfl ?_
  refine am_get rfl rfl rfl ?_
  rw [hr]
  refine am_Vx [.int (nI x)] rfl rfl rfl rfl rfl rfl (s_measure (d := d) N x hx) ?_
  refine am_iconst rfl ?_
  refine am_istore_n rfl ?_
  unfold grw
  generalize hF : msr E n n (far0 x (S 18)) = F
  refine am_Meq (M' := mem ch (am_up (am_up S 18 F) 28 (pw 0 (fun v => em (nrr E n F v)) (S 28)))) (by rw [pw_0]; exact congrArg (mem ch) (am_up_self (am_up S 18 F) 28).symm) ?_
  show AW g (d + 3) 0 0 44 7 [some (.ref 1), some (.int (nI 0))] [] _ _
  refine am_for (n) (fun v => [some (.ref 1), some (.int (nI v))]) (fun v => mem ch (am_up (am_up S 18 F) 28 (pw v (fun v => em (nrr E n F v)) (S 28)))) (fun v hv k => ?_) ?_ n 0 (by omega)
  · refine am_iload_n rfl rfl ?_
    refine am_aload_n rfl rfl rfl ?_
    refine am_get rfl rfl rfl ?_
    refine am_get rfl rfl rfl ?_
    refine am_icmp_ge rfl (fun h => absurd h (nd_lt N.1 N.2.1 hv)) (fun _ => ?_)
    refine am_aload_n rfl rfl rfl ?_
    refine am_get rfl rfl rfl ?_
    refine am_iload_n rfl rfl ?_
    refine am_aload_n rfl rfl rfl ?_
    refine am_get rfl rfl rfl ?_
    refine am_iload_n rfl rfl ?_
    refine am_Vx [.int (nI v)] rfl rfl rfl rfl rfl rfl (s_nearer (d := d + 1) ((N.up (k := 18) (by decide)).up (k := 28) (by decide)) v (by omega)) ?_
    refine am_iast rfl rfl rfl (by omega) (by decide) ?_
    refine am_Meq (M' := mem ch (am_up (am_up S 18 F) 28 (pw (v + 1) (fun v => em (nrr E n F v)) (S 28)))) ?_ ?_
    · show mem ch (am_up (am_up (am_up S 18 F) 28 (pw v (fun v => em (nrr E n F v)) (S 28))) 28 (upd (pw v (fun v => em (nrr E n F v)) (S 28)) v (em (nrr E n F v)))) = _
      rw [am_up_up]
      exact congrArg (fun q => mem ch (am_up (am_up S 18 F) 28 q)) (pw_s v (fun v => em (nrr E n F v)) (S 28))
    refine am_iinc rfl rfl ?_
    refine am_goto rfl ?_
    simp only [nI_succ] at k
    exact k
  · refine am_iload_n rfl rfl ?_
    refine am_aload_n rfl rfl rfl ?_
    refine am_get rfl rfl rfl ?_
    refine am_get rfl rfl rfl ?_
    refine am_icmp_ge rfl (fun _ => ?_) (fun h => absurd (nd_ge N.1 N.2.1) h)
    exact am_return rfl ⟨rfl, rfl⟩
/-- countNeighboursWith(v, value) -/
def nbw (E : Nat → Nat → Option Nat) (n : Nat) (f : Nat → Int32) (v : Nat) (y : Int32) : Nat := cnt (fun u => (E v u).isSome && decide (f u = y)) n
theorem s_countNW (N : NetIs S n E) (x : Nat) (hx : x < 12) (y : Int32) : AW g (d + 1) 0 0 59 0 (am_L0 59 [.ref 1, .int (nI x), .int y]) [] (mem ch S) (am_is (some (.int (nI (nbw E n (S 24) x y)))) (mem ch S)) := by
  have hn := N.2.1
  unfold nbw
  refine am_iconst rfl ?_
  refine am_istore_n rfl ?_
  refine am_iconst rfl ?_
  refine am_istore rfl ?_
  show AW g (d + 1) 0 0 59 4 [some (.ref 1), some (.int (nI x)), some (.int y), some (.int (nI (cnt (fun u => (E x u).isSome && decide (S 24 u = y)) 0))), some (.int (nI 0))] [] (mem ch S) _
  refine am_for (n) (fun v => [some (.ref 1), some (.int (nI x)), some (.int y), some (.int (nI (cnt (fun u => (E x u).isSome && decide (S 24 u = y)) v))), some (.int (nI v))]) (fun v => mem ch S) (fun v hv k => ?_) ?_ n 0 (by omega)
  · refine am_iload rfl rfl ?_
    refine am_aload_n rfl rfl rfl ?_
    refine am_get rfl rfl rfl ?_
    refine am_get rfl rfl rfl ?_
    refine am_icmp_ge rfl (fun h => absurd h (nd_lt N.1 N.2.1 hv)) (fun _ => ?_)
    refine am_aload_n rfl rfl rfl ?_
    refine am_get rfl rfl rfl ?_
    refine am_iload_n rfl rfl ?_
    refine am_iload rfl rfl ?_
    refine am_Vx [.int (nI x), .int (nI v)] rfl rfl rfl rfl rfl rfl (s_areN N x v hx (by omega)) ?_
    refine am_if_eq rfl (fun h14 => ?_) (fun h14 => ?_)
    · refine am_iinc rfl rfl ?_
      refine am_goto rfl ?_
      first
        | (simp only [cnt, bi_0 h14, Bool.false_and, cond_false, nI_succ] at k; exact k)
        | (simp only [cnt, bi_1 h14, decide_eq_false h22, Bool.and_false, cond_false, nI_succ] at k; exact k)
        | (simp only [cnt, bi_1 h14, decide_eq_true h22, Bool.and_self, cond_true, nI_succ] at k; exact k)
    · refine am_aload_n rfl rfl rfl ?_
      refine am_get rfl rfl rfl ?_
      refine am_iconst rfl ?_
      refine am_aald (k8 := 0) rfl rfl (Or.inl rfl) rfl (by decide) (by decide) rfl ?_
      refine am_iload rfl rfl ?_
      refine am_iald rfl rfl rfl (by omega) (by decide) ?_
      refine am_iload_n rfl rfl ?_
      refine am_icmp_ne rfl (fun h22 => ?_) (fun h22 => ?_)
      · refine am_iinc rfl rfl ?_
        refine am_goto rfl ?_
        first
          | (simp only [cnt, bi_0 h14, Bool.false_and, cond_false, nI_succ] at k; exact k)
          | (simp only [cnt, bi_1 h14, decide_eq_false h22, Bool.and_false, cond_false, nI_succ] at k; exact k)
          | (simp only [cnt, bi_1 h14, decide_eq_true h22, Bool.and_self, cond_true, nI_succ] at k; exact k)
      · refine am_iinc rfl rfl ?_
        refine am_iinc rfl rfl ?_
        refine am_goto rfl ?_
        first
          | (simp only [cnt, bi_0 h14, Bool.false_and, cond_false, nI_succ] at k; exact k)
          | (simp only [cnt, bi_1 h14, decide_eq_false h22, Bool.and_false, cond_false, nI_succ] at k; exact k)
          | (simp only [cnt, bi_1 h14, decide_eq_true h22, Bool.and_self, cond_true, nI_succ] at k; exact k)
  · refine am_iload rfl rfl ?_
    refine am_aload_n rfl rfl rfl ?_
    refine am_get rfl rfl rfl ?_
    refine am_get rfl rfl rfl ?_
    refine am_icmp_ge rfl (fun _ => ?_) (fun h => absurd (nd_ge N.1 N.2.1) h)
    refine am_iload_n rfl rfl ?_
    refine am_ireturn rfl (fun h => absurd h (by decide)) ⟨?_, rfl⟩
    rfl
/-- countFreshLetters() -/
def frl (E : Nat → Nat → Option Nat) (n : Nat) (f : Nat → Int32) : Nat := sm (fun v => if f v = 0 then 0 else deg E n v) n
theorem s_freshL (N : NetIs S n E) : AW g (d + 2) 0 0 61 0 (am_L0 61 [.ref 1]) [] (mem ch S) (am_is (some (.int (nI (frl E n (S 27))))) (mem ch S)) := by
  have hn := N.2.1
  unfold frl
  refine am_iconst rfl ?_
  refine am_istore_n rfl ?_
  refine am_iconst rfl ?_
  refine am_istore_n rfl ?_
  show AW g (d + 2) 0 0 61 4 [some (.ref 1), some (.int (nI (sm (fun v => if S 27 v = 0 then 0 else deg E n v) 0))), some (.int (nI 0))] [] (mem ch S) _
  refine am_for (n) (fun v => [some (.ref 1), some (.int (nI (sm (fun v => if S 27 v = 0 then 0 else deg E n v) v))), some (.int (nI v))]) (fun v => mem ch S) (fun v hv k => ?_) ?_ n 0 (by omega)
  · refine am_iload_n rfl rfl ?_
    refine am_aload_n rfl rfl rfl ?_
    refine am_get rfl rfl rfl ?_
    refine am_get rfl rfl rfl ?_
    refine am_icmp_ge rfl (fun h => absurd h (nd_lt N.1 N.2.1 hv)) (fun _ => ?_)
    refine am_aload_n rfl rfl rfl ?_
    refine am_get rfl rfl rfl ?_
    refine am_iload_n rfl rfl ?_
    refine am_bald rfl rfl rfl (by omega) (by decide) ?_
    refine am_if_eq rfl (fun h13 => ?_) (fun h13 => ?_)
    · refine am_iinc rfl rfl ?_
      refine am_goto rfl ?_
      first
        | (simp only [sm, if_pos h13, Nat.add_zero, nI_succ] at k; exact k)
        | (simp only [sm, if_neg h13, deg, nI_succ] at k; exact k)
    · refine am_iload_n rfl rfl ?_
      refine am_aload_n rfl rfl rfl ?_
      refine am_get rfl rfl rfl ?_
      refine am_iload_n rfl rfl ?_
      refine am_Vx [.int (nI v)] rfl rfl rfl rfl rfl rfl (s_countN (d := d) N v (by omega)) ?_
      refine am_iadd rfl ?_
      rw [nI_add]
      refine am_istore_n rfl ?_
      refine am_iinc rfl rfl ?_
      refine am_goto rfl ?_
      first
        | (simp only [sm, if_pos h13, Nat.add_zero, nI_succ] at k; exact k)
        | (simp only [sm, if_neg h13, deg, nI_succ] at k; exact k)
  · refine am_iload_n rfl rfl ?_
    refine am_aload_n rfl rfl rfl ?_
    refine am_get rfl rfl rfl ?_
    refine am_get rfl rfl rfl ?_
    refine am_icmp_ge rfl (fun _ => ?_) (fun h => absurd (nd_ge N.1 N.2.1) h)
    refine am_iload_n rfl rfl ?_
    refine am_ireturn rfl (fun h => absurd h (by decide)) ⟨?_, rfl⟩
    rfl
/-- countLettersAmong(value) -/
def lam (E : Nat → Nat → Option Nat) (n : Nat) (f : Nat → Int32) (y : Int32) : Nat := sm (fun v => if f v = y then nbw E n f v y else 0) n
theorem s_lettersA (N : NetIs S n E) (y : Int32) : AW g (d + 2) 0 0 63 0 (am_L0 63 [.ref 1, .int y]) [] (mem ch S) (am_is (some (.int (nI (lam E n (S 24) y)))) (mem ch S)) := by
  have hn := N.2.1
  unfold lam
  refine am_iconst rfl ?_
  refine am_istore_n rfl ?_
  refine am_iconst rfl ?_
  refine am_istore_n rfl ?_
  show AW g (d + 2) 0 0 63 4 [some (.ref 1), some (.int y), some (.int (nI (sm (fun v => if S 24 v = y then nbw E n (S 24) v y else 0) 0))), some (.int (nI 0))] [] (mem ch S) _
  refine am_for (n) (fun v => [some (.ref 1), some (.int y), some (.int (nI (sm (fun v => if S 24 v = y then nbw E n (S 24) v y else 0) v))), some (.int (nI v))]) (fun v => mem ch S) (fun v hv k => ?_) ?_ n 0 (by omega)
  · refine am_iload_n rfl rfl ?_
    refine am_aload_n rfl rfl rfl ?_
    refine am_get rfl rfl rfl ?_
    refine am_get rfl rfl rfl ?_
    refine am_icmp_ge rfl (fun h => absurd h (nd_lt N.1 N.2.1 hv)) (fun _ => ?_)
    refine am_aload_n rfl rfl rfl ?_
    refine am_get rfl rfl rfl ?_
    refine am_iconst rfl ?_
    refine am_aald (k8 := 0) rfl rfl (Or.inl rfl) rfl (by decide) (by decide) rfl ?_
    refine am_iload_n rfl rfl ?_
    refine am_iald rfl rfl rfl (by omega) (by decide) ?_
    refine am_iload_n rfl rfl ?_
    refine am_icmp_ne rfl (fun h16 => ?_) (fun h16 => ?_)
    · refine am_iinc rfl rfl ?_
      refine am_goto rfl ?_
      first
        | (simp only [sm, if_pos h16, nI_succ] at k; exact k)
        | (simp only [sm, if_neg h16, Nat.add_zero, nI_succ] at k; exact k)
    · refine am_iload_n rfl rfl ?_
      refine am_aload_n rfl rfl rfl ?_
      refine am_iload_n rfl rfl ?_
      refine am_iload_n rfl rfl ?_
      refine am_Vx [.int (nI v), .int y] rfl rfl rfl rfl rfl rfl (s_countNW (d := d) N v (by omega) y) ?_
      refine am_iadd rfl ?_
      rw [nI_add]
      refine am_istore_n rfl ?_
      refine am_iinc rfl rfl ?_
      refine am_goto rfl ?_
      first
        | (simp only [sm, if_pos h16, nI_succ] at k; exact k)
        | (simp only [sm, if_neg h16, Nat.add_zero, nI_succ] at k; exact k)
  · refine am_iload_n rfl rfl ?_
    refine am_aload_n rfl rfl rfl ?_
    refine am_get rfl rfl rfl ?_
    refine am_get rfl rfl rfl ?_
    refine am_icmp_ge rfl (fun _ => ?_) (fun h => absurd (nd_ge N.1 N.2.1) h)
    refine am_iload_n rfl rfl ?_
    refine am_ireturn rfl (fun h => absurd h (by decide)) ⟨?_, rfl⟩
    rfl
theorem mset27 {f f2 : Nat → Int32} : (mem ch (am_up S 27 f)).set 27 (.inl (1, 12, .inl f2)) = mem ch (am_up S 27 f2) := by
  show mem ch (am_up (am_up S 27 f) 27 f2) = _
  rw [am_up_up]
/-- markFresh() -/
def mrk (S : am_S0) (n : Nat) : am_S0 := am_up S 27 (pw n (fun v => bi (!decide (S 20 v = S 24 v))) (S 27))
theorem s_mark (N : NetIs S n E) : AW g d 0 0 96 0 (am_L0 96 [.ref 1]) [] (mem ch S) (am_is none (mem ch (mrk S n))) := by
  have hn := N.2.1
  unfold mrk
  refine am_iconst rfl ?_
  refine am_istore_n rfl ?_
  refine am_Meq (M' := mem ch (am_up S 27 (pw 0 (fun v => bi (!decide (S 20 v = S 24 v))) (S 27)))) (by rw [pw_0, am_up_self]) ?_
  refine am_for (n) (fun v => [some (.ref 1), some (.int (nI v))]) (fun v => mem ch (am_up S 27 (pw v (fun v => bi (!decide (S 20 v = S 24 v))) (S 27)))) (fun v hv k => ?_) ?_ n 0 (by omega)
  · refine am_iload_n rfl rfl ?_
    refine am_aload_n rfl rfl rfl ?_
    refine am_get rfl rfl rfl ?_
    refine am_get rfl rfl rfl ?_
    refine am_icmp_ge rfl (fun h => absurd h (nd_lt (N.up (k := 27) (by decide)).1 N.2.1 hv)) (fun _ => ?_)
    refine am_aload_n rfl rfl rfl ?_
    refine am_get rfl rfl rfl ?_
    refine am_iload_n rfl rfl ?_
    refine am_aload_n rfl rfl rfl ?_
    refine am_get rfl rfl rfl ?_
    refine am_iconst rfl ?_
    refine am_aald (k8 := 0) rfl rfl (Or.inl rfl) rfl (by decide) (by decide) rfl ?_
    refine am_iload_n rfl rfl ?_
    refine am_iald rfl rfl rfl (by omega) (by decide) ?_
    refine am_aload_n rfl rfl rfl ?_
    refine am_get rfl rfl rfl ?_
    refine am_iconst rfl ?_
    refine am_aald (k8 := 0) rfl rfl (Or.inl rfl) rfl (by decide) (by decide) rfl ?_
    refine am_iload_n rfl rfl ?_
    refine am_iald rfl rfl rfl (by omega) (by decide) ?_
    refine am_icmp_eq rfl (fun h22 => ?_) (fun h22 => ?_)
    · refine am_iconst rfl ?_
      refine am_bast rfl rfl rfl (by omega) (by decide) (by decide) ?_
      refine am_Meq (M' := mem ch (am_up S 27 (pw (v + 1) (fun v => bi (!decide (S 20 v = S 24 v))) (S 27)))) ?_ ?_
      · rw [← pw_s, mset27, am_up_at]
        first
          | (have h22 : S 20 v = S 24 v := h22; rw [decide_eq_true h22]; rfl)
          | (have h22 : ¬ S 20 v = S 24 v := h22; rw [decide_eq_false h22]; rfl)
      refine am_iinc rfl rfl ?_
      refine am_goto rfl ?_
      simp only [nI_succ] at k
      exact k
    · refine am_iconst rfl ?_
      refine am_goto rfl ?_
      refine am_bast rfl rfl rfl (by omega) (by decide) (by decide) ?_
      refine am_Meq (M' := mem ch (am_up S 27 (pw (v + 1) (fun v => bi (!decide (S 20 v = S 24 v))) (S 27)))) ?_ ?_
      · rw [← pw_s, mset27, am_up_at]
        first
          | (have h22 : S 20 v = S 24 v := h22; rw [decide_eq_true h22]; rfl)
          | (have h22 : ¬ S 20 v = S 24 v := h22; rw [decide_eq_false h22]; rfl)
      refine am_iinc rfl rfl ?_
      refine am_goto rfl ?_
      simp only [nI_succ] at k
      exact k
  · refine am_iload_n rfl rfl ?_
    refine am_aload_n rfl rfl rfl ?_
    refine am_get rfl rfl rfl ?_
    refine am_get rfl rfl rfl ?_
    refine am_icmp_ge rfl (fun _ => ?_) (fun h => absurd (nd_ge (N.up (k := 27) (by decide)).1 N.2.1) h)
    exact am_return rfl ⟨rfl, rfl⟩
end CCRS
end
section
/-! the class: what the algorithms take, hold at first, when they are over, how many letters they send -/
section CALG
variable {g : am_G} {d : Nat} {ch : Option Nat} {S : am_S0} {n : Nat} {E : Nat → Nat → Option Nat}
/-- s_takes4 -/
theorem s_takes4 (x : Int32) : AW g d 0 0 30 0 (am_L0 30 [.ref 34, .ref 2, .int x]) [] (mem ch S) (am_is (some (.int 1)) (mem ch S)) := by
  refine am_iconst rfl ?_
  refine am_ireturn rfl (fun _ => by decide) ⟨?_, rfl⟩
  rfl
/-- s_takes0 -/
theorem s_takes0 (x : Int32) : AW g d 0 0 33 0 (am_L0 33 [.ref 30, .ref 2, .int x]) [] (mem ch S) (am_is (some (.int 1)) (mem ch S)) := by
  refine am_iconst rfl ?_
  refine am_ireturn rfl (fun _ => by decide) ⟨?_, rfl⟩
  rfl
/-- s_takes5 -/
theorem s_takes5 (x : Int32) : AW g d 0 0 34 0 (am_L0 34 [.ref 35, .ref 2, .int x]) [] (mem ch S) (am_is (some (.int 1)) (mem ch S)) := by
  refine am_iconst rfl ?_
  refine am_ireturn rfl (fun _ => by decide) ⟨?_, rfl⟩
  rfl
/-- s_takes3 -/
theorem s_takes3 (x : Int32) : AW g (d + 1) 0 0 31 0 (am_L0 31 [.ref 33, .ref 2, .int x]) [] (mem ch S) (am_is (some (.int (bi (decide (0 ≤ x) && decide (x < S 2 4))))) (mem ch S)) := by
  refine am_aload_n rfl rfl rfl ?_
  refine am_iload_n rfl rfl ?_
  refine am_Vx [.int x] rfl rfl rfl rfl rfl rfl (s_hasNode (d := d) x) ?_
  exact am_ireturn rfl (fun _ => bi_01 _) ⟨rfl, rfl⟩
/-- s_takes7 -/
theorem s_takes7 (x : Int32) : AW g (d + 1) 0 0 35 0 (am_L0 35 [.ref 37, .ref 2, .int x]) [] (mem ch S) (am_is (some (.int (bi (decide (0 ≤ x) && decide (x < S 2 4))))) (mem ch S)) := by
  refine am_aload_n rfl rfl rfl ?_
  refine am_iload_n rfl rfl ?_
  refine am_Vx [.int x] rfl rfl rfl rfl rfl rfl (s_hasNode (d := d) x) ?_
  exact am_ireturn rfl (fun _ => bi_01 _) ⟨rfl, rfl⟩
/-- s_takes2 -/
theorem s_takes2 (x : Int32) : AW g (d + 1) 0 0 36 0 (am_L0 36 [.ref 32, .ref 2, .int x]) [] (mem ch S) (am_is (some (.int (bi (decide (0 ≤ x) && decide (x < S 2 4))))) (mem ch S)) := by
  refine am_aload_n rfl rfl rfl ?_
  refine am_iload_n rfl rfl ?_
  refine am_Vx [.int x] rfl rfl rfl rfl rfl rfl (s_hasNode (d := d) x) ?_
  exact am_ireturn rfl (fun _ => bi_01 _) ⟨rfl, rfl⟩
/-- s_takes1 -/
theorem s_takes1 (x : Int32) : AW g (d + 1) 0 0 37 0 (am_L0 37 [.ref 31, .ref 2, .int x]) [] (mem ch S) (am_is (some (.int (bi (decide (0 ≤ x) && decide (x < S 2 4))))) (mem ch S)) := by
  refine am_aload_n rfl rfl rfl ?_
  refine am_iload_n rfl rfl ?_
  refine am_Vx [.int x] rfl rfl rfl rfl rfl rfl (s_hasNode (d := d) x) ?_
  exact am_ireturn rfl (fun _ => bi_01 _) ⟨rfl, rfl⟩
/-- s_takes6 -/
theorem s_takes6 (x : Int32) : AW g d 0 0 32 0 (am_L0 32 [.ref 36, .ref 2, .int x]) [] (mem ch S) (am_is (some (.int (bi (decide (1 ≤ x) && decide (x ≤ 12))))) (mem ch S)) := by
  refine am_iload_n rfl rfl ?_
  refine am_iconst rfl ?_
  refine am_icmp_lt rfl (fun h2 => ?_) (fun h2 => ?_)
  · refine am_iconst rfl ?_
    refine am_ireturn rfl (fun _ => by decide) ⟨?_, rfl⟩
    first
      | (rw [decide_eq_true (Int32.not_lt.mp h2), decide_eq_true (Int32.not_lt.mp h5)]; rfl)
      | (rw [decide_eq_false (Int32.not_le.mpr h2), Bool.false_and]; rfl)
      | (rw [decide_eq_false (Int32.not_le.mpr h5), Bool.and_false]; rfl)
  · refine am_iload_n rfl rfl ?_
    refine am_bipush rfl ?_
    refine am_icmp_gt rfl (fun h5 => ?_) (fun h5 => ?_)
    · refine am_iconst rfl ?_
      refine am_ireturn rfl (fun _ => by decide) ⟨?_, rfl⟩
      first
        | (rw [decide_eq_true (Int32.not_lt.mp h2), decide_eq_true (Int32.not_lt.mp h5)]; rfl)
        | (rw [decide_eq_false (Int32.not_le.mpr h2), Bool.false_and]; rfl)
        | (rw [decide_eq_false (Int32.not_le.mpr h5), Bool.and_false]; rfl)
    · refine am_iconst rfl ?_
      refine am_goto rfl ?_
      refine am_ireturn rfl (fun _ => by decide) ⟨?_, rfl⟩
      first
        | (rw [decide_eq_true (Int32.not_lt.mp h2), decide_eq_true (Int32.not_lt.mp h5)]; rfl)
        | (rw [decide_eq_false (Int32.not_le.mpr h2), Bool.false_and]; rfl)
        | (rw [decide_eq_false (Int32.not_le.mpr h5), Bool.and_false]; rfl)
/-- s_start4 -/
theorem s_start4  : AW g (d + 2) 0 0 40 0 (am_L0 40 [.ref 34, .ref 1]) [] (mem ch S) (am_is none (mem ch (hld S 0 0 (-1)))) := by
  refine am_aload_n rfl rfl rfl ?_
  refine am_iconst rfl ?_
  refine am_iconst rfl ?_
  refine am_iconst rfl ?_
  refine am_Vx [.int 0, .int 0, .int (-1)] rfl rfl rfl rfl rfl rfl (s_holdE (d := _) 0 0 (-1)) ?_
  exact am_return rfl ⟨rfl, rfl⟩
/-- s_start5 -/
theorem s_start5  : AW g (d + 2) 0 0 49 0 (am_L0 49 [.ref 35, .ref 1]) [] (mem ch S) (am_is none (mem ch (hld S (-1) 0 (-1)))) := by
  refine am_aload_n rfl rfl rfl ?_
  refine am_iconst rfl ?_
  refine am_iconst rfl ?_
  refine am_iconst rfl ?_
  refine am_Vx [.int (-1), .int 0, .int (-1)] rfl rfl rfl rfl rfl rfl (s_holdE (d := _) (-1) 0 (-1)) ?_
  exact am_return rfl ⟨rfl, rfl⟩
def st0 (S : am_S0) : am_S0 := am_up (am_up (hld S (-1) 0 (-1)) 20 (pw 12 (S 3) (pw 12 (fun _ => -1) (S 20)))) 27 (pw 12 (fun _ => 1) (S 27))
/-- s_start0 -/
theorem s_start0  : AW g (d + 2) 0 0 48 0 (am_L0 48 [.ref 30, .ref 1]) [] (mem ch S) (am_is none (mem ch (st0 S))) := by
  refine am_aload_n rfl rfl rfl ?_
  refine am_iconst rfl ?_
  refine am_iconst rfl ?_
  refine am_iconst rfl ?_
  refine am_Vx [.int (-1), .int 0, .int (-1)] rfl rfl rfl rfl rfl rfl (s_holdE (d := _) (-1) 0 (-1)) ?_
  refine am_aload_n rfl rfl rfl ?_
  refine am_Vx [] rfl rfl rfl rfl rfl rfl (s_holdI (d := _)) ?_
  refine am_aload_n rfl rfl rfl ?_
  refine am_iconst rfl ?_
  refine am_Vx [.int 1] rfl rfl rfl rfl rfl rfl (s_setFresh (d := _) 1 (Or.inr rfl)) ?_
  exact am_return rfl ⟨rfl, rfl⟩
def stR (S : am_S0) (a b c : Int32) (x : Nat) : am_S0 := am_up (am_up (hld S a b c) 20 (upd (pw 12 (fun _ => a) (S 20)) x 0)) 27 (upd (S 27) x 1)
/-- s_start1 -/
theorem s_start1 (x : Nat) (hx : x < 12) (hr : S 1 5 = nI x) : AW g (d + 2) 0 0 52 0 (am_L0 52 [.ref 31, .ref 1]) [] (mem ch S) (am_is none (mem ch (stR S (-1) (-1) 0 x))) := by
  refine am_aload_n rfl rfl rfl ?_
  refine am_iconst rfl ?_
  refine am_iconst rfl ?_
  refine am_iconst rfl ?_
  refine am_Vx [.int (-1), .int (-1), .int 0] rfl rfl rfl rfl rfl rfl (s_holdE (d := _) (-1) (-1) 0) ?_
  refine am_aload_n rfl rfl rfl ?_
  refine am_get rfl rfl rfl ?_
  refine am_iconst rfl ?_
  refine am_aald (k8 := 0) rfl rfl (Or.inl rfl) rfl (by decide) (by decide) rfl ?_
  refine am_aload_n rfl rfl rfl ?_
  refine am_get rfl rfl rfl ?_
  refine am_iconst rfl ?_
  refine am_iast rfl rfl hr hx (by decide) ?_
  refine am_Meq (M' := mem ch (am_up (hld S (-1) (-1) 0) 20 (upd (pw 12 (fun _ => (-1)) (S 20)) x 0))) rfl ?_
  refine am_aload_n rfl rfl rfl ?_
  refine am_get rfl rfl rfl ?_
  refine am_aload_n rfl rfl rfl ?_
  refine am_get rfl rfl rfl ?_
  refine am_iconst rfl ?_
  refine am_bast rfl rfl hr hx (by decide) (by decide) ?_
  exact am_return rfl ⟨rfl, rfl⟩
/-- s_start7 -/
theorem s_start7 (x : Nat) (hx : x < 12) (hr : S 1 5 = nI x) : AW g (d + 2) 0 0 50 0 (am_L0 50 [.ref 37, .ref 1]) [] (mem ch S) (am_is none (mem ch (stR S (-1) 0 0 x))) := by
  refine am_aload_n rfl rfl rfl ?_
  refine am_iconst rfl ?_
  refine am_iconst rfl ?_
  refine am_iconst rfl ?_
  refine am_Vx [.int (-1), .int 0, .int 0] rfl rfl rfl rfl rfl rfl (s_holdE (d := _) (-1) 0 0) ?_
  refine am_aload_n rfl rfl rfl ?_
  refine am_get rfl rfl rfl ?_
  refine am_iconst rfl ?_
  refine am_aald (k8 := 0) rfl rfl (Or.inl rfl) rfl (by decide) (by decide) rfl ?_
  refine am_aload_n rfl rfl rfl ?_
  refine am_get rfl rfl rfl ?_
  refine am_iconst rfl ?_
  refine am_iast rfl rfl hr hx (by decide) ?_
  refine am_Meq (M' := mem ch (am_up (hld S (-1) 0 0) 20 (upd (pw 12 (fun _ => (-1)) (S 20)) x 0))) rfl ?_
  refine am_aload_n rfl rfl rfl ?_
  refine am_get rfl rfl rfl ?_
  refine am_aload_n rfl rfl rfl ?_
  refine am_get rfl rfl rfl ?_
  refine am_iconst rfl ?_
  refine am_bast rfl rfl hr hx (by decide) (by decide) ?_
  exact am_return rfl ⟨rfl, rfl⟩
def stG (S : am_S0) (a b c : Int32) (E : Nat → Nat → Option Nat) (n x : Nat) : am_S0 := grw E n x (am_up (hld S a b c) 20 (pw 12 (S 3) (pw 12 (fun _ => a) (S 20))))
theorem NetIs.hold {a b c : Int32} (N : NetIs S n E) : NetIs (hld S a b c) n E := ((N.up (k := 20) (by decide)).up (k := 21) (by decide)).up (k := 22) (by decide)
theorem NetIs.stG {a b c : Int32} {x : Nat} (N : NetIs S n E) : NetIs (stG S a b c E n x) n E := ((N.hold.up (k := 20) (by decide)).up (k := 18) (by decide)).up (k := 28) (by decide)
/-- s_start3 -/
theorem s_start3 (N : NetIs S n E) (x : Nat) (hx : x < 12) (hr : S 1 5 = nI x) : AW g (d + 4) 0 0 42 0 (am_L0 42 [.ref 33, .ref 1]) [] (mem ch S) (am_is none (mem ch (stG S (-1) (-1) (-1) E n x))) := by
  refine am_aload_n rfl rfl rfl ?_
  refine am_iconst rfl ?_
  refine am_iconst rfl ?_
  refine am_iconst rfl ?_
  refine am_Vx [.int (-1), .int (-1), .int (-1)] rfl rfl rfl rfl rfl rfl (s_holdE (d := _) (-1) (-1) (-1)) ?_
  refine am_aload_n rfl rfl rfl ?_
  refine am_Vx [] rfl rfl rfl rfl rfl rfl (s_holdI (d := _)) ?_
  refine am_aload_n rfl rfl rfl ?_
  refine am_Vx [] rfl rfl rfl rfl rfl rfl (s_grow (d := d) (N.hold.up (k := 20) (by decide)) x hx hr) ?_
  exact am_return rfl ⟨rfl, rfl⟩
/-- how many children each has, counted from the parents p -/
def chd (p : Nat → Option Nat) (k : Nat) (f : Nat → Int32) : Nat → Int32 := itr (fun v f => match p v with | none => f | some u => upd f u (f u + 1)) k f
theorem fst?_lt {p : Nat → Bool} : ∀ {n u : Nat}, fst? p n = some u → u < n ∧ p u = true
  | 0, u, h => by cases h
  | n + 1, u, h => by
    unfold fst? at h
    cases e : fst? p n with
    | some w =>
      rw [e] at h
      cases h
      have := fst?_lt e
      exact ⟨by omega, this.2⟩
    | none =>
      rw [e] at h
      cases e2 : p n with
      | false => rw [e2] at h; cases h
      | true => rw [e2] at h; cases h; exact ⟨by omega, e2⟩
theorem nrr_lt {f : Nat → Int32} {x u : Nat} (h : nrr E n f x = some u) : u < n := by
  unfold nrr at h
  cases e : decide (0 < f x) with
  | true => rw [e] at h; exact (fst?_lt h).1
  | false => rw [e] at h; cases h
theorem em_lt {x : Option Nat} (h : ∀ e, x = some e → e < 24) (hn : ¬ em x = -1) : ∃ u, x = some u ∧ em x = nI u := by
  cases x with
  | none => exact absurd rfl hn
  | some u => exact ⟨u, rfl, rfl⟩
/-- s_start2 -/
theorem s_start2 (N : NetIs S n E) (x : Nat) (hx : x < 12) (hr : S 1 5 = nI x) : AW g (d + 4) 0 0 51 0 (am_L0 51 [.ref 32, .ref 1]) [] (mem ch S) (am_is none (mem ch (am_up (stG S (-1) 0 0 E n x) 21 (chd (nrr E n (msr E n n (far0 x (S 18)))) n (pw 12 (fun _ => 0) (S 21)))))) := by
  have hn := N.2.1
  refine am_aload_n rfl rfl rfl ?_
  refine am_iconst rfl ?_
  refine am_iconst rfl ?_
  refine am_iconst rfl ?_
  refine am_Vx [.int (-1), .int 0, .int 0] rfl rfl rfl rfl rfl rfl (s_holdE (d := _) (-1) 0 0) ?_
  refine am_aload_n rfl rfl rfl ?_
  refine am_Vx [] rfl rfl rfl rfl rfl rfl (s_holdI (d := _)) ?_
  refine am_aload_n rfl rfl rfl ?_
  refine am_Vx [] rfl rfl rfl rfl rfl rfl (s_grow (d := d) (N.hold.up (k := 20) (by decide)) x hx hr) ?_
  refine am_iconst rfl ?_
  refine am_istore_n rfl ?_
  have e1 : (stG S (-1) 0 0 E n x) 21 = pw 12 (fun _ => 0) (S 21) := rfl
  have e2 : ∀ v, v < n → (stG S (-1) 0 0 E n x) 28 v = em (nrr E n (msr E n n (far0 x (S 18))) v) := fun v hv => pw_lt (F := fun v => em (nrr E n (msr E n n (far0 x (S 18))) v)) (f := S 28) hv
  have N2 : NetIs (stG S (-1) 0 0 E n x) n E := N.stG
  show AW g (d + 4) 0 0 51 11 [some (.ref 32), some (.ref 1), some (.int (nI 0)), none] [] (mem ch (stG S (-1) 0 0 E n x)) _
  generalize stG S (-1) 0 0 E n x = S1 at e1 e2 N2 ⊢
  generalize msr E n n (far0 x (S 18)) = F at e2 ⊢
  rw [← e1]
  refine am_Meq (M' := mem ch (am_up S1 21 (chd (nrr E n F) 0 (S1 21)))) (congrArg (mem ch) (am_up_self S1 21).symm) ?_
  have key : ∀ y : Option Value, AW g (d + 4) 0 0 51 11 [some (.ref 32), some (.ref 1), some (.int (nI 0)), y] [] (mem ch (am_up S1 21 (chd (nrr E n F) 0 (S1 21)))) (am_is none (mem ch (am_up S1 21 (chd (nrr E n F) n (S1 21))))) := by
    intro y
    refine am_forS n (fun v y => [some (.ref 32), some (.ref 1), some (.int (nI v)), y]) (fun v _ => mem ch (am_up S1 21 (chd (nrr E n F) v (S1 21)))) (fun _ _ => True) (fun v y hv _ k => ?_) (fun y _ => ?_) n 0 y (by omega) trivial
    · refine am_iload_n rfl rfl ?_
      refine am_aload_n rfl rfl rfl ?_
      refine am_get rfl rfl rfl ?_
      refine am_get rfl rfl rfl ?_
      refine am_icmp_ge rfl (fun h => absurd h (nd_lt (N2.up (k := 21) (by decide)).1 N.2.1 hv)) (fun _ => ?_)
      refine am_aload_n rfl rfl rfl ?_
      refine am_get rfl rfl rfl ?_
      refine am_iload_n rfl rfl ?_
      refine am_iald rfl rfl rfl (by omega) (by decide) ?_
      rw [show am_up S1 21 (chd (nrr E n F) v (S1 21)) 28 v = em (nrr E n F v) from e2 v hv]
      refine am_istore_n rfl ?_
      refine am_iload_n rfl rfl ?_
      refine am_iconst rfl ?_
      refine am_icmp_eq rfl (fun h23 => ?_) (fun h23 => ?_)
      · have h24 := (em_n1 (fun e he => by have := nrr_lt he; omega)).mp h23
        refine am_iinc rfl rfl ?_
        refine am_goto rfl ?_
        have k := k (some (.int (em (nrr E n F v)))) trivial
        unfold chd at k
        rw [itr_s, h24] at k
        rw [h24]
        simp only [nI_succ] at k
        exact k
      · obtain ⟨u, hu, hu2⟩ := em_lt (fun e he => by have := nrr_lt he; omega) h23
        have hul := nrr_lt hu
        refine am_aload_n rfl rfl rfl ?_
        refine am_get rfl rfl rfl ?_
        refine am_iconst rfl ?_
        refine am_aald (k8 := 1) rfl rfl (Or.inl rfl) rfl (by decide) (by decide) rfl ?_
        refine am_iload_n rfl rfl ?_
        refine am_dup2 rfl rfl rfl ?_
        refine am_iald rfl rfl hu2 (by omega) (by decide) ?_
        refine am_iconst rfl ?_
        refine am_iadd rfl ?_
        refine am_iast rfl rfl hu2 (by omega) (by decide) ?_
        refine am_iinc rfl rfl ?_
        refine am_goto rfl ?_
        have k := k (some (.int (em (nrr E n F v)))) trivial
        refine am_Meq (M' := mem ch (am_up S1 21 (chd (nrr E n F) (v + 1) (S1 21)))) ?_ ?_
        · show mem ch (am_up (am_up S1 21 (chd (nrr E n F) v (S1 21))) 21 (upd (am_up S1 21 (chd (nrr E n F) v (S1 21)) 21) u (am_up S1 21 (chd (nrr E n F) v (S1 21)) 21 u + 1))) = _
          rw [am_up_up, am_up_at]
          unfold chd
          rw [itr_s, hu]
        · simp only [nI_succ] at k
          exact k
    · refine am_iload_n rfl rfl ?_
      refine am_aload_n rfl rfl rfl ?_
      refine am_get rfl rfl rfl ?_
      refine am_get rfl rfl rfl ?_
      refine am_icmp_ge rfl (fun _ => ?_) (fun h => absurd (nd_ge (N2.up (k := 21) (by decide)).1 N.2.1) h)
      exact am_return rfl ⟨rfl, rfl⟩
  exact key none
def st6 (S : am_S0) (E : Nat → Nat → Option Nat) (n k : Nat) : am_S0 := am_up (hld S 1 0 0) 22 (pw k (fun v => nI (deg E n v)) (pw 12 (fun _ => 0) (S 22)))
/-- s_start6 -/
theorem s_start6 (N : NetIs S n E) : AW g (d + 2) 0 0 46 0 (am_L0 46 [.ref 36, .ref 1]) [] (mem ch S) (am_is none (mem ch (st6 S E n n))) := by
  have hn := N.2.1
  refine am_aload_n rfl rfl rfl ?_
  refine am_iconst rfl ?_
  refine am_iconst rfl ?_
  refine am_iconst rfl ?_
  refine am_Vx [.int 1, .int 0, .int 0] rfl rfl rfl rfl rfl rfl (s_holdE (d := _) 1 0 0) ?_
  refine am_iconst rfl ?_
  refine am_istore_n rfl ?_
  refine am_Meq (M' := mem ch (st6 S E n 0)) (congrArg (mem ch) (am_up_self (hld S 1 0 0) 22).symm) ?_
  refine am_for (n) (fun v => [some (.ref 36), some (.ref 1), some (.int (nI v))]) (fun v => mem ch (st6 S E n v)) (fun v hv k => ?_) ?_ n 0 (by omega)
  · refine am_iload_n rfl rfl ?_
    refine am_aload_n rfl rfl rfl ?_
    refine am_get rfl rfl rfl ?_
    refine am_get rfl rfl rfl ?_
    refine am_icmp_ge rfl (fun h => absurd h (nd_lt (N.hold (a := 1) (b := 0) (c := 0)).1 N.2.1 hv)) (fun _ => ?_)
    refine am_aload_n rfl rfl rfl ?_
    refine am_get rfl rfl rfl ?_
    refine am_iconst rfl ?_
    refine am_aald (k8 := 2) rfl rfl (Or.inl rfl) rfl (by decide) (by decide) rfl ?_
    refine am_iload_n rfl rfl ?_
    refine am_aload_n rfl rfl rfl ?_
    refine am_get rfl rfl rfl ?_
    refine am_iload_n rfl rfl ?_
    refine am_Vx [.int (nI v)] rfl rfl rfl rfl rfl rfl (s_countN (d := d) (N.hold.up (k := 22) (by decide)) v (by omega)) ?_
    refine am_iast rfl rfl rfl (by omega) (by decide) ?_
    refine am_Meq (M' := mem ch (st6 S E n (v + 1))) ?_ ?_
    · unfold st6
      rw [← pw_s v (fun v => nI (deg E n v)) (pw 12 (fun _ => 0) (S 22))]
      show mem ch (am_up (am_up (hld S 1 0 0) 22 (pw v (fun v => nI (deg E n v)) (pw 12 (fun _ => 0) (S 22)))) 22 (upd (am_up (hld S 1 0 0) 22 (pw v (fun v => nI (deg E n v)) (pw 12 (fun _ => 0) (S 22))) 22) v (nI (deg E n v)))) = _
      rw [am_up_up, am_up_at]
    refine am_iinc rfl rfl ?_
    refine am_goto rfl ?_
    simp only [nI_succ] at k
    exact k
  · refine am_iload_n rfl rfl ?_
    refine am_aload_n rfl rfl rfl ?_
    refine am_get rfl rfl rfl ?_
    refine am_get rfl rfl rfl ?_
    refine am_icmp_ge rfl (fun _ => ?_) (fun h => absurd (nd_ge (N.hold (a := 1) (b := 0) (c := 0)).1 N.2.1) h)
    exact am_return rfl ⟨rfl, rfl⟩
/-- s_over4 -/
theorem s_over4 (N : NetIs S n E) : AW g d 0 0 55 0 (am_L0 55 [.ref 34, .ref 1]) [] (mem ch S) (am_is (some (.int (bi (!anyb (fun v => decide (S 24 v = 0)) n)))) (mem ch S)) := by
  have hn := N.2.1
  refine am_iconst rfl ?_
  refine am_istore_n rfl ?_
  show AW g d 0 0 55 2 [some (.ref 34), some (.ref 1), some (.int (nI 0))] [] (mem ch S) _
  refine am_forI (n) (fun v => [some (.ref 34), some (.ref 1), some (.int (nI v))]) (fun v => mem ch S) (fun v => ∀ u, u < v → ¬ S 24 u = 0) (fun v hv hi k => ?_) (fun hi => ?_) n 0 (by omega) (fun u h => absurd h (Nat.not_lt_zero _))
  · refine am_iload_n rfl rfl ?_
    refine am_aload_n rfl rfl rfl ?_
    refine am_get rfl rfl rfl ?_
    refine am_get rfl rfl rfl ?_
    refine am_icmp_ge rfl (fun h => absurd h (nd_lt N.1 N.2.1 hv)) (fun _ => ?_)
    refine am_aload_n rfl rfl rfl ?_
    refine am_get rfl rfl rfl ?_
    refine am_iconst rfl ?_
    refine am_aald (k8 := 0) rfl rfl (Or.inl rfl) rfl (by decide) (by decide) rfl ?_
    refine am_iload_n rfl rfl ?_
    refine am_iald rfl rfl rfl (by omega) (by decide) ?_
    refine am_if_ne rfl (fun h13 => ?_) (fun h13 => ?_)
    · refine am_iinc rfl rfl ?_
      refine am_goto rfl ?_
      have k := k (fun u hu => by
        by_cases e : u = v
        · rw [e]; exact h13
        · exact hi u (by omega))
      simp only [nI_succ] at k
      exact k
    · refine am_iconst rfl ?_
      refine am_ireturn rfl (fun _ => by decide) ⟨?_, rfl⟩
      rw [show anyb (fun v => decide (S 24 v = 0)) n = true from anyb_true.mpr ⟨v, hv, decide_eq_true h13⟩]
      rfl
  · refine am_iload_n rfl rfl ?_
    refine am_aload_n rfl rfl rfl ?_
    refine am_get rfl rfl rfl ?_
    refine am_get rfl rfl rfl ?_
    refine am_icmp_ge rfl (fun _ => ?_) (fun h => absurd (nd_ge N.1 N.2.1) h)
    refine am_iconst rfl ?_
    refine am_ireturn rfl (fun _ => by decide) ⟨?_, rfl⟩
    rw [anyb_false (p := fun v => decide (S 24 v = 0)) (fun u hu => decide_eq_false (hi u hu))]
    rfl
/-- s_over3 -/
theorem s_over3  : AW g d 0 0 56 0 (am_L0 56 [.ref 33, .ref 1]) [] (mem ch S) (am_is (some (.int (bi (decide (4 ≤ S 1 6))))) (mem ch S)) := by
  refine am_aload_n rfl rfl rfl ?_
  refine am_get rfl rfl rfl ?_
  refine am_iconst rfl ?_
  refine am_icmp_lt rfl (fun h3 => ?_) (fun h3 => ?_)
  · refine am_iconst rfl ?_
    refine am_ireturn rfl (fun _ => by decide) ⟨?_, rfl⟩
    first | (rw [decide_eq_true (Int32.not_lt.mp h3)]; rfl) | (rw [decide_eq_false (Int32.not_le.mpr h3)]; rfl)
  · refine am_iconst rfl ?_
    refine am_goto rfl ?_
    refine am_ireturn rfl (fun _ => by decide) ⟨?_, rfl⟩
    first | (rw [decide_eq_true (Int32.not_lt.mp h3)]; rfl) | (rw [decide_eq_false (Int32.not_le.mpr h3)]; rfl)
/-- Core.drops(v) -/
def drp (S : am_S0) (E : Nat → Nat → Option Nat) (n v : Nat) : Bool := decide (S 24 v = 1) && decide (nI (nbw E n (S 24) v 1) < S 1 5)
theorem s_drops (N : NetIs S n E) (x : Nat) (hx : x < 12) : AW g (d + 2) 0 0 58 0 (am_L0 58 [.ref 1, .int (nI x)]) [] (mem ch S) (am_is (some (.int (bi (drp S E n x)))) (mem ch S)) := by
  refine am_aload_n rfl rfl rfl ?_
  refine am_get rfl rfl rfl ?_
  refine am_iconst rfl ?_
  refine am_aald (k8 := 0) rfl rfl (Or.inl rfl) rfl (by decide) (by decide) rfl ?_
  refine am_iload_n rfl rfl ?_
  refine am_iald rfl rfl rfl hx (by decide) ?_
  refine am_iconst rfl ?_
  refine am_icmp_ne rfl (fun h7 => ?_) (fun h7 => ?_)
  · refine am_iconst rfl ?_
    refine am_ireturn rfl (fun _ => by decide) ⟨?_, rfl⟩
    unfold drp
    first
      | (rw [decide_eq_true h7, decide_eq_true (Int32.not_le.mp h14)]; rfl)
      | (rw [decide_eq_false h7, Bool.false_and]; rfl)
      | (rw [decide_eq_false (Int32.not_lt.mpr h14), Bool.and_false]; rfl)
  · refine am_aload_n rfl rfl rfl ?_
    refine am_iload_n rfl rfl ?_
    refine am_iconst rfl ?_
    refine am_Vx [.int (nI x), .int 1] rfl rfl rfl rfl rfl rfl (s_countNW (d := d) N x hx 1) ?_
    refine am_aload_n rfl rfl rfl ?_
    refine am_get rfl rfl rfl ?_
    refine am_icmp_ge rfl (fun h14 => ?_) (fun h14 => ?_)
    · refine am_iconst rfl ?_
      refine am_ireturn rfl (fun _ => by decide) ⟨?_, rfl⟩
      unfold drp
      first
        | (rw [decide_eq_true h7, decide_eq_true (Int32.not_le.mp h14)]; rfl)
        | (rw [decide_eq_false h7, Bool.false_and]; rfl)
        | (rw [decide_eq_false (Int32.not_lt.mpr h14), Bool.and_false]; rfl)
    · refine am_iconst rfl ?_
      refine am_goto rfl ?_
      refine am_ireturn rfl (fun _ => by decide) ⟨?_, rfl⟩
      unfold drp
      first
        | (rw [decide_eq_true h7, decide_eq_true (Int32.not_le.mp h14)]; rfl)
        | (rw [decide_eq_false h7, Bool.false_and]; rfl)
        | (rw [decide_eq_false (Int32.not_lt.mpr h14), Bool.and_false]; rfl)
/-- s_over6 -/
theorem s_over6 (N : NetIs S n E) : AW g (d + 3) 0 0 57 0 (am_L0 57 [.ref 36, .ref 1]) [] (mem ch S) (am_is (some (.int (bi (!anyb (drp S E n) n)))) (mem ch S)) := by
  have hn := N.2.1
  refine am_iconst rfl ?_
  refine am_istore_n rfl ?_
  show AW g (d + 3) 0 0 57 2 [some (.ref 36), some (.ref 1), some (.int (nI 0))] [] (mem ch S) _
  refine am_forI (n) (fun v => [some (.ref 36), some (.ref 1), some (.int (nI v))]) (fun v => mem ch S) (fun v => ∀ u, u < v → drp S E n u = false) (fun v hv hi k => ?_) (fun hi => ?_) n 0 (by omega) (fun u h => absurd h (Nat.not_lt_zero _))
  · refine am_iload_n rfl rfl ?_
    refine am_aload_n rfl rfl rfl ?_
    refine am_get rfl rfl rfl ?_
    refine am_get rfl rfl rfl ?_
    refine am_icmp_ge rfl (fun h => absurd h (nd_lt N.1 N.2.1 hv)) (fun _ => ?_)
    refine am_aload_n rfl rfl rfl ?_
    refine am_iload_n rfl rfl ?_
    refine am_Sx [.ref 1, .int (nI v)] rfl rfl rfl rfl (s_drops (d := d) N v (by omega)) ?_
    refine am_if_eq rfl (fun h10 => ?_) (fun h10 => ?_)
    · refine am_iinc rfl rfl ?_
      refine am_goto rfl ?_
      have k := k (fun u hu => by
        by_cases e : u = v
        · rw [e]; exact bi_0 h10
        · exact hi u (by omega))
      simp only [nI_succ] at k
      exact k
    · refine am_iconst rfl ?_
      refine am_ireturn rfl (fun _ => by decide) ⟨?_, rfl⟩
      rw [show anyb (drp S E n) n = true from anyb_true.mpr ⟨v, hv, bi_1 h10⟩]
      rfl
  · refine am_iload_n rfl rfl ?_
    refine am_aload_n rfl rfl rfl ?_
    refine am_get rfl rfl rfl ?_
    refine am_get rfl rfl rfl ?_
    refine am_icmp_ge rfl (fun _ => ?_) (fun h => absurd (nd_ge N.1 N.2.1) h)
    refine am_iconst rfl ?_
    refine am_ireturn rfl (fun _ => by decide) ⟨?_, rfl⟩
    rw [anyb_false hi]
    rfl
/-- s_over0 -/
theorem s_over0 (N : NetIs S n E) : AW g (d + 3) 0 0 60 0 (am_L0 60 [.ref 30, .ref 1]) [] (mem ch S) (am_is (some (.int (bi (decide (nI (frl E n (S 27)) = 0))))) (mem ch S)) := by
  refine am_aload_n rfl rfl rfl ?_
  refine am_Vx [] rfl rfl rfl rfl rfl rfl (s_freshL (d := d) N) ?_
  refine am_if_ne rfl (fun h2 => ?_) (fun h2 => ?_)
  · refine am_iconst rfl ?_
    refine am_ireturn rfl (fun _ => by decide) ⟨?_, rfl⟩
    first | (rw [decide_eq_true h2]; rfl) | (rw [decide_eq_false h2]; rfl)
  · refine am_iconst rfl ?_
    refine am_goto rfl ?_
    refine am_ireturn rfl (fun _ => by decide) ⟨?_, rfl⟩
    first | (rw [decide_eq_true h2]; rfl) | (rw [decide_eq_false h2]; rfl)
/-- s_over7 -/
theorem s_over7 (N : NetIs S n E) : AW g (d + 3) 0 0 64 0 (am_L0 64 [.ref 37, .ref 1]) [] (mem ch S) (am_is (some (.int (bi (decide (nI (frl E n (S 27)) = 0))))) (mem ch S)) := by
  refine am_aload_n rfl rfl rfl ?_
  refine am_Vx [] rfl rfl rfl rfl rfl rfl (s_freshL (d := d) N) ?_
  refine am_if_ne rfl (fun h2 => ?_) (fun h2 => ?_)
  · refine am_iconst rfl ?_
    refine am_ireturn rfl (fun _ => by decide) ⟨?_, rfl⟩
    first | (rw [decide_eq_true h2]; rfl) | (rw [decide_eq_false h2]; rfl)
  · refine am_iconst rfl ?_
    refine am_goto rfl ?_
    refine am_ireturn rfl (fun _ => by decide) ⟨?_, rfl⟩
    first | (rw [decide_eq_true h2]; rfl) | (rw [decide_eq_false h2]; rfl)
/-- s_over1 -/
theorem s_over1 (N : NetIs S n E) : AW g (d + 3) 0 0 66 0 (am_L0 66 [.ref 31, .ref 1]) [] (mem ch S) (am_is (some (.int (bi (decide (nI (frl E n (S 27)) = 0))))) (mem ch S)) := by
  refine am_aload_n rfl rfl rfl ?_
  refine am_Vx [] rfl rfl rfl rfl rfl rfl (s_freshL (d := d) N) ?_
  refine am_if_ne rfl (fun h2 => ?_) (fun h2 => ?_)
  · refine am_iconst rfl ?_
    refine am_ireturn rfl (fun _ => by decide) ⟨?_, rfl⟩
    first | (rw [decide_eq_true h2]; rfl) | (rw [decide_eq_false h2]; rfl)
  · refine am_iconst rfl ?_
    refine am_goto rfl ?_
    refine am_ireturn rfl (fun _ => by decide) ⟨?_, rfl⟩
    first | (rw [decide_eq_true h2]; rfl) | (rw [decide_eq_false h2]; rfl)
/-- s_over5 -/
theorem s_over5 (N : NetIs S n E) : AW g (d + 3) 0 0 62 0 (am_L0 62 [.ref 35, .ref 1]) [] (mem ch S) (am_is (some (.int (bi (decide (nI (lam E n (S 24) (-1)) = 0))))) (mem ch S)) := by
  refine am_aload_n rfl rfl rfl ?_
  refine am_iconst rfl ?_
  refine am_Vx [.int (-1)] rfl rfl rfl rfl rfl rfl (s_lettersA (d := d) N (-1)) ?_
  refine am_if_ne rfl (fun h3 => ?_) (fun h3 => ?_)
  · refine am_iconst rfl ?_
    refine am_ireturn rfl (fun _ => by decide) ⟨?_, rfl⟩
    first | (rw [decide_eq_true h3]; rfl) | (rw [decide_eq_false h3]; rfl)
  · refine am_iconst rfl ?_
    refine am_goto rfl ?_
    refine am_ireturn rfl (fun _ => by decide) ⟨?_, rfl⟩
    first | (rw [decide_eq_true h3]; rfl) | (rw [decide_eq_false h3]; rfl)
/-- s_over2 -/
theorem s_over2 (x : Nat) (hx : x < 12) (hr : S 1 5 = nI x) : AW g d 0 0 65 0 (am_L0 65 [.ref 32, .ref 1]) [] (mem ch S) (am_is (some (.int (bi (decide (S 26 x = 1))))) (mem ch S)) := by
  refine am_aload_n rfl rfl rfl ?_
  refine am_get rfl rfl rfl ?_
  refine am_iconst rfl ?_
  refine am_aald (k8 := 2) rfl rfl (Or.inl rfl) rfl (by decide) (by decide) rfl ?_
  refine am_aload_n rfl rfl rfl ?_
  refine am_get rfl rfl rfl ?_
  refine am_iald rfl rfl hr hx (by decide) ?_
  refine am_iconst rfl ?_
  refine am_icmp_ne rfl (fun h8 => ?_) (fun h8 => ?_)
  · refine am_iconst rfl ?_
    refine am_ireturn rfl (fun _ => by decide) ⟨?_, rfl⟩
    first | (rw [decide_eq_true h8]; rfl) | (rw [decide_eq_false h8]; rfl)
  · refine am_iconst rfl ?_
    refine am_goto rfl ?_
    refine am_ireturn rfl (fun _ => by decide) ⟨?_, rfl⟩
    first | (rw [decide_eq_true h8]; rfl) | (rw [decide_eq_false h8]; rfl)
/-- s_let4 -/
theorem s_let4 (N : NetIs S n E) : AW g (d + 3) 0 0 68 0 (am_L0 68 [.ref 34, .ref 1]) [] (mem ch S) (am_is (some (.int (nI (lam E n (S 24) 0)))) (mem ch S)) := by
  refine am_aload_n rfl rfl rfl ?_
  refine am_iconst rfl ?_
  refine am_Vx [.int 0] rfl rfl rfl rfl rfl rfl (s_lettersA (d := d) N 0) ?_
  refine am_ireturn rfl (fun h => absurd h (by decide)) ⟨?_, rfl⟩
  rfl
/-- s_let5 -/
theorem s_let5 (N : NetIs S n E) : AW g (d + 3) 0 0 72 0 (am_L0 72 [.ref 35, .ref 1]) [] (mem ch S) (am_is (some (.int (nI (lam E n (S 24) (-1))))) (mem ch S)) := by
  refine am_aload_n rfl rfl rfl ?_
  refine am_iconst rfl ?_
  refine am_Vx [.int (-1)] rfl rfl rfl rfl rfl rfl (s_lettersA (d := d) N (-1)) ?_
  refine am_ireturn rfl (fun h => absurd h (by decide)) ⟨?_, rfl⟩
  rfl
/-- s_let0 -/
theorem s_let0 (N : NetIs S n E) : AW g (d + 3) 0 0 71 0 (am_L0 71 [.ref 30, .ref 1]) [] (mem ch S) (am_is (some (.int (nI (frl E n (S 27))))) (mem ch S)) := by
  refine am_aload_n rfl rfl rfl ?_
  refine am_Vx [] rfl rfl rfl rfl rfl rfl (s_freshL (d := d) N) ?_
  refine am_ireturn rfl (fun h => absurd h (by decide)) ⟨?_, rfl⟩
  rfl
/-- s_let7 -/
theorem s_let7 (N : NetIs S n E) : AW g (d + 3) 0 0 73 0 (am_L0 73 [.ref 37, .ref 1]) [] (mem ch S) (am_is (some (.int (nI (frl E n (S 27))))) (mem ch S)) := by
  refine am_aload_n rfl rfl rfl ?_
  refine am_Vx [] rfl rfl rfl rfl rfl rfl (s_freshL (d := d) N) ?_
  refine am_ireturn rfl (fun h => absurd h (by decide)) ⟨?_, rfl⟩
  rfl
/-- s_let1 -/
theorem s_let1 (N : NetIs S n E) : AW g (d + 3) 0 0 76 0 (am_L0 76 [.ref 31, .ref 1]) [] (mem ch S) (am_is (some (.int (nI (frl E n (S 27))))) (mem ch S)) := by
  refine am_aload_n rfl rfl rfl ?_
  refine am_Vx [] rfl rfl rfl rfl rfl rfl (s_freshL (d := d) N) ?_
  refine am_ireturn rfl (fun h => absurd h (by decide)) ⟨?_, rfl⟩
  rfl
/-- s_let3 -/
theorem s_let3  : AW g d 0 0 69 0 (am_L0 69 [.ref 33, .ref 1]) [] (mem ch S) (am_is (some (.int (S 2 4 - 1))) (mem ch S)) := by
  refine am_aload_n rfl rfl rfl ?_
  refine am_get rfl rfl rfl ?_
  refine am_get rfl rfl rfl ?_
  refine am_iconst rfl ?_
  refine am_isub rfl ?_
  refine am_ireturn rfl (fun h => absurd h (by decide)) ⟨?_, rfl⟩
  rfl
def let6 (S : am_S0) (E : Nat → Nat → Option Nat) (n k : Nat) : Nat := sm (fun v => if S 27 v = 0 then 0 else nbw E n (S 24) v 1) k
/-- s_let6 -/
theorem s_let6 (N : NetIs S n E) : AW g (d + 2) 0 0 70 0 (am_L0 70 [.ref 36, .ref 1]) [] (mem ch S) (am_is (some (.int (nI (let6 S E n n)))) (mem ch S)) := by
  have hn := N.2.1
  refine am_iconst rfl ?_
  refine am_istore_n rfl ?_
  refine am_iconst rfl ?_
  refine am_istore_n rfl ?_
  show AW g (d + 2) 0 0 70 4 [some (.ref 36), some (.ref 1), some (.int (nI (let6 S E n 0))), some (.int (nI 0))] [] (mem ch S) _
  refine am_for (n) (fun v => [some (.ref 36), some (.ref 1), some (.int (nI (let6 S E n v))), some (.int (nI v))]) (fun v => mem ch S) (fun v hv k => ?_) ?_ n 0 (by omega)
  · refine am_iload_n rfl rfl ?_
    refine am_aload_n rfl rfl rfl ?_
    refine am_get rfl rfl rfl ?_
    refine am_get rfl rfl rfl ?_
    refine am_icmp_ge rfl (fun h => absurd h (nd_lt N.1 N.2.1 hv)) (fun _ => ?_)
    refine am_aload_n rfl rfl rfl ?_
    refine am_get rfl rfl rfl ?_
    refine am_iload_n rfl rfl ?_
    refine am_bald rfl rfl rfl (by omega) (by decide) ?_
    refine am_if_eq rfl (fun h13 => ?_) (fun h13 => ?_)
    · refine am_iinc rfl rfl ?_
      refine am_goto rfl ?_
      unfold let6 at k
      first
        | (simp only [sm, if_pos h13, Nat.add_zero, nI_succ] at k; exact k)
        | (simp only [sm, if_neg h13, nI_succ] at k; exact k)
    · refine am_iload_n rfl rfl ?_
      refine am_aload_n rfl rfl rfl ?_
      refine am_iload_n rfl rfl ?_
      refine am_iconst rfl ?_
      refine am_Vx [.int (nI v), .int 1] rfl rfl rfl rfl rfl rfl (s_countNW (d := d) N v (by omega) 1) ?_
      refine am_iadd rfl ?_
      rw [nI_add]
      refine am_istore_n rfl ?_
      refine am_iinc rfl rfl ?_
      refine am_goto rfl ?_
      unfold let6 at k
      first
        | (simp only [sm, if_pos h13, Nat.add_zero, nI_succ] at k; exact k)
        | (simp only [sm, if_neg h13, nI_succ] at k; exact k)
  · refine am_iload_n rfl rfl ?_
    refine am_aload_n rfl rfl rfl ?_
    refine am_get rfl rfl rfl ?_
    refine am_get rfl rfl rfl ?_
    refine am_icmp_ge rfl (fun _ => ?_) (fun h => absurd (nd_ge N.1 N.2.1) h)
    refine am_iload_n rfl rfl ?_
    refine am_ireturn rfl (fun h => absurd h (by decide)) ⟨?_, rfl⟩
    rfl
/-- Sums.isDue(v) -/
def due (S : am_S0) (v : Nat) : Bool := decide (S 25 v = 0) && decide (S 26 v = 0)
theorem s_due (x : Nat) (hx : x < 12) : AW g d 0 0 75 0 (am_L0 75 [.ref 1, .int (nI x)]) [] (mem ch S) (am_is (some (.int (bi (due S x)))) (mem ch S)) := by
  refine am_aload_n rfl rfl rfl ?_
  refine am_get rfl rfl rfl ?_
  refine am_iconst rfl ?_
  refine am_aald (k8 := 1) rfl rfl (Or.inl rfl) rfl (by decide) (by decide) rfl ?_
  refine am_iload_n rfl rfl ?_
  refine am_iald rfl rfl rfl hx (by decide) ?_
  refine am_if_ne rfl (fun h6 => ?_) (fun h6 => ?_)
  · refine am_iconst rfl ?_
    refine am_ireturn rfl (fun _ => by decide) ⟨?_, rfl⟩
    unfold due
    first
      | (rw [decide_eq_true h6, decide_eq_true h13]; rfl)
      | (rw [decide_eq_false h6, Bool.false_and]; rfl)
      | (rw [decide_eq_false h13, Bool.and_false]; rfl)
  · refine am_aload_n rfl rfl rfl ?_
    refine am_get rfl rfl rfl ?_
    refine am_iconst rfl ?_
    refine am_aald (k8 := 2) rfl rfl (Or.inl rfl) rfl (by decide) (by decide) rfl ?_
    refine am_iload_n rfl rfl ?_
    refine am_iald rfl rfl rfl hx (by decide) ?_
    refine am_if_ne rfl (fun h13 => ?_) (fun h13 => ?_)
    · refine am_iconst rfl ?_
      refine am_ireturn rfl (fun _ => by decide) ⟨?_, rfl⟩
      unfold due
      first
        | (rw [decide_eq_true h6, decide_eq_true h13]; rfl)
        | (rw [decide_eq_false h6, Bool.false_and]; rfl)
        | (rw [decide_eq_false h13, Bool.and_false]; rfl)
    · refine am_iconst rfl ?_
      refine am_goto rfl ?_
      refine am_ireturn rfl (fun _ => by decide) ⟨?_, rfl⟩
      unfold due
      first
        | (rw [decide_eq_true h6, decide_eq_true h13]; rfl)
        | (rw [decide_eq_false h6, Bool.false_and]; rfl)
        | (rw [decide_eq_false h13, Bool.and_false]; rfl)
def let2 (S : am_S0) (k : Nat) : Nat := cnt (fun v => due S v && !decide (S 28 v = -1)) k
/-- s_let2 -/
theorem s_let2 (N : NetIs S n E) : AW g (d + 1) 0 0 74 0 (am_L0 74 [.ref 32, .ref 1]) [] (mem ch S) (am_is (some (.int (nI (let2 S n)))) (mem ch S)) := by
  have hn := N.2.1
  refine am_iconst rfl ?_
  refine am_istore_n rfl ?_
  refine am_iconst rfl ?_
  refine am_istore_n rfl ?_
  show AW g (d + 1) 0 0 74 4 [some (.ref 32), some (.ref 1), some (.int (nI (let2 S 0))), some (.int (nI 0))] [] (mem ch S) _
  refine am_for (n) (fun v => [some (.ref 32), some (.ref 1), some (.int (nI (let2 S v))), some (.int (nI v))]) (fun v => mem ch S) (fun v hv k => ?_) ?_ n 0 (by omega)
  · refine am_iload_n rfl rfl ?_
    refine am_aload_n rfl rfl rfl ?_
    refine am_get rfl rfl rfl ?_
    refine am_get rfl rfl rfl ?_
    refine am_icmp_ge rfl (fun h => absurd h (nd_lt N.1 N.2.1 hv)) (fun _ => ?_)
    refine am_aload_n rfl rfl rfl ?_
    refine am_iload_n rfl rfl ?_
    refine am_Sx [.ref 1, .int (nI v)] rfl rfl rfl rfl (s_due (d := d) v (by omega)) ?_
    refine am_if_eq rfl (fun h12 => ?_) (fun h12 => ?_)
    · refine am_iinc rfl rfl ?_
      refine am_goto rfl ?_
      unfold let2 at k
      first
        | (simp only [cnt, bi_0 h12, Bool.false_and, cond_false, nI_succ] at k; exact k)
        | (simp only [cnt, bi_1 h12, decide_eq_true h18, Bool.not_true, Bool.and_false, cond_false, nI_succ] at k; exact k)
        | (simp only [cnt, bi_1 h12, decide_eq_false h18, Bool.not_false, Bool.and_true, cond_true, nI_succ] at k; exact k)
    · refine am_aload_n rfl rfl rfl ?_
      refine am_get rfl rfl rfl ?_
      refine am_iload_n rfl rfl ?_
      refine am_iald rfl rfl rfl (by omega) (by decide) ?_
      refine am_iconst rfl ?_
      refine am_icmp_eq rfl (fun h18 => ?_) (fun h18 => ?_)
      · refine am_iinc rfl rfl ?_
        refine am_goto rfl ?_
        unfold let2 at k
        first
          | (simp only [cnt, bi_0 h12, Bool.false_and, cond_false, nI_succ] at k; exact k)
          | (simp only [cnt, bi_1 h12, decide_eq_true h18, Bool.not_true, Bool.and_false, cond_false, nI_succ] at k; exact k)
          | (simp only [cnt, bi_1 h12, decide_eq_false h18, Bool.not_false, Bool.and_true, cond_true, nI_succ] at k; exact k)
      · refine am_iinc rfl rfl ?_
        refine am_iinc rfl rfl ?_
        refine am_goto rfl ?_
        unfold let2 at k
        first
          | (simp only [cnt, bi_0 h12, Bool.false_and, cond_false, nI_succ] at k; exact k)
          | (simp only [cnt, bi_1 h12, decide_eq_true h18, Bool.not_true, Bool.and_false, cond_false, nI_succ] at k; exact k)
          | (simp only [cnt, bi_1 h12, decide_eq_false h18, Bool.not_false, Bool.and_true, cond_true, nI_succ] at k; exact k)
  · refine am_iload_n rfl rfl ?_
    refine am_aload_n rfl rfl rfl ?_
    refine am_get rfl rfl rfl ?_
    refine am_get rfl rfl rfl ?_
    refine am_icmp_ge rfl (fun _ => ?_) (fun h => absurd (nd_ge N.1 N.2.1) h)
    refine am_iload_n rfl rfl ?_
    refine am_ireturn rfl (fun h => absurd h (by decide)) ⟨?_, rfl⟩
    rfl
end CALG
end
section
/-! the class: a round of each algorithm -/
/-- the cells of what nodes hold apart, nothing has changed -/
def Ag (S S1 : am_S0) : Prop := ∀ k, k ≠ 20 → k ≠ 21 → k ≠ 22 → S1 k = S k
theorem Ag.rf {S : am_S0} : Ag S S := fun _ _ _ _ => rfl
theorem Ag.tr {S S1 S2 : am_S0} (h : Ag S S1) (h2 : Ag S1 S2) : Ag S S2 := fun k a b c => (h2 k a b c).trans (h k a b c)
theorem Ag.up {S S1 : am_S0} {k : Nat} {f : Nat → Int32} (h : Ag S S1) (hk : k = 20 ∨ k = 21 ∨ k = 22) : Ag S (am_up S1 k f) := fun j a b c => by rw [am_up_ne _ _ (by omega)]; exact h j a b c
theorem Ag.itr {f : Nat → am_S0 → am_S0} (hf : ∀ v S, Ag S (f v S)) : ∀ (n : Nat) (S : am_S0), Ag S (itr f n S)
  | 0, _ => Ag.rf
  | n + 1, S => (Ag.itr hf n S).tr (hf n _)
theorem NetIs.ag {S S1 : am_S0} {n : Nat} {E : Nat → Nat → Option Nat} (N : NetIs S n E) (h : Ag S S1) : NetIs S1 n E := by
  obtain ⟨h1, h2, h3, h4⟩ := N
  refine ⟨by rw [h 2 (by decide) (by decide) (by decide)]; exact h1, h2, fun u w hu hw => ?_, h4⟩
  rw [h (6 + u) (by omega) (by omega) (by omega)]
  exact h3 u w hu hw
/-- node v comes to hold x, y, z -/
def w3 (S : am_S0) (v : Nat) (x y z : Int32) : am_S0 := am_up (am_up (am_up S 20 (upd (S 20) v x)) 21 (upd (S 21) v y)) 22 (upd (S 22) v z)
def w2 (S : am_S0) (v : Nat) (x y : Int32) : am_S0 := am_up (am_up S 20 (upd (S 20) v x)) 21 (upd (S 21) v y)
theorem Ag.w3 {S : am_S0} {v : Nat} {x y z : Int32} : Ag S (w3 S v x y z) := ((Ag.rf.up (Or.inl rfl)).up (Or.inr (Or.inl rfl))).up (Or.inr (Or.inr rfl))
theorem Ag.w2 {S : am_S0} {v : Nat} {x y : Int32} : Ag S (w2 S v x y) := (Ag.rf.up (Or.inl rfl)).up (Or.inr (Or.inl rfl))
section CCHG
variable {g : am_G} {d : Nat} {ch : Option Nat} {S : am_S0} {n : Nat} {E : Nat → Nat → Option Nat}
/-- Least.learn(v) -/
def lrn1 (E : Nat → Nat → Option Nat) (v u : Nat) (S : am_S0) : am_S0 := bif (E v u).isSome && decide (S 24 u < S 20 v) then w3 S v (S 24 u) (S 25 u + 1) (nI u) else S
theorem lrn1_ag (v u : Nat) (S : am_S0) : Ag S (lrn1 E v u S) := by
  unfold lrn1
  cases (E v u).isSome && decide (S 24 u < S 20 v)
  · exact Ag.rf
  · exact Ag.w3
def lrn (E : Nat → Nat → Option Nat) (n v : Nat) (S : am_S0) : am_S0 := itr (lrn1 E v) n S
theorem lrn_ag (v : Nat) (S : am_S0) : Ag S (lrn E n v S) := Ag.itr (lrn1_ag v) n S
theorem s_learn (N : NetIs S n E) (x : Nat) (hx : x < 12) : AW g (d + 1) 0 0 85 0 (am_L0 85 [.ref 1, .int (nI x)]) [] (mem ch S) (am_is none (mem ch (lrn E n x S))) := by
  have hn := N.2.1
  unfold lrn
  refine am_iconst rfl ?_
  refine am_istore_n rfl ?_
  refine am_Meq (M' := mem ch (itr (lrn1 E x) 0 S)) rfl ?_
  show AW g (d + 1) 0 0 85 2 [some (.ref 1), some (.int (nI x)), some (.int (nI 0))] [] _ _
  refine am_for (n) (fun v => [some (.ref 1), some (.int (nI x)), some (.int (nI v))]) (fun v => mem ch (itr (lrn1 E x) v S)) (fun v hv k => ?_) ?_ n 0 (by omega)
  · rw [itr_s] at k
    have A : Ag S (itr (lrn1 E x) v S) := Ag.itr (lrn1_ag x) v S
    generalize itr (lrn1 E x) v S = S1 at A k ⊢
    have N1 := N.ag A
    unfold lrn1 at k
    refine am_iload_n rfl rfl ?_
    refine am_aload_n rfl rfl rfl ?_
    refine am_get rfl rfl rfl ?_
    refine am_get rfl rfl rfl ?_
    refine am_icmp_ge rfl (fun h => absurd h (nd_lt N1.1 N.2.1 hv)) (fun _ => ?_)
    refine am_aload_n rfl rfl rfl ?_
    refine am_get rfl rfl rfl ?_
    refine am_iload_n rfl rfl ?_
    refine am_iload_n rfl rfl ?_
    refine am_Vx [.int (nI x), .int (nI v)] rfl rfl rfl rfl rfl rfl (s_areN N1 x v hx (by omega)) ?_
    refine am_if_eq rfl (fun h12 => ?_) (fun h12 => ?_)
    · refine am_iinc rfl rfl ?_
      refine am_goto rfl ?_
      first
        | (rw [bi_0 h12, Bool.false_and, cond_false] at k; simp only [nI_succ] at k; exact k)
        | (rw [bi_1 h12, decide_eq_false (Int32.not_lt.mpr h25), Bool.and_false, cond_false] at k; simp only [nI_succ] at k; exact k)
        | (rw [bi_1 h12, decide_eq_true (Int32.not_le.mp h25), Bool.and_self, cond_true] at k; simp only [nI_succ] at k; exact am_Meq rfl k)
    · refine am_aload_n rfl rfl rfl ?_
      refine am_get rfl rfl rfl ?_
      refine am_iconst rfl ?_
      refine am_aald (k8 := 0) rfl rfl (Or.inl rfl) rfl (by decide) (by decide) rfl ?_
      refine am_iload_n rfl rfl ?_
      refine am_iald rfl rfl rfl (by omega) (by decide) ?_
      refine am_aload_n rfl rfl rfl ?_
      refine am_get rfl rfl rfl ?_
      refine am_iconst rfl ?_
      refine am_aald (k8 := 0) rfl rfl (Or.inl rfl) rfl (by decide) (by decide) rfl ?_
      refine am_iload_n rfl rfl ?_
      refine am_iald rfl rfl rfl (by omega) (by decide) ?_
      refine am_icmp_ge rfl (fun h25 => ?_) (fun h25 => ?_)
      · refine am_iinc rfl rfl ?_
        refine am_goto rfl ?_
        first
          | (rw [bi_0 h12, Bool.false_and, cond_false] at k; simp only [nI_succ] at k; exact k)
          | (rw [bi_1 h12, decide_eq_false (Int32.not_lt.mpr h25), Bool.and_false, cond_false] at k; simp only [nI_succ] at k; exact k)
          | (rw [bi_1 h12, decide_eq_true (Int32.not_le.mp h25), Bool.and_self, cond_true] at k; simp only [nI_succ] at k; exact am_Meq rfl k)
      · refine am_aload_n rfl rfl rfl ?_
        refine am_get rfl rfl rfl ?_
        refine am_iconst rfl ?_
        refine am_aald (k8 := 0) rfl rfl (Or.inl rfl) rfl (by decide) (by decide) rfl ?_
        refine am_iload_n rfl rfl ?_
        refine am_aload_n rfl rfl rfl ?_
        refine am_get rfl rfl rfl ?_
        refine am_iconst rfl ?_
        refine am_aald (k8 := 0) rfl rfl (Or.inl rfl) rfl (by decide) (by decide) rfl ?_
        refine am_iload_n rfl rfl ?_
        refine am_iald rfl rfl rfl (by omega) (by decide) ?_
        refine am_iast rfl rfl rfl (by omega) (by decide) ?_
        refine am_aload_n rfl rfl rfl ?_
        refine am_get rfl rfl rfl ?_
        refine am_iconst rfl ?_
        refine am_aald (k8 := 1) rfl rfl (Or.inl rfl) rfl (by decide) (by decide) rfl ?_
        refine am_iload_n rfl rfl ?_
        refine am_aload_n rfl rfl rfl ?_
        refine am_get rfl rfl rfl ?_
        refine am_iconst rfl ?_
        refine am_aald (k8 := 1) rfl rfl (Or.inl rfl) rfl (by decide) (by decide) rfl ?_
        refine am_iload_n rfl rfl ?_
        refine am_iald rfl rfl rfl (by omega) (by decide) ?_
        refine am_iconst rfl ?_
        refine am_iadd rfl ?_
        refine am_iast rfl rfl rfl (by omega) (by decide) ?_
        refine am_aload_n rfl rfl rfl ?_
        refine am_get rfl rfl rfl ?_
        refine am_iconst rfl ?_
        refine am_aald (k8 := 2) rfl rfl (Or.inl rfl) rfl (by decide) (by decide) rfl ?_
        refine am_iload_n rfl rfl ?_
        refine am_iload_n rfl rfl ?_
        refine am_iast rfl rfl rfl (by omega) (by decide) ?_
        refine am_iinc rfl rfl ?_
        refine am_goto rfl ?_
        first
          | (rw [bi_0 h12, Bool.false_and, cond_false] at k; simp only [nI_succ] at k; exact k)
          | (rw [bi_1 h12, decide_eq_false (Int32.not_lt.mpr h25), Bool.and_false, cond_false] at k; simp only [nI_succ] at k; exact k)
          | (rw [bi_1 h12, decide_eq_true (Int32.not_le.mp h25), Bool.and_self, cond_true] at k; simp only [nI_succ] at k; exact am_Meq rfl k)
  · have A : Ag S (itr (lrn1 E x) n S) := Ag.itr (lrn1_ag x) n S
    generalize itr (lrn1 E x) n S = S1 at A ⊢
    have N1 := N.ag A
    refine am_iload_n rfl rfl ?_
    refine am_aload_n rfl rfl rfl ?_
    refine am_get rfl rfl rfl ?_
    refine am_get rfl rfl rfl ?_
    refine am_icmp_ge rfl (fun _ => ?_) (fun h => absurd (nd_ge N1.1 N.2.1) h)
    exact am_return rfl ⟨rfl, rfl⟩
/-- Least.change() -/
theorem s_chg0 (N : NetIs S n E)  : AW g (d + 2) 0 0 84 0 (am_L0 84 [.ref 30, .ref 1]) [] (mem ch S) (am_is none (mem ch (itr (lrn E n) n S))) := by
  have hn := N.2.1
  refine am_iconst rfl ?_
  refine am_istore_n rfl ?_
  refine am_Meq (M' := mem ch (itr (lrn E n) 0 S)) rfl ?_
  show AW g (d + 2) 0 0 84 2 [some (.ref 30), some (.ref 1), some (.int (nI 0))] [] _ _
  refine am_for (n) (fun v => [some (.ref 30), some (.ref 1), some (.int (nI v))]) (fun v => mem ch (itr (lrn E n) v S)) (fun v hv k => ?_) ?_ n 0 (by omega)
  · rw [itr_s] at k
    have A : Ag S (itr (lrn E n) v S) := Ag.itr lrn_ag v S
    generalize itr (lrn E n) v S = S1 at A k ⊢
    have N1 := N.ag A
    refine am_iload_n rfl rfl ?_
    refine am_aload_n rfl rfl rfl ?_
    refine am_get rfl rfl rfl ?_
    refine am_get rfl rfl rfl ?_
    refine am_icmp_ge rfl (fun h => absurd h (nd_lt N1.1 N.2.1 hv)) (fun _ => ?_)
    refine am_aload_n rfl rfl rfl ?_
    refine am_iload_n rfl rfl ?_
    refine am_Sx [.ref 1, .int (nI v)] rfl rfl rfl rfl (s_learn (d := d) N1 v (by omega)) ?_
    refine am_iinc rfl rfl ?_
    refine am_goto rfl ?_
    simp only [nI_succ] at k
    exact k
  · have A : Ag S (itr (lrn E n) n S) := Ag.itr lrn_ag n S
    generalize itr (lrn E n) n S = S1 at A ⊢
    have N1 := N.ag A
    refine am_iload_n rfl rfl ?_
    refine am_aload_n rfl rfl rfl ?_
    refine am_get rfl rfl rfl ?_
    refine am_get rfl rfl rfl ?_
    refine am_icmp_ge rfl (fun _ => ?_) (fun h => absurd (nd_ge N1.1 N.2.1) h)
    exact am_return rfl ⟨rfl, rfl⟩
/-- Ways.shorten(v) -/
def srt1 (E : Nat → Nat → Option Nat) (v u : Nat) (S : am_S0) : am_S0 := match E v u with
  | none => S
  | some e => bif decide (S 24 u = -1) then S else bif decide (S 20 v = -1) || decide (S 24 u + S 4 e < S 20 v) then w3 S v (S 24 u + S 4 e) (nI u) (S 1 6) else S
theorem srt1_ag (v u : Nat) (S : am_S0) : Ag S (srt1 E v u S) := by
  unfold srt1
  cases E v u with
  | none => exact Ag.rf
  | some e =>
    show Ag S (bif _ then _ else bif _ then _ else _)
    cases decide (S 24 u = -1)
    · cases decide (S 20 v = -1) || decide (S 24 u + S 4 e < S 20 v)
      · exact Ag.rf
      · exact Ag.w3
    · exact Ag.rf
def srt (E : Nat → Nat → Option Nat) (n v : Nat) (S : am_S0) : am_S0 := itr (srt1 E v) n S
theorem srt_ag (v : Nat) (S : am_S0) : Ag S (srt E n v S) := Ag.itr (srt1_ag v) n S
theorem isS_none {o : Option Nat} (h : o.isSome = false) : o = none := by cases o; rfl; cases h
theorem isS_some {o : Option Nat} (h : o.isSome = true) : ∃ e, o = some e := by cases o; cases h; exact ⟨_, rfl⟩
theorem s_shorten (N : NetIs S n E) (Es : ∀ u w, E u w = E w u) (x : Nat) (hx : x < 12) : AW g (d + 1) 0 0 94 0 (am_L0 94 [.ref 1, .int (nI x)]) [] (mem ch S) (am_is none (mem ch (srt E n x S))) := by
  have hn := N.2.1
  unfold srt
  refine am_iconst rfl ?_
  refine am_istore_n rfl ?_
  refine am_Meq (M' := mem ch (itr (srt1 E x) 0 S)) rfl ?_
  show AW g (d + 1) 0 0 94 2 [some (.ref 1), some (.int (nI x)), some (.int (nI 0)), none] [] _ _
  have key : ∀ y : Option Value, AW g (d + 1) 0 0 94 2 [some (.ref 1), some (.int (nI x)), some (.int (nI 0)), y] [] (mem ch (itr (srt1 E x) 0 S)) (am_is none (mem ch (itr (srt1 E x) n S))) := by
    intro y
    refine am_forS n (fun v y => [some (.ref 1), some (.int (nI x)), some (.int (nI v)), y]) (fun v _ => mem ch (itr (srt1 E x) v S)) (fun _ _ => True) (fun v y hv _ k => ?_) (fun y _ => ?_) n 0 y (by omega) trivial
    · rw [itr_s] at k
      have A : Ag S (itr (srt1 E x) v S) := Ag.itr (srt1_ag x) v S
      generalize itr (srt1 E x) v S = S1 at A k ⊢
      have N1 := N.ag A
      unfold srt1 at k
      refine am_iload_n rfl rfl ?_
      refine am_aload_n rfl rfl rfl ?_
      refine am_get rfl rfl rfl ?_
      refine am_get rfl rfl rfl ?_
      refine am_icmp_ge rfl (fun h => absurd h (nd_lt N1.1 N.2.1 hv)) (fun _ => ?_)
      refine am_aload_n rfl rfl rfl ?_
      refine am_get rfl rfl rfl ?_
      refine am_iload_n rfl rfl ?_
      refine am_iload_n rfl rfl ?_
      refine am_Vx [.int (nI x), .int (nI v)] rfl rfl rfl rfl rfl rfl (s_areN N1 x v hx (by omega)) ?_
      refine am_if_eq rfl (fun h12 => ?_) (fun h12 => ?_)
      · refine am_iinc rfl rfl ?_
        refine am_goto rfl ?_
        first
          | (rw [isS_none (bi_0 h12)] at k; have k := k y trivial; simp only [nI_succ] at k; exact k)
          | (obtain ⟨e9, he9⟩ := isS_some (bi_1 h12); rw [he9] at k; simp only [decide_eq_true h20, cond_true] at k; have k := k y trivial; simp only [nI_succ] at k; exact k)
          | (rw [he] at k; simp only [decide_eq_false h20, cond_false, decide_eq_false h42, decide_eq_false (Int32.not_lt.mpr h50), Bool.or_self] at k; have k := k (some (.int (S1 24 v + S1 4 e))) trivial; simp only [nI_succ] at k; exact k)
          | (rw [he] at k; simp only [decide_eq_false h20, cond_false, decide_eq_true h42, Bool.true_or, cond_true] at k; have k := k (some (.int (S1 24 v + S1 4 e))) trivial; simp only [nI_succ] at k; exact am_Meq rfl k)
          | (rw [he] at k; simp only [decide_eq_false h20, cond_false, decide_eq_true (Int32.not_le.mp h50), Bool.or_true, cond_true] at k; have k := k (some (.int (S1 24 v + S1 4 e))) trivial; simp only [nI_succ] at k; exact am_Meq rfl k)
      · refine am_aload_n rfl rfl rfl ?_
        refine am_get rfl rfl rfl ?_
        refine am_iconst rfl ?_
        refine am_aald (k8 := 0) rfl rfl (Or.inl rfl) rfl (by decide) (by decide) rfl ?_
        refine am_iload_n rfl rfl ?_
        refine am_iald rfl rfl rfl (by omega) (by decide) ?_
        refine am_iconst rfl ?_
        refine am_icmp_ne rfl (fun h20 => ?_) (fun h20 => ?_)
        · refine am_aload_n rfl rfl rfl ?_
          refine am_get rfl rfl rfl ?_
          refine am_iconst rfl ?_
          refine am_aald (k8 := 0) rfl rfl (Or.inl rfl) rfl (by decide) (by decide) rfl ?_
          refine am_iload_n rfl rfl ?_
          refine am_iald rfl rfl rfl (by omega) (by decide) ?_
          refine am_aload_n rfl rfl rfl ?_
          refine am_get rfl rfl rfl ?_
          refine am_iload_n rfl rfl ?_
          refine am_iload_n rfl rfl ?_
          obtain ⟨e, he⟩ := isS_some (bi_1 h12)
          refine am_Vx [.int (nI v), .int (nI x)] rfl rfl rfl rfl rfl rfl (s_weightB N1 v x e (by omega) hx ((Es v x).trans he)) ?_
          refine am_iadd rfl ?_
          refine am_istore_n rfl ?_
          refine am_aload_n rfl rfl rfl ?_
          refine am_get rfl rfl rfl ?_
          refine am_iconst rfl ?_
          refine am_aald (k8 := 0) rfl rfl (Or.inl rfl) rfl (by decide) (by decide) rfl ?_
          refine am_iload_n rfl rfl ?_
          refine am_iald rfl rfl rfl (by omega) (by decide) ?_
          refine am_iconst rfl ?_
          refine am_icmp_eq rfl (fun h42 => ?_) (fun h42 => ?_)
          · refine am_aload_n rfl rfl rfl ?_
            refine am_get rfl rfl rfl ?_
            refine am_iconst rfl ?_
            refine am_aald (k8 := 0) rfl rfl (Or.inl rfl) rfl (by decide) (by decide) rfl ?_
            refine am_iload_n rfl rfl ?_
            refine am_iload_n rfl rfl ?_
            refine am_iast rfl rfl rfl (by omega) (by decide) ?_
            refine am_aload_n rfl rfl rfl ?_
            refine am_get rfl rfl rfl ?_
            refine am_iconst rfl ?_
            refine am_aald (k8 := 1) rfl rfl (Or.inl rfl) rfl (by decide) (by decide) rfl ?_
            refine am_iload_n rfl rfl ?_
            refine am_iload_n rfl rfl ?_
            refine am_iast rfl rfl rfl (by omega) (by decide) ?_
            refine am_aload_n rfl rfl rfl ?_
            refine am_get rfl rfl rfl ?_
            refine am_iconst rfl ?_
            refine am_aald (k8 := 2) rfl rfl (Or.inl rfl) rfl (by decide) (by decide) rfl ?_
            refine am_iload_n rfl rfl ?_
            refine am_aload_n rfl rfl rfl ?_
            refine am_get rfl rfl rfl ?_
            refine am_iast rfl rfl rfl (by omega) (by decide) ?_
            refine am_iinc rfl rfl ?_
            refine am_goto rfl ?_
            first
              | (rw [isS_none (bi_0 h12)] at k; have k := k y trivial; simp only [nI_succ] at k; exact k)
              | (obtain ⟨e9, he9⟩ := isS_some (bi_1 h12); rw [he9] at k; simp only [decide_eq_true h20, cond_true] at k; have k := k y trivial; simp only [nI_succ] at k; exact k)
              | (rw [he] at k; simp only [decide_eq_false h20, cond_false, decide_eq_false h42, decide_eq_false (Int32.not_lt.mpr h50), Bool.or_self] at k; have k := k (some (.int (S1 24 v + S1 4 e))) trivial; simp only [nI_succ] at k; exact k)
              | (rw [he] at k; simp only [decide_eq_false h20, cond_false, decide_eq_true h42, Bool.true_or, cond_true] at k; have k := k (some (.int (S1 24 v + S1 4 e))) trivial; simp only [nI_succ] at k; exact am_Meq rfl k)
              | (rw [he] at k; simp only [decide_eq_false h20, cond_false, decide_eq_true (Int32.not_le.mp h50), Bool.or_true, cond_true] at k; have k := k (some (.int (S1 24 v + S1 4 e))) trivial; simp only [nI_succ] at k; exact am_Meq rfl k)
          · refine am_iload_n rfl rfl ?_
            refine am_aload_n rfl rfl rfl ?_
            refine am_get rfl rfl rfl ?_
            refine am_iconst rfl ?_
            refine am_aald (k8 := 0) rfl rfl (Or.inl rfl) rfl (by decide) (by decide) rfl ?_
            refine am_iload_n rfl rfl ?_
            refine am_iald rfl rfl rfl (by omega) (by decide) ?_
            refine am_icmp_ge rfl (fun h50 => ?_) (fun h50 => ?_)
            · refine am_iinc rfl rfl ?_
              refine am_goto rfl ?_
              first
                | (rw [isS_none (bi_0 h12)] at k; have k := k y trivial; simp only [nI_succ] at k; exact k)
                | (obtain ⟨e9, he9⟩ := isS_some (bi_1 h12); rw [he9] at k; simp only [decide_eq_true h20, cond_true] at k; have k := k y trivial; simp only [nI_succ] at k; exact k)
                | (rw [he] at k; simp only [decide_eq_false h20, cond_false, decide_eq_false h42, decide_eq_false (Int32.not_lt.mpr h50), Bool.or_self] at k; have k := k (some (.int (S1 24 v + S1 4 e))) trivial; simp only [nI_succ] at k; exact k)
                | (rw [he] at k; simp only [decide_eq_false h20, cond_false, decide_eq_true h42, Bool.true_or, cond_true] at k; have k := k (some (.int (S1 24 v + S1 4 e))) trivial; simp only [nI_succ] at k; exact am_Meq rfl k)
                | (rw [he] at k; simp only [decide_eq_false h20, cond_false, decide_eq_true (Int32.not_le.mp h50), Bool.or_true, cond_true] at k; have k := k (some (.int (S1 24 v + S1 4 e))) trivial; simp only [nI_succ] at k; exact am_Meq rfl k)
            · refine am_aload_n rfl rfl rfl ?_
              refine am_get rfl rfl rfl ?_
              refine am_iconst rfl ?_
              refine am_aald (k8 := 0) rfl rfl (Or.inl rfl) rfl (by decide) (by decide) rfl ?_
              refine am_iload_n rfl rfl ?_
              refine am_iload_n rfl rfl ?_
              refine am_iast rfl rfl rfl (by omega) (by decide) ?_
              refine am_aload_n rfl rfl rfl ?_
              refine am_get rfl rfl rfl ?_
              refine am_iconst rfl ?_
              refine am_aald (k8 := 1) rfl rfl (Or.inl rfl) rfl (by decide) (by decide) rfl ?_
              refine am_iload_n rfl rfl ?_
              refine am_iload_n rfl rfl ?_
              refine am_iast rfl rfl rfl (by omega) (by decide) ?_
              refine am_aload_n rfl rfl rfl ?_
              refine am_get rfl rfl rfl ?_
              refine am_iconst rfl ?_
              refine am_aald (k8 := 2) rfl rfl (Or.inl rfl) rfl (by decide) (by decide) rfl ?_
              refine am_iload_n rfl rfl ?_
              refine am_aload_n rfl rfl rfl ?_
              refine am_get rfl rfl rfl ?_
              refine am_iast rfl rfl rfl (by omega) (by decide) ?_
              refine am_iinc rfl rfl ?_
              refine am_goto rfl ?_
              first
                | (rw [isS_none (bi_0 h12)] at k; have k := k y trivial; simp only [nI_succ] at k; exact k)
                | (obtain ⟨e9, he9⟩ := isS_some (bi_1 h12); rw [he9] at k; simp only [decide_eq_true h20, cond_true] at k; have k := k y trivial; simp only [nI_succ] at k; exact k)
                | (rw [he] at k; simp only [decide_eq_false h20, cond_false, decide_eq_false h42, decide_eq_false (Int32.not_lt.mpr h50), Bool.or_self] at k; have k := k (some (.int (S1 24 v + S1 4 e))) trivial; simp only [nI_succ] at k; exact k)
                | (rw [he] at k; simp only [decide_eq_false h20, cond_false, decide_eq_true h42, Bool.true_or, cond_true] at k; have k := k (some (.int (S1 24 v + S1 4 e))) trivial; simp only [nI_succ] at k; exact am_Meq rfl k)
                | (rw [he] at k; simp only [decide_eq_false h20, cond_false, decide_eq_true (Int32.not_le.mp h50), Bool.or_true, cond_true] at k; have k := k (some (.int (S1 24 v + S1 4 e))) trivial; simp only [nI_succ] at k; exact am_Meq rfl k)
        · refine am_goto rfl ?_
          refine am_iinc rfl rfl ?_
          refine am_goto rfl ?_
          first
            | (rw [isS_none (bi_0 h12)] at k; have k := k y trivial; simp only [nI_succ] at k; exact k)
            | (obtain ⟨e9, he9⟩ := isS_some (bi_1 h12); rw [he9] at k; simp only [decide_eq_true h20, cond_true] at k; have k := k y trivial; simp only [nI_succ] at k; exact k)
            | (rw [he] at k; simp only [decide_eq_false h20, cond_false, decide_eq_false h42, decide_eq_false (Int32.not_lt.mpr h50), Bool.or_self] at k; have k := k (some (.int (S1 24 v + S1 4 e))) trivial; simp only [nI_succ] at k; exact k)
            | (rw [he] at k; simp only [decide_eq_false h20, cond_false, decide_eq_true h42, Bool.true_or, cond_true] at k; have k := k (some (.int (S1 24 v + S1 4 e))) trivial; simp only [nI_succ] at k; exact am_Meq rfl k)
            | (rw [he] at k; simp only [decide_eq_false h20, cond_false, decide_eq_true (Int32.not_le.mp h50), Bool.or_true, cond_true] at k; have k := k (some (.int (S1 24 v + S1 4 e))) trivial; simp only [nI_succ] at k; exact am_Meq rfl k)
    · have A : Ag S (itr (srt1 E x) n S) := Ag.itr (srt1_ag x) n S
      generalize itr (srt1 E x) n S = S1 at A ⊢
      have N1 := N.ag A
      refine am_iload_n rfl rfl ?_
      refine am_aload_n rfl rfl rfl ?_
      refine am_get rfl rfl rfl ?_
      refine am_get rfl rfl rfl ?_
      refine am_icmp_ge rfl (fun _ => ?_) (fun h => absurd (nd_ge N1.1 N.2.1) h)
      exact am_return rfl ⟨rfl, rfl⟩
  exact key none
/-- Ways.change() -/
theorem s_chg1 (N : NetIs S n E) (Es : ∀ u w, E u w = E w u) : AW g (d + 2) 0 0 93 0 (am_L0 93 [.ref 31, .ref 1]) [] (mem ch S) (am_is none (mem ch (itr (srt E n) n S))) := by
  have hn := N.2.1
  refine am_iconst rfl ?_
  refine am_istore_n rfl ?_
  refine am_Meq (M' := mem ch (itr (srt E n) 0 S)) rfl ?_
  show AW g (d + 2) 0 0 93 2 [some (.ref 31), some (.ref 1), some (.int (nI 0))] [] _ _
  refine am_for (n) (fun v => [some (.ref 31), some (.ref 1), some (.int (nI v))]) (fun v => mem ch (itr (srt E n) v S)) (fun v hv k => ?_) ?_ n 0 (by omega)
  · rw [itr_s] at k
    have A : Ag S (itr (srt E n) v S) := Ag.itr srt_ag v S
    generalize itr (srt E n) v S = S1 at A k ⊢
    have N1 := N.ag A
    refine am_iload_n rfl rfl ?_
    refine am_aload_n rfl rfl rfl ?_
    refine am_get rfl rfl rfl ?_
    refine am_get rfl rfl rfl ?_
    refine am_icmp_ge rfl (fun h => absurd h (nd_lt N1.1 N.2.1 hv)) (fun _ => ?_)
    refine am_aload_n rfl rfl rfl ?_
    refine am_iload_n rfl rfl ?_
    refine am_Sx [.ref 1, .int (nI v)] rfl rfl rfl rfl (s_shorten (d := d) N1 Es v (by omega)) ?_
    refine am_iinc rfl rfl ?_
    refine am_goto rfl ?_
    simp only [nI_succ] at k
    exact k
  · have A : Ag S (itr (srt E n) n S) := Ag.itr srt_ag n S
    generalize itr (srt E n) n S = S1 at A ⊢
    have N1 := N.ag A
    refine am_iload_n rfl rfl ?_
    refine am_aload_n rfl rfl rfl ?_
    refine am_get rfl rfl rfl ?_
    refine am_get rfl rfl rfl ?_
    refine am_icmp_ge rfl (fun _ => ?_) (fun h => absurd (nd_ge N1.1 N.2.1) h)
    exact am_return rfl ⟨rfl, rfl⟩
/-- Chosen.wins(v) -/
def win (S : am_S0) (E : Nat → Nat → Option Nat) (n v : Nat) : Bool := !anyb (fun u => (E v u).isSome && (decide (S 24 u = 0) && !decide (S 3 u < S 3 v))) n
theorem s_wins (N : NetIs S n E) (x : Nat) (hx : x < 12) : AW g (d + 1) 0 0 79 0 (am_L0 79 [.ref 1, .int (nI x)]) [] (mem ch S) (am_is (some (.int (bi (win S E n x)))) (mem ch S)) := by
  have hn := N.2.1
  unfold win
  refine am_iconst rfl ?_
  refine am_istore_n rfl ?_
  show AW g (d + 1) 0 0 79 2 [some (.ref 1), some (.int (nI x)), some (.int (nI 0))] [] (mem ch S) _
  refine am_forI (n) (fun v => [some (.ref 1), some (.int (nI x)), some (.int (nI v))]) (fun v => mem ch S) (fun v => ∀ u, u < v → ((E x u).isSome && (decide (S 24 u = 0) && !decide (S 3 u < S 3 x))) = false) (fun v hv hi k => ?_) (fun hi => ?_) n 0 (by omega) (fun u h => absurd h (Nat.not_lt_zero _))
  · refine am_iload_n rfl rfl ?_
    refine am_aload_n rfl rfl rfl ?_
    refine am_get rfl rfl rfl ?_
    refine am_get rfl rfl rfl ?_
    refine am_icmp_ge rfl (fun h => absurd h (nd_lt N.1 N.2.1 hv)) (fun _ => ?_)
    refine am_aload_n rfl rfl rfl ?_
    refine am_get rfl rfl rfl ?_
    refine am_iload_n rfl rfl ?_
    refine am_iload_n rfl rfl ?_
    refine am_Vx [.int (nI x), .int (nI v)] rfl rfl rfl rfl rfl rfl (s_areN N x v hx (by omega)) ?_
    refine am_if_eq rfl (fun h12 => ?_) (fun h12 => ?_)
    · refine am_iinc rfl rfl ?_
      refine am_goto rfl ?_
      have k := k (fun u hu => by
        by_cases e : u = v
        · subst e
          first | (rw [bi_0 h12, Bool.false_and]; done) | (rw [decide_eq_false h19, Bool.false_and, Bool.and_false]; done) | (rw [decide_eq_true h30, Bool.not_true, Bool.and_false, Bool.and_false]; done)
        · exact hi u (by omega))
      simp only [nI_succ] at k
      exact k
    · refine am_aload_n rfl rfl rfl ?_
      refine am_get rfl rfl rfl ?_
      refine am_iconst rfl ?_
      refine am_aald (k8 := 0) rfl rfl (Or.inl rfl) rfl (by decide) (by decide) rfl ?_
      refine am_iload_n rfl rfl ?_
      refine am_iald rfl rfl rfl (by omega) (by decide) ?_
      refine am_if_ne rfl (fun h19 => ?_) (fun h19 => ?_)
      · refine am_iinc rfl rfl ?_
        refine am_goto rfl ?_
        have k := k (fun u hu => by
          by_cases e : u = v
          · subst e
            first | (rw [bi_0 h12, Bool.false_and]; done) | (rw [decide_eq_false h19, Bool.false_and, Bool.and_false]; done) | (rw [decide_eq_true h30, Bool.not_true, Bool.and_false, Bool.and_false]; done)
          · exact hi u (by omega))
        simp only [nI_succ] at k
        exact k
      · refine am_aload_n rfl rfl rfl ?_
        refine am_get rfl rfl rfl ?_
        refine am_get rfl rfl rfl ?_
        refine am_iload_n rfl rfl ?_
        refine am_iald rfl rfl rfl (by omega) (by decide) ?_
        refine am_aload_n rfl rfl rfl ?_
        refine am_get rfl rfl rfl ?_
        refine am_get rfl rfl rfl ?_
        refine am_iload_n rfl rfl ?_
        refine am_iald rfl rfl rfl (by omega) (by decide) ?_
        refine am_icmp_lt rfl (fun h30 => ?_) (fun h30 => ?_)
        · refine am_iinc rfl rfl ?_
          refine am_goto rfl ?_
          have k := k (fun u hu => by
            by_cases e : u = v
            · subst e
              first | (rw [bi_0 h12, Bool.false_and]; done) | (rw [decide_eq_false h19, Bool.false_and, Bool.and_false]; done) | (rw [decide_eq_true h30, Bool.not_true, Bool.and_false, Bool.and_false]; done)
            · exact hi u (by omega))
          simp only [nI_succ] at k
          exact k
        · refine am_iconst rfl ?_
          refine am_ireturn rfl (fun _ => by decide) ⟨?_, rfl⟩
          rw [show anyb (fun u => (E x u).isSome && (decide (S 24 u = 0) && !decide (S 3 u < S 3 x))) n = true from anyb_true.mpr ⟨v, hv, by rw [bi_1 h12, decide_eq_true h19, decide_eq_false h30]; rfl⟩]
          rfl
  · refine am_iload_n rfl rfl ?_
    refine am_aload_n rfl rfl rfl ?_
    refine am_get rfl rfl rfl ?_
    refine am_get rfl rfl rfl ?_
    refine am_icmp_ge rfl (fun _ => ?_) (fun h => absurd (nd_ge N.1 N.2.1) h)
    refine am_iconst rfl ?_
    refine am_ireturn rfl (fun _ => by decide) ⟨?_, rfl⟩
    rw [anyb_false hi]
    rfl
/-- Chosen.hasWinnerBeside(v) -/
def bes (S : am_S0) (E : Nat → Nat → Option Nat) (n v : Nat) : Bool := anyb (fun u => (E v u).isSome && (decide (S 24 u = 0) && win S E n u)) n
theorem s_beside (N : NetIs S n E) (x : Nat) (hx : x < 12) : AW g (d + 2) 0 0 80 0 (am_L0 80 [.ref 1, .int (nI x)]) [] (mem ch S) (am_is (some (.int (bi (bes S E n x)))) (mem ch S)) := by
  have hn := N.2.1
  unfold bes
  refine am_iconst rfl ?_
  refine am_istore_n rfl ?_
  show AW g (d + 2) 0 0 80 2 [some (.ref 1), some (.int (nI x)), some (.int (nI 0))] [] (mem ch S) _
  refine am_forI (n) (fun v => [some (.ref 1), some (.int (nI x)), some (.int (nI v))]) (fun v => mem ch S) (fun v => ∀ u, u < v → ((E x u).isSome && (decide (S 24 u = 0) && win S E n u)) = false) (fun v hv hi k => ?_) (fun hi => ?_) n 0 (by omega) (fun u h => absurd h (Nat.not_lt_zero _))
  · refine am_iload_n rfl rfl ?_
    refine am_aload_n rfl rfl rfl ?_
    refine am_get rfl rfl rfl ?_
    refine am_get rfl rfl rfl ?_
    refine am_icmp_ge rfl (fun h => absurd h (nd_lt N.1 N.2.1 hv)) (fun _ => ?_)
    refine am_aload_n rfl rfl rfl ?_
    refine am_get rfl rfl rfl ?_
    refine am_iload_n rfl rfl ?_
    refine am_iload_n rfl rfl ?_
    refine am_Vx [.int (nI x), .int (nI v)] rfl rfl rfl rfl rfl rfl (s_areN N x v hx (by omega)) ?_
    refine am_if_eq rfl (fun h12 => ?_) (fun h12 => ?_)
    · refine am_iinc rfl rfl ?_
      refine am_goto rfl ?_
      have k := k (fun u hu => by
        by_cases e : u = v
        · subst e
          first | (rw [bi_0 h12, Bool.false_and]; done) | (rw [decide_eq_false h19, Bool.false_and, Bool.and_false]; done) | (rw [bi_0 h23, Bool.and_false, Bool.and_false]; done)
        · exact hi u (by omega))
      simp only [nI_succ] at k
      exact k
    · refine am_aload_n rfl rfl rfl ?_
      refine am_get rfl rfl rfl ?_
      refine am_iconst rfl ?_
      refine am_aald (k8 := 0) rfl rfl (Or.inl rfl) rfl (by decide) (by decide) rfl ?_
      refine am_iload_n rfl rfl ?_
      refine am_iald rfl rfl rfl (by omega) (by decide) ?_
      refine am_if_ne rfl (fun h19 => ?_) (fun h19 => ?_)
      · refine am_iinc rfl rfl ?_
        refine am_goto rfl ?_
        have k := k (fun u hu => by
          by_cases e : u = v
          · subst e
            first | (rw [bi_0 h12, Bool.false_and]; done) | (rw [decide_eq_false h19, Bool.false_and, Bool.and_false]; done) | (rw [bi_0 h23, Bool.and_false, Bool.and_false]; done)
          · exact hi u (by omega))
        simp only [nI_succ] at k
        exact k
      · refine am_aload_n rfl rfl rfl ?_
        refine am_iload_n rfl rfl ?_
        refine am_Sx [.ref 1, .int (nI v)] rfl rfl rfl rfl (s_wins (d := d) N v (by omega)) ?_
        refine am_if_eq rfl (fun h23 => ?_) (fun h23 => ?_)
        · refine am_iinc rfl rfl ?_
          refine am_goto rfl ?_
          have k := k (fun u hu => by
            by_cases e : u = v
            · subst e
              first | (rw [bi_0 h12, Bool.false_and]; done) | (rw [decide_eq_false h19, Bool.false_and, Bool.and_false]; done) | (rw [bi_0 h23, Bool.and_false, Bool.and_false]; done)
            · exact hi u (by omega))
          simp only [nI_succ] at k
          exact k
        · refine am_iconst rfl ?_
          refine am_ireturn rfl (fun _ => by decide) ⟨?_, rfl⟩
          rw [show anyb (fun u => (E x u).isSome && (decide (S 24 u = 0) && win S E n u)) n = true from anyb_true.mpr ⟨v, hv, by rw [bi_1 h12, decide_eq_true h19, bi_1 h23]; rfl⟩]
          rfl
  · refine am_iload_n rfl rfl ?_
    refine am_aload_n rfl rfl rfl ?_
    refine am_get rfl rfl rfl ?_
    refine am_get rfl rfl rfl ?_
    refine am_icmp_ge rfl (fun _ => ?_) (fun h => absurd (nd_ge N.1 N.2.1) h)
    refine am_iconst rfl ?_
    refine am_ireturn rfl (fun _ => by decide) ⟨?_, rfl⟩
    rw [anyb_false hi]
    rfl
/-- Chosen.decide(v) -/
def dcd (E : Nat → Nat → Option Nat) (n v : Nat) (S : am_S0) : am_S0 := bif win S E n v then w2 S v 1 (S 1 6) else bif bes S E n v then w2 S v 2 (S 1 6) else S
theorem s_decide (N : NetIs S n E) (x : Nat) (hx : x < 12) : AW g (d + 3) 0 0 78 0 (am_L0 78 [.ref 1, .int (nI x)]) [] (mem ch S) (am_is none (mem ch (dcd E n x S))) := by
  unfold dcd
  refine am_aload_n rfl rfl rfl ?_
  refine am_iload_n rfl rfl ?_
  refine am_Sx [.ref 1, .int (nI x)] rfl rfl rfl rfl (s_wins (d := d + 1) N x hx) ?_
  refine am_if_eq rfl (fun h3 => ?_) (fun h3 => ?_)
  · refine am_aload_n rfl rfl rfl ?_
    refine am_iload_n rfl rfl ?_
    refine am_Sx [.ref 1, .int (nI x)] rfl rfl rfl rfl (s_beside (d := d) N x hx) ?_
    refine am_if_eq rfl (fun h23 => ?_) (fun h23 => ?_)
    · refine am_return rfl ⟨rfl, ?_⟩
      first
        | (rw [bi_1 h3]; rfl)
        | (rw [bi_0 h3, bi_1 h23]; rfl)
        | (rw [bi_0 h3, bi_0 h23]; rfl)
    · refine am_aload_n rfl rfl rfl ?_
      refine am_get rfl rfl rfl ?_
      refine am_iconst rfl ?_
      refine am_aald (k8 := 0) rfl rfl (Or.inl rfl) rfl (by decide) (by decide) rfl ?_
      refine am_iload_n rfl rfl ?_
      refine am_iconst rfl ?_
      refine am_iast rfl rfl rfl hx (by decide) ?_
      refine am_aload_n rfl rfl rfl ?_
      refine am_get rfl rfl rfl ?_
      refine am_iconst rfl ?_
      refine am_aald (k8 := 1) rfl rfl (Or.inl rfl) rfl (by decide) (by decide) rfl ?_
      refine am_iload_n rfl rfl ?_
      refine am_aload_n rfl rfl rfl ?_
      refine am_get rfl rfl rfl ?_
      refine am_iast rfl rfl rfl hx (by decide) ?_
      refine am_return rfl ⟨rfl, ?_⟩
      first
        | (rw [bi_1 h3]; rfl)
        | (rw [bi_0 h3, bi_1 h23]; rfl)
        | (rw [bi_0 h3, bi_0 h23]; rfl)
  · refine am_aload_n rfl rfl rfl ?_
    refine am_get rfl rfl rfl ?_
    refine am_iconst rfl ?_
    refine am_aald (k8 := 0) rfl rfl (Or.inl rfl) rfl (by decide) (by decide) rfl ?_
    refine am_iload_n rfl rfl ?_
    refine am_iconst rfl ?_
    refine am_iast rfl rfl rfl hx (by decide) ?_
    refine am_aload_n rfl rfl rfl ?_
    refine am_get rfl rfl rfl ?_
    refine am_iconst rfl ?_
    refine am_aald (k8 := 1) rfl rfl (Or.inl rfl) rfl (by decide) (by decide) rfl ?_
    refine am_iload_n rfl rfl ?_
    refine am_aload_n rfl rfl rfl ?_
    refine am_get rfl rfl rfl ?_
    refine am_iast rfl rfl rfl hx (by decide) ?_
    refine am_goto rfl ?_
    refine am_return rfl ⟨rfl, ?_⟩
    first
      | (rw [bi_1 h3]; rfl)
      | (rw [bi_0 h3, bi_1 h23]; rfl)
      | (rw [bi_0 h3, bi_0 h23]; rfl)
def chg4 (E : Nat → Nat → Option Nat) (n v : Nat) (S : am_S0) : am_S0 := bif decide (S 24 v = 0) then dcd E n v S else S
theorem dcd_ag (v : Nat) (S : am_S0) : Ag S (dcd E n v S) := by
  unfold dcd
  cases win S E n v
  · cases bes S E n v
    · exact Ag.rf
    · exact Ag.w2
  · exact Ag.w2
theorem chg4_ag (v : Nat) (S : am_S0) : Ag S (chg4 E n v S) := by
  unfold chg4
  cases decide (S 24 v = 0)
  · exact Ag.rf
  · exact dcd_ag v S
/-- Chosen.change() -/
theorem s_chg4 (N : NetIs S n E)  : AW g (d + 4) 0 0 77 0 (am_L0 77 [.ref 34, .ref 1]) [] (mem ch S) (am_is none (mem ch (itr (chg4 E n) n S))) := by
  have hn := N.2.1
  refine am_iconst rfl ?_
  refine am_istore_n rfl ?_
  refine am_Meq (M' := mem ch (itr (chg4 E n) 0 S)) rfl ?_
  show AW g (d + 4) 0 0 77 2 [some (.ref 34), some (.ref 1), some (.int (nI 0))] [] _ _
  refine am_for (n) (fun v => [some (.ref 34), some (.ref 1), some (.int (nI v))]) (fun v => mem ch (itr (chg4 E n) v S)) (fun v hv k => ?_) ?_ n 0 (by omega)
  · rw [itr_s] at k
    have A : Ag S (itr (chg4 E n) v S) := Ag.itr chg4_ag v S
    generalize itr (chg4 E n) v S = S1 at A k ⊢
    have N1 := N.ag A
    refine am_iload_n rfl rfl ?_
    refine am_aload_n rfl rfl rfl ?_
    refine am_get rfl rfl rfl ?_
    refine am_get rfl rfl rfl ?_
    refine am_icmp_ge rfl (fun h => absurd h (nd_lt N1.1 N.2.1 hv)) (fun _ => ?_)
    refine am_aload_n rfl rfl rfl ?_
    refine am_get rfl rfl rfl ?_
    refine am_iconst rfl ?_
    refine am_aald (k8 := 0) rfl rfl (Or.inl rfl) rfl (by decide) (by decide) rfl ?_
    refine am_iload_n rfl rfl ?_
    refine am_iald rfl rfl rfl (by omega) (by decide) ?_
    refine am_if_ne rfl (fun h13 => ?_) (fun h13 => ?_)
    · refine am_iinc rfl rfl ?_
      refine am_goto rfl ?_
      unfold chg4 at k
      first
        | (rw [decide_eq_false h13, cond_false] at k; simp only [nI_succ] at k; exact k)
        | (rw [decide_eq_true h13, cond_true] at k; simp only [nI_succ] at k; exact k)
    · refine am_aload_n rfl rfl rfl ?_
      refine am_iload_n rfl rfl ?_
      refine am_Sx [.ref 1, .int (nI v)] rfl rfl rfl rfl (s_decide (d := d) N1 v (by omega)) ?_
      refine am_iinc rfl rfl ?_
      refine am_goto rfl ?_
      unfold chg4 at k
      first
        | (rw [decide_eq_false h13, cond_false] at k; simp only [nI_succ] at k; exact k)
        | (rw [decide_eq_true h13, cond_true] at k; simp only [nI_succ] at k; exact k)
  · have A : Ag S (itr (chg4 E n) n S) := Ag.itr chg4_ag n S
    generalize itr (chg4 E n) n S = S1 at A ⊢
    have N1 := N.ag A
    refine am_iload_n rfl rfl ?_
    refine am_aload_n rfl rfl rfl ?_
    refine am_get rfl rfl rfl ?_
    refine am_get rfl rfl rfl ?_
    refine am_icmp_ge rfl (fun _ => ?_) (fun h => absurd (nd_ge N1.1 N.2.1) h)
    exact am_return rfl ⟨rfl, rfl⟩
end CCHG
end
section
/-! the class: a round of each algorithm, on -/
section CCHH
variable {g : am_G} {d : Nat} {ch : Option Nat} {S : am_S0} {n : Nat} {E : Nat → Nat → Option Nat}
/-- a node of CORE -/
def chg6 (E : Nat → Nat → Option Nat) (n v : Nat) (S : am_S0) : am_S0 := bif decide (S 24 v = 1) then (bif decide (nI (nbw E n (S 24) v 1) < S 1 5) then w3 S v 0 (S 1 6) (nI (nbw E n (S 24) v 1)) else am_up S 22 (upd (S 22) v (nI (nbw E n (S 24) v 1)))) else S
theorem chg6_ag (v : Nat) (S : am_S0) : Ag S (chg6 E n v S) := by
  unfold chg6
  cases decide (S 24 v = 1)
  · exact Ag.rf
  · show Ag S (bif _ then _ else _)
    cases decide (nI (nbw E n (S 24) v 1) < S 1 5)
    · exact Ag.rf.up (Or.inr (Or.inr rfl))
    · exact Ag.w3
/-- Core.change() -/
theorem s_chg6 (N : NetIs S n E)  : AW g (d + 3) 0 0 83 0 (am_L0 83 [.ref 36, .ref 1]) [] (mem ch S) (am_is none (mem ch (itr (chg6 E n) n S))) := by
  have hn := N.2.1
  refine am_iconst rfl ?_
  refine am_istore_n rfl ?_
  refine am_Meq (M' := mem ch (itr (chg6 E n) 0 S)) rfl ?_
  show AW g (d + 3) 0 0 83 2 [some (.ref 36), some (.ref 1), some (.int (nI 0))] [] _ _
  refine am_for (n) (fun v => [some (.ref 36), some (.ref 1), some (.int (nI v))]) (fun v => mem ch (itr (chg6 E n) v S)) (fun v hv k => ?_) ?_ n 0 (by omega)
  · rw [itr_s] at k
    have A : Ag S (itr (chg6 E n) v S) := Ag.itr chg6_ag v S
    generalize itr (chg6 E n) v S = S1 at A k ⊢
    have N1 := N.ag A
    refine am_iload_n rfl rfl ?_
    refine am_aload_n rfl rfl rfl ?_
    refine am_get rfl rfl rfl ?_
    refine am_get rfl rfl rfl ?_
    refine am_icmp_ge rfl (fun h => absurd h (nd_lt N1.1 N.2.1 hv)) (fun _ => ?_)
    refine am_aload_n rfl rfl rfl ?_
    refine am_get rfl rfl rfl ?_
    refine am_iconst rfl ?_
    refine am_aald (k8 := 0) rfl rfl (Or.inl rfl) rfl (by decide) (by decide) rfl ?_
    refine am_iload_n rfl rfl ?_
    refine am_iald rfl rfl rfl (by omega) (by decide) ?_
    refine am_iconst rfl ?_
    refine am_icmp_ne rfl (fun h14 => ?_) (fun h14 => ?_)
    · refine am_aload_n rfl rfl rfl ?_
      refine am_iload_n rfl rfl ?_
      first
        | refine am_Sx [.ref 1, .int (nI v)] rfl rfl rfl rfl (s_drops (d := d) N2 v (by omega)) ?_
        | refine am_Sx [.ref 1, .int (nI v)] rfl rfl rfl rfl (s_drops (d := d) N1 v (by omega)) ?_
      refine am_if_eq rfl (fun h28 => ?_) (fun h28 => ?_)
      · refine am_iinc rfl rfl ?_
        refine am_goto rfl ?_
        unfold chg6 at k
        first
          | (have h28 : drp S1 E n v = false := bi_0 h28
             unfold drp at h28
             rw [decide_eq_true h14, Bool.true_and] at h28
             rw [decide_eq_true h14, cond_true, h28, cond_false] at k
             simp only [nI_succ] at k
             exact k)
          | (have h28 : drp S1 E n v = true := bi_1 h28
             unfold drp at h28
             rw [decide_eq_true h14, Bool.true_and] at h28
             rw [decide_eq_true h14, cond_true, h28, cond_true] at k
             simp only [nI_succ] at k
             exact am_Meq rfl k)
          | (have h28 : drp S1 E n v = true := bi_1 h28
             unfold drp at h28
             rw [decide_eq_false h14, Bool.false_and] at h28
             cases h28)
          | (rw [decide_eq_false h14, cond_false] at k
             simp only [nI_succ] at k
             exact k)
      · refine am_aload_n rfl rfl rfl ?_
        refine am_get rfl rfl rfl ?_
        refine am_iconst rfl ?_
        refine am_aald (k8 := 0) rfl rfl (Or.inl rfl) rfl (by decide) (by decide) rfl ?_
        refine am_iload_n rfl rfl ?_
        refine am_iconst rfl ?_
        refine am_iast rfl rfl rfl (by omega) (by decide) ?_
        refine am_aload_n rfl rfl rfl ?_
        refine am_get rfl rfl rfl ?_
        refine am_iconst rfl ?_
        refine am_aald (k8 := 1) rfl rfl (Or.inl rfl) rfl (by decide) (by decide) rfl ?_
        refine am_iload_n rfl rfl ?_
        refine am_aload_n rfl rfl rfl ?_
        refine am_get rfl rfl rfl ?_
        refine am_iast rfl rfl rfl (by omega) (by decide) ?_
        refine am_iinc rfl rfl ?_
        refine am_goto rfl ?_
        unfold chg6 at k
        first
          | (have h28 : drp S1 E n v = false := bi_0 h28
             unfold drp at h28
             rw [decide_eq_true h14, Bool.true_and] at h28
             rw [decide_eq_true h14, cond_true, h28, cond_false] at k
             simp only [nI_succ] at k
             exact k)
          | (have h28 : drp S1 E n v = true := bi_1 h28
             unfold drp at h28
             rw [decide_eq_true h14, Bool.true_and] at h28
             rw [decide_eq_true h14, cond_true, h28, cond_true] at k
             simp only [nI_succ] at k
             exact am_Meq rfl k)
          | (have h28 : drp S1 E n v = true := bi_1 h28
             unfold drp at h28
             rw [decide_eq_false h14, Bool.false_and] at h28
             cases h28)
          | (rw [decide_eq_false h14, cond_false] at k
             simp only [nI_succ] at k
             exact k)
    · refine am_aload_n rfl rfl rfl ?_
      refine am_get rfl rfl rfl ?_
      refine am_iconst rfl ?_
      refine am_aald (k8 := 2) rfl rfl (Or.inl rfl) rfl (by decide) (by decide) rfl ?_
      refine am_iload_n rfl rfl ?_
      refine am_aload_n rfl rfl rfl ?_
      refine am_iload_n rfl rfl ?_
      refine am_iconst rfl ?_
      refine am_Vx [.int (nI v), .int 1] rfl rfl rfl rfl rfl rfl (s_countNW (d := d + 1) N1 v (by omega) 1) ?_
      refine am_iast rfl rfl rfl (by omega) (by decide) ?_
      refine am_Meq (M' := mem ch (am_up S1 22 (upd (S1 22) v (nI (nbw E n (S1 24) v 1))))) rfl ?_
      have N2 := N1.up (k := 22) (f := upd (S1 22) v (nI (nbw E n (S1 24) v 1))) (by decide)
      refine am_aload_n rfl rfl rfl ?_
      refine am_iload_n rfl rfl ?_
      first
        | refine am_Sx [.ref 1, .int (nI v)] rfl rfl rfl rfl (s_drops (d := d) N2 v (by omega)) ?_
        | refine am_Sx [.ref 1, .int (nI v)] rfl rfl rfl rfl (s_drops (d := d) N1 v (by omega)) ?_
      refine am_if_eq rfl (fun h28 => ?_) (fun h28 => ?_)
      · refine am_iinc rfl rfl ?_
        refine am_goto rfl ?_
        unfold chg6 at k
        first
          | (have h28 : drp S1 E n v = false := bi_0 h28
             unfold drp at h28
             rw [decide_eq_true h14, Bool.true_and] at h28
             rw [decide_eq_true h14, cond_true, h28, cond_false] at k
             simp only [nI_succ] at k
             exact k)
          | (have h28 : drp S1 E n v = true := bi_1 h28
             unfold drp at h28
             rw [decide_eq_true h14, Bool.true_and] at h28
             rw [decide_eq_true h14, cond_true, h28, cond_true] at k
             simp only [nI_succ] at k
             exact am_Meq rfl k)
          | (have h28 : drp S1 E n v = true := bi_1 h28
             unfold drp at h28
             rw [decide_eq_false h14, Bool.false_and] at h28
             cases h28)
          | (rw [decide_eq_false h14, cond_false] at k
             simp only [nI_succ] at k
             exact k)
      · refine am_aload_n rfl rfl rfl ?_
        refine am_get rfl rfl rfl ?_
        refine am_iconst rfl ?_
        refine am_aald (k8 := 0) rfl rfl (Or.inl rfl) rfl (by decide) (by decide) rfl ?_
        refine am_iload_n rfl rfl ?_
        refine am_iconst rfl ?_
        refine am_iast rfl rfl rfl (by omega) (by decide) ?_
        refine am_aload_n rfl rfl rfl ?_
        refine am_get rfl rfl rfl ?_
        refine am_iconst rfl ?_
        refine am_aald (k8 := 1) rfl rfl (Or.inl rfl) rfl (by decide) (by decide) rfl ?_
        refine am_iload_n rfl rfl ?_
        refine am_aload_n rfl rfl rfl ?_
        refine am_get rfl rfl rfl ?_
        refine am_iast rfl rfl rfl (by omega) (by decide) ?_
        refine am_iinc rfl rfl ?_
        refine am_goto rfl ?_
        unfold chg6 at k
        first
          | (have h28 : drp S1 E n v = false := bi_0 h28
             unfold drp at h28
             rw [decide_eq_true h14, Bool.true_and] at h28
             rw [decide_eq_true h14, cond_true, h28, cond_false] at k
             simp only [nI_succ] at k
             exact k)
          | (have h28 : drp S1 E n v = true := bi_1 h28
             unfold drp at h28
             rw [decide_eq_true h14, Bool.true_and] at h28
             rw [decide_eq_true h14, cond_true, h28, cond_true] at k
             simp only [nI_succ] at k
             exact am_Meq rfl k)
          | (have h28 : drp S1 E n v = true := bi_1 h28
             unfold drp at h28
             rw [decide_eq_false h14, Bool.false_and] at h28
             cases h28)
          | (rw [decide_eq_false h14, cond_false] at k
             simp only [nI_succ] at k
             exact k)
  · have A : Ag S (itr (chg6 E n) n S) := Ag.itr chg6_ag n S
    generalize itr (chg6 E n) n S = S1 at A ⊢
    have N1 := N.ag A
    refine am_iload_n rfl rfl ?_
    refine am_aload_n rfl rfl rfl ?_
    refine am_get rfl rfl rfl ?_
    refine am_get rfl rfl rfl ?_
    refine am_icmp_ge rfl (fun _ => ?_) (fun h => absurd (nd_ge N1.1 N.2.1) h)
    exact am_return rfl ⟨rfl, rfl⟩
/-- Colours.lowestDifference(one, other) -/
def ldf (x y : Int32) : Nat := (fst? (fun p => !decide (((x ^^^ y) >>> (nI p &&& 31)) &&& 1 = 0)) 31).getD 31
theorem s_ldf (x y : Int32) : AW g d 0 0 82 0 (am_L0 82 [.int x, .int y]) [] (mem ch S) (am_is (some (.int (nI (ldf x y)))) (mem ch S)) := by
  unfold ldf
  refine am_iload_n rfl rfl ?_
  refine am_iload_n rfl rfl ?_
  refine am_ixor rfl ?_
  refine am_istore_n rfl ?_
  refine am_iconst rfl ?_
  refine am_istore_n rfl ?_
  show AW g d 0 0 82 6 [some (.int x), some (.int y), some (.int (x ^^^ y)), some (.int (nI 0))] [] (mem ch S) _
  refine am_forI (31) (fun v => [some (.int x), some (.int y), some (.int (x ^^^ y)), some (.int (nI v))]) (fun v => mem ch S) (fun v => ∀ u, u < v → (!decide (((x ^^^ y) >>> (nI u &&& 31)) &&& 1 = 0)) = false) (fun v hv hi k => ?_) (fun hi => ?_) 31 0 (by omega) (fun u h => absurd h (Nat.not_lt_zero _))
  · refine am_iload_n rfl rfl ?_
    refine am_bipush rfl ?_
    refine am_icmp_ge rfl (fun h => absurd h (nI_ge hv (by decide))) (fun _ => ?_)
    refine am_iload_n rfl rfl ?_
    refine am_iload_n rfl rfl ?_
    refine am_ishr rfl ?_
    refine am_iconst rfl ?_
    refine am_iand rfl ?_
    refine am_if_ne rfl (fun h14 => ?_) (fun h14 => ?_)
    · refine am_iload_n rfl rfl ?_
      refine am_ireturn rfl (fun h => absurd h (by decide)) ⟨?_, rfl⟩
      rw [fst?_some (v := v) (by rw [decide_eq_false h14]; rfl) hi hv]
      rfl
    · refine am_iinc rfl rfl ?_
      refine am_goto rfl ?_
      have k := k (fun u hu => by
        by_cases e : u = v
        · subst e
          rw [decide_eq_true h14]
          rfl
        · exact hi u (by omega))
      simp only [nI_succ] at k
      exact k
  · refine am_iload_n rfl rfl ?_
    refine am_bipush rfl ?_
    refine am_icmp_ge rfl (fun _ => ?_) (fun h => absurd (nI_le (Nat.le_refl 31) (by decide)) h)
    refine am_iload_n rfl rfl ?_
    refine am_ireturn rfl (fun h => absurd h (by decide)) ⟨?_, rfl⟩
    rw [fst?_none hi]
    rfl
/-- the parents p, as the class holds them -/
def PrIs (S : am_S0) (n : Nat) (p : Nat → Option Nat) : Prop := ∀ v, v < n → S 28 v = em (p v) ∧ ∀ u, p v = some u → u < 12
theorem PrIs.ag {S1 : am_S0} {p : Nat → Option Nat} (h : PrIs S n p) (A : Ag S S1) : PrIs S1 n p := fun v hv => by rw [A 28 (by decide) (by decide) (by decide)]; exact h v hv
def col (S : am_S0) (p : Nat → Option Nat) (v : Nat) : Int32 := match p v with
  | none => 2 * 0 + (((S 24 v) >>> ((0 : Int32) &&& 31)) &&& 1)
  | some u => 2 * nI (ldf (S 24 v) (S 24 u)) + (((S 24 v) >>> (nI (ldf (S 24 v) (S 24 u)) &&& 31)) &&& 1)
def chg3 (p : Nat → Option Nat) (v : Nat) (S : am_S0) : am_S0 := am_up S 20 (upd (S 20) v (col S p v))
theorem chg3_ag (p : Nat → Option Nat) (v : Nat) (S : am_S0) : Ag S (chg3 p v S) := Ag.rf.up (Or.inl rfl)
theorem s_chg3 (N : NetIs S n E) {p : Nat → Option Nat} (Pr : PrIs S n p) : AW g (d + 1) 0 0 81 0 (am_L0 81 [.ref 33, .ref 1]) [] (mem ch S) (am_is none (mem ch (itr (chg3 p) n S))) := by
  have hn := N.2.1
  refine am_iconst rfl ?_
  refine am_istore_n rfl ?_
  refine am_Meq (M' := mem ch (itr (chg3 p) 0 S)) rfl ?_
  show AW g (d + 1) 0 0 81 2 [some (.ref 33), some (.ref 1), some (.int (nI 0)), none, none, none] [] _ _
  have key : ∀ y : Option Value × Option Value × Option Value, AW g (d + 1) 0 0 81 2 [some (.ref 33), some (.ref 1), some (.int (nI 0)), y.1, y.2.1, y.2.2] [] (mem ch (itr (chg3 p) 0 S)) (am_is none (mem ch (itr (chg3 p) n S))) := by
    intro y
    refine am_forS n (fun v y => [some (.ref 33), some (.ref 1), some (.int (nI v)), y.1, y.2.1, y.2.2]) (fun v _ => mem ch (itr (chg3 p) v S)) (fun _ _ => True) (fun v y hv _ k => ?_) (fun y _ => ?_) n 0 y (by omega) trivial
    · rw [itr_s] at k
      have A : Ag S (itr (chg3 p) v S) := Ag.itr (chg3_ag p) v S
      generalize itr (chg3 p) v S = S1 at A k ⊢
      have N1 := N.ag A
      obtain ⟨hp1, hp2⟩ := Pr.ag A v hv
      refine am_iload_n rfl rfl ?_
      refine am_aload_n rfl rfl rfl ?_
      refine am_get rfl rfl rfl ?_
      refine am_get rfl rfl rfl ?_
      refine am_icmp_ge rfl (fun h => absurd h (nd_lt N1.1 N.2.1 hv)) (fun _ => ?_)
      refine am_aload_n rfl rfl rfl ?_
      refine am_get rfl rfl rfl ?_
      refine am_iconst rfl ?_
      refine am_aald (k8 := 0) rfl rfl (Or.inl rfl) rfl (by decide) (by decide) rfl ?_
      refine am_iload_n rfl rfl ?_
      refine am_iald rfl rfl rfl (by omega) (by decide) ?_
      refine am_istore_n rfl ?_
      refine am_aload_n rfl rfl rfl ?_
      refine am_get rfl rfl rfl ?_
      refine am_iload_n rfl rfl ?_
      refine am_iald rfl rfl rfl (by omega) (by decide) ?_
      rw [hp1]
      refine am_istore rfl ?_
      refine am_iload rfl rfl ?_
      refine am_iconst rfl ?_
      refine am_icmp_ne rfl (fun h21 => ?_) (fun h21 => ?_)
      · obtain ⟨u, hu, hu2⟩ := em_lt (fun e he => by have := hp2 e he; omega) h21
        have hul := hp2 u hu
        refine am_iload_n rfl rfl ?_
        refine am_aload_n rfl rfl rfl ?_
        refine am_get rfl rfl rfl ?_
        refine am_iconst rfl ?_
        refine am_aald (k8 := 0) rfl rfl (Or.inl rfl) rfl (by decide) (by decide) rfl ?_
        refine am_iload rfl rfl ?_
        refine am_iald rfl rfl hu2 (by omega) (by decide) ?_
        refine am_Sx [.int (S1 24 v), .int (S1 24 u)] rfl rfl rfl rfl (s_ldf (d := d) _ _) ?_
        refine am_istore rfl ?_
        refine am_aload_n rfl rfl rfl ?_
        refine am_get rfl rfl rfl ?_
        refine am_iconst rfl ?_
        refine am_aald (k8 := 0) rfl rfl (Or.inl rfl) rfl (by decide) (by decide) rfl ?_
        refine am_iload_n rfl rfl ?_
        refine am_iconst rfl ?_
        refine am_iload rfl rfl ?_
        refine am_imul rfl ?_
        refine am_iload_n rfl rfl ?_
        refine am_iload rfl rfl ?_
        refine am_ishr rfl ?_
        refine am_iconst rfl ?_
        refine am_iand rfl ?_
        refine am_iadd rfl ?_
        refine am_iast rfl rfl rfl (by omega) (by decide) ?_
        refine am_iinc rfl rfl ?_
        refine am_goto rfl ?_
        have k := k (some (.int (S1 24 v)), some (.int (em (p v))), some (.int (nI (ldf (S1 24 v) (S1 24 u))))) trivial
        unfold chg3 col at k
        simp only [hu, nI_succ] at k
        rw [hu]
        exact am_Meq rfl k
      · have h24 := (em_n1 (fun e he => by have := hp2 e he; omega)).mp h21
        refine am_iconst rfl ?_
        refine am_goto rfl ?_
        refine am_istore rfl ?_
        refine am_aload_n rfl rfl rfl ?_
        refine am_get rfl rfl rfl ?_
        refine am_iconst rfl ?_
        refine am_aald (k8 := 0) rfl rfl (Or.inl rfl) rfl (by decide) (by decide) rfl ?_
        refine am_iload_n rfl rfl ?_
        refine am_iconst rfl ?_
        refine am_iload rfl rfl ?_
        refine am_imul rfl ?_
        refine am_iload_n rfl rfl ?_
        refine am_iload rfl rfl ?_
        refine am_ishr rfl ?_
        refine am_iconst rfl ?_
        refine am_iand rfl ?_
        refine am_iadd rfl ?_
        refine am_iast rfl rfl rfl (by omega) (by decide) ?_
        refine am_iinc rfl rfl ?_
        refine am_goto rfl ?_
        have k := k (some (.int (S1 24 v)), some (.int (em (p v))), some (.int 0)) trivial
        unfold chg3 col at k
        simp only [h24, nI_succ] at k
        rw [h24]
        exact am_Meq rfl k
    · have A : Ag S (itr (chg3 p) n S) := Ag.itr (chg3_ag p) n S
      generalize itr (chg3 p) n S = S1 at A ⊢
      have N1 := N.ag A
      refine am_iload_n rfl rfl ?_
      refine am_aload_n rfl rfl rfl ?_
      refine am_get rfl rfl rfl ?_
      refine am_get rfl rfl rfl ?_
      refine am_icmp_ge rfl (fun _ => ?_) (fun h => absurd (nd_ge N1.1 N.2.1) h)
      exact am_return rfl ⟨rfl, rfl⟩
  exact key (none, none, none)
/-- Pairs.favourite(v) -/
def fav1 (S : am_S0) (E : Nat → Nat → Option Nat) (v u : Nat) (b : Option Nat) : Option Nat := match E v u with
  | none => b
  | some e => bif decide (S 24 u = -1) then (match b with
    | none => some u
    | some w => bif hvy (S 4) e ((E v w).getD 0) then some u else b) else b
def fav (S : am_S0) (E : Nat → Nat → Option Nat) (n v : Nat) : Option Nat := bif decide (S 24 v = -1) then itr (fav1 S E v) n none else none
theorem fav_lt {v k u : Nat} (h : itr (fav1 S E v) k none = some u) : u < k ∧ ∃ e, E v u = some e := by
  induction k generalizing u with
  | zero => cases h
  | succ k ih =>
    rw [itr_s] at h
    generalize hb : itr (fav1 S E v) k none = b at h ih
    have old : ∀ u, b = some u → u < k + 1 ∧ ∃ e, E v u = some e := fun u hu => ⟨by have := (ih hu).1; omega, (ih hu).2⟩
    unfold fav1 at h
    cases he : E v k with
    | none => rw [he] at h; exact old u h
    | some e =>
      rw [he] at h
      simp only at h
      cases hc : decide (S 24 k = -1) with
      | false => rw [hc] at h; exact old u h
      | true =>
        rw [hc] at h
        cases b with
        | none => cases h; exact ⟨by omega, e, he⟩
        | some w =>
          simp only [cond_true] at h
          cases hv : hvy (S 4) e ((E v w).getD 0) with
          | false => rw [hv] at h; exact old u h
          | true => rw [hv] at h; cases h; exact ⟨by omega, e, he⟩
theorem s_fav (N : NetIs S n E) (x : Nat) (hx : x < 12) : AW g (d + 1) 0 0 87 0 (am_L0 87 [.ref 1, .int (nI x)]) [] (mem ch S) (am_is (some (.int (em (fav S E n x)))) (mem ch S)) := by
  have hn := N.2.1
  unfold fav
  refine am_aload_n rfl rfl rfl ?_
  refine am_get rfl rfl rfl ?_
  refine am_iconst rfl ?_
  refine am_aald (k8 := 0) rfl rfl (Or.inl rfl) rfl (by decide) (by decide) rfl ?_
  refine am_iload_n rfl rfl ?_
  refine am_iald rfl rfl rfl hx (by decide) ?_
  refine am_iconst rfl ?_
  refine am_icmp_eq rfl (fun h7 => ?_) (fun h7 => ?_)
  · refine am_aload_n rfl rfl rfl ?_
    refine am_get rfl rfl rfl ?_
    refine am_get rfl rfl rfl ?_
    refine am_iload_n rfl rfl ?_
    refine am_aald rfl rfl (Or.inl rfl) rfl hx (by decide) (if_pos hx) ?_
    refine am_astore_n rfl ?_
    refine am_iconst rfl ?_
    refine am_istore_n rfl ?_
    refine am_iconst rfl ?_
    refine am_istore rfl ?_
    rw [decide_eq_true h7, cond_true]
    show AW g (d + 1) 0 0 87 20 [some (.ref 1), some (.int (nI x)), some (.ref (6 + x)), some (.int (em (itr (fav1 S E x) 0 none))), some (.int (nI 0))] [] (mem ch S) _
    refine am_for (n) (fun v => [some (.ref 1), some (.int (nI x)), some (.ref (6 + x)), some (.int (em (itr (fav1 S E x) v none))), some (.int (nI v))]) (fun v => mem ch S) (fun v hv k => ?_) ?_ n 0 (by omega)
    · rw [itr_s] at k
      have hb : ∀ u, itr (fav1 S E x) v none = some u → u < 12 ∧ ∃ e, E x u = some e := fun u hu => ⟨by have := (fav_lt hu).1; omega, (fav_lt hu).2⟩
      generalize itr (fav1 S E x) v none = b at hb k ⊢
      unfold fav1 at k
      have hev := N.2.2.1 x v hx (by omega)
      refine am_iload rfl rfl ?_
      refine am_aload_n rfl rfl rfl ?_
      refine am_get rfl rfl rfl ?_
      refine am_get rfl rfl rfl ?_
      refine am_icmp_ge rfl (fun h => absurd h (nd_lt N.1 N.2.1 hv)) (fun _ => ?_)
      refine am_aload_n rfl rfl rfl ?_
      refine am_iload rfl rfl ?_
      refine am_iald rfl (mem_eb x hx) rfl (by omega) (by decide) ?_
      rw [hev]
      refine am_iconst rfl ?_
      refine am_icmp_eq rfl (fun h29 => ?_) (fun h29 => ?_)
      · have h30 := (em_n1 (N.2.2.2 x v)).mp h29
        rw [h30] at k
        refine am_iinc rfl rfl ?_
        refine am_goto rfl ?_
        simp only [nI_succ] at k
        exact k
      · obtain ⟨e, he, he2⟩ := em_lt (N.2.2.2 x v) h29
        have hel := N.2.2.2 x v e he
        rw [he] at k
        simp only at k
        refine am_aload_n rfl rfl rfl ?_
        refine am_get rfl rfl rfl ?_
        refine am_iconst rfl ?_
        refine am_aald (k8 := 0) rfl rfl (Or.inl rfl) rfl (by decide) (by decide) rfl ?_
        refine am_iload rfl rfl ?_
        refine am_iald rfl rfl rfl (by omega) (by decide) ?_
        refine am_iconst rfl ?_
        refine am_icmp_ne rfl (fun h37 => ?_) (fun h37 => ?_)
        · rw [decide_eq_false h37, cond_false] at k
          refine am_iinc rfl rfl ?_
          refine am_goto rfl ?_
          simp only [nI_succ] at k
          exact k
        · rw [decide_eq_true h37, cond_true] at k
          refine am_iload_n rfl rfl ?_
          refine am_iconst rfl ?_
          refine am_icmp_eq rfl (fun h40 => ?_) (fun h40 => ?_)
          · have h41 := (em_n1 (fun e he => by have := (hb e he).1; omega)).mp h40
            subst h41
            refine am_iload rfl rfl ?_
            refine am_istore_n rfl ?_
            refine am_iinc rfl rfl ?_
            refine am_goto rfl ?_
            simp only [nI_succ] at k
            exact k
          · obtain ⟨w, hw, hw2⟩ := em_lt (fun e he => by have := (hb e he).1; omega) h40
            subst hw
            obtain ⟨hwl, f, hf⟩ := hb w rfl
            have hfl := N.2.2.2 x w f hf
            simp only [hf, Option.getD_some] at k
            refine am_aload_n rfl rfl rfl ?_
            refine am_get rfl rfl rfl ?_
            refine am_aload_n rfl rfl rfl ?_
            refine am_iload rfl rfl ?_
            refine am_iald rfl (mem_eb x hx) rfl (by omega) (by decide) ?_
            rw [hev, he]
            refine am_aload_n rfl rfl rfl ?_
            refine am_iload_n rfl rfl ?_
            refine am_iald rfl (mem_eb x hx) hw2 hwl (by decide) ?_
            rw [N.2.2.1 x w hx hwl, hf]
            refine am_Vx [.int (nI e), .int (nI f)] rfl rfl rfl rfl rfl rfl (s_heavier (d := d) e f hel hfl) ?_
            refine am_if_eq rfl (fun h50 => ?_) (fun h50 => ?_)
            · rw [bi_0 h50, cond_false] at k
              refine am_iinc rfl rfl ?_
              refine am_goto rfl ?_
              simp only [nI_succ] at k
              exact k
            · rw [bi_1 h50, cond_true] at k
              refine am_iload rfl rfl ?_
              refine am_istore_n rfl ?_
              refine am_iinc rfl rfl ?_
              refine am_goto rfl ?_
              simp only [nI_succ] at k
              exact k
    · refine am_iload rfl rfl ?_
      refine am_aload_n rfl rfl rfl ?_
      refine am_get rfl rfl rfl ?_
      refine am_get rfl rfl rfl ?_
      refine am_icmp_ge rfl (fun _ => ?_) (fun h => absurd (nd_ge N.1 N.2.1) h)
      refine am_iload_n rfl rfl ?_
      refine am_ireturn rfl (fun h => absurd h (by decide)) ⟨?_, rfl⟩
      rfl
  · refine am_iconst rfl ?_
    refine am_ireturn rfl (fun h => absurd h (by decide)) ⟨?_, rfl⟩
    rw [decide_eq_false h7]
    rfl
def chg5 (E : Nat → Nat → Option Nat) (n v : Nat) (S : am_S0) : am_S0 := match fav S E n v with
  | none => S
  | some u => bif decide (fav S E n u = some v) then w2 S v (nI u) (S 1 6) else S
theorem chg5_ag (v : Nat) (S : am_S0) : Ag S (chg5 E n v S) := by
  unfold chg5
  cases fav S E n v with
  | none => exact Ag.rf
  | some u =>
    show Ag S (bif _ then _ else _)
    cases decide (fav S E n u = some v)
    · exact Ag.rf
    · exact Ag.w2
theorem fav_lt2 {v u : Nat} (h : fav S E n v = some u) : u < n := by
  unfold fav at h
  cases hc : decide (S 24 v = -1) with
  | false => rw [hc] at h; cases h
  | true => rw [hc] at h; exact (fav_lt h).1
theorem em_inj {x : Option Nat} {v : Nat} (hx : ∀ e, x = some e → e < 24) (hv : v < 24) : em x = nI v ↔ x = some v := by
  cases x with
  | none => exact ⟨fun h => absurd h (neg1_nI v (by omega)), fun h => by cases h⟩
  | some e =>
    show nI e = nI v ↔ _
    rw [nI_eq (by have := hx e rfl; omega) (by omega)]
    exact ⟨fun h => by rw [h], fun h => Option.some.inj h⟩
theorem s_chg5 (N : NetIs S n E) : AW g (d + 2) 0 0 86 0 (am_L0 86 [.ref 35, .ref 1]) [] (mem ch S) (am_is none (mem ch (itr (chg5 E n) n S))) := by
  have hn := N.2.1
  refine am_iconst rfl ?_
  refine am_istore_n rfl ?_
  refine am_Meq (M' := mem ch (itr (chg5 E n) 0 S)) rfl ?_
  show AW g (d + 2) 0 0 86 2 [some (.ref 35), some (.ref 1), some (.int (nI 0)), none] [] _ _
  have key : ∀ y : Option Value, AW g (d + 2) 0 0 86 2 [some (.ref 35), some (.ref 1), some (.int (nI 0)), y] [] (mem ch (itr (chg5 E n) 0 S)) (am_is none (mem ch (itr (chg5 E n) n S))) := by
    intro y
    refine am_forS n (fun v y => [some (.ref 35), some (.ref 1), some (.int (nI v)), y]) (fun v _ => mem ch (itr (chg5 E n) v S)) (fun _ _ => True) (fun v y hv _ k => ?_) (fun y _ => ?_) n 0 y (by omega) trivial
    · rw [itr_s] at k
      have A : Ag S (itr (chg5 E n) v S) := Ag.itr chg5_ag v S
      generalize itr (chg5 E n) v S = S1 at A k ⊢
      have N1 := N.ag A
      have k := k (some (.int (em (fav S1 E n v)))) trivial
      unfold chg5 at k
      refine am_iload_n rfl rfl ?_
      refine am_aload_n rfl rfl rfl ?_
      refine am_get rfl rfl rfl ?_
      refine am_get rfl rfl rfl ?_
      refine am_icmp_ge rfl (fun h => absurd h (nd_lt N1.1 N.2.1 hv)) (fun _ => ?_)
      refine am_aload_n rfl rfl rfl ?_
      refine am_iload_n rfl rfl ?_
      refine am_Sx [.ref 1, .int (nI v)] rfl rfl rfl rfl (s_fav (d := d) N1 v (by omega)) ?_
      refine am_istore_n rfl ?_
      refine am_iload_n rfl rfl ?_
      refine am_iconst rfl ?_
      refine am_icmp_eq rfl (fun h13 => ?_) (fun h13 => ?_)
      · have h14 := (em_n1 (fun e he => by have := fav_lt2 he; omega)).mp h13
        rw [h14] at k ⊢
        refine am_iinc rfl rfl ?_
        refine am_goto rfl ?_
        simp only [nI_succ] at k
        exact k
      · obtain ⟨u, hu, hu2⟩ := em_lt (fun e he => by have := fav_lt2 he; omega) h13
        have hul := fav_lt2 hu
        rw [hu] at k ⊢
        simp only at k
        show AW g (d + 2) 0 0 86 14 [some (.ref 35), some (.ref 1), some (.int (nI v)), some (.int (nI u))] [] (mem ch S1) _
        have k : AW g (d + 2) 0 0 86 2 [some (.ref 35), some (.ref 1), some (.int (nI (v + 1))), some (.int (nI u))] [] _ _ := k
        refine am_aload_n rfl rfl rfl ?_
        refine am_iload_n rfl rfl ?_
        refine am_Sx [.ref 1, .int (nI u)] rfl rfl rfl rfl (s_fav (d := d) N1 u (by omega)) ?_
        refine am_iload_n rfl rfl ?_
        refine am_icmp_ne rfl (fun h18 => ?_) (fun h18 => ?_)
        · refine am_iinc rfl rfl ?_
          refine am_goto rfl ?_
          first
            | (rw [decide_eq_false (fun q => h18 (by rw [q]; rfl)), cond_false] at k; simp only [nI_succ] at k; exact k)
            | (rw [decide_eq_true ((em_inj (fun e he => by have := fav_lt2 he; omega) (by omega)).mp h18), cond_true] at k; simp only [nI_succ] at k; exact am_Meq rfl k)
        · refine am_aload_n rfl rfl rfl ?_
          refine am_get rfl rfl rfl ?_
          refine am_iconst rfl ?_
          refine am_aald (k8 := 0) rfl rfl (Or.inl rfl) rfl (by decide) (by decide) rfl ?_
          refine am_iload_n rfl rfl ?_
          refine am_iload_n rfl rfl ?_
          refine am_iast rfl rfl rfl (by omega) (by decide) ?_
          refine am_aload_n rfl rfl rfl ?_
          refine am_get rfl rfl rfl ?_
          refine am_iconst rfl ?_
          refine am_aald (k8 := 1) rfl rfl (Or.inl rfl) rfl (by decide) (by decide) rfl ?_
          refine am_iload_n rfl rfl ?_
          refine am_aload_n rfl rfl rfl ?_
          refine am_get rfl rfl rfl ?_
          refine am_iast rfl rfl rfl (by omega) (by decide) ?_
          refine am_iinc rfl rfl ?_
          refine am_goto rfl ?_
          first
            | (rw [decide_eq_false (fun q => h18 (by rw [q]; rfl)), cond_false] at k; simp only [nI_succ] at k; exact k)
            | (rw [decide_eq_true ((em_inj (fun e he => by have := fav_lt2 he; omega) (by omega)).mp h18), cond_true] at k; simp only [nI_succ] at k; exact am_Meq rfl k)
    · have A : Ag S (itr (chg5 E n) n S) := Ag.itr chg5_ag n S
      generalize itr (chg5 E n) n S = S1 at A ⊢
      have N1 := N.ag A
      refine am_iload_n rfl rfl ?_
      refine am_aload_n rfl rfl rfl ?_
      refine am_get rfl rfl rfl ?_
      refine am_get rfl rfl rfl ?_
      refine am_icmp_ge rfl (fun _ => ?_) (fun h => absurd (nd_ge N1.1 N.2.1) h)
      exact am_return rfl ⟨rfl, rfl⟩
  exact key none
end CCHH
end
section
/-! the class: a round of Sides and Sums -/
section CCHI
variable {g : am_G} {d : Nat} {ch : Option Nat} {S : am_S0} {n : Nat} {E : Nat → Nat → Option Nat}
/-- Sides.deliver(side, u) -/
def dlv (side : Int32) (u : Nat) (S : am_S0) : am_S0 := bif decide (S 24 u = -1) then am_up (am_up S 20 (upd (S 20) u (1 - side))) 22 (upd (S 22) u (S 1 6)) else bif decide (S 24 u = side) then am_up S 21 (upd (S 21) u 1) else S
theorem dlv_ag (side : Int32) (u : Nat) (S : am_S0) : Ag S (dlv side u S) := by
  unfold dlv
  cases decide (S 24 u = -1)
  · show Ag S (bif _ then _ else _)
    cases decide (S 24 u = side)
    · exact Ag.rf
    · exact Ag.rf.up (Or.inr (Or.inl rfl))
  · exact (Ag.rf.up (Or.inl rfl)).up (Or.inr (Or.inr rfl))
theorem s_deliver (x : Nat) (hx : x < 12) (y : Int32) : AW g d 0 0 90 0 (am_L0 90 [.ref 1, .int y, .int (nI x)]) [] (mem ch S) (am_is none (mem ch (dlv y x S))) := by
  unfold dlv
  refine am_aload_n rfl rfl rfl ?_
  refine am_get rfl rfl rfl ?_
  refine am_iconst rfl ?_
  refine am_aald (k8 := 0) rfl rfl (Or.inl rfl) rfl (by decide) (by decide) rfl ?_
  refine am_iload_n rfl rfl ?_
  refine am_iald rfl rfl rfl hx (by decide) ?_
  refine am_iconst rfl ?_
  refine am_icmp_ne rfl (fun h7 => ?_) (fun h7 => ?_)
  · refine am_aload_n rfl rfl rfl ?_
    refine am_get rfl rfl rfl ?_
    refine am_iconst rfl ?_
    refine am_aald (k8 := 0) rfl rfl (Or.inl rfl) rfl (by decide) (by decide) rfl ?_
    refine am_iload_n rfl rfl ?_
    refine am_iald rfl rfl rfl hx (by decide) ?_
    refine am_iload_n rfl rfl ?_
    refine am_icmp_ne rfl (fun h33 => ?_) (fun h33 => ?_)
    · refine am_return rfl ⟨rfl, ?_⟩
      first
        | (rw [decide_eq_true h7]; rfl)
        | (rw [decide_eq_false h7, decide_eq_true h33]; rfl)
        | (rw [decide_eq_false h7, decide_eq_false h33]; rfl)
    · refine am_aload_n rfl rfl rfl ?_
      refine am_get rfl rfl rfl ?_
      refine am_iconst rfl ?_
      refine am_aald (k8 := 1) rfl rfl (Or.inl rfl) rfl (by decide) (by decide) rfl ?_
      refine am_iload_n rfl rfl ?_
      refine am_iconst rfl ?_
      refine am_iast rfl rfl rfl hx (by decide) ?_
      refine am_return rfl ⟨rfl, ?_⟩
      first
        | (rw [decide_eq_true h7]; rfl)
        | (rw [decide_eq_false h7, decide_eq_true h33]; rfl)
        | (rw [decide_eq_false h7, decide_eq_false h33]; rfl)
  · refine am_aload_n rfl rfl rfl ?_
    refine am_get rfl rfl rfl ?_
    refine am_iconst rfl ?_
    refine am_aald (k8 := 0) rfl rfl (Or.inl rfl) rfl (by decide) (by decide) rfl ?_
    refine am_iload_n rfl rfl ?_
    refine am_iconst rfl ?_
    refine am_iload_n rfl rfl ?_
    refine am_isub rfl ?_
    refine am_iast rfl rfl rfl hx (by decide) ?_
    refine am_aload_n rfl rfl rfl ?_
    refine am_get rfl rfl rfl ?_
    refine am_iconst rfl ?_
    refine am_aald (k8 := 2) rfl rfl (Or.inl rfl) rfl (by decide) (by decide) rfl ?_
    refine am_iload_n rfl rfl ?_
    refine am_aload_n rfl rfl rfl ?_
    refine am_get rfl rfl rfl ?_
    refine am_iast rfl rfl rfl hx (by decide) ?_
    refine am_goto rfl ?_
    refine am_return rfl ⟨rfl, ?_⟩
    first
      | (rw [decide_eq_true h7]; rfl)
      | (rw [decide_eq_false h7, decide_eq_true h33]; rfl)
      | (rw [decide_eq_false h7, decide_eq_false h33]; rfl)
def sid1 (E : Nat → Nat → Option Nat) (v u : Nat) (S : am_S0) : am_S0 := bif !decide (S 27 v = 0) && (E v u).isSome then dlv (S 24 v) u S else S
theorem sid1_ag (v u : Nat) (S : am_S0) : Ag S (sid1 E v u S) := by
  unfold sid1
  cases !decide (S 27 v = 0) && (E v u).isSome
  · exact Ag.rf
  · exact dlv_ag _ u S
def sid (E : Nat → Nat → Option Nat) (n v : Nat) (S : am_S0) : am_S0 := itr (sid1 E v) n S
theorem sid_ag (v : Nat) (S : am_S0) : Ag S (sid E n v S) := Ag.itr (sid1_ag v) n S
/-- Sides.change() -/
theorem s_chg7 (N : NetIs S n E) : AW g (d + 1) 0 0 89 0 (am_L0 89 [.ref 37, .ref 1]) [] (mem ch S) (am_is none (mem ch (itr (sid E n) n S))) := by
  have hn := N.2.1
  refine am_iconst rfl ?_
  refine am_istore_n rfl ?_
  refine am_Meq (M' := mem ch (itr (sid E n) 0 S)) rfl ?_
  show AW g (d + 1) 0 0 89 2 [some (.ref 37), some (.ref 1), some (.int (nI 0)), none] [] _ _
  have key : ∀ y : Option Value, AW g (d + 1) 0 0 89 2 [some (.ref 37), some (.ref 1), some (.int (nI 0)), y] [] (mem ch (itr (sid E n) 0 S)) (am_is none (mem ch (itr (sid E n) n S))) := by
    intro y
    refine am_forS n (fun v y => [some (.ref 37), some (.ref 1), some (.int (nI v)), y]) (fun v _ => mem ch (itr (sid E n) v S)) (fun _ _ => True) (fun w y hw _ k0 => ?_) (fun y _ => ?_) n 0 y (by omega) trivial
    · rw [itr_s] at k0
      have A0 : Ag S (itr (sid E n) w S) := Ag.itr sid_ag w S
      generalize itr (sid E n) w S = S2 at A0 k0 ⊢
      have N1 := N.ag A0
      have k0 := k0 (some (.int (nI n))) trivial
      unfold sid at k0
      refine am_iload_n rfl rfl ?_
      refine am_aload_n rfl rfl rfl ?_
      refine am_get rfl rfl rfl ?_
      refine am_get rfl rfl rfl ?_
      refine am_icmp_ge rfl (fun h => absurd h (nd_lt N1.1 N.2.1 hw)) (fun _ => ?_)
      refine am_iconst rfl ?_
      refine am_istore_n rfl ?_
      refine am_Meq (M' := mem ch (itr (sid1 E w) 0 S2)) rfl ?_
      show AW g (d + 1) 0 0 89 9 [some (.ref 37), some (.ref 1), some (.int (nI w)), some (.int (nI 0))] [] _ _
      have N0 := N1
      clear N1
      refine am_for (n) (fun v => [some (.ref 37), some (.ref 1), some (.int (nI w)), some (.int (nI v))]) (fun v => mem ch (itr (sid1 E w) v S2)) (fun v hv k => ?_) ?_ n 0 (by omega)
      · rw [itr_s] at k
        have A : Ag S2 (itr (sid1 E w) v S2) := Ag.itr (sid1_ag w) v S2
        generalize itr (sid1 E w) v S2 = S1 at A k ⊢
        have N1 := N0.ag A
        unfold sid1 at k
        refine am_iload_n rfl rfl ?_
        refine am_aload_n rfl rfl rfl ?_
        refine am_get rfl rfl rfl ?_
        refine am_get rfl rfl rfl ?_
        refine am_icmp_ge rfl (fun h => absurd h (nd_lt N1.1 N.2.1 hv)) (fun _ => ?_)
        refine am_aload_n rfl rfl rfl ?_
        refine am_get rfl rfl rfl ?_
        refine am_iload_n rfl rfl ?_
        refine am_bald rfl rfl rfl (by omega) (by decide) ?_
        refine am_if_eq rfl (fun h18 => ?_) (fun h18 => ?_)
        · refine am_iinc rfl rfl ?_
          refine am_goto rfl ?_
          first
            | (rw [decide_eq_true h18, Bool.not_true, Bool.false_and, cond_false] at k; simp only [nI_succ] at k; exact k)
            | (rw [decide_eq_false h18, bi_0 h24, Bool.and_false, cond_false] at k; simp only [nI_succ] at k; exact k)
            | (rw [decide_eq_false h18, bi_1 h24, Bool.not_false, Bool.and_self, cond_true] at k; simp only [nI_succ] at k; exact k)
        · refine am_aload_n rfl rfl rfl ?_
          refine am_get rfl rfl rfl ?_
          refine am_iload_n rfl rfl ?_
          refine am_iload_n rfl rfl ?_
          refine am_Vx [.int (nI w), .int (nI v)] rfl rfl rfl rfl rfl rfl (s_areN N1 w v (by omega) (by omega)) ?_
          refine am_if_eq rfl (fun h24 => ?_) (fun h24 => ?_)
          · refine am_iinc rfl rfl ?_
            refine am_goto rfl ?_
            first
              | (rw [decide_eq_true h18, Bool.not_true, Bool.false_and, cond_false] at k; simp only [nI_succ] at k; exact k)
              | (rw [decide_eq_false h18, bi_0 h24, Bool.and_false, cond_false] at k; simp only [nI_succ] at k; exact k)
              | (rw [decide_eq_false h18, bi_1 h24, Bool.not_false, Bool.and_self, cond_true] at k; simp only [nI_succ] at k; exact k)
          · refine am_aload_n rfl rfl rfl ?_
            refine am_aload_n rfl rfl rfl ?_
            refine am_get rfl rfl rfl ?_
            refine am_iconst rfl ?_
            refine am_aald (k8 := 0) rfl rfl (Or.inl rfl) rfl (by decide) (by decide) rfl ?_
            refine am_iload_n rfl rfl ?_
            refine am_iald rfl rfl rfl (by omega) (by decide) ?_
            refine am_iload_n rfl rfl ?_
            refine am_Sx [.ref 1, .int (S1 24 w), .int (nI v)] rfl rfl rfl rfl (s_deliver (d := d) v (by omega) _) ?_
            refine am_iinc rfl rfl ?_
            refine am_goto rfl ?_
            first
              | (rw [decide_eq_true h18, Bool.not_true, Bool.false_and, cond_false] at k; simp only [nI_succ] at k; exact k)
              | (rw [decide_eq_false h18, bi_0 h24, Bool.and_false, cond_false] at k; simp only [nI_succ] at k; exact k)
              | (rw [decide_eq_false h18, bi_1 h24, Bool.not_false, Bool.and_self, cond_true] at k; simp only [nI_succ] at k; exact k)
      · have A : Ag S2 (itr (sid1 E w) n S2) := Ag.itr (sid1_ag w) n S2
        generalize itr (sid1 E w) n S2 = S1 at A k0 ⊢
        have N1 := N0.ag A
        refine am_iload_n rfl rfl ?_
        refine am_aload_n rfl rfl rfl ?_
        refine am_get rfl rfl rfl ?_
        refine am_get rfl rfl rfl ?_
        refine am_icmp_ge rfl (fun _ => ?_) (fun h => absurd (nd_ge N1.1 N.2.1) h)
        refine am_iinc rfl rfl ?_
        refine am_goto rfl ?_
        simp only [nI_succ] at k0
        exact k0
    · have A : Ag S (itr (sid E n) n S) := Ag.itr sid_ag n S
      generalize itr (sid E n) n S = S1 at A ⊢
      have N1 := N.ag A
      refine am_iload_n rfl rfl ?_
      refine am_aload_n rfl rfl rfl ?_
      refine am_get rfl rfl rfl ?_
      refine am_get rfl rfl rfl ?_
      refine am_icmp_ge rfl (fun _ => ?_) (fun h => absurd (nd_ge N1.1 N.2.1) h)
      exact am_return rfl ⟨rfl, rfl⟩
  exact key none
/-- Sums.handUp(v) -/
def hup (p : Nat → Option Nat) (v : Nat) (S : am_S0) : am_S0 := match p v with
  | none => am_up S 22 (upd (S 22) v 1)
  | some u => am_up (am_up (am_up S 22 (upd (S 22) v 1)) 20 (upd (S 20) u (S 20 u + S 24 v))) 21 (upd (S 21) u (S 21 u - 1))
theorem hup_ag (p : Nat → Option Nat) (v : Nat) (S : am_S0) : Ag S (hup p v S) := by
  unfold hup
  cases p v with
  | none => exact Ag.rf.up (Or.inr (Or.inr rfl))
  | some u => exact ((Ag.rf.up (Or.inr (Or.inr rfl))).up (Or.inl rfl)).up (Or.inr (Or.inl rfl))
theorem s_handUp {p : Nat → Option Nat} (Pr : PrIs S n p) (x : Nat) (hx : x < n) (hn : n ≤ 12) : AW g d 0 0 92 0 (am_L0 92 [.ref 1, .int (nI x)]) [] (mem ch S) (am_is none (mem ch (hup p x S))) := by
  obtain ⟨hp1, hp2⟩ := Pr x hx
  unfold hup
  refine am_aload_n rfl rfl rfl ?_
  refine am_get rfl rfl rfl ?_
  refine am_iconst rfl ?_
  refine am_aald (k8 := 2) rfl rfl (Or.inl rfl) rfl (by decide) (by decide) rfl ?_
  refine am_iload_n rfl rfl ?_
  refine am_iconst rfl ?_
  refine am_iast rfl rfl rfl (by omega) (by decide) ?_
  refine am_aload_n rfl rfl rfl ?_
  refine am_get rfl rfl rfl ?_
  refine am_iload_n rfl rfl ?_
  refine am_iald rfl rfl rfl (by omega) (by decide) ?_
  refine am_Meq (M' := mem ch (am_up S 22 (upd (S 22) x 1))) rfl ?_
  rw [hp1]
  refine am_istore_n rfl ?_
  refine am_iload_n rfl rfl ?_
  refine am_iconst rfl ?_
  refine am_icmp_eq rfl (fun h14 => ?_) (fun h14 => ?_)
  · have h15 := (em_n1 (fun e he => by have := hp2 e he; omega)).mp h14
    rw [h15]
    exact am_return rfl ⟨rfl, rfl⟩
  · obtain ⟨u, hu, hu2⟩ := em_lt (fun e he => by have := hp2 e he; omega) h14
    have hul := hp2 u hu
    rw [hu]
    refine am_aload_n rfl rfl rfl ?_
    refine am_get rfl rfl rfl ?_
    refine am_iconst rfl ?_
    refine am_aald (k8 := 0) rfl rfl (Or.inl rfl) rfl (by decide) (by decide) rfl ?_
    refine am_iload_n rfl rfl ?_
    refine am_dup2 rfl rfl rfl ?_
    refine am_iald rfl rfl rfl hul (by decide) ?_
    refine am_aload_n rfl rfl rfl ?_
    refine am_get rfl rfl rfl ?_
    refine am_iconst rfl ?_
    refine am_aald (k8 := 0) rfl rfl (Or.inl rfl) rfl (by decide) (by decide) rfl ?_
    refine am_iload_n rfl rfl ?_
    refine am_iald rfl rfl rfl (by omega) (by decide) ?_
    refine am_iadd rfl ?_
    refine am_iast rfl rfl rfl hul (by decide) ?_
    refine am_aload_n rfl rfl rfl ?_
    refine am_get rfl rfl rfl ?_
    refine am_iconst rfl ?_
    refine am_aald (k8 := 1) rfl rfl (Or.inl rfl) rfl (by decide) (by decide) rfl ?_
    refine am_iload_n rfl rfl ?_
    refine am_dup2 rfl rfl rfl ?_
    refine am_iald rfl rfl rfl hul (by decide) ?_
    refine am_iconst rfl ?_
    refine am_isub rfl ?_
    refine am_iast rfl rfl rfl hul (by decide) ?_
    exact am_return rfl ⟨rfl, rfl⟩
def chg2 (p : Nat → Option Nat) (v : Nat) (S : am_S0) : am_S0 := bif due S v then hup p v S else S
theorem chg2_ag (p : Nat → Option Nat) (v : Nat) (S : am_S0) : Ag S (chg2 p v S) := by
  unfold chg2
  cases due S v
  · exact Ag.rf
  · exact hup_ag p v S
/-- Sums.change() -/
theorem s_chg2 (N : NetIs S n E) {p : Nat → Option Nat} (Pr : PrIs S n p) : AW g (d + 1) 0 0 91 0 (am_L0 91 [.ref 32, .ref 1]) [] (mem ch S) (am_is none (mem ch (itr (chg2 p) n S))) := by
  have hn := N.2.1
  refine am_iconst rfl ?_
  refine am_istore_n rfl ?_
  refine am_Meq (M' := mem ch (itr (chg2 p) 0 S)) rfl ?_
  show AW g (d + 1) 0 0 91 2 [some (.ref 32), some (.ref 1), some (.int (nI 0))] [] _ _
  refine am_for (n) (fun v => [some (.ref 32), some (.ref 1), some (.int (nI v))]) (fun v => mem ch (itr (chg2 p) v S)) (fun v hv k => ?_) ?_ n 0 (by omega)
  · rw [itr_s] at k
    have A : Ag S (itr (chg2 p) v S) := Ag.itr (chg2_ag p) v S
    generalize itr (chg2 p) v S = S1 at A k ⊢
    have N1 := N.ag A
    refine am_iload_n rfl rfl ?_
    refine am_aload_n rfl rfl rfl ?_
    refine am_get rfl rfl rfl ?_
    refine am_get rfl rfl rfl ?_
    refine am_icmp_ge rfl (fun h => absurd h (nd_lt N1.1 N.2.1 hv)) (fun _ => ?_)
    refine am_aload_n rfl rfl rfl ?_
    refine am_iload_n rfl rfl ?_
    refine am_Sx [.ref 1, .int (nI v)] rfl rfl rfl rfl (s_due (d := d) v (by omega)) ?_
    refine am_if_eq rfl (fun h10 => ?_) (fun h10 => ?_)
    · refine am_iinc rfl rfl ?_
      refine am_goto rfl ?_
      unfold chg2 at k
      first
        | (rw [bi_0 h10, cond_false] at k; simp only [nI_succ] at k; exact k)
        | (rw [bi_1 h10, cond_true] at k; simp only [nI_succ] at k; exact k)
    · refine am_aload_n rfl rfl rfl ?_
      refine am_iload_n rfl rfl ?_
      refine am_Sx [.ref 1, .int (nI v)] rfl rfl rfl rfl (s_handUp (d := d) (Pr.ag A) v hv hn) ?_
      refine am_iinc rfl rfl ?_
      refine am_goto rfl ?_
      unfold chg2 at k
      first
        | (rw [bi_0 h10, cond_false] at k; simp only [nI_succ] at k; exact k)
        | (rw [bi_1 h10, cond_true] at k; simp only [nI_succ] at k; exact k)
  · have A : Ag S (itr (chg2 p) n S) := Ag.itr (chg2_ag p) n S
    generalize itr (chg2 p) n S = S1 at A ⊢
    have N1 := N.ag A
    refine am_iload_n rfl rfl ?_
    refine am_aload_n rfl rfl rfl ?_
    refine am_get rfl rfl rfl ?_
    refine am_get rfl rfl rfl ?_
    refine am_icmp_ge rfl (fun _ => ?_) (fun h => absurd (nd_ge N1.1 N.2.1) h)
    exact am_return rfl ⟨rfl, rfl⟩
end CCHI
end
section
/-! the class: RoundBench itself -/
/-- what an algorithm's run needs: its root and its tree -/
def RunIs (S : am_S0) (n k rt : Nat) (p : Nat → Option Nat) : Prop := (k = 2 ∨ k = 3 → PrIs S n p) ∧ (k = 1 ∨ k = 2 ∨ k = 3 ∨ k = 7 → rt < n ∧ S 1 5 = nI rt)
theorem RunIs.eq {S S1 : am_S0} {n k rt : Nat} {p : Nat → Option Nat} (h : RunIs S n k rt p) (h28 : S1 28 = S 28) (h5 : S1 1 5 = S 1 5) : RunIs S1 n k rt p := ⟨fun q v hv => by rw [h28]; exact h.1 q v hv, fun q => by rw [h5]; exact h.2 q⟩
def tkb (k : Nat) (S : am_S0) (x : Int32) : Bool := match k with
  | 0 | 4 | 5 => true
  | 6 => decide (1 ≤ x) && decide (x ≤ 12)
  | _ => decide (0 ≤ x) && decide (x < S 2 4)
def ovr (k : Nat) (E : Nat → Nat → Option Nat) (n rt : Nat) (S : am_S0) : Bool := match k with
  | 2 => decide (S 26 rt = 1)
  | 3 => decide (4 ≤ S 1 6)
  | 4 => !anyb (fun v => decide (S 24 v = 0)) n
  | 5 => decide (nI (lam E n (S 24) (-1)) = 0)
  | 6 => !anyb (drp S E n) n
  | _ => decide (nI (frl E n (S 27)) = 0)
def ltr (k : Nat) (E : Nat → Nat → Option Nat) (n : Nat) (S : am_S0) : Int32 := match k with
  | 2 => nI (let2 S n)
  | 3 => S 2 4 - 1
  | 4 => nI (lam E n (S 24) 0)
  | 5 => nI (lam E n (S 24) (-1))
  | 6 => nI (let6 S E n n)
  | _ => nI (frl E n (S 27))
def chA (k : Nat) (E : Nat → Nat → Option Nat) (n : Nat) (p : Nat → Option Nat) (S : am_S0) : am_S0 := match k with
  | 0 => itr (lrn E n) n S
  | 1 => itr (srt E n) n S
  | 2 => itr (chg2 p) n S
  | 3 => itr (chg3 p) n S
  | 4 => itr (chg4 E n) n S
  | 5 => itr (chg5 E n) n S
  | 6 => itr (chg6 E n) n S
  | _ => itr (sid E n) n S
def stA (k : Nat) (E : Nat → Nat → Option Nat) (n rt : Nat) (S : am_S0) : am_S0 := match k with
  | 0 => st0 S
  | 1 => stR S (-1) (-1) 0 rt
  | 2 => am_up (stG S (-1) 0 0 E n rt) 21 (chd (nrr E n (msr E n n (far0 rt (S 18)))) n (pw 12 (fun _ => 0) (S 21)))
  | 3 => stG S (-1) (-1) (-1) E n rt
  | 4 => hld S 0 0 (-1)
  | 5 => hld S (-1) 0 (-1)
  | 6 => st6 S E n n
  | _ => stR S (-1) 0 0 rt
theorem chA_ag (k : Nat) (E : Nat → Nat → Option Nat) (n : Nat) (p : Nat → Option Nat) (S : am_S0) : Ag S (chA k E n p S) := by
  unfold chA
  split
  · exact Ag.itr lrn_ag n S
  · exact Ag.itr srt_ag n S
  · exact Ag.itr (chg2_ag p) n S
  · exact Ag.itr (chg3_ag p) n S
  · exact Ag.itr chg4_ag n S
  · exact Ag.itr chg5_ag n S
  · exact Ag.itr chg6_ag n S
  · exact Ag.itr sid_ag n S
section CRB
variable {g : am_G} {d : Nat} {ch : Option Nat} {S : am_S0} {n : Nat} {E : Nat → Nat → Option Nat} {m i k rt k9 pc : Nat} {p : Nat → Option Nat} {L : am_L} {K : am_K} {ws : List Nat}
/-- the call of an abstract method, by the algorithm -/
theorem d_takes (hk : k < 8) (x : Int32) (h : am_op m i = some (.invokevirtual k9, pc, 0, 2, 1, ws)) (kk : AW g (d + 1 + 1) 0 0 m (i + 1) L [.int (bi (tkb k S x))] (mem ch S) K) : AW g (d + 1 + 1) 0 0 m i L (.int x :: .ref 2 :: .ref (30 + k) :: []) (mem ch S) K := by
  match k, hk with
  | 0, _ => exact am_Ax [.ref 2, .int x] h rfl rfl rfl rfl rfl rfl rfl (s_takes0 (d := d + 1) x) kk
  | 1, _ => exact am_Ax [.ref 2, .int x] h rfl rfl rfl rfl rfl rfl rfl (s_takes1 (d := d) x) kk
  | 2, _ => exact am_Ax [.ref 2, .int x] h rfl rfl rfl rfl rfl rfl rfl (s_takes2 (d := d) x) kk
  | 3, _ => exact am_Ax [.ref 2, .int x] h rfl rfl rfl rfl rfl rfl rfl (s_takes3 (d := d) x) kk
  | 4, _ => exact am_Ax [.ref 2, .int x] h rfl rfl rfl rfl rfl rfl rfl (s_takes4 (d := d + 1) x) kk
  | 5, _ => exact am_Ax [.ref 2, .int x] h rfl rfl rfl rfl rfl rfl rfl (s_takes5 (d := d + 1) x) kk
  | 6, _ => exact am_Ax [.ref 2, .int x] h rfl rfl rfl rfl rfl rfl rfl (s_takes6 (d := d + 1) x) kk
  | 7, _ => exact am_Ax [.ref 2, .int x] h rfl rfl rfl rfl rfl rfl rfl (s_takes7 (d := d) x) kk
  | n + 8, hk => exact absurd hk (by omega)
/-- the call of an abstract method, by the algorithm -/
theorem d_over (hk : k < 8) (N : NetIs S n E) (R : RunIs S n k rt p) (h : am_op m i = some (.invokevirtual k9, pc, 2, 1, 1, ws)) (kk : AW g (d + 4 + 1) 0 0 m (i + 1) L [.int (bi (ovr k E n rt S))] (mem ch S) K) : AW g (d + 4 + 1) 0 0 m i L (.ref 1 :: .ref (30 + k) :: []) (mem ch S) K := by
  match k, hk with
  | 0, _ => exact am_Ax [.ref 1] h rfl rfl rfl rfl rfl rfl rfl (s_over0 (d := d + 1) N) kk
  | 1, _ => exact am_Ax [.ref 1] h rfl rfl rfl rfl rfl rfl rfl (s_over1 (d := d + 1) N) kk
  | 2, _ => exact am_Ax [.ref 1] h rfl rfl rfl rfl rfl rfl rfl (s_over2 (d := d + 4) rt (by have := R.2 (by decide); have := N.2.1; omega) (R.2 (by decide)).2) kk
  | 3, _ => exact am_Ax [.ref 1] h rfl rfl rfl rfl rfl rfl rfl (s_over3 (d := d + 4)) kk
  | 4, _ => exact am_Ax [.ref 1] h rfl rfl rfl rfl rfl rfl rfl (s_over4 (d := d + 4) N) kk
  | 5, _ => exact am_Ax [.ref 1] h rfl rfl rfl rfl rfl rfl rfl (s_over5 (d := d + 1) N) kk
  | 6, _ => exact am_Ax [.ref 1] h rfl rfl rfl rfl rfl rfl rfl (s_over6 (d := d + 1) N) kk
  | 7, _ => exact am_Ax [.ref 1] h rfl rfl rfl rfl rfl rfl rfl (s_over7 (d := d + 1) N) kk
  | n + 8, hk => exact absurd hk (by omega)
/-- the call of an abstract method, by the algorithm -/
theorem d_let (hk : k < 8) (N : NetIs S n E) (h : am_op m i = some (.invokevirtual k9, pc, 3, 1, 1, ws)) (kk : AW g (d + 4 + 1) 0 0 m (i + 1) L [.int (ltr k E n S)] (mem ch S) K) : AW g (d + 4 + 1) 0 0 m i L (.ref 1 :: .ref (30 + k) :: []) (mem ch S) K := by
  match k, hk with
  | 0, _ => exact am_Ax [.ref 1] h rfl rfl rfl rfl rfl rfl rfl (s_let0 (d := d + 1) N) kk
  | 1, _ => exact am_Ax [.ref 1] h rfl rfl rfl rfl rfl rfl rfl (s_let1 (d := d + 1) N) kk
  | 2, _ => exact am_Ax [.ref 1] h rfl rfl rfl rfl rfl rfl rfl (s_let2 (d := d + 3) N) kk
  | 3, _ => exact am_Ax [.ref 1] h rfl rfl rfl rfl rfl rfl rfl (s_let3 (d := d + 4)) kk
  | 4, _ => exact am_Ax [.ref 1] h rfl rfl rfl rfl rfl rfl rfl (s_let4 (d := d + 1) N) kk
  | 5, _ => exact am_Ax [.ref 1] h rfl rfl rfl rfl rfl rfl rfl (s_let5 (d := d + 1) N) kk
  | 6, _ => exact am_Ax [.ref 1] h rfl rfl rfl rfl rfl rfl rfl (s_let6 (d := d + 2) N) kk
  | 7, _ => exact am_Ax [.ref 1] h rfl rfl rfl rfl rfl rfl rfl (s_let7 (d := d + 1) N) kk
  | n + 8, hk => exact absurd hk (by omega)
/-- the call of an abstract method, by the algorithm -/
theorem d_chg (hk : k < 8) (N : NetIs S n E) (Es : ∀ u w, E u w = E w u) (R : RunIs S n k rt p) (h : am_op m i = some (.invokevirtual k9, pc, 4, 1, 1, ws)) (kk : AW g (d + 4 + 1) 0 0 m (i + 1) L [] (mem ch (chA k E n p S)) K) : AW g (d + 4 + 1) 0 0 m i L (.ref 1 :: .ref (30 + k) :: []) (mem ch S) K := by
  match k, hk with
  | 0, _ => exact am_Ax [.ref 1] h rfl rfl rfl rfl rfl rfl rfl (s_chg0 (d := d + 2) N) kk
  | 1, _ => exact am_Ax [.ref 1] h rfl rfl rfl rfl rfl rfl rfl (s_chg1 (d := d + 2) N Es) kk
  | 2, _ => exact am_Ax [.ref 1] h rfl rfl rfl rfl rfl rfl rfl (s_chg2 (d := d + 3) N (R.1 (by decide))) kk
  | 3, _ => exact am_Ax [.ref 1] h rfl rfl rfl rfl rfl rfl rfl (s_chg3 (d := d + 3) N (R.1 (by decide))) kk
  | 4, _ => exact am_Ax [.ref 1] h rfl rfl rfl rfl rfl rfl rfl (s_chg4 (d := d) N) kk
  | 5, _ => exact am_Ax [.ref 1] h rfl rfl rfl rfl rfl rfl rfl (s_chg5 (d := d + 2) N) kk
  | 6, _ => exact am_Ax [.ref 1] h rfl rfl rfl rfl rfl rfl rfl (s_chg6 (d := d + 1) N) kk
  | 7, _ => exact am_Ax [.ref 1] h rfl rfl rfl rfl rfl rfl rfl (s_chg7 (d := d + 3) N) kk
  | n + 8, hk => exact absurd hk (by omega)
/-- the call of an abstract method, by the algorithm -/
theorem d_start (hk : k < 8) (N : NetIs S n E) (R : k = 1 ∨ k = 2 ∨ k = 3 ∨ k = 7 → rt < n ∧ S 1 5 = nI rt) (h : am_op m i = some (.invokevirtual k9, pc, 1, 1, 1, ws)) (kk : AW g (d + 4 + 1) 0 0 m (i + 1) L [] (mem ch (stA k E n rt S)) K) : AW g (d + 4 + 1) 0 0 m i L (.ref 1 :: .ref (30 + k) :: []) (mem ch S) K := by
  match k, hk with
  | 0, _ => exact am_Ax [.ref 1] h rfl rfl rfl rfl rfl rfl rfl (s_start0 (d := d + 2)) kk
  | 1, _ => exact am_Ax [.ref 1] h rfl rfl rfl rfl rfl rfl rfl (s_start1 (d := d + 2) rt (by have := R (by decide); have := N.2.1; omega) (R (by decide)).2) kk
  | 2, _ => exact am_Ax [.ref 1] h rfl rfl rfl rfl rfl rfl rfl (s_start2 (d := d) N rt (by have := R (by decide); have := N.2.1; omega) (R (by decide)).2) kk
  | 3, _ => exact am_Ax [.ref 1] h rfl rfl rfl rfl rfl rfl rfl (s_start3 (d := d) N rt (by have := R (by decide); have := N.2.1; omega) (R (by decide)).2) kk
  | 4, _ => exact am_Ax [.ref 1] h rfl rfl rfl rfl rfl rfl rfl (s_start4 (d := d + 2)) kk
  | 5, _ => exact am_Ax [.ref 1] h rfl rfl rfl rfl rfl rfl rfl (s_start5 (d := d + 2)) kk
  | 6, _ => exact am_Ax [.ref 1] h rfl rfl rfl rfl rfl rfl rfl (s_start6 (d := d + 2) N) kk
  | 7, _ => exact am_Ax [.ref 1] h rfl rfl rfl rfl rfl rfl rfl (s_start7 (d := d + 2) rt (by have := R (by decide); have := N.2.1; omega) (R (by decide)).2) kk
  | n + 8, hk => exact absurd hk (by omega)
/-- forgetReadiness() -/
def fgt (S : am_S0) : am_S0 := am_up S 0 (upd (S 0) 3 0)
theorem s_forget : AW g d 0 0 17 0 (am_L0 17 [.ref 0]) [] (mem ch S) (am_is none (mem none (fgt S))) := by
  refine am_aload_n rfl rfl rfl ?_
  refine am_iconst rfl ?_
  refine am_put rfl rfl (Nat.le_of_ble_eq_true rfl) rfl ?_
  refine am_aload_n rfl rfl rfl ?_
  refine am_null rfl ?_
  refine am_put rfl rfl (Nat.le_of_ble_eq_true rfl) rfl ?_
  exact am_return rfl ⟨rfl, rfl⟩
/-- net(n) -/
theorem s_net (x : Int32) : AW g (d + 2) 0 0 16 0 (am_L0 16 [.ref 0, .int x]) [] (mem ch S) (am_is (some (.int (bi (decide (1 ≤ x) && decide (x ≤ 12))))) (bif decide (1 ≤ x) && decide (x ≤ 12) then mem none (fgt (itr clr1 12 (clr0 S x))) else mem ch S)) := by
  refine am_iload_n rfl rfl ?_
  refine am_iconst rfl ?_
  refine am_icmp_lt rfl (fun h2 => ?_) (fun h2 => ?_)
  · refine am_iconst rfl ?_
    refine am_ireturn rfl (fun _ => by decide) ?_
    first
      | (rw [decide_eq_false (Int32.not_le.mpr h2), Bool.false_and]; exact ⟨rfl, rfl⟩)
      | (rw [decide_eq_false h5, Bool.and_false]; exact ⟨rfl, rfl⟩)
  · refine am_iload_n rfl rfl ?_
    refine am_bipush rfl ?_
    refine am_icmp_le rfl (fun h5 => ?_) (fun h5 => ?_)
    · refine am_aload_n rfl rfl rfl ?_
      refine am_get rfl rfl rfl ?_
      refine am_get rfl rfl rfl ?_
      refine am_iload_n rfl rfl ?_
      refine am_Vx [.int x] rfl rfl rfl rfl rfl rfl (s_clear (d := d) x) ?_
      refine am_aload_n rfl rfl rfl ?_
      refine am_Vx [] rfl rfl rfl rfl rfl rfl (s_forget (d := _)) ?_
      refine am_iconst rfl ?_
      refine am_ireturn rfl (fun _ => by decide) ?_
      rw [decide_eq_true (Int32.not_lt.mp h2), decide_eq_true h5]
      exact ⟨rfl, rfl⟩
    · refine am_iconst rfl ?_
      refine am_ireturn rfl (fun _ => by decide) ?_
      first
        | (rw [decide_eq_false (Int32.not_le.mpr h2), Bool.false_and]; exact ⟨rfl, rfl⟩)
        | (rw [decide_eq_false h5, Bool.and_false]; exact ⟨rfl, rfl⟩)
/-- edge(a, b, weight) -/
theorem s_edgeNo (N : NetIs S n E) (x y w : Int32) (ht : tks S E x y w = false) : AW g (d + 2) 0 0 18 0 (am_L0 18 [.ref 0, .int x, .int y, .int w]) [] (mem ch S) (am_is (some (.int (-1))) (mem ch S)) := by
  refine am_aload_n rfl rfl rfl ?_
  refine am_get rfl rfl rfl ?_
  refine am_get rfl rfl rfl ?_
  refine am_iload_n rfl rfl ?_
  refine am_iload_n rfl rfl ?_
  refine am_iload_n rfl rfl ?_
  refine am_Vx [.int x, .int y, .int w] rfl rfl rfl rfl rfl rfl (s_takesEdge (d := d) N x y w) ?_
  rw [ht]
  refine am_if_ne rfl (fun h => absurd rfl h) (fun _ => ?_)
  refine am_iconst rfl ?_
  refine am_ireturn rfl (fun h => absurd h (by decide)) ⟨?_, rfl⟩
  rfl
theorem s_edgeYes (N : NetIs S n E) (a b q : Nat) (w : Int32) (ha : a < 12) (hb : b < 12) (hab : a ≠ b) (hq : q < 24) (hS : S 2 5 = nI q) (ht : tks S E (nI a) (nI b) w = true) : AW g (d + 2) 0 0 18 0 (am_L0 18 [.ref 0, .int (nI a), .int (nI b), .int w]) [] (mem ch S) (am_is (some (.int (nI q))) (mem none (addE (fgt S) a b q w))) := by
  refine am_aload_n rfl rfl rfl ?_
  refine am_get rfl rfl rfl ?_
  refine am_get rfl rfl rfl ?_
  refine am_iload_n rfl rfl ?_
  refine am_iload_n rfl rfl ?_
  refine am_iload_n rfl rfl ?_
  refine am_Vx [.int (nI a), .int (nI b), .int w] rfl rfl rfl rfl rfl rfl (s_takesEdge (d := d) N (nI a) (nI b) w) ?_
  rw [ht]
  refine am_if_ne rfl (fun _ => ?_) (fun h => absurd h (by decide))
  refine am_aload_n rfl rfl rfl ?_
  refine am_Vx [] rfl rfl rfl rfl rfl rfl (s_forget (d := _)) ?_
  refine am_aload_n rfl rfl rfl ?_
  refine am_get rfl rfl rfl ?_
  refine am_get rfl rfl rfl ?_
  refine am_iload_n rfl rfl ?_
  refine am_iload_n rfl rfl ?_
  refine am_iload_n rfl rfl ?_
  refine am_Vx [.int (nI a), .int (nI b), .int w] rfl rfl rfl rfl rfl rfl (s_addEdge (d := d + 1) a b q w ha hb hab hq hS) ?_
  refine am_ireturn rfl (fun h => absurd h (by decide)) ⟨?_, rfl⟩
  rfl
/-- identity(v, id) -/
def idn (S : am_S0) (x y : Int32) : Bool := (decide (0 ≤ x) && decide (x < S 2 4)) && decide (1 ≤ y) && decide (y ≤ 999)
theorem s_identity (hN : S 2 4 = nI n) (hn : n ≤ 12) (x y : Int32) : AW g (d + 2) 0 0 23 0 (am_L0 23 [.ref 0, .int x, .int y]) [] (mem ch S) (am_is (some (.int (bi (idn S x y)))) (bif idn S x y then mem none (fgt (am_up S 3 (upd (S 3) x.toNatClampNeg y))) else mem ch S)) := by
  unfold idn
  refine am_aload_n rfl rfl rfl ?_
  refine am_get rfl rfl rfl ?_
  refine am_get rfl rfl rfl ?_
  refine am_iload_n rfl rfl ?_
  refine am_Vx [.int x] rfl rfl rfl rfl rfl rfl (s_hasNode (d := d + 1) x) ?_
  refine am_if_eq rfl (fun h5 => ?_) (fun h5 => ?_)
  · refine am_iconst rfl ?_
    refine am_ireturn rfl (fun _ => by decide) ?_
    first
      | (rw [bi_0 h5]; simp only [Bool.false_and, cond_false]; exact ⟨rfl, rfl⟩)
      | (rw [decide_eq_false (Int32.not_le.mpr h8)]; simp only [Bool.and_false, Bool.false_and, cond_false]; exact ⟨rfl, rfl⟩)
      | (rw [decide_eq_false h11]; simp only [Bool.and_false, cond_false]; exact ⟨rfl, rfl⟩)
  · refine am_iload_n rfl rfl ?_
    refine am_iconst rfl ?_
    refine am_icmp_lt rfl (fun h8 => ?_) (fun h8 => ?_)
    · refine am_iconst rfl ?_
      refine am_ireturn rfl (fun _ => by decide) ?_
      first
        | (rw [bi_0 h5]; simp only [Bool.false_and, cond_false]; exact ⟨rfl, rfl⟩)
        | (rw [decide_eq_false (Int32.not_le.mpr h8)]; simp only [Bool.and_false, Bool.false_and, cond_false]; exact ⟨rfl, rfl⟩)
        | (rw [decide_eq_false h11]; simp only [Bool.and_false, cond_false]; exact ⟨rfl, rfl⟩)
    · refine am_iload_n rfl rfl ?_
      refine am_sipush rfl ?_
      refine am_icmp_le rfl (fun h11 => ?_) (fun h11 => ?_)
      · refine am_aload_n rfl rfl rfl ?_
        refine am_get rfl rfl rfl ?_
        refine am_get rfl rfl rfl ?_
        refine am_get rfl rfl rfl ?_
        refine am_iload_n rfl rfl ?_
        refine am_iload_n rfl rfl ?_
        rw [bi_1 h5, decide_eq_true (Int32.not_lt.mp h8), decide_eq_true h11]
        obtain ⟨v, hv, rfl⟩ := hasN_of hN hn (bi_1 h5)
        refine am_iast rfl rfl rfl (by omega) (by decide) ?_
        rw [nI_clamp (by omega)]
        refine am_Meq (M' := mem ch (am_up S 3 (upd (S 3) v y))) rfl ?_
        refine am_aload_n rfl rfl rfl ?_
        refine am_Vx [] rfl rfl rfl rfl rfl rfl (s_forget (d := _)) ?_
        refine am_iconst rfl ?_
        exact am_ireturn rfl (fun _ => by decide) ⟨rfl, rfl⟩
      · refine am_iconst rfl ?_
        refine am_ireturn rfl (fun _ => by decide) ?_
        first
          | (rw [bi_0 h5]; simp only [Bool.false_and, cond_false]; exact ⟨rfl, rfl⟩)
          | (rw [decide_eq_false (Int32.not_le.mpr h8)]; simp only [Bool.and_false, Bool.false_and, cond_false]; exact ⟨rfl, rfl⟩)
          | (rw [decide_eq_false h11]; simp only [Bool.and_false, cond_false]; exact ⟨rfl, rfl⟩)
/-- ready() -/
def rdy (S : am_S0) (E : Nat → Nat → Option Nat) (n : Nat) : Nat := bif anyb (fun v => decide (msr E n n (far0 0 (S 18)) v = -1)) n then 1 else bif twn (S 3) n then 2 else 0
theorem s_ready (N : NetIs S n E) : AW g (d + 4) 0 0 24 0 (am_L0 24 [.ref 0]) [] (mem ch S) (am_is (some (.int (nI (rdy S E n)))) (mem ch (bif decide (rdy S E n = 0) then am_up (am_up S 18 (msr E n n (far0 0 (S 18)))) 0 (upd (S 0) 3 1) else am_up S 18 (msr E n n (far0 0 (S 18)))))) := by
  unfold rdy
  refine am_aload_n rfl rfl rfl ?_
  refine am_get rfl rfl rfl ?_
  refine am_get rfl rfl rfl ?_
  refine am_Vx [] rfl rfl rfl rfl rfl rfl (s_connected (d := d) N) ?_
  refine am_if_ne rfl (fun h4 => ?_) (fun h4 => ?_)
  · refine am_aload_n rfl rfl rfl ?_
    refine am_get rfl rfl rfl ?_
    refine am_get rfl rfl rfl ?_
    refine am_Vx [] rfl rfl rfl rfl rfl rfl (s_twins (d := d + 3) (N.up (k := 18) (by decide))) ?_
    refine am_if_eq rfl (fun h11 => ?_) (fun h11 => ?_)
    · refine am_aload_n rfl rfl rfl ?_
      refine am_iconst rfl ?_
      refine am_put rfl rfl (Nat.le_of_ble_eq_true rfl) rfl ?_
      refine am_iconst rfl ?_
      refine am_ireturn rfl (fun h => absurd h (by decide)) ?_
      have e := bi_1 h4
      rw [Bool.not_eq_true'] at e
      have e2 : twn (S 3) n = false := bi_0 h11
      rw [e, e2]
      exact ⟨rfl, rfl⟩
    · refine am_iconst rfl ?_
      refine am_ireturn rfl (fun h => absurd h (by decide)) ?_
      have e := bi_1 h4
      rw [Bool.not_eq_true'] at e
      have e2 : twn (S 3) n = true := bi_1 h11
      rw [e, e2]
      exact ⟨rfl, rfl⟩
  · refine am_iconst rfl ?_
    refine am_ireturn rfl (fun h => absurd h (by decide)) ?_
    have e := bi_0 h4
    rw [Bool.not_eq_false'] at e
    rw [e]
    exact ⟨rfl, rfl⟩
end CRB
end
section
/-! the class: choose, round, run and the reads -/
section CRC
variable {g : am_G} {d : Nat} {ch : Option Nat} {S : am_S0} {n : Nat} {E : Nat → Nat → Option Nat} {k rt : Nat} {p : Nat → Option Nat}
/-- choose(algorithm, root) -/
theorem s_chooseNo (x y : Int32) (h : S 0 3 = 0 ∨ x < 0 ∨ ¬ x < 8) : AW g (d + 1) 0 0 29 0 (am_L0 29 [.ref 0, .int x, .int y]) [] (mem ch S) (am_is (some (.int 0)) (mem ch S)) := by
  refine am_aload_n rfl rfl rfl ?_
  refine am_get rfl rfl rfl ?_
  refine am_if_eq rfl (fun h2 => ?_) (fun h2 => ?_)
  · refine am_iconst rfl ?_
    refine am_ireturn rfl (fun _ => by decide) ⟨?_, rfl⟩
    rfl
  · refine am_iload_n rfl rfl ?_
    refine am_if_lt rfl (fun h4 => ?_) (fun h4 => ?_)
    · refine am_iconst rfl ?_
      refine am_ireturn rfl (fun _ => by decide) ⟨?_, rfl⟩
      rfl
    · refine am_iload_n rfl rfl ?_
      refine am_aload_n rfl rfl rfl ?_
      refine am_get rfl rfl rfl ?_
      refine am_alen3 rfl rfl ?_
      refine am_icmp_lt rfl (fun h9 => ?_) (fun h9 => ?_)
      · exact h.elim (fun q => absurd q h2) (fun q => q.elim (fun q => absurd q h4) (fun q => absurd h9 q))
      · refine am_iconst rfl ?_
        refine am_ireturn rfl (fun _ => by decide) ⟨?_, rfl⟩
        rfl
theorem s_chooseNo2 (hk : k < 8) (y : Int32) (h1 : ¬ S 0 3 = 0) (ht : tkb k S y = false) : AW g (d + 3) 0 0 29 0 (am_L0 29 [.ref 0, .int (nI k), .int y]) [] (mem ch S) (am_is (some (.int 0)) (mem ch S)) := by
  refine am_aload_n rfl rfl rfl ?_
  refine am_get rfl rfl rfl ?_
  refine am_if_eq rfl (fun h => absurd h h1) (fun _ => ?_)
  refine am_iload_n rfl rfl ?_
  refine am_if_lt rfl (fun h => absurd h (nI_pos (by omega))) (fun _ => ?_)
  refine am_iload_n rfl rfl ?_
  refine am_aload_n rfl rfl rfl ?_
  refine am_get rfl rfl rfl ?_
  refine am_alen3 rfl rfl ?_
  refine am_icmp_lt rfl (fun _ => ?_) (fun h => absurd (nI_lt hk (by decide)) h)
  refine am_aload_n rfl rfl rfl ?_
  refine am_get rfl rfl rfl ?_
  refine am_iload_n rfl rfl ?_
  refine am_aald rfl rfl (Or.inr rfl) rfl hk (by decide) (if_pos hk) ?_
  refine am_aload_n rfl rfl rfl ?_
  refine am_get rfl rfl rfl ?_
  refine am_get rfl rfl rfl ?_
  refine am_iload_n rfl rfl ?_
  refine d_takes (d := d + 1) hk y rfl ?_
  rw [ht]
  refine am_if_ne rfl (fun h => absurd rfl h) (fun _ => ?_)
  refine am_iconst rfl ?_
  refine am_ireturn rfl (fun _ => by decide) ⟨?_, rfl⟩
  rfl
def chs (k : Nat) (E : Nat → Nat → Option Nat) (n rt : Nat) (y : Int32) (S : am_S0) : am_S0 := stl (stA k E n rt (rst S y))
theorem NetIs.rst {y : Int32} (N : NetIs S n E) : NetIs (rst S y) n E := (N.up (k := 1) (by decide)).up (k := 27) (by decide)
theorem s_chooseYes (hk : k < 8) (N : NetIs S n E) (y : Int32) (h1 : ¬ S 0 3 = 0) (ht : tkb k S y = true) (hr : k = 1 ∨ k = 2 ∨ k = 3 ∨ k = 7 → rt < n ∧ y = nI rt) : AW g (d + 5) 0 0 29 0 (am_L0 29 [.ref 0, .int (nI k), .int y]) [] (mem ch S) (am_is (some (.int 1)) (mem (some k) (chs k E n rt y S))) := by
  refine am_aload_n rfl rfl rfl ?_
  refine am_get rfl rfl rfl ?_
  refine am_if_eq rfl (fun h => absurd h h1) (fun _ => ?_)
  refine am_iload_n rfl rfl ?_
  refine am_if_lt rfl (fun h => absurd h (nI_pos (by omega))) (fun _ => ?_)
  refine am_iload_n rfl rfl ?_
  refine am_aload_n rfl rfl rfl ?_
  refine am_get rfl rfl rfl ?_
  refine am_alen3 rfl rfl ?_
  refine am_icmp_lt rfl (fun _ => ?_) (fun h => absurd (nI_lt hk (by decide)) h)
  refine am_aload_n rfl rfl rfl ?_
  refine am_get rfl rfl rfl ?_
  refine am_iload_n rfl rfl ?_
  refine am_aald rfl rfl (Or.inr rfl) rfl hk (by decide) (if_pos hk) ?_
  refine am_aload_n rfl rfl rfl ?_
  refine am_get rfl rfl rfl ?_
  refine am_get rfl rfl rfl ?_
  refine am_iload_n rfl rfl ?_
  refine d_takes (d := d + 3) hk y rfl ?_
  rw [ht]
  refine am_if_ne rfl (fun _ => ?_) (fun h => absurd h (by decide))
  refine am_aload_n rfl rfl rfl ?_
  refine am_aload_n rfl rfl rfl ?_
  refine am_get rfl rfl rfl ?_
  refine am_iload_n rfl rfl ?_
  refine am_aald rfl rfl (Or.inr rfl) rfl hk (by decide) (if_pos hk) ?_
  refine am_put rfl rfl (Nat.le_of_ble_eq_true rfl) rfl ?_
  refine am_Meq (M' := mem (some k) S) rfl ?_
  refine am_aload_n rfl rfl rfl ?_
  refine am_get rfl rfl rfl ?_
  refine am_iload_n rfl rfl ?_
  refine am_Vx [.int y] rfl rfl rfl rfl rfl rfl (s_reset (d := d + 3) y) ?_
  refine am_aload_n rfl rfl rfl ?_
  refine am_get rfl rfl rfl ?_
  refine am_aload_n rfl rfl rfl ?_
  refine am_get rfl rfl rfl ?_
  refine d_start (k := k) (n := n) (E := E) (rt := rt) (d := d) hk N.rst hr rfl ?_
  refine am_aload_n rfl rfl rfl ?_
  refine am_get rfl rfl rfl ?_
  refine am_Vx [] rfl rfl rfl rfl rfl rfl (s_settle (d := d + 3)) ?_
  refine am_iconst rfl ?_
  refine am_ireturn rfl (fun _ => by decide) ⟨?_, rfl⟩
  rfl
/-- playRound() -/
def tic (S : am_S0) : am_S0 := am_up S 1 (upd (S 1) 6 (S 1 6 + 1))
def adl (S : am_S0) (x : Int32) : am_S0 := am_up S 1 (upd (S 1) 7 (S 1 7 + x))
def ply (k : Nat) (E : Nat → Nat → Option Nat) (n : Nat) (p : Nat → Option Nat) (S : am_S0) : am_S0 := stl (mrk (adl (chA k E n p (tic S)) (ltr k E n (tic S))) n)
theorem s_play (hk : k < 8) (N : NetIs S n E) (Es : ∀ u w, E u w = E w u) (R : RunIs S n k rt p) : AW g (d + 5) 0 0 67 0 (am_L0 67 [.ref 0]) [] (mem (some k) S) (am_is (some (.int (ltr k E n (tic S)))) (mem (some k) (ply k E n p S))) := by
  unfold ply
  have N1 : NetIs (tic S) n E := N.up (k := 1) (by decide)
  have R1 : RunIs (tic S) n k rt p := R.eq rfl rfl
  refine am_aload_n rfl rfl rfl ?_
  refine am_get rfl rfl rfl ?_
  refine am_dup rfl rfl ?_
  refine am_get rfl rfl rfl ?_
  refine am_iconst rfl ?_
  refine am_iadd rfl ?_
  refine am_put rfl rfl (Nat.le_of_ble_eq_true rfl) rfl ?_
  refine am_Meq (M' := mem (some k) (tic S)) rfl ?_
  generalize tic S = S1 at N1 R1 ⊢
  refine am_aload_n rfl rfl rfl ?_
  refine am_get rfl rfl rfl ?_
  refine am_aload_n rfl rfl rfl ?_
  refine am_get rfl rfl rfl ?_
  refine d_let (d := d) hk N1 rfl ?_
  refine am_istore_n rfl ?_
  refine am_aload_n rfl rfl rfl ?_
  refine am_get rfl rfl rfl ?_
  refine am_aload_n rfl rfl rfl ?_
  refine am_get rfl rfl rfl ?_
  refine d_chg (d := d) hk N1 Es R1 rfl ?_
  have N2 : NetIs (chA k E n p S1) n E := N1.ag (chA_ag k E n p S1)
  generalize chA k E n p S1 = S2 at N2 ⊢
  generalize ltr k E n S1 = x
  refine am_aload_n rfl rfl rfl ?_
  refine am_get rfl rfl rfl ?_
  refine am_dup rfl rfl ?_
  refine am_get rfl rfl rfl ?_
  refine am_iload_n rfl rfl ?_
  refine am_iadd rfl ?_
  refine am_put rfl rfl (Nat.le_of_ble_eq_true rfl) rfl ?_
  refine am_Meq (M' := mem (some k) (adl S2 x)) rfl ?_
  have N3 : NetIs (adl S2 x) n E := N2.up (k := 1) (by decide)
  refine am_aload_n rfl rfl rfl ?_
  refine am_get rfl rfl rfl ?_
  refine am_Vx [] rfl rfl rfl rfl rfl rfl (s_mark (d := d + 4) N3) ?_
  refine am_aload_n rfl rfl rfl ?_
  refine am_get rfl rfl rfl ?_
  refine am_Vx [] rfl rfl rfl rfl rfl rfl (s_settle (d := d + 3)) ?_
  refine am_iload_n rfl rfl ?_
  refine am_ireturn rfl (fun h => absurd h (by decide)) ⟨?_, rfl⟩
  rfl
/-- round() -/
theorem s_round0 : AW g d 0 0 54 0 (am_L0 54 [.ref 0]) [] (mem none S) (am_is (some (.int (-1))) (mem none S)) := by
  refine am_aload_n rfl rfl rfl ?_
  refine am_get rfl rfl rfl ?_
  refine am_ifnull_n rfl ?_
  refine am_iconst rfl ?_
  refine am_ireturn rfl (fun h => absurd h (by decide)) ⟨?_, rfl⟩
  rfl
theorem s_roundOver (hk : k < 8) (N : NetIs S n E) (R : RunIs S n k rt p) (ho : ovr k E n rt S = true) : AW g (d + 6) 0 0 54 0 (am_L0 54 [.ref 0]) [] (mem (some k) S) (am_is (some (.int (-1))) (mem (some k) S)) := by
  refine am_aload_n rfl rfl rfl ?_
  refine am_get rfl rfl rfl ?_
  refine am_ifnull_r rfl ?_
  refine am_aload_n rfl rfl rfl ?_
  refine am_get rfl rfl rfl ?_
  refine am_aload_n rfl rfl rfl ?_
  refine am_get rfl rfl rfl ?_
  refine d_over (d := d + 1) hk N R rfl ?_
  rw [ho]
  refine am_if_eq rfl (fun h => absurd h (by decide)) (fun _ => ?_)
  refine am_iconst rfl ?_
  refine am_ireturn rfl (fun h => absurd h (by decide)) ⟨?_, rfl⟩
  rfl
theorem s_roundPlay (hk : k < 8) (N : NetIs S n E) (Es : ∀ u w, E u w = E w u) (R : RunIs S n k rt p) (ho : ovr k E n rt S = false) : AW g (d + 6) 0 0 54 0 (am_L0 54 [.ref 0]) [] (mem (some k) S) (am_is (some (.int (ltr k E n (tic S)))) (mem (some k) (ply k E n p S))) := by
  refine am_aload_n rfl rfl rfl ?_
  refine am_get rfl rfl rfl ?_
  refine am_ifnull_r rfl ?_
  refine am_aload_n rfl rfl rfl ?_
  refine am_get rfl rfl rfl ?_
  refine am_aload_n rfl rfl rfl ?_
  refine am_get rfl rfl rfl ?_
  refine d_over (d := d + 1) hk N R rfl ?_
  rw [ho]
  refine am_if_eq rfl (fun _ => ?_) (fun h => absurd rfl h)
  refine am_aload_n rfl rfl rfl ?_
  refine am_Vx [] rfl rfl rfl rfl rfl rfl (s_play (d := d) hk N Es R) ?_
  refine am_ireturn rfl (fun h => absurd h (by decide)) ⟨?_, rfl⟩
  rfl
/-- finished() -/
theorem s_fin0 : AW g d 0 0 99 0 (am_L0 99 [.ref 0]) [] (mem none S) (am_is (some (.int 0)) (mem none S)) := by
  refine am_aload_n rfl rfl rfl ?_
  refine am_get rfl rfl rfl ?_
  refine am_ifnull_n rfl ?_
  refine am_iconst rfl ?_
  refine am_ireturn rfl (fun _ => by decide) ⟨?_, rfl⟩
  rfl
theorem s_fin (hk : k < 8) (N : NetIs S n E) (R : RunIs S n k rt p) : AW g (d + 6) 0 0 99 0 (am_L0 99 [.ref 0]) [] (mem (some k) S) (am_is (some (.int (bi (ovr k E n rt S)))) (mem (some k) S)) := by
  refine am_aload_n rfl rfl rfl ?_
  refine am_get rfl rfl rfl ?_
  refine am_ifnull_r rfl ?_
  refine am_aload_n rfl rfl rfl ?_
  refine am_get rfl rfl rfl ?_
  refine am_aload_n rfl rfl rfl ?_
  refine am_get rfl rfl rfl ?_
  refine d_over (d := d + 1) hk N R rfl ?_
  refine am_if_eq rfl (fun h8 => ?_) (fun h8 => ?_)
  · refine am_iconst rfl ?_
    refine am_ireturn rfl (fun _ => by decide) ⟨?_, rfl⟩
    first | (rw [bi_0 h8]; rfl) | (rw [bi_1 h8]; rfl)
  · refine am_iconst rfl ?_
    refine am_goto rfl ?_
    refine am_ireturn rfl (fun _ => by decide) ⟨?_, rfl⟩
    first | (rw [bi_0 h8]; rfl) | (rw [bi_1 h8]; rfl)
/-- rounds() -/
theorem s_rounds0 : AW g d 0 0 100 0 (am_L0 100 [.ref 0]) [] (mem none S) (am_is (some (.int (-1))) (mem none S)) := by
  refine am_aload_n rfl rfl rfl ?_
  refine am_get rfl rfl rfl ?_
  refine am_ifnonnull_n rfl ?_
  refine am_iconst rfl ?_
  refine am_goto rfl ?_
  refine am_ireturn rfl (fun h => absurd h (by decide)) ⟨?_, rfl⟩
  rfl
theorem s_rounds : AW g d 0 0 100 0 (am_L0 100 [.ref 0]) [] (mem (some k) S) (am_is (some (.int (S 1 6))) (mem (some k) S)) := by
  refine am_aload_n rfl rfl rfl ?_
  refine am_get rfl rfl rfl ?_
  refine am_ifnonnull_r rfl ?_
  refine am_aload_n rfl rfl rfl ?_
  refine am_get rfl rfl rfl ?_
  refine am_get rfl rfl rfl ?_
  refine am_ireturn rfl (fun h => absurd h (by decide)) ⟨?_, rfl⟩
  rfl
/-- letters() -/
theorem s_letters0 : AW g d 0 0 101 0 (am_L0 101 [.ref 0]) [] (mem none S) (am_is (some (.int (-1))) (mem none S)) := by
  refine am_aload_n rfl rfl rfl ?_
  refine am_get rfl rfl rfl ?_
  refine am_ifnonnull_n rfl ?_
  refine am_iconst rfl ?_
  refine am_goto rfl ?_
  refine am_ireturn rfl (fun h => absurd h (by decide)) ⟨?_, rfl⟩
  rfl
theorem s_letters : AW g d 0 0 101 0 (am_L0 101 [.ref 0]) [] (mem (some k) S) (am_is (some (.int (S 1 7))) (mem (some k) S)) := by
  refine am_aload_n rfl rfl rfl ?_
  refine am_get rfl rfl rfl ?_
  refine am_ifnonnull_r rfl ?_
  refine am_aload_n rfl rfl rfl ?_
  refine am_get rfl rfl rfl ?_
  refine am_get rfl rfl rfl ?_
  refine am_ireturn rfl (fun h => absurd h (by decide)) ⟨?_, rfl⟩
  rfl
/-- held(v, slot) -/
theorem s_held0 (x y : Int32) : AW g d 0 0 102 0 (am_L0 102 [.ref 0, .int x, .int y]) [] (mem none S) (am_is (some (.int (-2))) (mem none S)) := by
  refine am_aload_n rfl rfl rfl ?_
  refine am_get rfl rfl rfl ?_
  refine am_ifnull_n rfl ?_
  refine am_bipush rfl ?_
  refine am_ireturn rfl (fun h => absurd h (by decide)) ⟨?_, rfl⟩
  rfl
theorem s_heldNo (x y : Int32) (h : (decide (0 ≤ x) && decide (x < S 2 4)) = false ∨ y < 0 ∨ ¬ y < 3) : AW g (d + 1) 0 0 102 0 (am_L0 102 [.ref 0, .int x, .int y]) [] (mem (some k) S) (am_is (some (.int (-2))) (mem (some k) S)) := by
  refine am_aload_n rfl rfl rfl ?_
  refine am_get rfl rfl rfl ?_
  refine am_ifnull_r rfl ?_
  refine am_aload_n rfl rfl rfl ?_
  refine am_get rfl rfl rfl ?_
  refine am_get rfl rfl rfl ?_
  refine am_iload_n rfl rfl ?_
  refine am_Vx [.int x] rfl rfl rfl rfl rfl rfl (s_hasNode (d := d) x) ?_
  refine am_if_eq rfl (fun h8 => ?_) (fun h8 => ?_)
  · refine am_bipush rfl ?_
    refine am_ireturn rfl (fun h => absurd h (by decide)) ⟨?_, rfl⟩
    rfl
  · refine am_iload_n rfl rfl ?_
    refine am_if_lt rfl (fun h10 => ?_) (fun h10 => ?_)
    · refine am_bipush rfl ?_
      refine am_ireturn rfl (fun h => absurd h (by decide)) ⟨?_, rfl⟩
      rfl
    · refine am_iload_n rfl rfl ?_
      refine am_iconst rfl ?_
      refine am_icmp_lt rfl (fun h13 => ?_) (fun h13 => ?_)
      · exact h.elim (fun q => absurd (q.symm.trans (bi_1 h8)) (by decide)) (fun q => q.elim (fun q => absurd q h10) (fun q => absurd h13 q))
      · refine am_bipush rfl ?_
        refine am_ireturn rfl (fun h => absurd h (by decide)) ⟨?_, rfl⟩
        rfl
theorem s_held (hN : S 2 4 = nI n) (hn : n ≤ 12) (v s : Nat) (hv : v < n) (hs : s < 3) : AW g (d + 1) 0 0 102 0 (am_L0 102 [.ref 0, .int (nI v), .int (nI s)]) [] (mem (some k) S) (am_is (some (.int (S (20 + s) v))) (mem (some k) S)) := by
  refine am_aload_n rfl rfl rfl ?_
  refine am_get rfl rfl rfl ?_
  refine am_ifnull_r rfl ?_
  refine am_aload_n rfl rfl rfl ?_
  refine am_get rfl rfl rfl ?_
  refine am_get rfl rfl rfl ?_
  refine am_iload_n rfl rfl ?_
  refine am_Vx [.int (nI v)] rfl rfl rfl rfl rfl rfl (s_hasNode (d := d) (nI v)) ?_
  rw [hasN_to hN hn hv]
  refine am_if_eq rfl (fun h => absurd h (by decide)) (fun _ => ?_)
  refine am_iload_n rfl rfl ?_
  refine am_if_lt rfl (fun h => absurd h (nI_pos (by omega))) (fun _ => ?_)
  refine am_iload_n rfl rfl ?_
  refine am_iconst rfl ?_
  refine am_icmp_lt rfl (fun _ => ?_) (fun h => absurd (nI_lt hs (by decide)) h)
  refine am_aload_n rfl rfl rfl ?_
  refine am_get rfl rfl rfl ?_
  refine am_get rfl rfl rfl ?_
  refine am_iload_n rfl rfl ?_
  refine am_aald rfl rfl (Or.inl rfl) rfl hs (by decide) (if_pos hs) ?_
  refine am_iload_n rfl rfl ?_
  refine am_iald rfl (mem_he s hs) rfl (by omega) (by decide) ?_
  refine am_ireturn rfl (fun h => absurd h (by decide)) ⟨?_, rfl⟩
  rfl
/-- run(limit) -/
theorem NetIs.stl (N : NetIs S n E) : NetIs (stl S) n E := ((N.up (k := 24) (by decide)).up (k := 25) (by decide)).up (k := 26) (by decide)
theorem NetIs.ply (N : NetIs S n E) : NetIs (ply k E n p S) n E := (((((N.up (k := 1) (by decide)).ag (chA_ag k E n p _)).up (k := 1) (by decide)).up (k := 27) (by decide))).stl
theorem ply_28 : ply k E n p S 28 = S 28 := by
  show chA k E n p (tic S) 28 = _
  rw [chA_ag k E n p (tic S) 28 (by decide) (by decide) (by decide)]
  rfl
theorem ply_15 : ply k E n p S 1 5 = S 1 5 := by
  show chA k E n p (tic S) 1 5 = _
  rw [chA_ag k E n p (tic S) 1 (by decide) (by decide) (by decide)]
  rfl
theorem RunIs.ply (R : RunIs S n k rt p) : RunIs (ply k E n p S) n k rt p := R.eq ply_28 ply_15
theorem plys (N : NetIs S n E) (R : RunIs S n k rt p) : ∀ j, NetIs (itr (fun _ => ply k E n p) j S) n E ∧ RunIs (itr (fun _ => ply k E n p) j S) n k rt p
  | 0 => ⟨N, R⟩
  | j + 1 => ⟨(plys N R j).1.ply, (plys N R j).2.ply⟩
theorem s_run0 (x : Int32) : AW g d 0 0 97 0 (am_L0 97 [.ref 0, .int x]) [] (mem none S) (am_is (some (.int (-1))) (mem none S)) := by
  refine am_aload_n rfl rfl rfl ?_
  refine am_get rfl rfl rfl ?_
  refine am_ifnull_n rfl ?_
  refine am_iconst rfl ?_
  refine am_ireturn rfl (fun h => absurd h (by decide)) ⟨?_, rfl⟩
  rfl
theorem s_runNeg (x : Int32) (hx : x < 0) : AW g d 0 0 97 0 (am_L0 97 [.ref 0, .int x]) [] (mem (some k) S) (am_is (some (.int (-1))) (mem (some k) S)) := by
  refine am_aload_n rfl rfl rfl ?_
  refine am_get rfl rfl rfl ?_
  refine am_ifnull_r rfl ?_
  refine am_iload_n rfl rfl ?_
  refine am_if_ge rfl (fun h => absurd hx (Int32.not_lt.mpr h)) (fun _ => ?_)
  refine am_iconst rfl ?_
  refine am_ireturn rfl (fun h => absurd h (by decide)) ⟨?_, rfl⟩
  rfl
theorem min_nI {a b : Nat} (ha : a < 2 ^ 31) (hb : b < 2 ^ 31) : (if nI b < nI a then nI b else nI a) = nI (min a b) := by
  by_cases h : b < a
  · rw [if_pos (nI_lt h ha), Nat.min_eq_right (by omega)]
  · rw [if_neg (nI_nlt (by omega) hb), Nat.min_eq_left (by omega)]
/-- how many rounds: up to b, until it is over -/
def RunTo (k : Nat) (E : Nat → Nat → Option Nat) (n rt : Nat) (p : Nat → Option Nat) (S : am_S0) (b j : Nat) : Prop := j ≤ b ∧ (j = b ∨ ovr k E n rt (itr (fun _ => ply k E n p) j S) = true) ∧ ∀ i, i < j → ovr k E n rt (itr (fun _ => ply k E n p) i S) = false
theorem s_run (hk : k < 8) (N : NetIs S n E) (Es : ∀ u w, E u w = E w u) (R : RunIs S n k rt p) (lim : Nat) (hl : lim < 2 ^ 31) : AW g (d + 6) 0 0 97 0 (am_L0 97 [.ref 0, .int (nI lim)]) [] (mem (some k) S) (fun r M' => ∃ j, RunTo k E n rt p S (min lim 1000) j ∧ r = some (.int (nI j)) ∧ M' = mem (some k) (itr (fun _ => ply k E n p) j S)) := by
  have hb : min lim 1000 ≤ 1000 := Nat.min_le_right _ _
  refine am_aload_n rfl rfl rfl ?_
  refine am_get rfl rfl rfl ?_
  refine am_ifnull_r rfl ?_
  refine am_iload_n rfl rfl ?_
  refine am_if_ge rfl (fun _ => ?_) (fun h => absurd (nI_pos' hl) h)
  refine am_iload_n rfl rfl ?_
  refine am_sipush rfl ?_
  refine am_min rfl (by decide) ?_
  refine am_istore_n rfl ?_
  refine am_iconst rfl ?_
  refine am_istore_n rfl ?_
  rw [show (1000 : Int32) = nI 1000 from rfl, min_nI hl (by decide)]
  generalize min lim 1000 = B at hb ⊢
  show AW g (d + 6) 0 0 97 13 [some (.ref 0), some (.int (nI lim)), some (.int (nI B)), some (.int (nI 0))] [] (mem (some k) (itr (fun _ => ply k E n p) 0 S)) _
  refine am_forI (B) (fun v => [some (.ref 0), some (.int (nI lim)), some (.int (nI B)), some (.int (nI v))]) (fun v => mem (some k) (itr (fun _ => ply k E n p) v S)) (fun v => ∀ i, i < v → ovr k E n rt (itr (fun _ => ply k E n p) i S) = false) (fun v hv hi k => ?_) (fun hi => ?_) B 0 (by omega) (fun i h => absurd h (Nat.not_lt_zero _))
  · refine am_iload_n rfl rfl ?_
    refine am_iload_n rfl rfl ?_
    refine am_icmp_ge rfl (fun h => absurd h (nI_ge hv (by omega))) (fun _ => ?_)
    refine am_aload_n rfl rfl rfl ?_
    refine am_get rfl rfl rfl ?_
    refine am_aload_n rfl rfl rfl ?_
    refine am_get rfl rfl rfl ?_
    refine d_over (d := d + 1) hk (plys N R v).1 (plys N R v).2 rfl ?_
    refine am_if_ne rfl (fun h21 => ?_) (fun h21 => ?_)
    · refine am_iload_n rfl rfl ?_
      exact am_ireturn rfl (fun h => absurd h (by decide)) ⟨v, ⟨by omega, Or.inr (bi_1 h21), hi⟩, rfl, rfl⟩
    · refine am_aload_n rfl rfl rfl ?_
      refine am_Vx [] rfl rfl rfl rfl rfl rfl (s_play (d := d) hk (plys N R v).1 Es (plys N R v).2) ?_
      refine am_pop rfl rfl ?_
      refine am_iinc rfl rfl ?_
      refine am_goto rfl ?_
      have k := k (fun i hi2 => by
        by_cases e : i = v
        · rw [e]; exact bi_0 h21
        · exact hi i (by omega))
      rw [itr_s] at k
      simp only [nI_succ] at k
      exact k
  · refine am_iload_n rfl rfl ?_
    refine am_iload_n rfl rfl ?_
    refine am_icmp_ge rfl (fun _ => ?_) (fun h => absurd (nI_le (Nat.le_refl _) (by omega)) h)
    refine am_iload_n rfl rfl ?_
    exact am_ireturn rfl (fun h => absurd h (by decide)) ⟨B, ⟨Nat.le_refl _, Or.inl rfl, hi⟩, rfl, rfl⟩
end CRC
end
section
/-! a write into a cell that was written before -/
section MSET
variable {ch : Option Nat} {S : am_S0} {f f2 : Nat → Int32}
theorem ms43 : (mem ch (am_up S 43 f)).set 43 (.inl (0, 144, .inl f2)) = mem ch (am_up S 43 f2) := by
  show mem ch (am_up (am_up S 43 f) 43 f2) = _
  rw [am_up_up]
theorem mu43 : (mem ch S).set 43 (.inl (0, 144, .inl f2)) = mem ch (am_up S 43 f2) := rfl
theorem ms44 : (mem ch (am_up S 44 f)).set 44 (.inl (0, 12, .inl f2)) = mem ch (am_up S 44 f2) := by
  show mem ch (am_up (am_up S 44 f) 44 f2) = _
  rw [am_up_up]
theorem mu44 : (mem ch S).set 44 (.inl (0, 12, .inl f2)) = mem ch (am_up S 44 f2) := rfl
theorem ms45 : (mem ch (am_up S 45 f)).set 45 (.inl (0, 12, .inl f2)) = mem ch (am_up S 45 f2) := by
  show mem ch (am_up (am_up S 45 f) 45 f2) = _
  rw [am_up_up]
theorem mu45 : (mem ch S).set 45 (.inl (0, 12, .inl f2)) = mem ch (am_up S 45 f2) := rfl
theorem ms46 : (mem ch (am_up S 46 f)).set 46 (.inl (0, 12, .inl f2)) = mem ch (am_up S 46 f2) := by
  show mem ch (am_up (am_up S 46 f) 46 f2) = _
  rw [am_up_up]
theorem mu46 : (mem ch S).set 46 (.inl (0, 12, .inl f2)) = mem ch (am_up S 46 f2) := rfl
theorem ms47 : (mem ch (am_up S 47 f)).set 47 (.inl (0, 12, .inl f2)) = mem ch (am_up S 47 f2) := by
  show mem ch (am_up (am_up S 47 f) 47 f2) = _
  rw [am_up_up]
theorem mu47 : (mem ch S).set 47 (.inl (0, 12, .inl f2)) = mem ch (am_up S 47 f2) := rfl
theorem ms48 : (mem ch (am_up S 48 f)).set 48 (.inl (0, 168, .inl f2)) = mem ch (am_up S 48 f2) := by
  show mem ch (am_up (am_up S 48 f) 48 f2) = _
  rw [am_up_up]
theorem mu48 : (mem ch S).set 48 (.inl (0, 168, .inl f2)) = mem ch (am_up S 48 f2) := rfl
theorem ms49 : (mem ch (am_up S 49 f)).set 49 (.inl (0, 12, .inl f2)) = mem ch (am_up S 49 f2) := by
  show mem ch (am_up (am_up S 49 f) 49 f2) = _
  rw [am_up_up]
theorem mu49 : (mem ch S).set 49 (.inl (0, 12, .inl f2)) = mem ch (am_up S 49 f2) := rfl
theorem ms50 : (mem ch (am_up S 50 f)).set 50 (.inl (0, 12, .inl f2)) = mem ch (am_up S 50 f2) := by
  show mem ch (am_up (am_up S 50 f) 50 f2) = _
  rw [am_up_up]
theorem mu50 : (mem ch S).set 50 (.inl (0, 12, .inl f2)) = mem ch (am_up S 50 f2) := rfl
theorem ms42 : (mem ch (am_up S 42 f)).set 42 (.inl (0, 12, .inl f2)) = mem ch (am_up S 42 f2) := by
  show mem ch (am_up (am_up S 42 f) 42 f2) = _
  rw [am_up_up]
theorem mu42 : (mem ch S).set 42 (.inl (0, 12, .inl f2)) = mem ch (am_up S 42 f2) := rfl
end MSET
end
section
/-! the model: the net -/
/-- the model's net: n nodes, q edges, from fa to fb -/
def MN (S : am_S0) (n q : Nat) (fa fb : Nat → Nat) : Prop := S 38 0 = nI n ∧ n ≤ 12 ∧ S 38 1 = nI q ∧ q ≤ 24 ∧ ∀ e, e < q → S 39 e = nI (fa e) ∧ S 40 e = nI (fb e) ∧ fa e < 12 ∧ fb e < 12
theorem MN.up {S : am_S0} {n q : Nat} {fa fb : Nat → Nat} {k : Nat} {f : Nat → Int32} (h : MN S n q fa fb) (hk : k ≠ 38 ∧ k ≠ 39 ∧ k ≠ 40) : MN (am_up S k f) n q fa fb := by
  unfold MN
  rw [am_up_ne _ _ (Ne.symm hk.1), am_up_ne _ _ (Ne.symm hk.2.1), am_up_ne _ _ (Ne.symm hk.2.2)]
  exact h
theorem MN.eq {S S1 : am_S0} {n q : Nat} {fa fb : Nat → Nat} (h : MN S n q fa fb) (h0 : S1 38 0 = S 38 0) (h1 : S1 38 1 = S 38 1) (h2 : S1 39 = S 39) (h3 : S1 40 = S 40) : MN S1 n q fa fb := by
  unfold MN
  rw [h0, h1, h2, h3]
  exact h
theorem ed_lt {S : am_S0} {n q v : Nat} {fa fb : Nat → Nat} (N : MN S n q fa fb) (hv : v < q) : ¬ S 38 1 ≤ nI v := by rw [N.2.2.1]; exact nI_ge hv (by have := N.2.2.2.1; omega)
theorem ed_ge {S : am_S0} {n q : Nat} {fa fb : Nat → Nat} (N : MN S n q fa fb) : S 38 1 ≤ nI q := by rw [N.2.2.1]; exact nI_le (Nat.le_refl _) (by have := N.2.2.2.1; omega)
theorem ix12 (a b : Nat) : (12 : Int32) * nI a + nI b = nI (12 * a + b) := by
  rw [show (12 : Int32) = nI 12 from rfl, pk_mul, nI_add]
/-- the number of the edge between u and w -/
def bt (fa fb : Nat → Nat) (q u w : Nat) : Option Nat := fst? (fun e => (decide (fa e = u) && decide (fb e = w)) || (decide (fa e = w) && decide (fb e = u))) q
section MNET
variable {g : am_G} {d : Nat} {ch : Option Nat} {S : am_S0} {n q : Nat} {fa fb : Nat → Nat}
/-- m_isNode -/
theorem m_isNode (x : Int32) : AW g d 0 0 107 0 (am_L0 107 [.ref 38, .int x]) [] (mem ch S) (am_is (some (.int (bi (decide (0 ≤ x) && decide (x < S 38 0))))) (mem ch S)) := by
  refine am_iload_n rfl rfl ?_
  refine am_if_lt rfl (fun h1 => ?_) (fun h1 => ?_)
  · refine am_iconst rfl ?_
    refine am_ireturn rfl (fun _ => by decide) ⟨?_, rfl⟩
    first | rw [decide_eq_true (Int32.not_lt.mp h1), decide_eq_true (Int32.not_le.mp h5)]; rfl | rw [decide_eq_false (fun q => absurd q (Int32.not_lt.mpr h5)), Bool.and_false]; rfl | rw [decide_eq_false (fun q => absurd h1 (Int32.not_lt.mpr q)), Bool.false_and]; rfl
  · refine am_iload_n rfl rfl ?_
    refine am_aload_n rfl rfl rfl ?_
    refine am_get rfl rfl rfl ?_
    refine am_icmp_ge rfl (fun h5 => ?_) (fun h5 => ?_)
    · refine am_iconst rfl ?_
      refine am_ireturn rfl (fun _ => by decide) ⟨?_, rfl⟩
      first | rw [decide_eq_true (Int32.not_lt.mp h1), decide_eq_true (Int32.not_le.mp h5)]; rfl | rw [decide_eq_false (fun q => absurd q (Int32.not_lt.mpr h5)), Bool.and_false]; rfl | rw [decide_eq_false (fun q => absurd h1 (Int32.not_lt.mpr q)), Bool.false_and]; rfl
    · refine am_iconst rfl ?_
      refine am_goto rfl ?_
      refine am_ireturn rfl (fun _ => by decide) ⟨?_, rfl⟩
      first | rw [decide_eq_true (Int32.not_lt.mp h1), decide_eq_true (Int32.not_le.mp h5)]; rfl | rw [decide_eq_false (fun q => absurd q (Int32.not_lt.mpr h5)), Bool.and_false]; rfl | rw [decide_eq_false (fun q => absurd h1 (Int32.not_lt.mpr q)), Bool.false_and]; rfl
def mch (S : am_S0) : am_S0 := am_up S 38 (upd (upd (S 38) 6 0) 8 (-1))
/-- m_change -/
theorem m_change  : AW g d 0 0 105 0 (am_L0 105 [.ref 38]) [] (mem ch S) (am_is none (mem ch (mch S))) := by
  refine am_aload_n rfl rfl rfl ?_
  refine am_iconst rfl ?_
  refine am_put rfl rfl (Nat.le_of_ble_eq_true rfl) rfl ?_
  refine am_aload_n rfl rfl rfl ?_
  refine am_iconst rfl ?_
  refine am_put rfl rfl (Nat.le_of_ble_eq_true rfl) rfl ?_
  exact am_return rfl ⟨rfl, rfl⟩
theorem bt_lt {fa fb : Nat → Nat} {q u w e : Nat} (h : bt fa fb q u w = some e) : e < q := (fst?_lt h).1
/-- m_between -/
theorem m_between (N : MN S n q fa fb) (u w : Nat) (hu : u < 12) (hw : w < 12) : AW g d 0 0 109 0 (am_L0 109 [.ref 38, .int (nI u), .int (nI w)]) [] (mem ch S) (am_is (some (.int (em (bt fa fb q u w)))) (mem ch S)) := by
  refine am_iconst rfl ?_
  refine am_istore_n rfl ?_
  show AW g d 0 0 109 2 [some (.ref 38), some (.int (nI u)), some (.int (nI w)), some (.int (nI 0))] [] (mem ch S) _
  refine am_forI (q) (fun v => [some (.ref 38), some (.int (nI u)), some (.int (nI w)), some (.int (nI v))]) (fun v => mem ch S) (fun v => ∀ e, e < v → ((decide (fa e = u) && decide (fb e = w)) || (decide (fa e = w) && decide (fb e = u))) = false) (fun v hv hi k => ?_) (fun hi => ?_) q 0 (by omega) (fun e h => absurd h (Nat.not_lt_zero _))
  · obtain ⟨e1, e2, l1, l2⟩ := N.2.2.2.2 v hv
    have hq := N.2.2.2.1
    refine am_iload_n rfl rfl ?_
    refine am_aload_n rfl rfl rfl ?_
    refine am_get rfl rfl rfl ?_
    refine am_icmp_ge rfl (fun h => absurd h (ed_lt N hv)) (fun _ => ?_)
    refine am_aload_n rfl rfl rfl ?_
    refine am_get rfl rfl rfl ?_
    refine am_iload_n rfl rfl ?_
    refine am_iald rfl rfl rfl (by omega) (by decide) ?_
    rw [e1]
    refine am_iload_n rfl rfl ?_
    refine am_icmp_ne rfl (fun h11 => ?_) (fun h11 => ?_)
    · refine am_aload_n rfl rfl rfl ?_
      refine am_get rfl rfl rfl ?_
      refine am_iload_n rfl rfl ?_
      refine am_iald rfl rfl rfl (by omega) (by decide) ?_
      rw [e1]
      refine am_iload_n rfl rfl ?_
      refine am_icmp_ne rfl (fun h23 => ?_) (fun h23 => ?_)
      · refine am_iinc rfl rfl ?_
        refine am_goto rfl ?_
        have k := k (fun e he => by
          by_cases e9 : e = v
          · subst e9
            first
              | (rw [nI_eq (by omega) (by omega)] at h11 h23; rw [decide_eq_false h11, decide_eq_false h23]; rfl)
              | (rw [nI_eq (by omega) (by omega)] at h11 h29; rw [decide_eq_false h11, decide_eq_false h29, Bool.and_false]; rfl)
              | (rw [nI_eq (by omega) (by omega)] at h17 h23; rw [decide_eq_false h17, decide_eq_false h23, Bool.and_false]; rfl)
              | (rw [nI_eq (by omega) (by omega)] at h17 h29; rw [decide_eq_false h17, decide_eq_false h29, Bool.and_false, Bool.and_false]; rfl)
          · exact hi e (by omega))
        simp only [nI_succ] at k
        exact k
      · refine am_aload_n rfl rfl rfl ?_
        refine am_get rfl rfl rfl ?_
        refine am_iload_n rfl rfl ?_
        refine am_iald rfl rfl rfl (by omega) (by decide) ?_
        rw [e2]
        refine am_iload_n rfl rfl ?_
        refine am_icmp_ne rfl (fun h29 => ?_) (fun h29 => ?_)
        · refine am_iinc rfl rfl ?_
          refine am_goto rfl ?_
          have k := k (fun e he => by
            by_cases e9 : e = v
            · subst e9
              first
                | (rw [nI_eq (by omega) (by omega)] at h11 h23; rw [decide_eq_false h11, decide_eq_false h23]; rfl)
                | (rw [nI_eq (by omega) (by omega)] at h11 h29; rw [decide_eq_false h11, decide_eq_false h29, Bool.and_false]; rfl)
                | (rw [nI_eq (by omega) (by omega)] at h17 h23; rw [decide_eq_false h17, decide_eq_false h23, Bool.and_false]; rfl)
                | (rw [nI_eq (by omega) (by omega)] at h17 h29; rw [decide_eq_false h17, decide_eq_false h29, Bool.and_false, Bool.and_false]; rfl)
            · exact hi e (by omega))
          simp only [nI_succ] at k
          exact k
        · refine am_iload_n rfl rfl ?_
          refine am_ireturn rfl (fun h => absurd h (by decide)) ⟨?_, rfl⟩
          unfold bt
          rw [fst?_some (v := v) ?_ hi hv]
          · rfl
          · first
              | (rw [nI_eq (by omega) (by omega)] at h11 h17; rw [decide_eq_true h11, decide_eq_true h17]; rfl)
              | (rw [nI_eq (by omega) (by omega)] at h23 h29; rw [decide_eq_true h23, decide_eq_true h29, Bool.and_self, Bool.or_true])
    · refine am_aload_n rfl rfl rfl ?_
      refine am_get rfl rfl rfl ?_
      refine am_iload_n rfl rfl ?_
      refine am_iald rfl rfl rfl (by omega) (by decide) ?_
      rw [e2]
      refine am_iload_n rfl rfl ?_
      refine am_icmp_eq rfl (fun h17 => ?_) (fun h17 => ?_)
      · refine am_iload_n rfl rfl ?_
        refine am_ireturn rfl (fun h => absurd h (by decide)) ⟨?_, rfl⟩
        unfold bt
        rw [fst?_some (v := v) ?_ hi hv]
        · rfl
        · first
            | (rw [nI_eq (by omega) (by omega)] at h11 h17; rw [decide_eq_true h11, decide_eq_true h17]; rfl)
            | (rw [nI_eq (by omega) (by omega)] at h23 h29; rw [decide_eq_true h23, decide_eq_true h29, Bool.and_self, Bool.or_true])
      · refine am_aload_n rfl rfl rfl ?_
        refine am_get rfl rfl rfl ?_
        refine am_iload_n rfl rfl ?_
        refine am_iald rfl rfl rfl (by omega) (by decide) ?_
        rw [e1]
        refine am_iload_n rfl rfl ?_
        refine am_icmp_ne rfl (fun h23 => ?_) (fun h23 => ?_)
        · refine am_iinc rfl rfl ?_
          refine am_goto rfl ?_
          have k := k (fun e he => by
            by_cases e9 : e = v
            · subst e9
              first
                | (rw [nI_eq (by omega) (by omega)] at h11 h23; rw [decide_eq_false h11, decide_eq_false h23]; rfl)
                | (rw [nI_eq (by omega) (by omega)] at h11 h29; rw [decide_eq_false h11, decide_eq_false h29, Bool.and_false]; rfl)
                | (rw [nI_eq (by omega) (by omega)] at h17 h23; rw [decide_eq_false h17, decide_eq_false h23, Bool.and_false]; rfl)
                | (rw [nI_eq (by omega) (by omega)] at h17 h29; rw [decide_eq_false h17, decide_eq_false h29, Bool.and_false, Bool.and_false]; rfl)
            · exact hi e (by omega))
          simp only [nI_succ] at k
          exact k
        · refine am_aload_n rfl rfl rfl ?_
          refine am_get rfl rfl rfl ?_
          refine am_iload_n rfl rfl ?_
          refine am_iald rfl rfl rfl (by omega) (by decide) ?_
          rw [e2]
          refine am_iload_n rfl rfl ?_
          refine am_icmp_ne rfl (fun h29 => ?_) (fun h29 => ?_)
          · refine am_iinc rfl rfl ?_
            refine am_goto rfl ?_
            have k := k (fun e he => by
              by_cases e9 : e = v
              · subst e9
                first
                  | (rw [nI_eq (by omega) (by omega)] at h11 h23; rw [decide_eq_false h11, decide_eq_false h23]; rfl)
                  | (rw [nI_eq (by omega) (by omega)] at h11 h29; rw [decide_eq_false h11, decide_eq_false h29, Bool.and_false]; rfl)
                  | (rw [nI_eq (by omega) (by omega)] at h17 h23; rw [decide_eq_false h17, decide_eq_false h23, Bool.and_false]; rfl)
                  | (rw [nI_eq (by omega) (by omega)] at h17 h29; rw [decide_eq_false h17, decide_eq_false h29, Bool.and_false, Bool.and_false]; rfl)
              · exact hi e (by omega))
            simp only [nI_succ] at k
            exact k
          · refine am_iload_n rfl rfl ?_
            refine am_ireturn rfl (fun h => absurd h (by decide)) ⟨?_, rfl⟩
            unfold bt
            rw [fst?_some (v := v) ?_ hi hv]
            · rfl
            · first
                | (rw [nI_eq (by omega) (by omega)] at h11 h17; rw [decide_eq_true h11, decide_eq_true h17]; rfl)
                | (rw [nI_eq (by omega) (by omega)] at h23 h29; rw [decide_eq_true h23, decide_eq_true h29, Bool.and_self, Bool.or_true])
  · refine am_iload_n rfl rfl ?_
    refine am_aload_n rfl rfl rfl ?_
    refine am_get rfl rfl rfl ?_
    refine am_icmp_ge rfl (fun _ => ?_) (fun h => absurd (ed_ge N) h)
    refine am_iconst rfl ?_
    refine am_ireturn rfl (fun h => absurd h (by decide)) ⟨?_, rfl⟩
    unfold bt
    rw [fst?_none hi]
    rfl
theorem em_neg {x : Option Nat} (h : ∀ e, x = some e → e < 24) : (em x < 0) ↔ x = none := by
  cases x with
  | none => exact ⟨fun _ => rfl, fun _ => by decide⟩
  | some e => exact ⟨fun q => absurd q (nI_pos (by have := h e rfl; omega)), fun q => by cases q⟩
/-- m_areN -/
theorem m_areN (N : MN S n q fa fb) (u w : Nat) (hu : u < 12) (hw : w < 12) : AW g (d + 1) 0 0 108 0 (am_L0 108 [.ref 38, .int (nI u), .int (nI w)]) [] (mem ch S) (am_is (some (.int (bi (bt fa fb q u w).isSome))) (mem ch S)) := by
  refine am_aload_n rfl rfl rfl ?_
  refine am_iload_n rfl rfl ?_
  refine am_iload_n rfl rfl ?_
  refine am_Vx [.int (nI u), .int (nI w)] rfl rfl rfl rfl rfl rfl (m_between (d := d) N u w hu hw) ?_
  refine am_if_lt rfl (fun h4 => ?_) (fun h4 => ?_)
  · refine am_iconst rfl ?_
    refine am_ireturn rfl (fun _ => by decide) ⟨?_, rfl⟩
    have hb : ∀ e, bt fa fb q u w = some e → e < 24 := fun e he => by have := bt_lt he; have := N.2.2.2.1; omega
    first
      | (rw [(em_neg hb).mp h4]; rfl)
      | (rw [Option.isSome_iff_ne_none.mpr (fun e => h4 ((em_neg hb).mpr e))]; rfl)
  · refine am_iconst rfl ?_
    refine am_goto rfl ?_
    refine am_ireturn rfl (fun _ => by decide) ⟨?_, rfl⟩
    have hb : ∀ e, bt fa fb q u w = some e → e < 24 := fun e he => by have := bt_lt he; have := N.2.2.2.1; omega
    first
      | (rw [(em_neg hb).mp h4]; rfl)
      | (rw [Option.isSome_iff_ne_none.mpr (fun e => h4 ((em_neg hb).mpr e))]; rfl)
/-- m_degree -/
theorem m_degree (N : MN S n q fa fb) (x : Nat) (hx : x < 12) : AW g (d + 2) 0 0 130 0 (am_L0 130 [.ref 38, .int (nI x)]) [] (mem ch S) (am_is (some (.int (nI (cnt (fun u => (bt fa fb q u x).isSome) n)))) (mem ch S)) := by
  have hn := N.2.1
  refine am_iconst rfl ?_
  refine am_istore_n rfl ?_
  refine am_iconst rfl ?_
  refine am_istore_n rfl ?_
  show AW g (d + 2) 0 0 130 4 [some (.ref 38), some (.int (nI x)), some (.int (nI (cnt (fun u => (bt fa fb q u x).isSome) 0))), some (.int (nI 0))] [] (mem ch S) _
  refine am_for (n) (fun v => [some (.ref 38), some (.int (nI x)), some (.int (nI (cnt (fun u => (bt fa fb q u x).isSome) v))), some (.int (nI v))]) (fun v => mem ch S) (fun v hv k => ?_) ?_ n 0 (by omega)
  · refine am_iload_n rfl rfl ?_
    refine am_aload_n rfl rfl rfl ?_
    refine am_get rfl rfl rfl ?_
    refine am_icmp_ge rfl (fun h => absurd h (nm_lt N.1 N.2.1 hv)) (fun _ => ?_)
    refine am_aload_n rfl rfl rfl ?_
    refine am_iload_n rfl rfl ?_
    refine am_iload_n rfl rfl ?_
    refine am_Vx [.int (nI v), .int (nI x)] rfl rfl rfl rfl rfl rfl (m_areN (d := d) N v x (by omega) hx) ?_
    refine am_if_eq rfl (fun h12 => ?_) (fun h12 => ?_)
    · refine am_iload_n rfl rfl ?_
      refine am_istore_n rfl ?_
      refine am_iinc rfl rfl ?_
      refine am_goto rfl ?_
      first
        | (simp only [cnt, bi_0 h12, cond_false, nI_succ] at k; exact k)
        | (simp only [cnt, bi_1 h12, cond_true, nI_succ] at k; exact k)
    · refine am_iload_n rfl rfl ?_
      refine am_iconst rfl ?_
      refine am_iadd rfl ?_
      refine am_goto rfl ?_
      refine am_istore_n rfl ?_
      refine am_iinc rfl rfl ?_
      refine am_goto rfl ?_
      first
        | (simp only [cnt, bi_0 h12, cond_false, nI_succ] at k; exact k)
        | (simp only [cnt, bi_1 h12, cond_true, nI_succ] at k; exact k)
  · refine am_iload_n rfl rfl ?_
    refine am_aload_n rfl rfl rfl ?_
    refine am_get rfl rfl rfl ?_
    refine am_icmp_ge rfl (fun _ => ?_) (fun h => absurd (nm_ge N.1 N.2.1) h)
    refine am_iload_n rfl rfl ?_
    refine am_ireturn rfl (fun h => absurd h (by decide)) ⟨?_, rfl⟩
    rfl
/-- m_far -/
theorem m_far (u w : Nat) (hu : u < 12) (hw : w < 12) : AW g d 0 0 116 0 (am_L0 116 [.ref 38, .int (nI u), .int (nI w)]) [] (mem ch S) (am_is (some (.int (S 43 (12 * u + w)))) (mem ch S)) := by
  refine am_aload_n rfl rfl rfl ?_
  refine am_get rfl rfl rfl ?_
  refine am_bipush rfl ?_
  refine am_iload_n rfl rfl ?_
  refine am_imul rfl ?_
  refine am_iload_n rfl rfl ?_
  refine am_iadd rfl ?_
  refine am_iald rfl rfl (ix12 _ _) (by omega) (by decide) ?_
  refine am_ireturn rfl (fun h => absurd h (by decide)) ⟨?_, rfl⟩
  rfl
def mnr (fa fb : Nat → Nat) (q n : Nat) (f : Nat → Int32) (x t : Nat) : Option Nat := fst? (fun u => (bt fa fb q u x).isSome && decide (f (12 * u + t) = f (12 * x + t) - 1)) n
/-- m_nearer -/
theorem m_nearer (N : MN S n q fa fb) (x t : Nat) (hx : x < 12) (ht : t < 12) : AW g (d + 2) 0 0 115 0 (am_L0 115 [.ref 38, .int (nI x), .int (nI t)]) [] (mem ch S) (am_is (some (.int (em (mnr fa fb q n (S 43) x t)))) (mem ch S)) := by
  have hn := N.2.1
  unfold mnr
  refine am_iconst rfl ?_
  refine am_istore_n rfl ?_
  show AW g (d + 2) 0 0 115 2 [some (.ref 38), some (.int (nI x)), some (.int (nI t)), some (.int (nI 0))] [] (mem ch S) _
  refine am_forI (n) (fun v => [some (.ref 38), some (.int (nI x)), some (.int (nI t)), some (.int (nI v))]) (fun v => mem ch S) (fun v => ∀ u, u < v → ((bt fa fb q u x).isSome && decide (S 43 (12 * u + t) = S 43 (12 * x + t) - 1)) = false) (fun v hv hi k => ?_) (fun hi => ?_) n 0 (by omega) (fun u h => absurd h (Nat.not_lt_zero _))
  · refine am_iload_n rfl rfl ?_
    refine am_aload_n rfl rfl rfl ?_
    refine am_get rfl rfl rfl ?_
    refine am_icmp_ge rfl (fun h => absurd h (nm_lt N.1 N.2.1 hv)) (fun _ => ?_)
    refine am_aload_n rfl rfl rfl ?_
    refine am_iload_n rfl rfl ?_
    refine am_iload_n rfl rfl ?_
    refine am_Vx [.int (nI v), .int (nI x)] rfl rfl rfl rfl rfl rfl (m_areN (d := d) N v x (by omega) hx) ?_
    refine am_if_eq rfl (fun h10 => ?_) (fun h10 => ?_)
    · refine am_iinc rfl rfl ?_
      refine am_goto rfl ?_
      have k := k (fun u hu => by
        by_cases e : u = v
        · subst e
          first | (rw [bi_0 h10, Bool.false_and]; done) | (rw [decide_eq_false h21, Bool.and_false]; done)
        · exact hi u (by omega))
      simp only [nI_succ] at k
      exact k
    · refine am_aload_n rfl rfl rfl ?_
      refine am_iload_n rfl rfl ?_
      refine am_iload_n rfl rfl ?_
      refine am_Vx [.int (nI v), .int (nI t)] rfl rfl rfl rfl rfl rfl (m_far (d := _) v t (by omega) ht) ?_
      refine am_aload_n rfl rfl rfl ?_
      refine am_iload_n rfl rfl ?_
      refine am_iload_n rfl rfl ?_
      refine am_Vx [.int (nI x), .int (nI t)] rfl rfl rfl rfl rfl rfl (m_far (d := _) x t hx ht) ?_
      refine am_iconst rfl ?_
      refine am_isub rfl ?_
      refine am_icmp_ne rfl (fun h21 => ?_) (fun h21 => ?_)
      · refine am_iinc rfl rfl ?_
        refine am_goto rfl ?_
        have k := k (fun u hu => by
          by_cases e : u = v
          · subst e
            first | (rw [bi_0 h10, Bool.false_and]; done) | (rw [decide_eq_false h21, Bool.and_false]; done)
          · exact hi u (by omega))
        simp only [nI_succ] at k
        exact k
      · refine am_iload_n rfl rfl ?_
        refine am_ireturn rfl (fun h => absurd h (by decide)) ⟨?_, rfl⟩
        rw [fst?_some (v := v) (by rw [bi_1 h10, Bool.true_and]; exact decide_eq_true h21) hi hv]
        rfl
  · refine am_iload_n rfl rfl ?_
    refine am_aload_n rfl rfl rfl ?_
    refine am_get rfl rfl rfl ?_
    refine am_icmp_ge rfl (fun _ => ?_) (fun h => absurd (nm_ge N.1 N.2.1) h)
    refine am_iconst rfl ?_
    refine am_ireturn rfl (fun h => absurd h (by decide)) ⟨?_, rfl⟩
    rw [fst?_none hi]
    rfl
def mnt (S : am_S0) (x : Int32) (n : Nat) : am_S0 := mch (am_up (am_up S 38 (upd (upd (S 38) 0 x) 1 0)) 42 (pw n (fun v => nI v + 1) (S 42)))
/-- m_net -/
theorem m_net (h1 : 1 ≤ n) (hn : n ≤ 12) : AW g (d + 1) 0 0 104 0 (am_L0 104 [.ref 38, .int (nI n)]) [] (mem ch S) (am_is (some (.int 1)) (mem ch (mnt S (nI n) n))) := by
  refine am_iload_n rfl rfl ?_
  refine am_iconst rfl ?_
  refine am_icmp_lt rfl (fun h => absurd h (nI_nlt h1 (by omega))) (fun _ => ?_)
  refine am_iload_n rfl rfl ?_
  refine am_bipush rfl ?_
  refine am_icmp_le rfl (fun _ => ?_) (fun h => absurd (nI_le hn (by decide)) h)
  refine am_aload_n rfl rfl rfl ?_
  refine am_iload_n rfl rfl ?_
  refine am_put rfl rfl (Nat.le_of_ble_eq_true rfl) rfl ?_
  refine am_aload_n rfl rfl rfl ?_
  refine am_iconst rfl ?_
  refine am_put rfl rfl (Nat.le_of_ble_eq_true rfl) rfl ?_
  refine am_iconst rfl ?_
  refine am_istore_n rfl ?_
  refine am_Meq (M' := mem ch (am_up (am_up S 38 (upd (upd (S 38) 0 (nI n)) 1 0)) 42 (pw 0 (fun v => nI v + 1) (S 42)))) ?_ ?_
  · rw [pw_0]
    exact congrArg (mem ch) (am_up_self (am_up S 38 (upd (upd (S 38) 0 (nI n)) 1 0)) 42).symm
  show AW g (d + 1) 0 0 104 16 [some (.ref 38), some (.int (nI n)), some (.int (nI 0))] [] _ _
  refine am_for (n) (fun v => [some (.ref 38), some (.int (nI n)), some (.int (nI v))]) (fun v => mem ch (am_up (am_up S 38 (upd (upd (S 38) 0 (nI n)) 1 0)) 42 (pw v (fun v => nI v + 1) (S 42)))) (fun v hv k => ?_) ?_ n 0 (by omega)
  · refine am_iload_n rfl rfl ?_
    refine am_aload_n rfl rfl rfl ?_
    refine am_get rfl rfl rfl ?_
    refine am_icmp_ge rfl (fun h => absurd h (nI_ge hv (by omega))) (fun _ => ?_)
    refine am_aload_n rfl rfl rfl ?_
    refine am_get rfl rfl rfl ?_
    refine am_iload_n rfl rfl ?_
    refine am_iload_n rfl rfl ?_
    refine am_iconst rfl ?_
    refine am_iadd rfl ?_
    refine am_iast rfl rfl rfl (by omega) (by decide) ?_
    refine am_Meq (M' := mem ch (am_up (am_up S 38 (upd (upd (S 38) 0 (nI n)) 1 0)) 42 (pw (v + 1) (fun v => nI v + 1) (S 42)))) ?_ ?_
    · rw [← pw_s]
      show mem ch (am_up (am_up (am_up S 38 (upd (upd (S 38) 0 (nI n)) 1 0)) 42 (pw v (fun v => nI v + 1) (S 42))) 42 (upd (pw v (fun v => nI v + 1) (S 42)) v (nI v + 1))) = _
      rw [am_up_up]
    refine am_iinc rfl rfl ?_
    refine am_goto rfl ?_
    simp only [nI_succ] at k
    exact k
  · refine am_iload_n rfl rfl ?_
    refine am_aload_n rfl rfl rfl ?_
    refine am_get rfl rfl rfl ?_
    refine am_icmp_ge rfl (fun _ => ?_) (fun h => absurd (nI_le (Nat.le_refl n) (by omega)) h)
    refine am_aload_n rfl rfl rfl ?_
    refine am_Vx [] rfl rfl rfl rfl rfl rfl (m_change (d := d)) ?_
    refine am_iconst rfl ?_
    refine am_ireturn rfl (fun _ => by decide) ⟨?_, rfl⟩
    rfl
/-- m_netNo -/
theorem m_netNo (x : Int32) (h : x < 1 ∨ ¬ x ≤ 12) : AW g d 0 0 104 0 (am_L0 104 [.ref 38, .int x]) [] (mem ch S) (am_is (some (.int 0)) (mem ch S)) := by
  refine am_iload_n rfl rfl ?_
  refine am_iconst rfl ?_
  refine am_icmp_lt rfl (fun h2 => ?_) (fun h2 => ?_)
  · refine am_iconst rfl ?_
    refine am_ireturn rfl (fun _ => by decide) ⟨?_, rfl⟩
    rfl
  · refine am_iload_n rfl rfl ?_
    refine am_bipush rfl ?_
    refine am_icmp_le rfl (fun h5 => ?_) (fun h5 => ?_)
    · exact h.elim (fun q => absurd q h2) (fun q => absurd h5 q)
    · refine am_iconst rfl ?_
      refine am_ireturn rfl (fun _ => by decide) ⟨?_, rfl⟩
      rfl
theorem isN_of {x : Int32} (hN : S 38 0 = nI n) (hn : n ≤ 12) (h : (decide (0 ≤ x) && decide (x < S 38 0)) = true) : ∃ v, v < n ∧ x = nI v := by
  rw [Bool.and_eq_true, decide_eq_true_eq, decide_eq_true_eq] at h
  obtain ⟨v, hv, rfl⟩ := nI_of (Int32.not_lt.mpr h.1)
  rw [hN, nI_ltI hv (by omega)] at h
  exact ⟨v, h.2, rfl⟩
theorem isN_to {v : Nat} (hN : S 38 0 = nI n) (hn : n ≤ 12) (hv : v < n) : (decide (0 ≤ nI v) && decide (nI v < S 38 0)) = true := by
  rw [Bool.and_eq_true, decide_eq_true_eq, decide_eq_true_eq, hN]
  exact ⟨nI_pos' (by omega), nI_lt hv (by omega)⟩
def mtk (S : am_S0) (fa fb : Nat → Nat) (q : Nat) (x y w : Int32) : Bool := !decide (S 38 1 = 24) && (decide (0 ≤ x) && decide (x < S 38 0)) && (decide (0 ≤ y) && decide (y < S 38 0)) && !decide (x = y) && !(bt fa fb q x.toNatClampNeg y.toNatClampNeg).isSome && decide (1 ≤ w) && decide (w ≤ 999)
/-- m_edgeNo -/
theorem m_edgeNo (N : MN S n q fa fb) (x y w : Int32) (ht : mtk S fa fb q x y w = false) : AW g (d + 2) 0 0 106 0 (am_L0 106 [.ref 38, .int x, .int y, .int w]) [] (mem ch S) (am_is (some (.int (-1))) (mem ch S)) := by
  have hn := N.2.1
  refine am_aload_n rfl rfl rfl ?_
  refine am_get rfl rfl rfl ?_
  refine am_bipush rfl ?_
  refine am_icmp_eq rfl (fun h3 => ?_) (fun h3 => ?_)
  · refine am_iconst rfl ?_
    refine am_ireturn rfl (fun h => absurd h (by decide)) ⟨?_, rfl⟩
    rfl
  · refine am_aload_n rfl rfl rfl ?_
    refine am_iload_n rfl rfl ?_
    refine am_Vx [.int x] rfl rfl rfl rfl rfl rfl (m_isNode (d := _) x) ?_
    refine am_if_eq rfl (fun h7 => ?_) (fun h7 => ?_)
    · refine am_iconst rfl ?_
      refine am_ireturn rfl (fun h => absurd h (by decide)) ⟨?_, rfl⟩
      rfl
    · refine am_aload_n rfl rfl rfl ?_
      refine am_iload_n rfl rfl ?_
      refine am_Vx [.int y] rfl rfl rfl rfl rfl rfl (m_isNode (d := _) y) ?_
      refine am_if_eq rfl (fun h11 => ?_) (fun h11 => ?_)
      · refine am_iconst rfl ?_
        refine am_ireturn rfl (fun h => absurd h (by decide)) ⟨?_, rfl⟩
        rfl
      · refine am_iload_n rfl rfl ?_
        refine am_iload_n rfl rfl ?_
        refine am_icmp_eq rfl (fun h14 => ?_) (fun h14 => ?_)
        · refine am_iconst rfl ?_
          refine am_ireturn rfl (fun h => absurd h (by decide)) ⟨?_, rfl⟩
          rfl
        · refine am_aload_n rfl rfl rfl ?_
          refine am_iload_n rfl rfl ?_
          refine am_iload_n rfl rfl ?_
          obtain ⟨a, ha, rfl⟩ := isN_of N.1 hn (bi_1 h7)
          obtain ⟨b, hb, rfl⟩ := isN_of N.1 hn (bi_1 h11)
          refine am_Vx [.int (nI a), .int (nI b)] rfl rfl rfl rfl rfl rfl (m_areN (d := d) N a b (by omega) (by omega)) ?_
          refine am_if_ne rfl (fun h19 => ?_) (fun h19 => ?_)
          · refine am_iconst rfl ?_
            refine am_ireturn rfl (fun h => absurd h (by decide)) ⟨?_, rfl⟩
            rfl
          · refine am_iload_n rfl rfl ?_
            refine am_iconst rfl ?_
            refine am_icmp_lt rfl (fun h22 => ?_) (fun h22 => ?_)
            · refine am_iconst rfl ?_
              refine am_ireturn rfl (fun h => absurd h (by decide)) ⟨?_, rfl⟩
              rfl
            · refine am_iload_n rfl rfl ?_
              refine am_sipush rfl ?_
              refine am_icmp_le rfl (fun h25 => ?_) (fun h25 => ?_)
              · exfalso
                unfold mtk at ht
                rw [decide_eq_false h3, bi_1 h7, bi_1 h11, decide_eq_false h14, nI_clamp (by omega), nI_clamp (by omega), bi_0 h19, decide_eq_true (Int32.not_lt.mp h22), decide_eq_true h25] at ht
                exact absurd ht (by decide)
              · refine am_iconst rfl ?_
                refine am_ireturn rfl (fun h => absurd h (by decide)) ⟨?_, rfl⟩
                rfl
def mad (S : am_S0) (a b q : Nat) (w : Int32) : am_S0 := mch (am_up (am_up (am_up (am_up S 39 (upd (S 39) q (nI a))) 40 (upd (S 40) q (nI b))) 41 (upd (S 41) q w)) 38 (upd (S 38) 1 (nI q + 1)))
/-- m_edgeYes -/
theorem m_edgeYes (N : MN S n q fa fb) (a b : Nat) (w : Int32) (ha : a < n) (hb : b < n) (hq : q < 24) (ht : mtk S fa fb q (nI a) (nI b) w = true) : AW g (d + 2) 0 0 106 0 (am_L0 106 [.ref 38, .int (nI a), .int (nI b), .int w]) [] (mem ch S) (am_is (some (.int (nI q))) (mem ch (mad S a b q w))) := by
  have hn := N.2.1
  unfold mtk at ht
  simp only [Bool.and_eq_true, Bool.not_eq_true', decide_eq_false_iff_not, decide_eq_true_eq] at ht
  obtain ⟨⟨⟨⟨⟨⟨t0, t1⟩, t2⟩, t3⟩, t4⟩, t5⟩, t6⟩ := ht
  rw [nI_clamp (by omega), nI_clamp (by omega)] at t4
  refine am_aload_n rfl rfl rfl ?_
  refine am_get rfl rfl rfl ?_
  refine am_bipush rfl ?_
  refine am_icmp_eq rfl (fun h => absurd h t0) (fun _ => ?_)
  refine am_aload_n rfl rfl rfl ?_
  refine am_iload_n rfl rfl ?_
  refine am_Vx [.int (nI a)] rfl rfl rfl rfl rfl rfl (m_isNode (d := _) (nI a)) ?_
  rw [isN_to N.1 hn ha]
  refine am_if_eq rfl (fun h => absurd h (by decide)) (fun _ => ?_)
  refine am_aload_n rfl rfl rfl ?_
  refine am_iload_n rfl rfl ?_
  refine am_Vx [.int (nI b)] rfl rfl rfl rfl rfl rfl (m_isNode (d := _) (nI b)) ?_
  rw [isN_to N.1 hn hb]
  refine am_if_eq rfl (fun h => absurd h (by decide)) (fun _ => ?_)
  refine am_iload_n rfl rfl ?_
  refine am_iload_n rfl rfl ?_
  refine am_icmp_eq rfl (fun h => absurd h t3) (fun _ => ?_)
  refine am_aload_n rfl rfl rfl ?_
  refine am_iload_n rfl rfl ?_
  refine am_iload_n rfl rfl ?_
  refine am_Vx [.int (nI a), .int (nI b)] rfl rfl rfl rfl rfl rfl (m_areN (d := d) N a b (by omega) (by omega)) ?_
  rw [t4]
  refine am_if_ne rfl (fun h => absurd rfl h) (fun _ => ?_)
  refine am_iload_n rfl rfl ?_
  refine am_iconst rfl ?_
  refine am_icmp_lt rfl (fun h => absurd t5 (Int32.not_le.mpr h)) (fun _ => ?_)
  refine am_iload_n rfl rfl ?_
  refine am_sipush rfl ?_
  refine am_icmp_le rfl (fun _ => ?_) (fun h => absurd t6 h)
  refine am_aload_n rfl rfl rfl ?_
  refine am_get rfl rfl rfl ?_
  refine am_aload_n rfl rfl rfl ?_
  refine am_get rfl rfl rfl ?_
  refine am_iload_n rfl rfl ?_
  refine am_iast rfl rfl N.2.2.1 hq (by decide) ?_
  refine am_aload_n rfl rfl rfl ?_
  refine am_get rfl rfl rfl ?_
  refine am_aload_n rfl rfl rfl ?_
  refine am_get rfl rfl rfl ?_
  refine am_iload_n rfl rfl ?_
  refine am_iast rfl rfl N.2.2.1 hq (by decide) ?_
  refine am_aload_n rfl rfl rfl ?_
  refine am_get rfl rfl rfl ?_
  refine am_aload_n rfl rfl rfl ?_
  refine am_get rfl rfl rfl ?_
  refine am_iload_n rfl rfl ?_
  refine am_iast rfl rfl N.2.2.1 hq (by decide) ?_
  refine am_aload_n rfl rfl rfl ?_
  refine am_dup rfl rfl ?_
  refine am_get rfl rfl rfl ?_
  refine am_iconst rfl ?_
  refine am_iadd rfl ?_
  refine am_put rfl rfl (Nat.le_of_ble_eq_true rfl) rfl ?_
  refine am_Meq (M' := mem ch (am_up (am_up (am_up (am_up S 39 (upd (S 39) q (nI a))) 40 (upd (S 40) q (nI b))) 41 (upd (S 41) q w)) 38 (upd (S 38) 1 (nI q + 1)))) (by rw [← N.2.2.1]; rfl) ?_
  refine am_aload_n rfl rfl rfl ?_
  refine am_Vx [] rfl rfl rfl rfl rfl rfl (m_change (d := d + 1)) ?_
  refine am_aload_n rfl rfl rfl ?_
  refine am_get rfl rfl rfl ?_
  refine am_iconst rfl ?_
  refine am_isub rfl ?_
  refine am_ireturn rfl (fun h => absurd h (by decide)) ⟨?_, rfl⟩
  show some (Value.int ((nI q + 1) - 1)) = _
  rw [nI_1, nI_pred]
def mid (S : am_S0) (x y : Int32) : Bool := (decide (0 ≤ x) && decide (x < S 38 0)) && decide (1 ≤ y) && decide (y ≤ 999)
/-- m_identity -/
theorem m_identity (hN : S 38 0 = nI n) (hn : n ≤ 12) (x y : Int32) : AW g (d + 1) 0 0 110 0 (am_L0 110 [.ref 38, .int x, .int y]) [] (mem ch S) (am_is (some (.int (bi (mid S x y)))) (bif mid S x y then mem ch (mch (am_up S 42 (upd (S 42) x.toNatClampNeg y))) else mem ch S)) := by
  unfold mid
  refine am_aload_n rfl rfl rfl ?_
  refine am_iload_n rfl rfl ?_
  refine am_Vx [.int x] rfl rfl rfl rfl rfl rfl (m_isNode (d := _) x) ?_
  refine am_if_eq rfl (fun h3 => ?_) (fun h3 => ?_)
  · refine am_iconst rfl ?_
    refine am_ireturn rfl (fun _ => by decide) ?_
    first
      | (rw [bi_0 h3]; simp only [Bool.false_and, cond_false]; exact ⟨rfl, rfl⟩)
      | (rw [decide_eq_false (Int32.not_le.mpr h6)]; simp only [Bool.and_false, Bool.false_and, cond_false]; exact ⟨rfl, rfl⟩)
      | (rw [decide_eq_false h9]; simp only [Bool.and_false, cond_false]; exact ⟨rfl, rfl⟩)
  · refine am_iload_n rfl rfl ?_
    refine am_iconst rfl ?_
    refine am_icmp_lt rfl (fun h6 => ?_) (fun h6 => ?_)
    · refine am_iconst rfl ?_
      refine am_ireturn rfl (fun _ => by decide) ?_
      first
        | (rw [bi_0 h3]; simp only [Bool.false_and, cond_false]; exact ⟨rfl, rfl⟩)
        | (rw [decide_eq_false (Int32.not_le.mpr h6)]; simp only [Bool.and_false, Bool.false_and, cond_false]; exact ⟨rfl, rfl⟩)
        | (rw [decide_eq_false h9]; simp only [Bool.and_false, cond_false]; exact ⟨rfl, rfl⟩)
    · refine am_iload_n rfl rfl ?_
      refine am_sipush rfl ?_
      refine am_icmp_le rfl (fun h9 => ?_) (fun h9 => ?_)
      · refine am_aload_n rfl rfl rfl ?_
        refine am_get rfl rfl rfl ?_
        refine am_iload_n rfl rfl ?_
        refine am_iload_n rfl rfl ?_
        rw [bi_1 h3, decide_eq_true (Int32.not_lt.mp h6), decide_eq_true h9]
        obtain ⟨v, hv, rfl⟩ := isN_of hN hn (bi_1 h3)
        refine am_iast rfl rfl rfl (by omega) (by decide) ?_
        rw [nI_clamp (by omega)]
        refine am_Meq (M' := mem ch (am_up S 42 (upd (S 42) v y))) rfl ?_
        refine am_aload_n rfl rfl rfl ?_
        refine am_Vx [] rfl rfl rfl rfl rfl rfl (m_change (d := d)) ?_
        refine am_iconst rfl ?_
        exact am_ireturn rfl (fun _ => by decide) ⟨rfl, rfl⟩
      · refine am_iconst rfl ?_
        refine am_ireturn rfl (fun _ => by decide) ?_
        first
          | (rw [bi_0 h3]; simp only [Bool.false_and, cond_false]; exact ⟨rfl, rfl⟩)
          | (rw [decide_eq_false (Int32.not_le.mpr h6)]; simp only [Bool.and_false, Bool.false_and, cond_false]; exact ⟨rfl, rfl⟩)
          | (rw [decide_eq_false h9]; simp only [Bool.and_false, cond_false]; exact ⟨rfl, rfl⟩)
end MNET
end
section
/-! the model: measure, ready, and what is asked of edges and rounds -/
def iv (A : Nat → Nat → Option Nat) (a b : Nat) : Int32 := bif decide (a = b) then 0 else bif (A a b).isSome then 1 else 1000000
def ini1 (A : Nat → Nat → Option Nat) (a b : Nat) (f : Nat → Int32) : Nat → Int32 := upd f (12 * a + b) (iv A a b)
def ini (A : Nat → Nat → Option Nat) (n k : Nat) (f : Nat → Int32) : Nat → Int32 := itr (fun a => itr (ini1 A a) n) k f
def fw1 (y a b : Nat) (f : Nat → Int32) : Nat → Int32 := upd f (12 * a + b) (bif decide (f (12 * a + y) + f (12 * y + b) < f (12 * a + b)) then f (12 * a + y) + f (12 * y + b) else f (12 * a + b))
def fw (n k : Nat) (f : Nat → Int32) : Nat → Int32 := itr (fun y => itr (fun a => itr (fw1 y a) n) n) k f
section MMEA
variable {g : am_G} {d : Nat} {ch : Option Nat} {S : am_S0} {n q : Nat} {fa fb : Nat → Nat}
theorem m_mea1 (N : MN S n q fa fb) {K : am_K} (y : Option Value × Option Value × Option Value) (f : Nat → Int32)
    (kk : ∀ y : Option Value × Option Value × Option Value, AW g (d + 2) 0 0 112 37 [some (.ref 38), some (.int (nI n)), y.1, y.2.1, y.2.2] [] (mem ch (am_up S 43 (ini (bt fa fb q) n n f))) K) :
    AW g (d + 2) 0 0 112 2 [some (.ref 38), some (.int (nI 0)), y.1, y.2.1, y.2.2] [] (mem ch (am_up S 43 f)) K := by
  have hn := N.2.1
  refine am_forS n (fun a y => [some (.ref 38), some (.int (nI a)), y.1, y.2.1, y.2.2]) (fun a _ => mem ch (am_up S 43 (ini (bt fa fb q) n a f))) (fun _ _ => True) (fun a y ha _ k0 => ?_) (fun y _ => ?_) n 0 y (by omega) trivial
  · unfold ini at k0 ⊢
    rw [itr_s] at k0
    generalize itr (fun a => itr (ini1 (bt fa fb q) a) n) a f = F at k0 ⊢
    refine am_iload_n rfl rfl ?_
    refine am_aload_n rfl rfl rfl ?_
    refine am_get rfl rfl rfl ?_
    refine am_icmp_ge rfl (fun h => absurd h (nm_lt (N.up (k := 43) (by decide)).1 N.2.1 ha)) (fun _ => ?_)
    refine am_iconst rfl ?_
    refine am_istore_n rfl ?_
    refine am_Meq (M' := mem ch (am_up S 43 (itr (ini1 (bt fa fb q) a) 0 F))) rfl ?_
    show AW g (d + 2) 0 0 112 8 [some (.ref 38), some (.int (nI a)), some (.int (nI 0)), y.2.1, y.2.2] [] _ _
    refine am_for (n) (fun v => [some (.ref 38), some (.int (nI a)), some (.int (nI v)), y.2.1, y.2.2]) (fun v => mem ch (am_up S 43 (itr (ini1 (bt fa fb q) a) v F))) (fun v hv k => ?_) ?_ n 0 (by omega)
    · rw [itr_s] at k
      generalize itr (ini1 (bt fa fb q) a) v F = F1 at k ⊢
      unfold ini1 at k
      refine am_iload_n rfl rfl ?_
      refine am_aload_n rfl rfl rfl ?_
      refine am_get rfl rfl rfl ?_
      refine am_icmp_ge rfl (fun h => absurd h (nm_lt (N.up (k := 43) (by decide)).1 N.2.1 hv)) (fun _ => ?_)
      refine am_aload_n rfl rfl rfl ?_
      refine am_get rfl rfl rfl ?_
      refine am_bipush rfl ?_
      refine am_iload_n rfl rfl ?_
      refine am_imul rfl ?_
      refine am_iload_n rfl rfl ?_
      refine am_iadd rfl ?_
      refine am_iload_n rfl rfl ?_
      refine am_iload_n rfl rfl ?_
      refine am_icmp_ne rfl (fun h21 => ?_) (fun h21 => ?_)
      · rw [nI_eq (by omega) (by omega)] at h21
        refine am_aload_n rfl rfl rfl ?_
        refine am_iload_n rfl rfl ?_
        refine am_iload_n rfl rfl ?_
        refine am_Vx [.int (nI a), .int (nI v)] rfl rfl rfl rfl rfl rfl (m_areN (d := d) (N.up (k := 43) (by decide)) a v (by omega) (by omega)) ?_
        refine am_if_eq rfl (fun h28 => ?_) (fun h28 => ?_)
        · unfold iv at k
          rw [decide_eq_false h21, bi_0 h28, cond_false, cond_false] at k
          refine am_ldc rfl ?_
          refine am_iast rfl rfl (ix12 _ _) (by omega) (by decide) ?_
          refine am_Meq ms43 ?_
          refine am_iinc rfl rfl ?_
          refine am_goto rfl ?_
          simp only [nI_succ] at k
          exact k
        · unfold iv at k
          rw [decide_eq_false h21, bi_1 h28, cond_false, cond_true] at k
          refine am_iconst rfl ?_
          refine am_goto rfl ?_
          refine am_iast rfl rfl (ix12 _ _) (by omega) (by decide) ?_
          refine am_Meq ms43 ?_
          refine am_iinc rfl rfl ?_
          refine am_goto rfl ?_
          simp only [nI_succ] at k
          exact k
      · rw [nI_eq (by omega) (by omega)] at h21
        unfold iv at k
        rw [decide_eq_true h21, cond_true] at k
        refine am_iconst rfl ?_
        refine am_goto rfl ?_
        refine am_iast rfl rfl (ix12 _ _) (by omega) (by decide) ?_
        refine am_Meq ms43 ?_
        refine am_iinc rfl rfl ?_
        refine am_goto rfl ?_
        simp only [nI_succ] at k
        exact k
    · refine am_iload_n rfl rfl ?_
      refine am_aload_n rfl rfl rfl ?_
      refine am_get rfl rfl rfl ?_
      refine am_icmp_ge rfl (fun _ => ?_) (fun h => absurd (nm_ge (N.up (k := 43) (by decide)).1 N.2.1) h)
      refine am_iinc rfl rfl ?_
      refine am_goto rfl ?_
      have k0 := k0 (some (.int (nI n)), y.2.1, y.2.2) trivial
      simp only [nI_succ] at k0
      exact k0
  · refine am_iload_n rfl rfl ?_
    refine am_aload_n rfl rfl rfl ?_
    refine am_get rfl rfl rfl ?_
    refine am_icmp_ge rfl (fun _ => ?_) (fun h => absurd (nm_ge (N.up (k := 43) (by decide)).1 N.2.1) h)
    exact kk y
end MMEA
end
section
/-! the model: measure to its end, ready, and small asks -/
section MM3
variable {g : am_G} {d : Nat} {ch : Option Nat} {S : am_S0} {n q : Nat} {fa fb : Nat → Nat}
theorem m_mea2 (N : MN S n q fa fb) (y0 : Option Value × Option Value × Option Value) (f : Nat → Int32) : AW g d 0 0 112 39 [some (.ref 38), some (.int (nI 0)), y0.1, y0.2.1, y0.2.2] [] (mem ch (am_up S 43 f)) (am_is none (mem ch (am_up S 43 (fw n n f)))) := by
  have hn := N.2.1
  refine am_forS (n) (fun y s1 => [some (.ref 38), some (.int (nI y)), s1.1, s1.2.1, s1.2.2]) (fun y s1 => mem ch (am_up S 43 (fw n y f))) (fun y s1 => True) (fun y s1 hy _ k1 => ?_) (fun s1 _ => ?_) (n) 0 (y0) (by omega) trivial
  · unfold fw at k1 ⊢
    rw [itr_s] at k1
    generalize itr (fun y => itr (fun a => itr (fw1 y a) n) n) y f = F1 at k1 ⊢
    refine am_iload_n rfl rfl ?_
    refine am_aload_n rfl rfl rfl ?_
    refine am_get rfl rfl rfl ?_
    refine am_icmp_ge rfl (fun h => absurd h (nm_lt (N.up (k := 43) (by decide)).1 hn hy)) (fun _ => ?_)
    refine am_iconst rfl ?_
    refine am_istore_n rfl ?_
    refine am_Meq (M' := mem ch (am_up S 43 (itr (fun a => itr (fw1 y a) n) 0 F1))) rfl ?_
    show AW g d 0 0 112 45 [some (.ref 38), some (.int (nI y)), some (.int (nI 0)), s1.2.1, s1.2.2] [] _ _
    refine am_forS (n) (fun a s2 => [some (.ref 38), some (.int (nI y)), some (.int (nI a)), s2.1, s2.2]) (fun a s2 => mem ch (am_up S 43 (itr (fun a => itr (fw1 y a) n) a F1))) (fun a s2 => True) (fun a s2 ha _ k2 => ?_) (fun s2 _ => ?_) (n) 0 ((s1.2.1, s1.2.2)) (by omega) trivial
    · rw [itr_s] at k2
      generalize itr (fun a => itr (fw1 y a) n) a F1 = F2 at k2 ⊢
      refine am_iload_n rfl rfl ?_
      refine am_aload_n rfl rfl rfl ?_
      refine am_get rfl rfl rfl ?_
      refine am_icmp_ge rfl (fun h => absurd h (nm_lt (N.up (k := 43) (by decide)).1 hn ha)) (fun _ => ?_)
      refine am_iconst rfl ?_
      refine am_istore_n rfl ?_
      refine am_Meq (M' := mem ch (am_up S 43 (itr (fw1 y a) 0 F2))) rfl ?_
      show AW g d 0 0 112 51 [some (.ref 38), some (.int (nI y)), some (.int (nI a)), some (.int (nI 0)), s2.2] [] _ _
      refine am_forS (n) (fun v z => [some (.ref 38), some (.int (nI y)), some (.int (nI a)), some (.int (nI v)), z]) (fun v z => mem ch (am_up S 43 (itr (fw1 y a) v F2))) (fun v z => True) (fun v z hv _ k => ?_) (fun z _ => ?_) (n) 0 (s2.2) (by omega) trivial
      · rw [itr_s] at k
        generalize itr (fw1 y a) v F2 = F3 at k ⊢
        refine am_iload_n rfl rfl ?_
        refine am_aload_n rfl rfl rfl ?_
        refine am_get rfl rfl rfl ?_
        refine am_icmp_ge rfl (fun h => absurd h (nm_lt (N.up (k := 43) (by decide)).1 hn hv)) (fun _ => ?_)
        refine am_aload_n rfl rfl rfl ?_
        refine am_get rfl rfl rfl ?_
        refine am_bipush rfl ?_
        refine am_iload_n rfl rfl ?_
        refine am_imul rfl ?_
        refine am_iload_n rfl rfl ?_
        refine am_iadd rfl ?_
        refine am_iald rfl rfl (ix12 _ _) (by omega) (by decide) ?_
        refine am_aload_n rfl rfl rfl ?_
        refine am_get rfl rfl rfl ?_
        refine am_bipush rfl ?_
        refine am_iload_n rfl rfl ?_
        refine am_imul rfl ?_
        refine am_iload_n rfl rfl ?_
        refine am_iadd rfl ?_
        refine am_iald rfl rfl (ix12 _ _) (by omega) (by decide) ?_
        refine am_iadd rfl ?_
        refine am_istore rfl ?_
        refine am_aload_n rfl rfl rfl ?_
        refine am_get rfl rfl rfl ?_
        refine am_bipush rfl ?_
        refine am_iload_n rfl rfl ?_
        refine am_imul rfl ?_
        refine am_iload_n rfl rfl ?_
        refine am_iadd rfl ?_
        refine am_iload rfl rfl ?_
        refine am_aload_n rfl rfl rfl ?_
        refine am_get rfl rfl rfl ?_
        refine am_bipush rfl ?_
        refine am_iload_n rfl rfl ?_
        refine am_imul rfl ?_
        refine am_iload_n rfl rfl ?_
        refine am_iadd rfl ?_
        refine am_iald rfl rfl (ix12 _ _) (by omega) (by decide) ?_
        refine am_icmp_ge rfl (fun h89 => ?_) (fun h89 => ?_)
        · refine am_aload_n rfl rfl rfl ?_
          refine am_get rfl rfl rfl ?_
          refine am_bipush rfl ?_
          refine am_iload_n rfl rfl ?_
          refine am_imul rfl ?_
          refine am_iload_n rfl rfl ?_
          refine am_iadd rfl ?_
          refine am_iald rfl rfl (ix12 _ _) (by omega) (by decide) ?_
          refine am_iast rfl rfl (ix12 _ _) (by omega) (by decide) ?_
          refine am_Meq ms43 ?_
          refine am_iinc rfl rfl ?_
          refine am_goto rfl ?_
          simp only [fw1, decide_eq_false (show ¬ F3 (12 * a + y) + F3 (12 * y + v) < F3 (12 * a + v) from Int32.not_lt.mpr h89), cond_true, cond_false, nI_succ] at k
          exact k _ trivial
        · refine am_iload rfl rfl ?_
          refine am_goto rfl ?_
          refine am_iast rfl rfl (ix12 _ _) (by omega) (by decide) ?_
          refine am_Meq ms43 ?_
          refine am_iinc rfl rfl ?_
          refine am_goto rfl ?_
          simp only [fw1, decide_eq_true (show F3 (12 * a + y) + F3 (12 * y + v) < F3 (12 * a + v) from Int32.not_le.mp h89), cond_true, cond_false, nI_succ] at k
          exact k _ trivial
      · refine am_iload_n rfl rfl ?_
        refine am_aload_n rfl rfl rfl ?_
        refine am_get rfl rfl rfl ?_
        refine am_icmp_ge rfl (fun _ => ?_) (fun h => absurd (nm_ge (N.up (k := 43) (by decide)).1 hn) h)
        refine am_iinc rfl rfl ?_
        refine am_goto rfl ?_
        simp only [nI_succ] at k2
        exact k2 (_, _) trivial
    · refine am_iload_n rfl rfl ?_
      refine am_aload_n rfl rfl rfl ?_
      refine am_get rfl rfl rfl ?_
      refine am_icmp_ge rfl (fun _ => ?_) (fun h => absurd (nm_ge (N.up (k := 43) (by decide)).1 hn) h)
      refine am_iinc rfl rfl ?_
      refine am_goto rfl ?_
      simp only [nI_succ] at k1
      exact k1 (_, _, _) trivial
  · refine am_iload_n rfl rfl ?_
    refine am_aload_n rfl rfl rfl ?_
    refine am_get rfl rfl rfl ?_
    refine am_icmp_ge rfl (fun _ => ?_) (fun h => absurd (nm_ge (N.up (k := 43) (by decide)).1 hn) h)
    exact am_return rfl ⟨rfl, rfl⟩
/-- measure() -/
def mdist (A : Nat → Nat → Option Nat) (n : Nat) (f : Nat → Int32) : Nat → Int32 := fw n n (ini A n n f)
theorem m_measure (N : MN S n q fa fb) : AW g (d + 2) 0 0 112 0 (am_L0 112 [.ref 38]) [] (mem ch S) (am_is none (mem ch (am_up S 43 (mdist (bt fa fb q) n (S 43))))) := by
  refine am_iconst rfl ?_
  refine am_istore_n rfl ?_
  refine am_Meq (M' := mem ch (am_up S 43 (S 43))) (by rw [am_up_self]) ?_
  refine m_mea1 (d := d) N (none, none, none) (S 43) (fun y => ?_)
  refine am_iconst rfl ?_
  refine am_istore_n rfl ?_
  exact m_mea2 N y _
theorem m_heavier (e f : Nat) (he : e < 24) (hf : f < 24) : AW g d 0 0 119 0 (am_L0 119 [.ref 38, .int (nI e), .int (nI f)]) [] (mem ch S) (am_is (some (.int (bi (hvy (S 41) e f)))) (mem ch S)) := by
  refine am_aload_n rfl rfl rfl ?_
  refine am_get rfl rfl rfl ?_
  refine am_iload_n rfl rfl ?_
  refine am_iald rfl rfl rfl (by omega) (by decide) ?_
  refine am_aload_n rfl rfl rfl ?_
  refine am_get rfl rfl rfl ?_
  refine am_iload_n rfl rfl ?_
  refine am_iald rfl rfl rfl (by omega) (by decide) ?_
  refine am_icmp_eq rfl (fun h8 => ?_) (fun h8 => ?_)
  · refine am_iload_n rfl rfl ?_
    refine am_iload_n rfl rfl ?_
    refine am_icmp_ge rfl (fun h24 => ?_) (fun h24 => ?_)
    · refine am_iconst rfl ?_
      refine am_ireturn rfl (fun _ => by decide) ⟨?_, rfl⟩
      unfold hvy
      first
        | (rw [decide_eq_false h8]; first | rw [decide_eq_true (Int32.not_le.mp h17)]; rfl | rw [decide_eq_false (Int32.not_lt.mpr h17)]; rfl)
        | (rw [decide_eq_true h8]; rw [nI_leI (by omega) (by omega)] at h24; first | rw [decide_eq_true (Nat.not_le.mp h24)]; rfl | rw [decide_eq_false (Nat.not_lt.mpr h24)]; rfl)
    · refine am_iconst rfl ?_
      refine am_goto rfl ?_
      refine am_ireturn rfl (fun _ => by decide) ⟨?_, rfl⟩
      unfold hvy
      first
        | (rw [decide_eq_false h8]; first | rw [decide_eq_true (Int32.not_le.mp h17)]; rfl | rw [decide_eq_false (Int32.not_lt.mpr h17)]; rfl)
        | (rw [decide_eq_true h8]; rw [nI_leI (by omega) (by omega)] at h24; first | rw [decide_eq_true (Nat.not_le.mp h24)]; rfl | rw [decide_eq_false (Nat.not_lt.mpr h24)]; rfl)
  · refine am_aload_n rfl rfl rfl ?_
    refine am_get rfl rfl rfl ?_
    refine am_iload_n rfl rfl ?_
    refine am_iald rfl rfl rfl (by omega) (by decide) ?_
    refine am_aload_n rfl rfl rfl ?_
    refine am_get rfl rfl rfl ?_
    refine am_iload_n rfl rfl ?_
    refine am_iald rfl rfl rfl (by omega) (by decide) ?_
    refine am_icmp_le rfl (fun h17 => ?_) (fun h17 => ?_)
    · refine am_iconst rfl ?_
      refine am_goto rfl ?_
      refine am_ireturn rfl (fun _ => by decide) ⟨?_, rfl⟩
      unfold hvy
      first
        | (rw [decide_eq_false h8]; first | rw [decide_eq_true (Int32.not_le.mp h17)]; rfl | rw [decide_eq_false (Int32.not_lt.mpr h17)]; rfl)
        | (rw [decide_eq_true h8]; rw [nI_leI (by omega) (by omega)] at h24; first | rw [decide_eq_true (Nat.not_le.mp h24)]; rfl | rw [decide_eq_false (Nat.not_lt.mpr h24)]; rfl)
    · refine am_iconst rfl ?_
      refine am_goto rfl ?_
      refine am_ireturn rfl (fun _ => by decide) ⟨?_, rfl⟩
      unfold hvy
      first
        | (rw [decide_eq_false h8]; first | rw [decide_eq_true (Int32.not_le.mp h17)]; rfl | rw [decide_eq_false (Int32.not_lt.mpr h17)]; rfl)
        | (rw [decide_eq_true h8]; rw [nI_leI (by omega) (by omega)] at h24; first | rw [decide_eq_true (Nat.not_le.mp h24)]; rfl | rw [decide_eq_false (Nat.not_lt.mpr h24)]; rfl)
def isf (fa fb : Nat → Nat) (e v : Nat) : Bool := decide (fa e = v) || decide (fb e = v)
theorem m_isOf (N : MN S n q fa fb) (e v : Nat) (he : e < q) (hv : v < 12) : AW g d 0 0 120 0 (am_L0 120 [.ref 38, .int (nI e), .int (nI v)]) [] (mem ch S) (am_is (some (.int (bi (isf fa fb e v)))) (mem ch S)) := by
  obtain ⟨e1, e2, l1, l2⟩ := N.2.2.2.2 e he
  have hq := N.2.2.2.1
  refine am_aload_n rfl rfl rfl ?_
  refine am_get rfl rfl rfl ?_
  refine am_iload_n rfl rfl ?_
  refine am_iald rfl rfl rfl (by omega) (by decide) ?_
  rw [e1]
  refine am_iload_n rfl rfl ?_
  refine am_icmp_eq rfl (fun h5 => ?_) (fun h5 => ?_)
  · refine am_iconst rfl ?_
    refine am_goto rfl ?_
    refine am_ireturn rfl (fun _ => by decide) ⟨?_, rfl⟩
    rw [nI_eq (by omega) (by omega)] at h5
    try rw [nI_eq (by omega) (by omega)] at h11
    simp only [isf, decide_eq_true h5, Bool.or_true, Bool.true_or, Bool.or_false, bi, cond_true, cond_false]
  · refine am_aload_n rfl rfl rfl ?_
    refine am_get rfl rfl rfl ?_
    refine am_iload_n rfl rfl ?_
    refine am_iald rfl rfl rfl (by omega) (by decide) ?_
    rw [e2]
    refine am_iload_n rfl rfl ?_
    refine am_icmp_ne rfl (fun h11 => ?_) (fun h11 => ?_)
    · refine am_iconst rfl ?_
      refine am_ireturn rfl (fun _ => by decide) ⟨?_, rfl⟩
      rw [nI_eq (by omega) (by omega)] at h5
      try rw [nI_eq (by omega) (by omega)] at h11
      simp only [isf, decide_eq_false h5, decide_eq_false h11, Bool.or_true, Bool.true_or, Bool.or_false, bi, cond_true, cond_false]
    · refine am_iconst rfl ?_
      refine am_goto rfl ?_
      refine am_ireturn rfl (fun _ => by decide) ⟨?_, rfl⟩
      rw [nI_eq (by omega) (by omega)] at h5
      try rw [nI_eq (by omega) (by omega)] at h11
      simp only [isf, decide_eq_false h5, decide_eq_true h11, Bool.or_true, Bool.true_or, Bool.or_false, bi, cond_true, cond_false]
def mov (f : Nat → Int32) (v : Nat) (r : Int32) : Bool := !decide (f v ≤ 0) && !decide (r < f v)
theorem m_isOver (v : Nat) (hv : v < 12) (r : Int32) : AW g d 0 0 125 0 (am_L0 125 [.ref 38, .int (nI v), .int (r)]) [] (mem ch S) (am_is (some (.int (bi (mov (S 47) v r)))) (mem ch S)) := by
  refine am_aload_n rfl rfl rfl ?_
  refine am_get rfl rfl rfl ?_
  refine am_iload_n rfl rfl ?_
  refine am_iald rfl rfl rfl (by omega) (by decide) ?_
  refine am_if_le rfl (fun h4 => ?_) (fun h4 => ?_)
  · refine am_iconst rfl ?_
    refine am_ireturn rfl (fun _ => by decide) ⟨?_, rfl⟩
    simp only [mov, decide_eq_true h4, cond_true, cond_false, Bool.and_true, Bool.and_false, Bool.true_and, Bool.false_and, Bool.or_true, Bool.or_false, Bool.true_or, Bool.false_or, Bool.not_true, Bool.not_false, bi]
  · refine am_aload_n rfl rfl rfl ?_
    refine am_get rfl rfl rfl ?_
    refine am_iload_n rfl rfl ?_
    refine am_iald rfl rfl rfl (by omega) (by decide) ?_
    refine am_iload_n rfl rfl ?_
    refine am_icmp_gt rfl (fun h10 => ?_) (fun h10 => ?_)
    · refine am_iconst rfl ?_
      refine am_ireturn rfl (fun _ => by decide) ⟨?_, rfl⟩
      simp only [mov, decide_eq_false h4, decide_eq_true h10, cond_true, cond_false, Bool.and_true, Bool.and_false, Bool.true_and, Bool.false_and, Bool.or_true, Bool.or_false, Bool.true_or, Bool.false_or, Bool.not_true, Bool.not_false, bi]
    · refine am_iconst rfl ?_
      refine am_goto rfl ?_
      refine am_ireturn rfl (fun _ => by decide) ⟨?_, rfl⟩
      simp only [mov, decide_eq_false h4, decide_eq_false h10, cond_true, cond_false, Bool.and_true, Bool.and_false, Bool.true_and, Bool.false_and, Bool.or_true, Bool.or_false, Bool.true_or, Bool.false_or, Bool.not_true, Bool.not_false, bi]
def ins (A : Nat → Nat → Option Nat) (f : Nat → Int32) (n v : Nat) (r : Int32) : Nat := cnt (fun u => (A u v).isSome && (decide (f u = 0) || !decide (f u < r))) n
theorem m_inside (N : MN S n q fa fb) (x : Nat) (r : Int32) (hx : x < 12) : AW g (d + 2) 0 0 122 0 (am_L0 122 [.ref 38, .int (nI x), .int (r)]) [] (mem ch S) (am_is (some (.int (nI (ins (bt fa fb q) (S 47) n x r)))) (mem ch S)) := by
  have hn := N.2.1
  unfold ins
  refine am_iconst rfl ?_
  refine am_istore_n rfl ?_
  refine am_iconst rfl ?_
  refine am_istore rfl ?_
  show AW g _ 0 0 122 4 [some (.ref 38), some (.int (nI x)), some (.int (r)), some (.int (nI (cnt (fun u => (bt fa fb q u x).isSome && (decide (S 47 u = 0) || !decide (S 47 u < r))) 0))), some (.int (nI 0))] [] _ _
  refine am_for (n) (fun v => [some (.ref 38), some (.int (nI x)), some (.int (r)), some (.int (nI (cnt (fun u => (bt fa fb q u x).isSome && (decide (S 47 u = 0) || !decide (S 47 u < r))) v))), some (.int (nI v))]) (fun v => mem ch S) (fun v hv k => ?_) ?_ (n) 0 (by omega)
  · refine am_iload rfl rfl ?_
    refine am_aload_n rfl rfl rfl ?_
    refine am_get rfl rfl rfl ?_
    refine am_icmp_ge rfl (fun h => absurd h (nm_lt N.1 hn hv)) (fun _ => ?_)
    refine am_aload_n rfl rfl rfl ?_
    refine am_iload rfl rfl ?_
    refine am_iload_n rfl rfl ?_
    refine am_Vx [.int (nI v), .int (nI x)] rfl rfl rfl rfl rfl rfl (m_areN (d := _) N (v) (x) (by omega) (by omega)) ?_
    refine am_if_eq rfl (fun h12 => ?_) (fun h12 => ?_)
    · refine am_iload_n rfl rfl ?_
      refine am_istore_n rfl ?_
      refine am_iinc rfl rfl ?_
      refine am_goto rfl ?_
      simp only [cnt, bi_0 h12, cond_true, cond_false, Bool.and_true, Bool.and_false, Bool.true_and, Bool.false_and, Bool.or_true, Bool.or_false, Bool.true_or, Bool.false_or, Bool.not_true, Bool.not_false, nI_succ] at k
      exact k
    · refine am_aload_n rfl rfl rfl ?_
      refine am_get rfl rfl rfl ?_
      refine am_iload rfl rfl ?_
      refine am_iald rfl rfl rfl (by omega) (by decide) ?_
      refine am_if_eq rfl (fun h17 => ?_) (fun h17 => ?_)
      · refine am_iload_n rfl rfl ?_
        refine am_iconst rfl ?_
        refine am_iadd rfl ?_
        refine am_goto rfl ?_
        refine am_istore_n rfl ?_
        refine am_iinc rfl rfl ?_
        refine am_goto rfl ?_
        simp only [cnt, bi_1 h12, decide_eq_true h17, cond_true, cond_false, Bool.and_true, Bool.and_false, Bool.true_and, Bool.false_and, Bool.or_true, Bool.or_false, Bool.true_or, Bool.false_or, Bool.not_true, Bool.not_false, nI_succ] at k
        exact k
      · refine am_aload_n rfl rfl rfl ?_
        refine am_get rfl rfl rfl ?_
        refine am_iload rfl rfl ?_
        refine am_iald rfl rfl rfl (by omega) (by decide) ?_
        refine am_iload_n rfl rfl ?_
        refine am_icmp_lt rfl (fun h23 => ?_) (fun h23 => ?_)
        · refine am_iload_n rfl rfl ?_
          refine am_istore_n rfl ?_
          refine am_iinc rfl rfl ?_
          refine am_goto rfl ?_
          simp only [cnt, bi_1 h12, decide_eq_false h17, decide_eq_true h23, cond_true, cond_false, Bool.and_true, Bool.and_false, Bool.true_and, Bool.false_and, Bool.or_true, Bool.or_false, Bool.true_or, Bool.false_or, Bool.not_true, Bool.not_false, nI_succ] at k
          exact k
        · refine am_iload_n rfl rfl ?_
          refine am_iconst rfl ?_
          refine am_iadd rfl ?_
          refine am_goto rfl ?_
          refine am_istore_n rfl ?_
          refine am_iinc rfl rfl ?_
          refine am_goto rfl ?_
          simp only [cnt, bi_1 h12, decide_eq_false h17, decide_eq_false h23, cond_true, cond_false, Bool.and_true, Bool.and_false, Bool.true_and, Bool.false_and, Bool.or_true, Bool.or_false, Bool.true_or, Bool.false_or, Bool.not_true, Bool.not_false, nI_succ] at k
          exact k
  · refine am_iload rfl rfl ?_
    refine am_aload_n rfl rfl rfl ?_
    refine am_get rfl rfl rfl ?_
    refine am_icmp_ge rfl (fun _ => ?_) (fun h => absurd (nm_ge N.1 hn) h)
    refine am_iload_n rfl rfl ?_
    refine am_ireturn rfl (fun h => absurd h (by decide)) ⟨?_, rfl⟩
    rfl
def opn (fa fb : Nat → Nat) (f : Nat → Int32) (q : Nat) (r : Int32) : Nat := cnt (fun e => !(mov f (fa e) r || mov f (fb e) r)) q
theorem m_open (N : MN S n q fa fb) (r : Int32) : AW g (d + 1) 0 0 127 0 (am_L0 127 [.ref 38, .int (r)]) [] (mem ch S) (am_is (some (.int (nI (opn fa fb (S 47) q (r - 1))))) (mem ch S)) := by
  have hn := N.2.1
  have hq := N.2.2.2.1
  unfold opn
  refine am_iconst rfl ?_
  refine am_istore_n rfl ?_
  refine am_iconst rfl ?_
  refine am_istore_n rfl ?_
  show AW g _ 0 0 127 4 [some (.ref 38), some (.int (r)), some (.int (nI (cnt (fun e => !(mov (S 47) (fa e) (r - 1) || mov (S 47) (fb e) (r - 1))) 0))), some (.int (nI 0))] [] _ _
  refine am_for (q) (fun v => [some (.ref 38), some (.int (r)), some (.int (nI (cnt (fun e => !(mov (S 47) (fa e) (r - 1) || mov (S 47) (fb e) (r - 1))) v))), some (.int (nI v))]) (fun v => mem ch S) (fun v hv k => ?_) ?_ (q) 0 (by omega)
  · obtain ⟨e1, e2, l1, l2⟩ := N.2.2.2.2 v hv
    refine am_iload_n rfl rfl ?_
    refine am_aload_n rfl rfl rfl ?_
    refine am_get rfl rfl rfl ?_
    refine am_icmp_ge rfl (fun h => absurd h (ed_lt N hv)) (fun _ => ?_)
    refine am_aload_n rfl rfl rfl ?_
    refine am_aload_n rfl rfl rfl ?_
    refine am_get rfl rfl rfl ?_
    refine am_iload_n rfl rfl ?_
    refine am_iald rfl rfl rfl (by omega) (by decide) ?_
    rw [e1]
    refine am_iload_n rfl rfl ?_
    refine am_iconst rfl ?_
    refine am_isub rfl ?_
    refine am_Vx [.int (nI (fa v)), .int (r - 1)] rfl rfl rfl rfl rfl rfl (m_isOver (d := _) (fa v) (by omega) (r - 1)) ?_
    refine am_if_ne rfl (fun h17 => ?_) (fun h17 => ?_)
    · refine am_iload_n rfl rfl ?_
      refine am_goto rfl ?_
      refine am_istore_n rfl ?_
      refine am_iinc rfl rfl ?_
      refine am_goto rfl ?_
      simp only [cnt, bi_1 h17, cond_true, cond_false, Bool.and_true, Bool.and_false, Bool.true_and, Bool.false_and, Bool.or_true, Bool.or_false, Bool.true_or, Bool.false_or, Bool.not_true, Bool.not_false, nI_succ] at k
      exact k
    · refine am_aload_n rfl rfl rfl ?_
      refine am_aload_n rfl rfl rfl ?_
      refine am_get rfl rfl rfl ?_
      refine am_iload_n rfl rfl ?_
      refine am_iald rfl rfl rfl (by omega) (by decide) ?_
      rw [e2]
      refine am_iload_n rfl rfl ?_
      refine am_iconst rfl ?_
      refine am_isub rfl ?_
      refine am_Vx [.int (nI (fb v)), .int (r - 1)] rfl rfl rfl rfl rfl rfl (m_isOver (d := _) (fb v) (by omega) (r - 1)) ?_
      refine am_if_eq rfl (fun h27 => ?_) (fun h27 => ?_)
      · refine am_iload_n rfl rfl ?_
        refine am_iconst rfl ?_
        refine am_iadd rfl ?_
        refine am_istore_n rfl ?_
        refine am_iinc rfl rfl ?_
        refine am_goto rfl ?_
        simp only [cnt, bi_0 h17, bi_0 h27, cond_true, cond_false, Bool.and_true, Bool.and_false, Bool.true_and, Bool.false_and, Bool.or_true, Bool.or_false, Bool.true_or, Bool.false_or, Bool.not_true, Bool.not_false, nI_succ] at k
        exact k
      · refine am_iload_n rfl rfl ?_
        refine am_goto rfl ?_
        refine am_istore_n rfl ?_
        refine am_iinc rfl rfl ?_
        refine am_goto rfl ?_
        simp only [cnt, bi_0 h17, bi_1 h27, cond_true, cond_false, Bool.and_true, Bool.and_false, Bool.true_and, Bool.false_and, Bool.or_true, Bool.or_false, Bool.true_or, Bool.false_or, Bool.not_true, Bool.not_false, nI_succ] at k
        exact k
  · refine am_iload_n rfl rfl ?_
    refine am_aload_n rfl rfl rfl ?_
    refine am_get rfl rfl rfl ?_
    refine am_icmp_ge rfl (fun _ => ?_) (fun h => absurd (ed_ge N) h)
    refine am_iload_n rfl rfl ?_
    refine am_ireturn rfl (fun h => absurd h (by decide)) ⟨?_, rfl⟩
    rfl
def lst1 (ids f : Nat → Int32) (x : Nat) (r : Int32) (u w : Nat) : Nat := bif !decide (r < f (12 * x + u)) && !decide (ids w ≤ ids u) then u else w
def lst (ids f : Nat → Int32) (n x : Nat) (r : Int32) : Nat := itr (lst1 ids f x r) n x
theorem lst_lt {ids f : Nat → Int32} {x : Nat} {r : Int32} (hx : x < 12) : ∀ {k : Nat}, k ≤ 12 → itr (lst1 ids f x r) k x < 12
  | 0, _ => hx
  | k + 1, hk => by
    have h := lst_lt (ids := ids) (f := f) (r := r) hx (k := k) (by omega)
    rw [itr_s]
    generalize itr (lst1 ids f x r) k x = w at h ⊢
    unfold lst1
    cases (!decide (r < f (12 * x + k)) && !decide (ids w ≤ ids k))
    · exact h
    · show k < 12
      omega
theorem m_least (N : MN S n q fa fb) (x : Nat) (r : Int32) (hx : x < 12) : AW g (d + 1) 0 0 129 0 (am_L0 129 [.ref 38, .int (nI x), .int (r)]) [] (mem ch S) (am_is (some (.int (nI (lst (S 42) (S 43) n x r)))) (mem ch S)) := by
  have hn := N.2.1
  unfold lst
  refine am_iload_n rfl rfl ?_
  refine am_istore_n rfl ?_
  refine am_iconst rfl ?_
  refine am_istore rfl ?_
  show AW g _ 0 0 129 4 [some (.ref 38), some (.int (nI x)), some (.int (r)), some (.int (nI x)), some (.int (nI 0))] [] _ _
  refine am_for (n) (fun v => [some (.ref 38), some (.int (nI x)), some (.int (r)), some (.int (nI (itr (lst1 (S 42) (S 43) x r) v x))), some (.int (nI v))]) (fun v => mem ch S) (fun v hv k => ?_) ?_ (n) 0 (by omega)
  · have hw := lst_lt (ids := S 42) (f := S 43) (r := r) hx (k := v) (by omega)
    rw [itr_s] at k
    generalize itr (lst1 (S 42) (S 43) x r) v x = w at k hw ⊢
    refine am_iload rfl rfl ?_
    refine am_aload_n rfl rfl rfl ?_
    refine am_get rfl rfl rfl ?_
    refine am_icmp_ge rfl (fun h => absurd h (nm_lt N.1 hn hv)) (fun _ => ?_)
    refine am_aload_n rfl rfl rfl ?_
    refine am_iload_n rfl rfl ?_
    refine am_iload rfl rfl ?_
    refine am_Vx [.int (nI x), .int (nI v)] rfl rfl rfl rfl rfl rfl (m_far (d := _) (x) (v) (by omega) (by omega)) ?_
    refine am_iload_n rfl rfl ?_
    refine am_icmp_gt rfl (fun h13 => ?_) (fun h13 => ?_)
    · refine am_iload_n rfl rfl ?_
      refine am_istore_n rfl ?_
      refine am_iinc rfl rfl ?_
      refine am_goto rfl ?_
      simp only [lst1, decide_eq_true h13, cond_true, cond_false, Bool.and_true, Bool.and_false, Bool.true_and, Bool.false_and, Bool.or_true, Bool.or_false, Bool.true_or, Bool.false_or, Bool.not_true, Bool.not_false, nI_succ] at k
      exact k
    · refine am_aload_n rfl rfl rfl ?_
      refine am_get rfl rfl rfl ?_
      refine am_iload rfl rfl ?_
      refine am_iald rfl rfl rfl (by omega) (by decide) ?_
      refine am_aload_n rfl rfl rfl ?_
      refine am_get rfl rfl rfl ?_
      refine am_iload_n rfl rfl ?_
      refine am_iald rfl rfl rfl (by omega) (by decide) ?_
      refine am_icmp_ge rfl (fun h22 => ?_) (fun h22 => ?_)
      · refine am_iload_n rfl rfl ?_
        refine am_istore_n rfl ?_
        refine am_iinc rfl rfl ?_
        refine am_goto rfl ?_
        simp only [lst1, decide_eq_false h13, decide_eq_true h22, cond_true, cond_false, Bool.and_true, Bool.and_false, Bool.true_and, Bool.false_and, Bool.or_true, Bool.or_false, Bool.true_or, Bool.false_or, Bool.not_true, Bool.not_false, nI_succ] at k
        exact k
      · refine am_iload rfl rfl ?_
        refine am_goto rfl ?_
        refine am_istore_n rfl ?_
        refine am_iinc rfl rfl ?_
        refine am_goto rfl ?_
        simp only [lst1, decide_eq_false h13, decide_eq_false h22, cond_true, cond_false, Bool.and_true, Bool.and_false, Bool.true_and, Bool.false_and, Bool.or_true, Bool.or_false, Bool.true_or, Bool.false_or, Bool.not_true, Bool.not_false, nI_succ] at k
        exact k
  · refine am_iload rfl rfl ?_
    refine am_aload_n rfl rfl rfl ?_
    refine am_get rfl rfl rfl ?_
    refine am_icmp_ge rfl (fun _ => ?_) (fun h => absurd (nm_ge N.1 hn) h)
    refine am_iload_n rfl rfl ?_
    refine am_ireturn rfl (fun h => absurd h (by decide)) ⟨?_, rfl⟩
    rfl
theorem m_wayOf (v r : Nat) (hv : v < 12) (hr : r ≤ 13) : AW g d 0 0 134 0 (am_L0 134 [.ref 38, .int (nI v), .int (nI r)]) [] (mem ch S) (am_is (some (.int (S 48 (12 * r + v)))) (mem ch S)) := by
  refine am_aload_n rfl rfl rfl ?_
  refine am_get rfl rfl rfl ?_
  refine am_bipush rfl ?_
  refine am_iload_n rfl rfl ?_
  refine am_imul rfl ?_
  refine am_iload_n rfl rfl ?_
  refine am_iadd rfl ?_
  refine am_iald rfl rfl (ix12 _ _) (by omega) (by decide) ?_
  refine am_ireturn rfl (fun h => absurd h (by decide)) ⟨?_, rfl⟩
  rfl
end MM3
end
section
/-! the model: ready, peel, pick -/
section MM4
variable {g : am_G} {d : Nat} {ch : Option Nat} {S : am_S0} {n q : Nat} {fa fb : Nat → Nat}
def mrd (A : Nat → Nat → Option Nat) (n : Nat) (ids f : Nat → Int32) : Nat := bif anyb (fun v => !decide (mdist A n f v < 1000000)) n then 1 else bif anyb (fun a => anyb (fun b => decide (b < a) && decide (ids a = ids b)) n) n then 2 else 0
theorem m_ready (N : MN S n q fa fb) : AW g (d + 3) 0 0 111 0 (am_L0 111 [.ref 38]) [] (mem ch S) (am_is (some (.int (nI (mrd (bt fa fb q) n (S 42) (S 43))))) (mem ch (bif decide (mrd (bt fa fb q) n (S 42) (S 43) = 0) then am_up (am_up S 43 (mdist (bt fa fb q) n (S 43))) 38 (upd (S 38) 6 1) else am_up S 43 (mdist (bt fa fb q) n (S 43))))) := by
  have hn := N.2.1
  unfold mrd
  refine am_aload_n rfl rfl rfl ?_
  refine am_Vx [] rfl rfl rfl rfl rfl rfl (m_measure (d := d) N) ?_
  generalize mdist (bt fa fb q) n (S 43) = D
  refine am_iconst rfl ?_
  refine am_istore_n rfl ?_
  show AW g _ 0 0 111 4 [some (.ref 38), some (.int (nI 0)), none] [] _ _
  refine am_forI (n) (fun v => [some (.ref 38), some (.int (nI v)), none]) (fun v => mem ch (am_up S 43 D)) (fun v => ∀ u, u < v → (!decide (D u < 1000000)) = false) (fun v hv hi k => ?_) (fun hi => ?_) (n) 0 (by omega) (fun u h => absurd h (Nat.not_lt_zero _))
  · refine am_iload_n rfl rfl ?_
    refine am_aload_n rfl rfl rfl ?_
    refine am_get rfl rfl rfl ?_
    refine am_icmp_ge rfl (fun h => absurd h (nm_lt (N.up (k := 43) (by decide)).1 hn hv)) (fun _ => ?_)
    refine am_aload_n rfl rfl rfl ?_
    refine am_get rfl rfl rfl ?_
    refine am_iload_n rfl rfl ?_
    refine am_iald rfl rfl rfl (by omega) (by decide) ?_
    refine am_ldc rfl ?_
    refine am_icmp_lt rfl (fun h13 => ?_) (fun h13 => ?_)
    · refine am_iinc rfl rfl ?_
      refine am_goto rfl ?_
      have k := k (fun u hu => by
        by_cases e : u = v
        · subst e; rw [decide_eq_true (show D u < 1000000 from h13)]; rfl
        · exact hi u (by omega))
      simp only [nI_succ] at k
      exact k
    · refine am_iconst rfl ?_
      refine am_ireturn rfl (fun h => absurd h (by decide)) ?_
      have e1 : anyb (fun v => !decide (D v < 1000000)) n = true := anyb_true.mpr ⟨v, hv, by rw [decide_eq_false (show ¬ D v < 1000000 from h13)]; rfl⟩
      rw [e1]
      exact ⟨rfl, rfl⟩
  · refine am_iload_n rfl rfl ?_
    refine am_aload_n rfl rfl rfl ?_
    refine am_get rfl rfl rfl ?_
    refine am_icmp_ge rfl (fun _ => ?_) (fun h => absurd (nm_ge (N.up (k := 43) (by decide)).1 hn) h)
    refine am_iconst rfl ?_
    refine am_istore_n rfl ?_
    rw [anyb_false hi, cond_false]
    show AW g _ 0 0 111 20 [some (.ref 38), some (.int (nI 0)), none] [] _ _
    refine am_forS (n) (fun a s => [some (.ref 38), some (.int (nI a)), s]) (fun a s => mem ch (am_up S 43 D)) (fun a s => ∀ b c, b < a → c < b → ¬ S 42 b = S 42 c) (fun a s ha hi0 k0 => ?_) (fun s hi0 => ?_) (n) 0 (none) (by omega) (fun b c h => absurd h (Nat.not_lt_zero _))
    · refine am_iload_n rfl rfl ?_
      refine am_aload_n rfl rfl rfl ?_
      refine am_get rfl rfl rfl ?_
      refine am_icmp_ge rfl (fun h => absurd h (nm_lt (N.up (k := 43) (by decide)).1 hn ha)) (fun _ => ?_)
      refine am_iconst rfl ?_
      refine am_istore_n rfl ?_
      show AW g _ 0 0 111 26 [some (.ref 38), some (.int (nI a)), some (.int (nI 0))] [] _ _
      refine am_forI (a) (fun v => [some (.ref 38), some (.int (nI a)), some (.int (nI v))]) (fun v => mem ch (am_up S 43 D)) (fun v => ∀ b, b < v → ¬ S 42 a = S 42 b) (fun v hv hi k => ?_) (fun hi => ?_) (a) 0 (by omega) (fun b h => absurd h (Nat.not_lt_zero _))
      · refine am_iload_n rfl rfl ?_
        refine am_iload_n rfl rfl ?_
        refine am_icmp_ge rfl (fun h => absurd h (nI_ge hv (by omega))) (fun _ => ?_)
        refine am_aload_n rfl rfl rfl ?_
        refine am_get rfl rfl rfl ?_
        refine am_iload_n rfl rfl ?_
        refine am_iald rfl rfl rfl (by omega) (by decide) ?_
        refine am_aload_n rfl rfl rfl ?_
        refine am_get rfl rfl rfl ?_
        refine am_iload_n rfl rfl ?_
        refine am_iald rfl rfl rfl (by omega) (by decide) ?_
        refine am_icmp_ne rfl (fun h37 => ?_) (fun h37 => ?_)
        · refine am_iinc rfl rfl ?_
          refine am_goto rfl ?_
          have k := k (fun b hb => by
            by_cases e : b = v
            · subst e; exact h37
            · exact hi b (by omega))
          simp only [nI_succ] at k
          exact k
        · refine am_iconst rfl ?_
          refine am_ireturn rfl (fun h => absurd h (by decide)) ?_
          have e2 : anyb (fun a => anyb (fun b => decide (b < a) && decide (S 42 a = S 42 b)) n) n = true := anyb_true.mpr ⟨a, ha, anyb_true.mpr ⟨v, by omega, by rw [decide_eq_true hv, Bool.true_and]; exact decide_eq_true h37⟩⟩
          rw [e2]
          exact ⟨rfl, rfl⟩
      · refine am_iload_n rfl rfl ?_
        refine am_iload_n rfl rfl ?_
        refine am_icmp_ge rfl (fun _ => ?_) (fun h => absurd (nI_le (Nat.le_refl a) (by omega)) h)
        refine am_iinc rfl rfl ?_
        refine am_goto rfl ?_
        have k0 := k0 (some (.int (nI a))) (fun b c h1 h2 => by
          by_cases e : b = a
          · subst e; exact hi c h2
          · exact hi0 b c (by omega) h2)
        simp only [nI_succ] at k0
        exact k0
    · refine am_iload_n rfl rfl ?_
      refine am_aload_n rfl rfl rfl ?_
      refine am_get rfl rfl rfl ?_
      refine am_icmp_ge rfl (fun _ => ?_) (fun h => absurd (nm_ge (N.up (k := 43) (by decide)).1 hn) h)
      refine am_aload_n rfl rfl rfl ?_
      refine am_iconst rfl ?_
      refine am_put rfl rfl (Nat.le_of_ble_eq_true rfl) rfl ?_
      refine am_iconst rfl ?_
      refine am_ireturn rfl (fun h => absurd h (by decide)) ?_
      have e2 : anyb (fun a => anyb (fun b => decide (b < a) && decide (S 42 a = S 42 b)) n) n = false := anyb_false (fun a ha => anyb_false (fun b hb => by
        by_cases h : b < a
        · rw [decide_eq_false (hi0 a b ha h), Bool.and_false]
        · rw [decide_eq_false h, Bool.false_and]))
      rw [e2]
      exact ⟨rfl, rfl⟩
def pel1 (A : Nat → Nat → Option Nat) (n : Nat) (K : Int32) (r v : Nat) (f : Nat → Int32) : Nat → Int32 := upd f v (bif decide (f v = 0) && !decide (K ≤ nI (ins A f n v (nI r))) then nI r else f v)
def pel (A : Nat → Nat → Option Nat) (n : Nat) (K : Int32) (k : Nat) (f : Nat → Int32) : Nat → Int32 := itr (fun r => itr (pel1 A n K (r + 1)) n) k (pw n (fun _ => 0) f)
theorem m_peel (N : MN S n q fa fb) : AW g (d + 3) 0 0 121 0 (am_L0 121 [.ref 38]) [] (mem ch S) (am_is none (mem ch (am_up S 47 (pel (bt fa fb q) n (S 38 9) n (S 47))))) := by
  have hn := N.2.1
  refine am_iconst rfl ?_
  refine am_istore_n rfl ?_
  refine am_Meq (M' := mem ch (am_up S 47 (pw 0 (fun _ => 0) (S 47)))) (by rw [pw_0, am_up_self]) ?_
  show AW g _ 0 0 121 2 [some (.ref 38), some (.int (nI 0)), none, none] [] _ _
  refine am_for (n) (fun v => [some (.ref 38), some (.int (nI v)), none, none]) (fun v => mem ch (am_up S 47 (pw v (fun _ => 0) (S 47)))) (fun v hv k => ?_) ?_ (n) 0 (by omega)
  · refine am_iload_n rfl rfl ?_
    refine am_aload_n rfl rfl rfl ?_
    refine am_get rfl rfl rfl ?_
    refine am_icmp_ge rfl (fun h => absurd h (nm_lt (N.up (k := 47) (by decide)).1 hn hv)) (fun _ => ?_)
    refine am_aload_n rfl rfl rfl ?_
    refine am_get rfl rfl rfl ?_
    refine am_iload_n rfl rfl ?_
    refine am_iconst rfl ?_
    refine am_iast rfl rfl rfl (by omega) (by decide) ?_
    refine am_Meq ms47 ?_
    refine am_iinc rfl rfl ?_
    refine am_goto rfl ?_
    have e : upd (am_up S 47 (pw v (fun _ => 0) (S 47)) 47) v 0 = pw (v + 1) (fun _ => 0) (S 47) := pw_s v (fun _ => 0) (S 47)
    rw [e]
    simp only [nI_succ] at k
    exact k
  · refine am_iload_n rfl rfl ?_
    refine am_aload_n rfl rfl rfl ?_
    refine am_get rfl rfl rfl ?_
    refine am_icmp_ge rfl (fun _ => ?_) (fun h => absurd (nm_ge (N.up (k := 47) (by decide)).1 hn) h)
    refine am_iconst rfl ?_
    refine am_istore_n rfl ?_
    show AW g _ 0 0 121 15 [some (.ref 38), some (.int (nI (0 + 1))), none, none] [] _ _
    refine am_Meq (M' := mem ch (am_up S 47 (pel (bt fa fb q) n (S 38 9) 0 (S 47)))) rfl ?_
    refine am_forS (n) (fun r s => [some (.ref 38), some (.int (nI (r + 1))), s.1, s.2]) (fun r s => mem ch (am_up S 47 (pel (bt fa fb q) n (S 38 9) r (S 47)))) (fun r s => True) (fun r s hr _ k1 => ?_) (fun s _ => ?_) (n) 0 ((none, none)) (by omega) trivial
    · unfold pel at k1 ⊢
      rw [itr_s] at k1
      generalize itr (fun r => itr (pel1 (bt fa fb q) n (S 38 9) (r + 1)) n) r (pw n (fun _ => 0) (S 47)) = F at k1 ⊢
      refine am_iload_n rfl rfl ?_
      refine am_aload_n rfl rfl rfl ?_
      refine am_get rfl rfl rfl ?_
      refine am_icmp_gt rfl (fun h => absurd h (by rw [(MN.up N (k := 47) (by decide)).1]; exact nI_nlt (by omega) (by omega))) (fun _ => ?_)
      refine am_iconst rfl ?_
      refine am_istore_n rfl ?_
      show AW g _ 0 0 121 21 [some (.ref 38), some (.int (nI (r + 1))), some (.int (nI 0)), s.2] [] _ _
      refine am_Meq (M' := mem ch (am_up S 47 (itr (pel1 (bt fa fb q) n (S 38 9) (r + 1)) 0 F))) rfl ?_
      refine am_forS (n) (fun v z => [some (.ref 38), some (.int (nI (r + 1))), some (.int (nI v)), z]) (fun v z => mem ch (am_up S 47 (itr (pel1 (bt fa fb q) n (S 38 9) (r + 1)) v F))) (fun v z => True) (fun v z hv _ k => ?_) (fun z _ => ?_) (n) 0 (s.2) (by omega) trivial
      · rw [itr_s] at k
        generalize itr (pel1 (bt fa fb q) n (S 38 9) (r + 1)) v F = F1 at k ⊢
        refine am_iload_n rfl rfl ?_
        refine am_aload_n rfl rfl rfl ?_
        refine am_get rfl rfl rfl ?_
        refine am_icmp_ge rfl (fun h => absurd h (nm_lt (N.up (k := 47) (by decide)).1 hn hv)) (fun _ => ?_)
        refine am_aload_n rfl rfl rfl ?_
        refine am_get rfl rfl rfl ?_
        refine am_iload_n rfl rfl ?_
        refine am_iald rfl rfl rfl (by omega) (by decide) ?_
        refine am_if_ne rfl (fun h29 => ?_) (fun h29 => ?_)
        · refine am_iconst rfl ?_
          refine am_istore_n rfl ?_
          refine am_aload_n rfl rfl rfl ?_
          refine am_get rfl rfl rfl ?_
          refine am_iload_n rfl rfl ?_
          refine am_iload_n rfl rfl ?_
          refine am_if_eq rfl (fun _ => ?_) (fun h => absurd (by decide) h)
          refine am_aload_n rfl rfl rfl ?_
          refine am_get rfl rfl rfl ?_
          refine am_iload_n rfl rfl ?_
          refine am_iald rfl rfl rfl (by omega) (by decide) ?_
          refine am_iast rfl rfl rfl (by omega) (by decide) ?_
          refine am_Meq ms47 ?_
          refine am_iinc rfl rfl ?_
          refine am_goto rfl ?_
          simp only [pel1, decide_eq_false (show ¬ F1 v = 0 from h29), Bool.false_and, Bool.and_false, Bool.true_and, Bool.not_true, Bool.not_false, cond_true, cond_false, nI_succ v] at k
          exact k _ trivial
        · refine am_aload_n rfl rfl rfl ?_
          refine am_iload_n rfl rfl ?_
          refine am_iload_n rfl rfl ?_
          refine am_Vx [.int (nI v), .int (nI (r + 1))] rfl rfl rfl rfl rfl rfl (m_inside (d := _) (N.up (k := 47) (by decide)) (v) (nI (r + 1)) (by omega)) ?_
          refine am_aload_n rfl rfl rfl ?_
          refine am_get rfl rfl rfl ?_
          refine am_icmp_ge rfl (fun h36 => ?_) (fun h36 => ?_)
          · refine am_iconst rfl ?_
            refine am_istore_n rfl ?_
            refine am_aload_n rfl rfl rfl ?_
            refine am_get rfl rfl rfl ?_
            refine am_iload_n rfl rfl ?_
            refine am_iload_n rfl rfl ?_
            refine am_if_eq rfl (fun _ => ?_) (fun h => absurd (by decide) h)
            refine am_aload_n rfl rfl rfl ?_
            refine am_get rfl rfl rfl ?_
            refine am_iload_n rfl rfl ?_
            refine am_iald rfl rfl rfl (by omega) (by decide) ?_
            refine am_iast rfl rfl rfl (by omega) (by decide) ?_
            refine am_Meq ms47 ?_
            refine am_iinc rfl rfl ?_
            refine am_goto rfl ?_
            simp only [pel1, decide_eq_true (show F1 v = 0 from h29), decide_eq_true (show S 38 9 ≤ nI (ins (bt fa fb q) F1 n v (nI (r + 1))) from h36), Bool.false_and, Bool.and_false, Bool.true_and, Bool.not_true, Bool.not_false, cond_true, cond_false, nI_succ v] at k
            exact k _ trivial
          · refine am_iconst rfl ?_
            refine am_goto rfl ?_
            refine am_istore_n rfl ?_
            refine am_aload_n rfl rfl rfl ?_
            refine am_get rfl rfl rfl ?_
            refine am_iload_n rfl rfl ?_
            refine am_iload_n rfl rfl ?_
            refine am_if_eq rfl (fun h => absurd h (by decide)) (fun _ => ?_)
            refine am_iload_n rfl rfl ?_
            refine am_goto rfl ?_
            refine am_iast rfl rfl rfl (by omega) (by decide) ?_
            refine am_Meq ms47 ?_
            refine am_iinc rfl rfl ?_
            refine am_goto rfl ?_
            simp only [pel1, decide_eq_true (show F1 v = 0 from h29), decide_eq_false (show ¬ S 38 9 ≤ nI (ins (bt fa fb q) F1 n v (nI (r + 1))) from h36), Bool.false_and, Bool.and_false, Bool.true_and, Bool.not_true, Bool.not_false, cond_true, cond_false, nI_succ v] at k
            exact k _ trivial
      · refine am_iload_n rfl rfl ?_
        refine am_aload_n rfl rfl rfl ?_
        refine am_get rfl rfl rfl ?_
        refine am_icmp_ge rfl (fun _ => ?_) (fun h => absurd (nm_ge (N.up (k := 47) (by decide)).1 hn) h)
        refine am_iinc rfl rfl ?_
        refine am_goto rfl ?_
        have k1 := k1 (some (.int (nI n)), z) trivial
        rw [nI_succ (r + 1)] at k1
        exact k1
    · refine am_iload_n rfl rfl ?_
      refine am_aload_n rfl rfl rfl ?_
      refine am_get rfl rfl rfl ?_
      refine am_icmp_gt rfl (fun _ => ?_) (fun h => absurd (show am_up S 47 _ 38 0 < nI (n + 1) by rw [(N.up (k := 47) (by decide)).1]; exact nI_lt (by omega) (by omega)) h)
      exact am_return rfl ⟨rfl, rfl⟩
end MM4
end
section
/-! the model: pick, match -/
theorem am_up_comm (S : am_S0) {j k : Nat} (f h : Nat → Int32) (e : j ≠ k) : am_up (am_up S j f) k h = am_up (am_up S k h) j f := by
  funext i
  unfold am_up
  by_cases h1 : i = k
  · rw [if_pos h1, if_neg (by omega), if_pos h1]
  · rw [if_neg h1]
    by_cases h2 : i = j
    · rw [if_pos h2, if_pos h2]
    · rw [if_neg h2, if_neg h2, if_neg h1]
theorem mt46 {ch : Option Nat} {S : am_S0} {f h f2 : Nat → Int32} : (mem ch (am_up (am_up S 46 f) 47 h)).set 46 (.inl (0, 12, .inl f2)) = mem ch (am_up (am_up S 46 f2) 47 h) := by
  show mem ch (am_up (am_up (am_up S 46 f) 47 h) 46 f2) = _
  rw [am_up_comm _ h f2 (by decide), am_up_up]
theorem mt47 {ch : Option Nat} {S : am_S0} {f h f2 : Nat → Int32} : (mem ch (am_up (am_up S 46 f) 47 h)).set 47 (.inl (0, 12, .inl f2)) = mem ch (am_up (am_up S 46 f) 47 f2) := ms47
theorem bif_or {α : Type} {c : Bool} {a b x : α} (h : (bif c then a else b) = x) : a = x ∨ b = x := by cases c; exact Or.inr h; exact Or.inl h
def pk1 (ids en : Nat → Int32) (u : Nat) (v : Option Nat) : Option Nat := bif decide (en u = 0) && (match v with | none => true | some w => !decide (ids u ≤ ids w)) then some u else v
def pkv (ids en : Nat → Int32) (n : Nat) : Option Nat := itr (pk1 ids en) n none
theorem pk1_lt {ids en : Nat → Int32} : ∀ {k x : Nat}, itr (pk1 ids en) k none = some x → x < k
  | 0, x, h => by cases h
  | k + 1, x, h => by
    rw [itr_s] at h
    have ih := @pk1_lt ids en k
    generalize itr (pk1 ids en) k none = w at h ih
    unfold pk1 at h
    rcases bif_or h with h | h
    · have : k = x := Option.some.inj h
      omega
    · have := ih h
      omega
def pk2 (A : Nat → Nat → Option Nat) (en wh : Nat → Int32) (x u : Nat) (p : Int32 × Int32) : Int32 × Int32 := (bif (A u x).isSome && decide (en u = 1) then (bif decide (p.1 ≤ wh u) then p.1 else wh u) else p.1, bif (A u x).isSome && decide (en u = 2) then (bif decide (wh u ≤ p.2) then p.2 else wh u) else p.2)
def pkU (A : Nat → Nat → Option Nat) (n : Nat) (s : (Nat → Int32) × (Nat → Int32)) (x : Nat) : (Nat → Int32) × (Nat → Int32) := (upd s.1 x (bif decide (1000000 ≤ (itr (pk2 A s.1 s.2 x) n (1000000, 0)).1) then 1 else 2), upd s.2 x (bif decide (1000000 ≤ (itr (pk2 A s.1 s.2 x) n (1000000, 0)).1) then (itr (pk2 A s.1 s.2 x) n (1000000, 0)).2 + 1 else (itr (pk2 A s.1 s.2 x) n (1000000, 0)).1))
def pkS (A : Nat → Nat → Option Nat) (ids : Nat → Int32) (n : Nat) (s : (Nat → Int32) × (Nat → Int32)) : (Nat → Int32) × (Nat → Int32) := match pkv ids s.1 n with
  | none => s
  | some x => pkU A n s x
def pck (A : Nat → Nat → Option Nat) (ids : Nat → Int32) (n k : Nat) (f h : Nat → Int32) : (Nat → Int32) × (Nat → Int32) := itr (fun _ => pkS A ids n) k (pw n (fun _ => 0) f, h)
section MM5
variable {g : am_G} {d : Nat} {ch : Option Nat} {S : am_S0} {n q : Nat} {fa fb : Nat → Nat}
theorem m_pk1 (N : MN S n q fa fb) {K : am_K} (k0 : Nat) (y : Option Value × Option Value) (kk : AW g d 0 0 117 49 [some (.ref 38), some (.int (nI k0)), some (.int (em (pkv (S 42) (S 46) n))), some (.int (nI n)), y.1, y.2] [] (mem ch S) K) : AW g d 0 0 117 23 [some (.ref 38), some (.int (nI k0)), some (.int (-1)), some (.int (nI 0)), y.1, y.2] [] (mem ch S) K := by
  have hn := N.2.1
  refine am_for (n) (fun v => [some (.ref 38), some (.int (nI k0)), some (.int (em (itr (pk1 (S 42) (S 46)) v none))), some (.int (nI v)), y.1, y.2]) (fun v => mem ch S) (fun v hv k => ?_) ?_ (n) 0 (by omega)
  · rw [itr_s] at k
    have hw := @pk1_lt (S 42) (S 46) v
    generalize itr (pk1 (S 42) (S 46)) v none = w at k hw ⊢
    rcases w with _ | w
    · refine am_iload_n rfl rfl ?_
      refine am_aload_n rfl rfl rfl ?_
      refine am_get rfl rfl rfl ?_
      refine am_icmp_ge rfl (fun h => absurd h (nm_lt N.1 hn hv)) (fun _ => ?_)
      refine am_aload_n rfl rfl rfl ?_
      refine am_get rfl rfl rfl ?_
      refine am_iload_n rfl rfl ?_
      refine am_iald rfl rfl rfl (by omega) (by decide) ?_
      refine am_if_ne rfl (fun h31 => ?_) (fun h31 => ?_)
      · refine am_iload_n rfl rfl ?_
        refine am_istore_n rfl ?_
        refine am_iinc rfl rfl ?_
        refine am_goto rfl ?_
        simp only [pk1, decide_eq_false h31, Bool.false_and, Bool.true_and, Bool.not_true, Bool.not_false, cond_true, cond_false, nI_succ] at k
        exact k
      · refine am_iload_n rfl rfl ?_
        refine am_if_lt rfl (fun _ => ?_) (fun h => absurd (by decide) h)
        refine am_iload_n rfl rfl ?_
        refine am_goto rfl ?_
        refine am_istore_n rfl ?_
        refine am_iinc rfl rfl ?_
        refine am_goto rfl ?_
        simp only [pk1, decide_eq_true h31, Bool.false_and, Bool.true_and, Bool.not_true, Bool.not_false, cond_true, cond_false, nI_succ] at k
        exact k
    · have hw2 := hw (x := w) rfl
      refine am_iload_n rfl rfl ?_
      refine am_aload_n rfl rfl rfl ?_
      refine am_get rfl rfl rfl ?_
      refine am_icmp_ge rfl (fun h => absurd h (nm_lt N.1 hn hv)) (fun _ => ?_)
      refine am_aload_n rfl rfl rfl ?_
      refine am_get rfl rfl rfl ?_
      refine am_iload_n rfl rfl ?_
      refine am_iald rfl rfl rfl (by omega) (by decide) ?_
      refine am_if_ne rfl (fun h31 => ?_) (fun h31 => ?_)
      · refine am_iload_n rfl rfl ?_
        refine am_istore_n rfl ?_
        refine am_iinc rfl rfl ?_
        refine am_goto rfl ?_
        simp only [pk1, decide_eq_false h31, Bool.false_and, Bool.true_and, Bool.not_true, Bool.not_false, cond_true, cond_false, nI_succ] at k
        exact k
      · refine am_iload_n rfl rfl ?_
        refine am_if_lt rfl (fun h => absurd h (nI_pos (n := w) (by omega))) (fun _ => ?_)
        refine am_aload_n rfl rfl rfl ?_
        refine am_get rfl rfl rfl ?_
        refine am_iload_n rfl rfl ?_
        refine am_iald rfl rfl rfl (by omega) (by decide) ?_
        refine am_aload_n rfl rfl rfl ?_
        refine am_get rfl rfl rfl ?_
        refine am_iload_n rfl rfl ?_
        refine am_iald rfl rfl rfl (by omega) (by decide) ?_
        refine am_icmp_le rfl (fun h42 => ?_) (fun h42 => ?_)
        · refine am_iload_n rfl rfl ?_
          refine am_istore_n rfl ?_
          refine am_iinc rfl rfl ?_
          refine am_goto rfl ?_
          simp only [pk1, decide_eq_true h31, decide_eq_true h42, Bool.false_and, Bool.true_and, Bool.not_true, Bool.not_false, cond_true, cond_false, nI_succ] at k
          exact k
        · refine am_iload_n rfl rfl ?_
          refine am_goto rfl ?_
          refine am_istore_n rfl ?_
          refine am_iinc rfl rfl ?_
          refine am_goto rfl ?_
          simp only [pk1, decide_eq_true h31, decide_eq_false h42, Bool.false_and, Bool.true_and, Bool.not_true, Bool.not_false, cond_true, cond_false, nI_succ] at k
          exact k
  · refine am_iload_n rfl rfl ?_
    refine am_aload_n rfl rfl rfl ?_
    refine am_get rfl rfl rfl ?_
    refine am_icmp_ge rfl (fun _ => ?_) (fun h => absurd (nm_ge N.1 hn) h)
    exact kk
theorem m_pk2 (N : MN S n q fa fb) {K : am_K} (k0 x : Nat) (hx : x < n) (kk : AW g (d + 2) 0 0 117 109 [some (.ref 38), some (.int (nI k0)), some (.int (nI x)), some (.int (itr (pk2 (bt fa fb q) (S 46) (S 47) x) n (1000000, 0)).1), some (.int (itr (pk2 (bt fa fb q) (S 46) (S 47) x) n (1000000, 0)).2), some (.int (nI n))] [] (mem ch S) K) : AW g (d + 2) 0 0 117 55 [some (.ref 38), some (.int (nI k0)), some (.int (nI x)), some (.int 1000000), some (.int 0), some (.int (nI 0))] [] (mem ch S) K := by
  have hn := N.2.1
  refine am_for (n) (fun v => [some (.ref 38), some (.int (nI k0)), some (.int (nI x)), some (.int ((itr (pk2 (bt fa fb q) (S 46) (S 47) x) v (1000000, 0)).1)), some (.int ((itr (pk2 (bt fa fb q) (S 46) (S 47) x) v (1000000, 0)).2)), some (.int (nI v))]) (fun v => mem ch S) (fun v hv k => ?_) ?_ (n) 0 (by omega)
  · rw [itr_s] at k
    generalize itr (pk2 (bt fa fb q) (S 46) (S 47) x) v (1000000, 0) = p at k ⊢
    refine am_iload rfl rfl ?_
    refine am_aload_n rfl rfl rfl ?_
    refine am_get rfl rfl rfl ?_
    refine am_icmp_ge rfl (fun h => absurd h (nm_lt N.1 hn hv)) (fun _ => ?_)
    refine am_aload_n rfl rfl rfl ?_
    refine am_iload rfl rfl ?_
    refine am_iload_n rfl rfl ?_
    refine am_Vx [.int (nI v), .int (nI x)] rfl rfl rfl rfl rfl rfl (m_areN (d := _) N (v) (x) (by omega) (by omega)) ?_
    refine am_if_eq rfl (fun h63 => ?_) (fun h63 => ?_)
    · refine am_aload_n rfl rfl rfl ?_
      refine am_iload rfl rfl ?_
      refine am_iload_n rfl rfl ?_
      refine am_Vx [.int (nI v), .int (nI x)] rfl rfl rfl rfl rfl rfl (m_areN (d := _) N (v) (x) (by omega) (by omega)) ?_
      refine am_if_eq rfl (fun _ => ?_) (fun h => absurd (show bi (bt fa fb q v x).isSome = 0 by rw [bi_0 h63]; rfl) h)
      refine am_iinc rfl rfl ?_
      refine am_goto rfl ?_
      simp only [pk2, bi_0 h63, Bool.false_and, Bool.true_and, cond_true, cond_false, nI_succ] at k
      exact k
    · refine am_aload_n rfl rfl rfl ?_
      refine am_get rfl rfl rfl ?_
      refine am_iload rfl rfl ?_
      refine am_iald rfl rfl rfl (by omega) (by decide) ?_
      refine am_iconst rfl ?_
      refine am_icmp_ne rfl (fun h69 => ?_) (fun h69 => ?_)
      · refine am_aload_n rfl rfl rfl ?_
        refine am_iload rfl rfl ?_
        refine am_iload_n rfl rfl ?_
        refine am_Vx [.int (nI v), .int (nI x)] rfl rfl rfl rfl rfl rfl (m_areN (d := _) N (v) (x) (by omega) (by omega)) ?_
        refine am_if_eq rfl (fun h => absurd h (by rw [bi_1 h63]; decide)) (fun _ => ?_)
        refine am_aload_n rfl rfl rfl ?_
        refine am_get rfl rfl rfl ?_
        refine am_iload rfl rfl ?_
        refine am_iald rfl rfl rfl (by omega) (by decide) ?_
        refine am_iconst rfl ?_
        refine am_icmp_ne rfl (fun h93 => ?_) (fun h93 => ?_)
        · refine am_iinc rfl rfl ?_
          refine am_goto rfl ?_
          simp only [pk2, bi_1 h63, decide_eq_false h69, decide_eq_false h93, Bool.false_and, Bool.true_and, cond_true, cond_false, nI_succ] at k
          exact k
        · refine am_aload_n rfl rfl rfl ?_
          refine am_get rfl rfl rfl ?_
          refine am_iload rfl rfl ?_
          refine am_iald rfl rfl rfl (by omega) (by decide) ?_
          refine am_iload rfl rfl ?_
          refine am_icmp_le rfl (fun h99 => ?_) (fun h99 => ?_)
          · refine am_iload rfl rfl ?_
            refine am_istore rfl ?_
            refine am_iinc rfl rfl ?_
            refine am_goto rfl ?_
            simp only [pk2, bi_1 h63, decide_eq_false h69, decide_eq_true h93, decide_eq_true h99, Bool.false_and, Bool.true_and, cond_true, cond_false, nI_succ] at k
            exact k
          · refine am_aload_n rfl rfl rfl ?_
            refine am_get rfl rfl rfl ?_
            refine am_iload rfl rfl ?_
            refine am_iald rfl rfl rfl (by omega) (by decide) ?_
            refine am_goto rfl ?_
            refine am_istore rfl ?_
            refine am_iinc rfl rfl ?_
            refine am_goto rfl ?_
            simp only [pk2, bi_1 h63, decide_eq_false h69, decide_eq_true h93, decide_eq_false h99, Bool.false_and, Bool.true_and, cond_true, cond_false, nI_succ] at k
            exact k
      · refine am_aload_n rfl rfl rfl ?_
        refine am_get rfl rfl rfl ?_
        refine am_iload rfl rfl ?_
        refine am_iald rfl rfl rfl (by omega) (by decide) ?_
        refine am_iload_n rfl rfl ?_
        refine am_icmp_ge rfl (fun h75 => ?_) (fun h75 => ?_)
        · refine am_iload_n rfl rfl ?_
          refine am_istore_n rfl ?_
          refine am_aload_n rfl rfl rfl ?_
          refine am_iload rfl rfl ?_
          refine am_iload_n rfl rfl ?_
          refine am_Vx [.int (nI v), .int (nI x)] rfl rfl rfl rfl rfl rfl (m_areN (d := _) N (v) (x) (by omega) (by omega)) ?_
          refine am_if_eq rfl (fun h => absurd h (by rw [bi_1 h63]; decide)) (fun _ => ?_)
          refine am_aload_n rfl rfl rfl ?_
          refine am_get rfl rfl rfl ?_
          refine am_iload rfl rfl ?_
          refine am_iald rfl rfl rfl (by omega) (by decide) ?_
          refine am_iconst rfl ?_
          refine am_icmp_ne rfl (fun h93 => ?_) (fun h93 => ?_)
          · refine am_iinc rfl rfl ?_
            refine am_goto rfl ?_
            simp only [pk2, bi_1 h63, decide_eq_true h69, decide_eq_true h75, decide_eq_false h93, Bool.false_and, Bool.true_and, cond_true, cond_false, nI_succ] at k
            exact k
          · refine am_aload_n rfl rfl rfl ?_
            refine am_get rfl rfl rfl ?_
            refine am_iload rfl rfl ?_
            refine am_iald rfl rfl rfl (by omega) (by decide) ?_
            refine am_iload rfl rfl ?_
            refine am_icmp_le rfl (fun h99 => ?_) (fun h99 => ?_)
            · refine am_iload rfl rfl ?_
              refine am_istore rfl ?_
              refine am_iinc rfl rfl ?_
              refine am_goto rfl ?_
              simp only [pk2, bi_1 h63, decide_eq_true h69, decide_eq_true h75, decide_eq_true h93, decide_eq_true h99, Bool.false_and, Bool.true_and, cond_true, cond_false, nI_succ] at k
              exact k
            · refine am_aload_n rfl rfl rfl ?_
              refine am_get rfl rfl rfl ?_
              refine am_iload rfl rfl ?_
              refine am_iald rfl rfl rfl (by omega) (by decide) ?_
              refine am_goto rfl ?_
              refine am_istore rfl ?_
              refine am_iinc rfl rfl ?_
              refine am_goto rfl ?_
              simp only [pk2, bi_1 h63, decide_eq_true h69, decide_eq_true h75, decide_eq_true h93, decide_eq_false h99, Bool.false_and, Bool.true_and, cond_true, cond_false, nI_succ] at k
              exact k
        · refine am_aload_n rfl rfl rfl ?_
          refine am_get rfl rfl rfl ?_
          refine am_iload rfl rfl ?_
          refine am_iald rfl rfl rfl (by omega) (by decide) ?_
          refine am_goto rfl ?_
          refine am_istore_n rfl ?_
          refine am_aload_n rfl rfl rfl ?_
          refine am_iload rfl rfl ?_
          refine am_iload_n rfl rfl ?_
          refine am_Vx [.int (nI v), .int (nI x)] rfl rfl rfl rfl rfl rfl (m_areN (d := _) N (v) (x) (by omega) (by omega)) ?_
          refine am_if_eq rfl (fun h => absurd h (by rw [bi_1 h63]; decide)) (fun _ => ?_)
          refine am_aload_n rfl rfl rfl ?_
          refine am_get rfl rfl rfl ?_
          refine am_iload rfl rfl ?_
          refine am_iald rfl rfl rfl (by omega) (by decide) ?_
          refine am_iconst rfl ?_
          refine am_icmp_ne rfl (fun h93 => ?_) (fun h93 => ?_)
          · refine am_iinc rfl rfl ?_
            refine am_goto rfl ?_
            simp only [pk2, bi_1 h63, decide_eq_true h69, decide_eq_false h75, decide_eq_false h93, Bool.false_and, Bool.true_and, cond_true, cond_false, nI_succ] at k
            exact k
          · refine am_aload_n rfl rfl rfl ?_
            refine am_get rfl rfl rfl ?_
            refine am_iload rfl rfl ?_
            refine am_iald rfl rfl rfl (by omega) (by decide) ?_
            refine am_iload rfl rfl ?_
            refine am_icmp_le rfl (fun h99 => ?_) (fun h99 => ?_)
            · refine am_iload rfl rfl ?_
              refine am_istore rfl ?_
              refine am_iinc rfl rfl ?_
              refine am_goto rfl ?_
              simp only [pk2, bi_1 h63, decide_eq_true h69, decide_eq_false h75, decide_eq_true h93, decide_eq_true h99, Bool.false_and, Bool.true_and, cond_true, cond_false, nI_succ] at k
              exact k
            · refine am_aload_n rfl rfl rfl ?_
              refine am_get rfl rfl rfl ?_
              refine am_iload rfl rfl ?_
              refine am_iald rfl rfl rfl (by omega) (by decide) ?_
              refine am_goto rfl ?_
              refine am_istore rfl ?_
              refine am_iinc rfl rfl ?_
              refine am_goto rfl ?_
              simp only [pk2, bi_1 h63, decide_eq_true h69, decide_eq_false h75, decide_eq_true h93, decide_eq_false h99, Bool.false_and, Bool.true_and, cond_true, cond_false, nI_succ] at k
              exact k
  · refine am_iload rfl rfl ?_
    refine am_aload_n rfl rfl rfl ?_
    refine am_get rfl rfl rfl ?_
    refine am_icmp_ge rfl (fun _ => ?_) (fun h => absurd (nm_ge N.1 hn) h)
    exact kk
theorem m_pick (N : MN S n q fa fb) (hp : ∀ k, k < n → (pkv (S 42) (pck (bt fa fb q) (S 42) n k (S 46) (S 47)).1 n).isSome = true) : AW g (d + 2) 0 0 117 0 (am_L0 117 [.ref 38]) [] (mem ch S) (am_is none (mem ch (am_up (am_up S 46 (pck (bt fa fb q) (S 42) n n (S 46) (S 47)).1) 47 (pck (bt fa fb q) (S 42) n n (S 46) (S 47)).2))) := by
  have hn := N.2.1
  refine am_iconst rfl ?_
  refine am_istore_n rfl ?_
  refine am_Meq (M' := mem ch (am_up S 46 (pw 0 (fun _ => 0) (S 46)))) (by rw [pw_0, am_up_self]) ?_
  show AW g _ 0 0 117 2 [some (.ref 38), some (.int (nI 0)), none, none, none, none] [] _ _
  refine am_for (n) (fun v => [some (.ref 38), some (.int (nI v)), none, none, none, none]) (fun v => mem ch (am_up S 46 (pw v (fun _ => 0) (S 46)))) (fun v hv k => ?_) ?_ (n) 0 (by omega)
  · refine am_iload_n rfl rfl ?_
    refine am_aload_n rfl rfl rfl ?_
    refine am_get rfl rfl rfl ?_
    refine am_icmp_ge rfl (fun h => absurd h (nm_lt (N.up (k := 46) (by decide)).1 hn hv)) (fun _ => ?_)
    refine am_aload_n rfl rfl rfl ?_
    refine am_get rfl rfl rfl ?_
    refine am_iload_n rfl rfl ?_
    refine am_iconst rfl ?_
    refine am_iast rfl rfl rfl (by omega) (by decide) ?_
    refine am_Meq ms46 ?_
    refine am_iinc rfl rfl ?_
    refine am_goto rfl ?_
    have e : upd (am_up S 46 (pw v (fun _ => 0) (S 46)) 46) v 0 = pw (v + 1) (fun _ => 0) (S 46) := pw_s v (fun _ => 0) (S 46)
    rw [e]
    simp only [nI_succ] at k
    exact k
  · refine am_iload_n rfl rfl ?_
    refine am_aload_n rfl rfl rfl ?_
    refine am_get rfl rfl rfl ?_
    refine am_icmp_ge rfl (fun _ => ?_) (fun h => absurd (nm_ge (N.up (k := 46) (by decide)).1 hn) h)
    refine am_iconst rfl ?_
    refine am_istore_n rfl ?_
    show AW g _ 0 0 117 15 [some (.ref 38), some (.int (nI 0)), none, none, none, none] [] _ _
    refine am_Meq (M' := mem ch (am_up (am_up S 46 (pck (bt fa fb q) (S 42) n 0 (S 46) (S 47)).1) 47 (pck (bt fa fb q) (S 42) n 0 (S 46) (S 47)).2)) (congrArg (mem ch) (am_up_self (am_up S 46 (pw n (fun _ => 0) (S 46))) 47).symm) ?_
    refine am_forS (n) (fun v s => [some (.ref 38), some (.int (nI v)), s.1, s.2.1, s.2.2.1, s.2.2.2]) (fun v s => mem ch (am_up (am_up S 46 (pck (bt fa fb q) (S 42) n v (S 46) (S 47)).1) 47 (pck (bt fa fb q) (S 42) n v (S 46) (S 47)).2)) (fun v s => True) (fun v s hv _ k => ?_) (fun s _ => ?_) (n) 0 ((none, none, none, none)) (by omega) trivial
    · have hq1 := hp v hv
      unfold pck at k hq1 ⊢
      rw [itr_s] at k
      generalize itr (fun _ => pkS (bt fa fb q) (S 42) n) v (pw n (fun _ => 0) (S 46), S 47) = s1 at k hq1 ⊢
      refine am_iload_n rfl rfl ?_
      refine am_aload_n rfl rfl rfl ?_
      refine am_get rfl rfl rfl ?_
      refine am_icmp_ge rfl (fun h => absurd h (nm_lt (((N.up (k := 46) (by decide)).up (k := 47) (by decide))).1 hn hv)) (fun _ => ?_)
      refine am_iconst rfl ?_
      refine am_istore_n rfl ?_
      refine am_iconst rfl ?_
      refine am_istore_n rfl ?_
      refine m_pk1 (y := (s.2.2.1, s.2.2.2)) (((N.up (k := 46) (by decide)).up (k := 47) (by decide))) v ?_
      show AW g _ 0 0 117 49 [some (.ref 38), some (.int (nI v)), some (.int (em (pkv (S 42) s1.1 n))), some (.int (nI n)), s.2.2.1, s.2.2.2] [] _ _
      obtain ⟨x, hx⟩ := Option.isSome_iff_exists.mp hq1
      have hxn : x < n := pk1_lt hx
      rw [show pkS (bt fa fb q) (S 42) n s1 = pkU (bt fa fb q) n s1 x by unfold pkS; rw [hx]] at k
      rw [hx]
      refine am_ldc rfl ?_
      refine am_istore_n rfl ?_
      refine am_iconst rfl ?_
      refine am_istore rfl ?_
      refine am_iconst rfl ?_
      refine am_istore rfl ?_
      refine m_pk2 (d := d) (((N.up (k := 46) (by decide)).up (k := 47) (by decide))) v x hxn ?_
      show AW g _ 0 0 117 109 [some (.ref 38), some (.int (nI v)), some (.int (nI x)), some (.int (itr (pk2 (bt fa fb q) s1.1 s1.2 x) n (1000000, 0)).1), some (.int (itr (pk2 (bt fa fb q) s1.1 s1.2 x) n (1000000, 0)).2), some (.int (nI n))] [] (mem ch (am_up (am_up S 46 s1.1) 47 s1.2)) _
      refine am_aload_n rfl rfl rfl ?_
      refine am_get rfl rfl rfl ?_
      refine am_iload_n rfl rfl ?_
      refine am_iload_n rfl rfl ?_
      refine am_ldc rfl ?_
      refine am_icmp_ge rfl (fun h114 => ?_) (fun h114 => ?_)
      · refine am_iconst rfl ?_
        refine am_iast rfl rfl rfl (by omega) (by decide) ?_
        refine am_Meq mt46 ?_
        refine am_aload_n rfl rfl rfl ?_
        refine am_get rfl rfl rfl ?_
        refine am_iload_n rfl rfl ?_
        refine am_iload_n rfl rfl ?_
        refine am_ldc rfl ?_
        refine am_icmp_ge rfl (fun _ => ?_) (fun h => absurd h114 h)
        refine am_iload rfl rfl ?_
        refine am_iconst rfl ?_
        refine am_iadd rfl ?_
        refine am_iast rfl rfl rfl (by omega) (by decide) ?_
        refine am_Meq mt47 ?_
        refine am_iinc rfl rfl ?_
        refine am_goto rfl ?_
        simp only [pkU, decide_eq_true (show 1000000 ≤ (itr (pk2 (bt fa fb q) s1.1 s1.2 x) n (1000000, 0)).1 from h114), cond_true, cond_false, nI_succ] at k
        exact k (_, _, _, _) trivial
      · refine am_iconst rfl ?_
        refine am_goto rfl ?_
        refine am_iast rfl rfl rfl (by omega) (by decide) ?_
        refine am_Meq mt46 ?_
        refine am_aload_n rfl rfl rfl ?_
        refine am_get rfl rfl rfl ?_
        refine am_iload_n rfl rfl ?_
        refine am_iload_n rfl rfl ?_
        refine am_ldc rfl ?_
        refine am_icmp_ge rfl (fun h => absurd h h114) (fun _ => ?_)
        refine am_iload_n rfl rfl ?_
        refine am_goto rfl ?_
        refine am_iast rfl rfl rfl (by omega) (by decide) ?_
        refine am_Meq mt47 ?_
        refine am_iinc rfl rfl ?_
        refine am_goto rfl ?_
        simp only [pkU, decide_eq_false (show ¬ 1000000 ≤ (itr (pk2 (bt fa fb q) s1.1 s1.2 x) n (1000000, 0)).1 from h114), cond_true, cond_false, nI_succ] at k
        exact k (_, _, _, _) trivial
    · refine am_iload_n rfl rfl ?_
      refine am_aload_n rfl rfl rfl ?_
      refine am_get rfl rfl rfl ?_
      refine am_icmp_ge rfl (fun _ => ?_) (fun h => absurd (nm_ge (((N.up (k := 46) (by decide)).up (k := 47) (by decide))).1 hn) h)
      exact am_return rfl ⟨rfl, rfl⟩
end MM5
end
section
/-! the model: match -/
def ov (x : Option Nat) (p : Nat → Bool) : Bool := match x with
  | none => true
  | some y => p y
def mt1 (w : Nat → Int32) (last : Option Nat) (f : Nat) (e : Option Nat) : Option Nat := bif ov last (fun l => hvy w l f) && ov e (fun x => hvy w f x) then some f else e
theorem mt1_lt {w : Nat → Int32} {last : Option Nat} : ∀ {k x : Nat}, itr (mt1 w last) k none = some x → x < k
  | 0, x, h => by cases h
  | k + 1, x, h => by
    rw [itr_s] at h
    have ih := @mt1_lt w last k
    generalize itr (mt1 w last) k none = e at h ih
    unfold mt1 at h
    rcases bif_or h with h | h
    · have : k = x := Option.some.inj h
      omega
    · have := ih h
      omega
/-- the other end of an edge -/
def oth (fa fb : Nat → Nat) (f a : Nat) : Nat := bif decide (fa f = a) then fb f else fa f
theorem oth_I {fa fb : Nat → Nat} {f a : Nat} (h : isf fa fb f a = true) : nI (fa f) + nI (fb f) - nI a = nI (oth fa fb f a) := by
  rw [nI_add]
  unfold isf at h
  unfold oth
  by_cases e : fa f = a
  · rw [decide_eq_true e, cond_true, ← e, pk_sub (by omega)]
    congr 1
    omega
  · rw [decide_eq_false e, Bool.false_or] at h
    rw [decide_eq_false e, cond_false, ← of_decide_eq_true h, pk_sub (by omega)]
    congr 1
    omega
def mt2 (fa fb : Nat → Nat) (w wh : Nat → Int32) (e a b f : Nat) (x : Int32) : Int32 := bif hvy w f e && (isf fa fb f a || isf fa fb f b) then (bif decide (wh (bif isf fa fb f a then oth fa fb f a else oth fa fb f b) ≤ x) then x else wh (bif isf fa fb f a then oth fa fb f a else oth fa fb f b)) else x
abbrev mtT : Type := (Nat → Int32) × (Nat → Int32)
def mtW (fa fb : Nat → Nat) (w : Nat → Int32) (q : Nat) (s : mtT) (e : Nat) : Int32 := itr (mt2 fa fb w s.2 e (fa e) (fb e)) q 0
def mtU (fa fb : Nat → Nat) (w : Nat → Int32) (q : Nat) (s : mtT) (e : Nat) : mtT := bif !decide (0 ≤ s.1 (fa e)) && !decide (0 ≤ s.1 (fb e)) then (upd (upd s.1 (fa e) (nI (fb e))) (fb e) (nI (fa e)), upd (upd s.2 (fa e) (mtW fa fb w q s e + 1)) (fb e) (mtW fa fb w q s e + 1)) else s
def mtS (fa fb : Nat → Nat) (w : Nat → Int32) (q : Nat) (s : Option Nat × mtT) : Option Nat × mtT := match itr (mt1 w s.1) q none with
  | none => s
  | some e => (some e, mtU fa fb w q s.2 e)
def mch0 (n : Nat) (f h : Nat → Int32) : mtT := (pw n (fun _ => -1) f, pw n (fun _ => 0) h)
def mtc (fa fb : Nat → Nat) (w : Nat → Int32) (n q k : Nat) (f h : Nat → Int32) : Option Nat × mtT := itr (fun _ => mtS fa fb w q) k (none, mch0 n f h)
theorem oth_lt {fa fb : Nat → Nat} {f a : Nat} (h1 : fa f < 12) (h2 : fb f < 12) : oth fa fb f a < 12 := by
  unfold oth
  cases decide (fa f = a)
  · exact h1
  · exact h2
section MM6
variable {g : am_G} {d : Nat} {ch : Option Nat} {S : am_S0} {n q : Nat} {fa fb : Nat → Nat}
theorem m_mt1 (N : MN S n q fa fb) {K : am_K} (k0 : Nat) (last : Option Nat) (hl : ∀ l, last = some l → l < q) (z0 : Option Value) (y : Option Value × Option Value × Option Value) (kk : ∀ z, AW g (d + 1) 0 0 118 60 [some (.ref 38), some (.int (em last)), some (.int (nI k0)), some (.int (em (itr (mt1 (S 41) last) q none))), some (.int (nI q)), z, y.1, y.2.1, y.2.2] [] (mem ch S) K) : AW g (d + 1) 0 0 118 30 [some (.ref 38), some (.int (em last)), some (.int (nI k0)), some (.int (-1)), some (.int (nI 0)), z0, y.1, y.2.1, y.2.2] [] (mem ch S) K := by
  have hn := N.2.1
  have hq := N.2.2.2.1
  refine am_forS (q) (fun v z => [some (.ref 38), some (.int (em last)), some (.int (nI k0)), some (.int (em (itr (mt1 (S 41) last) v none))), some (.int (nI v)), z, y.1, y.2.1, y.2.2]) (fun v z => mem ch S) (fun v z => True) (fun v z hv _ k => ?_) (fun z _ => ?_) (q) 0 (z0) (by omega) trivial
  · rw [itr_s] at k
    have hx := @mt1_lt (S 41) last v
    generalize itr (mt1 (S 41) last) v none = e at k hx ⊢
    rcases last with _ | l
    · rcases e with _ | x
      · refine am_iload rfl rfl ?_
        refine am_aload_n rfl rfl rfl ?_
        refine am_get rfl rfl rfl ?_
        refine am_icmp_ge rfl (fun h => absurd h (ed_lt N hv)) (fun _ => ?_)
        refine am_iload_n rfl rfl ?_
        refine am_if_lt rfl (fun _ => ?_) (fun h => absurd (by decide) h)
        refine am_iconst rfl ?_
        refine am_goto rfl ?_
        refine am_istore rfl ?_
        refine am_iload rfl rfl ?_
        refine am_if_eq rfl (fun h => absurd h (by decide)) (fun _ => ?_)
        refine am_iload_n rfl rfl ?_
        refine am_if_lt rfl (fun _ => ?_) (fun h => absurd (by decide) h)
        refine am_iload rfl rfl ?_
        refine am_goto rfl ?_
        refine am_istore_n rfl ?_
        refine am_iinc rfl rfl ?_
        refine am_goto rfl ?_
        simp only [mt1, ov, Bool.false_and, Bool.true_and, Bool.and_self, cond_true, cond_false, nI_succ] at k
        exact k _ trivial
      · have hx2 := hx (x := x) rfl
        refine am_iload rfl rfl ?_
        refine am_aload_n rfl rfl rfl ?_
        refine am_get rfl rfl rfl ?_
        refine am_icmp_ge rfl (fun h => absurd h (ed_lt N hv)) (fun _ => ?_)
        refine am_iload_n rfl rfl ?_
        refine am_if_lt rfl (fun _ => ?_) (fun h => absurd (by decide) h)
        refine am_iconst rfl ?_
        refine am_goto rfl ?_
        refine am_istore rfl ?_
        refine am_iload rfl rfl ?_
        refine am_if_eq rfl (fun h => absurd h (by decide)) (fun _ => ?_)
        refine am_iload_n rfl rfl ?_
        refine am_if_lt rfl (fun h => absurd h (nI_pos (n := x) (by omega))) (fun _ => ?_)
        refine am_aload_n rfl rfl rfl ?_
        refine am_iload rfl rfl ?_
        refine am_iload_n rfl rfl ?_
        refine am_Vx [.int (nI v), .int (nI x)] rfl rfl rfl rfl rfl rfl (m_heavier (d := _) (v) (x) (by omega) (by omega)) ?_
        refine am_if_eq rfl (fun h53 => ?_) (fun h53 => ?_)
        · refine am_iload_n rfl rfl ?_
          refine am_istore_n rfl ?_
          refine am_iinc rfl rfl ?_
          refine am_goto rfl ?_
          simp only [mt1, ov, bi_0 h53, Bool.false_and, Bool.true_and, Bool.and_self, cond_true, cond_false, nI_succ] at k
          exact k _ trivial
        · refine am_iload rfl rfl ?_
          refine am_goto rfl ?_
          refine am_istore_n rfl ?_
          refine am_iinc rfl rfl ?_
          refine am_goto rfl ?_
          simp only [mt1, ov, bi_1 h53, Bool.false_and, Bool.true_and, Bool.and_self, cond_true, cond_false, nI_succ] at k
          exact k _ trivial
    · rcases e with _ | x
      · have hl2 := hl l rfl
        refine am_iload rfl rfl ?_
        refine am_aload_n rfl rfl rfl ?_
        refine am_get rfl rfl rfl ?_
        refine am_icmp_ge rfl (fun h => absurd h (ed_lt N hv)) (fun _ => ?_)
        refine am_iload_n rfl rfl ?_
        refine am_if_lt rfl (fun h => absurd h (nI_pos (n := l) (by omega))) (fun _ => ?_)
        refine am_aload_n rfl rfl rfl ?_
        refine am_iload_n rfl rfl ?_
        refine am_iload rfl rfl ?_
        refine am_Vx [.int (nI l), .int (nI v)] rfl rfl rfl rfl rfl rfl (m_heavier (d := _) (l) (v) (by omega) (by omega)) ?_
        refine am_if_eq rfl (fun h40 => ?_) (fun h40 => ?_)
        · refine am_iconst rfl ?_
          refine am_istore rfl ?_
          refine am_iload rfl rfl ?_
          refine am_if_eq rfl (fun _ => ?_) (fun h => absurd (by decide) h)
          refine am_iload_n rfl rfl ?_
          refine am_istore_n rfl ?_
          refine am_iinc rfl rfl ?_
          refine am_goto rfl ?_
          simp only [mt1, ov, bi_0 h40, Bool.false_and, Bool.true_and, Bool.and_self, cond_true, cond_false, nI_succ] at k
          exact k _ trivial
        · refine am_iconst rfl ?_
          refine am_goto rfl ?_
          refine am_istore rfl ?_
          refine am_iload rfl rfl ?_
          refine am_if_eq rfl (fun h => absurd h (by decide)) (fun _ => ?_)
          refine am_iload_n rfl rfl ?_
          refine am_if_lt rfl (fun _ => ?_) (fun h => absurd (by decide) h)
          refine am_iload rfl rfl ?_
          refine am_goto rfl ?_
          refine am_istore_n rfl ?_
          refine am_iinc rfl rfl ?_
          refine am_goto rfl ?_
          simp only [mt1, ov, bi_1 h40, Bool.false_and, Bool.true_and, Bool.and_self, cond_true, cond_false, nI_succ] at k
          exact k _ trivial
      · have hl2 := hl l rfl
        have hx2 := hx (x := x) rfl
        refine am_iload rfl rfl ?_
        refine am_aload_n rfl rfl rfl ?_
        refine am_get rfl rfl rfl ?_
        refine am_icmp_ge rfl (fun h => absurd h (ed_lt N hv)) (fun _ => ?_)
        refine am_iload_n rfl rfl ?_
        refine am_if_lt rfl (fun h => absurd h (nI_pos (n := l) (by omega))) (fun _ => ?_)
        refine am_aload_n rfl rfl rfl ?_
        refine am_iload_n rfl rfl ?_
        refine am_iload rfl rfl ?_
        refine am_Vx [.int (nI l), .int (nI v)] rfl rfl rfl rfl rfl rfl (m_heavier (d := _) (l) (v) (by omega) (by omega)) ?_
        refine am_if_eq rfl (fun h40 => ?_) (fun h40 => ?_)
        · refine am_iconst rfl ?_
          refine am_istore rfl ?_
          refine am_iload rfl rfl ?_
          refine am_if_eq rfl (fun _ => ?_) (fun h => absurd (by decide) h)
          refine am_iload_n rfl rfl ?_
          refine am_istore_n rfl ?_
          refine am_iinc rfl rfl ?_
          refine am_goto rfl ?_
          simp only [mt1, ov, bi_0 h40, Bool.false_and, Bool.true_and, Bool.and_self, cond_true, cond_false, nI_succ] at k
          exact k _ trivial
        · refine am_iconst rfl ?_
          refine am_goto rfl ?_
          refine am_istore rfl ?_
          refine am_iload rfl rfl ?_
          refine am_if_eq rfl (fun h => absurd h (by decide)) (fun _ => ?_)
          refine am_iload_n rfl rfl ?_
          refine am_if_lt rfl (fun h => absurd h (nI_pos (n := x) (by omega))) (fun _ => ?_)
          refine am_aload_n rfl rfl rfl ?_
          refine am_iload rfl rfl ?_
          refine am_iload_n rfl rfl ?_
          refine am_Vx [.int (nI v), .int (nI x)] rfl rfl rfl rfl rfl rfl (m_heavier (d := _) (v) (x) (by omega) (by omega)) ?_
          refine am_if_eq rfl (fun h53 => ?_) (fun h53 => ?_)
          · refine am_iload_n rfl rfl ?_
            refine am_istore_n rfl ?_
            refine am_iinc rfl rfl ?_
            refine am_goto rfl ?_
            simp only [mt1, ov, bi_1 h40, bi_0 h53, Bool.false_and, Bool.true_and, Bool.and_self, cond_true, cond_false, nI_succ] at k
            exact k _ trivial
          · refine am_iload rfl rfl ?_
            refine am_goto rfl ?_
            refine am_istore_n rfl ?_
            refine am_iinc rfl rfl ?_
            refine am_goto rfl ?_
            simp only [mt1, ov, bi_1 h40, bi_1 h53, Bool.false_and, Bool.true_and, Bool.and_self, cond_true, cond_false, nI_succ] at k
            exact k _ trivial
  · refine am_iload rfl rfl ?_
    refine am_aload_n rfl rfl rfl ?_
    refine am_get rfl rfl rfl ?_
    refine am_icmp_ge rfl (fun _ => ?_) (fun h => absurd (ed_ge N) h)
    exact kk z
theorem m_mt2 (N : MN S n q fa fb) {K : am_K} (k0 e a b : Nat) (he : e < q) (ha : a < 12) (hb : b < 12) (y : Option Value × Unit) (z0 : Option Value) (kk : ∀ z, AW g (d + 1) 0 0 118 149 [some (.ref 38), y.1, some (.int (nI k0)), some (.int (nI e)), some (.int (nI a)), some (.int (nI b)), some (.int (itr (mt2 fa fb (S 41) (S 47) e a b) q 0)), some (.int (nI q)), z] [] (mem ch S) K) : AW g (d + 1) 0 0 118 86 [some (.ref 38), y.1, some (.int (nI k0)), some (.int (nI e)), some (.int (nI a)), some (.int (nI b)), some (.int 0), some (.int (nI 0)), z0] [] (mem ch S) K := by
  have hn := N.2.1
  have hq := N.2.2.2.1
  refine am_forS (q) (fun v z => [some (.ref 38), y.1, some (.int (nI k0)), some (.int (nI e)), some (.int (nI a)), some (.int (nI b)), some (.int (itr (mt2 fa fb (S 41) (S 47) e a b) v 0)), some (.int (nI v)), z]) (fun v z => mem ch S) (fun v z => True) (fun v z hv _ k => ?_) (fun z _ => ?_) (q) 0 (z0) (by omega) trivial
  · obtain ⟨e1, e2, l1, l2⟩ := N.2.2.2.2 v hv
    have o1 : oth fa fb v a < 12 := oth_lt l1 l2
    have o2 : oth fa fb v b < 12 := oth_lt l1 l2
    rw [itr_s] at k
    generalize itr (mt2 fa fb (S 41) (S 47) e a b) v 0 = p at k ⊢
    refine am_iload rfl rfl ?_
    refine am_aload_n rfl rfl rfl ?_
    refine am_get rfl rfl rfl ?_
    refine am_icmp_ge rfl (fun h => absurd h (ed_lt N hv)) (fun _ => ?_)
    refine am_aload_n rfl rfl rfl ?_
    refine am_iload rfl rfl ?_
    refine am_iload_n rfl rfl ?_
    refine am_Vx [.int (nI v), .int (nI e)] rfl rfl rfl rfl rfl rfl (m_heavier (d := _) (v) (e) (by omega) (by omega)) ?_
    refine am_if_eq rfl (fun h94 => ?_) (fun h94 => ?_)
    · refine am_iinc rfl rfl ?_
      refine am_goto rfl ?_
      simp only [mt2, bi_0 h94, Bool.false_and, Bool.true_and, Bool.true_or, Bool.false_or, Bool.or_false, Bool.or_true, Bool.and_false, Bool.and_true, Bool.or_self, Bool.and_self, cond_true, cond_false, nI_succ] at k
      exact k _ trivial
    · refine am_aload_n rfl rfl rfl ?_
      refine am_iload rfl rfl ?_
      refine am_iload rfl rfl ?_
      refine am_Vx [.int (nI v), .int (nI a)] rfl rfl rfl rfl rfl rfl (m_isOf (d := _) N v a (by omega) (by omega)) ?_
      refine am_if_ne rfl (fun h99 => ?_) (fun h99 => ?_)
      · refine am_aload_n rfl rfl rfl ?_
        refine am_iload rfl rfl ?_
        refine am_iload rfl rfl ?_
        refine am_Vx [.int (nI v), .int (nI a)] rfl rfl rfl rfl rfl rfl (m_isOf (d := _) N v a (by omega) (by omega)) ?_
        refine am_if_eq rfl (fun h => absurd h (by rw [bi_1 h99]; decide)) (fun _ => ?_)
        refine am_aload_n rfl rfl rfl ?_
        refine am_get rfl rfl rfl ?_
        refine am_iload rfl rfl ?_
        refine am_iald rfl rfl rfl (by omega) (by decide) ?_
        rw [e1]
        refine am_aload_n rfl rfl rfl ?_
        refine am_get rfl rfl rfl ?_
        refine am_iload rfl rfl ?_
        refine am_iald rfl rfl rfl (by omega) (by decide) ?_
        rw [e2]
        refine am_iadd rfl ?_
        refine am_iload rfl rfl ?_
        refine am_isub rfl ?_
        rw [oth_I (bi_1 h99)]
        refine am_goto rfl ?_
        refine am_istore rfl ?_
        refine am_aload_n rfl rfl rfl ?_
        refine am_get rfl rfl rfl ?_
        refine am_iload rfl rfl ?_
        refine am_iald rfl rfl rfl (by omega) (by decide) ?_
        refine am_iload rfl rfl ?_
        refine am_icmp_le rfl (fun h139 => ?_) (fun h139 => ?_)
        · refine am_iload rfl rfl ?_
          refine am_istore rfl ?_
          refine am_iinc rfl rfl ?_
          refine am_goto rfl ?_
          simp only [mt2, bi_1 h94, bi_1 h99, decide_eq_true h139, Bool.false_and, Bool.true_and, Bool.true_or, Bool.false_or, Bool.or_false, Bool.or_true, Bool.and_false, Bool.and_true, Bool.or_self, Bool.and_self, cond_true, cond_false, nI_succ] at k
          exact k _ trivial
        · refine am_aload_n rfl rfl rfl ?_
          refine am_get rfl rfl rfl ?_
          refine am_iload rfl rfl ?_
          refine am_iald rfl rfl rfl (by omega) (by decide) ?_
          refine am_goto rfl ?_
          refine am_istore rfl ?_
          refine am_iinc rfl rfl ?_
          refine am_goto rfl ?_
          simp only [mt2, bi_1 h94, bi_1 h99, decide_eq_false h139, Bool.false_and, Bool.true_and, Bool.true_or, Bool.false_or, Bool.or_false, Bool.or_true, Bool.and_false, Bool.and_true, Bool.or_self, Bool.and_self, cond_true, cond_false, nI_succ] at k
          exact k _ trivial
      · refine am_aload_n rfl rfl rfl ?_
        refine am_iload rfl rfl ?_
        refine am_iload rfl rfl ?_
        refine am_Vx [.int (nI v), .int (nI b)] rfl rfl rfl rfl rfl rfl (m_isOf (d := _) N v b (by omega) (by omega)) ?_
        refine am_if_eq rfl (fun h104 => ?_) (fun h104 => ?_)
        · refine am_iinc rfl rfl ?_
          refine am_goto rfl ?_
          simp only [mt2, bi_1 h94, bi_0 h99, bi_0 h104, Bool.false_and, Bool.true_and, Bool.true_or, Bool.false_or, Bool.or_false, Bool.or_true, Bool.and_false, Bool.and_true, Bool.or_self, Bool.and_self, cond_true, cond_false, nI_succ] at k
          exact k _ trivial
        · refine am_aload_n rfl rfl rfl ?_
          refine am_iload rfl rfl ?_
          refine am_iload rfl rfl ?_
          refine am_Vx [.int (nI v), .int (nI a)] rfl rfl rfl rfl rfl rfl (m_isOf (d := _) N v a (by omega) (by omega)) ?_
          refine am_if_eq rfl (fun _ => ?_) (fun h => absurd (show bi (isf fa fb v a) = 0 by rw [bi_0 h99]; rfl) h)
          refine am_aload_n rfl rfl rfl ?_
          refine am_get rfl rfl rfl ?_
          refine am_iload rfl rfl ?_
          refine am_iald rfl rfl rfl (by omega) (by decide) ?_
          rw [e1]
          refine am_aload_n rfl rfl rfl ?_
          refine am_get rfl rfl rfl ?_
          refine am_iload rfl rfl ?_
          refine am_iald rfl rfl rfl (by omega) (by decide) ?_
          rw [e2]
          refine am_iadd rfl ?_
          refine am_iload rfl rfl ?_
          refine am_isub rfl ?_
          rw [oth_I (bi_1 h104)]
          refine am_istore rfl ?_
          refine am_aload_n rfl rfl rfl ?_
          refine am_get rfl rfl rfl ?_
          refine am_iload rfl rfl ?_
          refine am_iald rfl rfl rfl (by omega) (by decide) ?_
          refine am_iload rfl rfl ?_
          refine am_icmp_le rfl (fun h139 => ?_) (fun h139 => ?_)
          · refine am_iload rfl rfl ?_
            refine am_istore rfl ?_
            refine am_iinc rfl rfl ?_
            refine am_goto rfl ?_
            simp only [mt2, bi_1 h94, bi_0 h99, bi_1 h104, decide_eq_true h139, Bool.false_and, Bool.true_and, Bool.true_or, Bool.false_or, Bool.or_false, Bool.or_true, Bool.and_false, Bool.and_true, Bool.or_self, Bool.and_self, cond_true, cond_false, nI_succ] at k
            exact k _ trivial
          · refine am_aload_n rfl rfl rfl ?_
            refine am_get rfl rfl rfl ?_
            refine am_iload rfl rfl ?_
            refine am_iald rfl rfl rfl (by omega) (by decide) ?_
            refine am_goto rfl ?_
            refine am_istore rfl ?_
            refine am_iinc rfl rfl ?_
            refine am_goto rfl ?_
            simp only [mt2, bi_1 h94, bi_0 h99, bi_1 h104, decide_eq_false h139, Bool.false_and, Bool.true_and, Bool.true_or, Bool.false_or, Bool.or_false, Bool.or_true, Bool.and_false, Bool.and_true, Bool.or_self, Bool.and_self, cond_true, cond_false, nI_succ] at k
            exact k _ trivial
  · refine am_iload rfl rfl ?_
    refine am_aload_n rfl rfl rfl ?_
    refine am_get rfl rfl rfl ?_
    refine am_icmp_ge rfl (fun _ => ?_) (fun h => absurd (ed_ge N) h)
    exact kk z
theorem m_match (N : MN S n q fa fb) (hp : ∀ k, k < q → (itr (mt1 (S 41) (mtc fa fb (S 41) n q k (S 46) (S 47)).1) q none).isSome = true) (hp2 : ∀ k, k < q → ∀ l, (mtc fa fb (S 41) n q k (S 46) (S 47)).1 = some l → l < q) : AW g (d + 1) 0 0 118 0 (am_L0 118 [.ref 38]) [] (mem ch S) (am_is none (mem ch (am_up (am_up S 46 (mtc fa fb (S 41) n q q (S 46) (S 47)).2.1) 47 (mtc fa fb (S 41) n q q (S 46) (S 47)).2.2))) := by
  have hn := N.2.1
  have hqq := N.2.2.2.1
  refine am_iconst rfl ?_
  refine am_istore_n rfl ?_
  refine am_Meq (M' := mem ch (am_up (am_up S 46 (pw 0 (fun _ => -1) (S 46))) 47 (pw 0 (fun _ => 0) (S 47)))) (by rw [pw_0, pw_0]; exact congrArg (mem ch) (by rw [am_up_self]; exact (am_up_self S 47).symm)) ?_
  show AW g _ 0 0 118 2 [some (.ref 38), some (.int (nI 0)), none, none, none, none, none, none, none] [] _ _
  refine am_for (n) (fun v => [some (.ref 38), some (.int (nI v)), none, none, none, none, none, none, none]) (fun v => mem ch (am_up (am_up S 46 (pw v (fun _ => -1) (S 46))) 47 (pw v (fun _ => 0) (S 47)))) (fun v hv k => ?_) ?_ (n) 0 (by omega)
  · refine am_iload_n rfl rfl ?_
    refine am_aload_n rfl rfl rfl ?_
    refine am_get rfl rfl rfl ?_
    refine am_icmp_ge rfl (fun h => absurd h (nm_lt ((N.up (k := 46) (by decide)).up (k := 47) (by decide)).1 hn hv)) (fun _ => ?_)
    refine am_aload_n rfl rfl rfl ?_
    refine am_get rfl rfl rfl ?_
    refine am_iload_n rfl rfl ?_
    refine am_iconst rfl ?_
    refine am_iast rfl rfl rfl (by omega) (by decide) ?_
    refine am_Meq mt46 ?_
    refine am_aload_n rfl rfl rfl ?_
    refine am_get rfl rfl rfl ?_
    refine am_iload_n rfl rfl ?_
    refine am_iconst rfl ?_
    refine am_iast rfl rfl rfl (by omega) (by decide) ?_
    refine am_Meq mt47 ?_
    refine am_iinc rfl rfl ?_
    refine am_goto rfl ?_
    rw [show upd (am_up (am_up S 46 (pw v (fun _ => -1) (S 46))) 47 (pw v (fun _ => 0) (S 47)) 46) v (-1) = pw (v + 1) (fun _ => -1) (S 46) from pw_s v (fun _ => -1) (S 46)]
    rw [show upd (am_up (am_up S 46 (pw (v + 1) (fun _ => -1) (S 46))) 47 (pw v (fun _ => 0) (S 47)) 47) v 0 = pw (v + 1) (fun _ => 0) (S 47) from pw_s v (fun _ => 0) (S 47)]
    simp only [nI_succ] at k
    exact k
  · refine am_iload_n rfl rfl ?_
    refine am_aload_n rfl rfl rfl ?_
    refine am_get rfl rfl rfl ?_
    refine am_icmp_ge rfl (fun _ => ?_) (fun h => absurd (nm_ge ((N.up (k := 46) (by decide)).up (k := 47) (by decide)).1 hn) h)
    refine am_iconst rfl ?_
    refine am_istore_n rfl ?_
    refine am_iconst rfl ?_
    refine am_istore_n rfl ?_
    show AW g _ 0 0 118 22 [some (.ref 38), some (.int (em (mtc fa fb (S 41) n q 0 (S 46) (S 47)).1)), some (.int (nI 0)), none, none, none, none, none, none] [] (mem ch (am_up (am_up S 46 (mtc fa fb (S 41) n q 0 (S 46) (S 47)).2.1) 47 (mtc fa fb (S 41) n q 0 (S 46) (S 47)).2.2)) _
    refine am_forS (q) (fun v s => [some (.ref 38), some (.int (em (mtc fa fb (S 41) n q v (S 46) (S 47)).1)), some (.int (nI v)), s.1, s.2.1, s.2.2.1, s.2.2.2.1, s.2.2.2.2.1, s.2.2.2.2.2]) (fun v s => mem ch (am_up (am_up S 46 (mtc fa fb (S 41) n q v (S 46) (S 47)).2.1) 47 (mtc fa fb (S 41) n q v (S 46) (S 47)).2.2)) (fun v s => True) (fun v s hv _ k => ?_) (fun s _ => ?_) (q) 0 ((none, none, none, none, none, none)) (by omega) trivial
    · have hq1 := hp v hv
      have hq2 := hp2 v hv
      unfold mtc at k hq1 hq2 ⊢
      rw [itr_s] at k
      generalize itr (fun _ => mtS fa fb (S 41) q) v (none, mch0 n (S 46) (S 47)) = s1 at k hq1 hq2 ⊢
      refine am_iload_n rfl rfl ?_
      refine am_aload_n rfl rfl rfl ?_
      refine am_get rfl rfl rfl ?_
      refine am_icmp_ge rfl (fun h => absurd h (ed_lt (((N.up (k := 46) (by decide)).up (k := 47) (by decide))) hv)) (fun _ => ?_)
      refine am_iconst rfl ?_
      refine am_istore_n rfl ?_
      refine am_iconst rfl ?_
      refine am_istore rfl ?_
      refine m_mt1 (d := d) (((N.up (k := 46) (by decide)).up (k := 47) (by decide))) v s1.1 hq2 s.2.2.1 (s.2.2.2.1, s.2.2.2.2.1, s.2.2.2.2.2) (fun z => ?_)
      obtain ⟨e, he0⟩ := Option.isSome_iff_exists.mp hq1
      have he : e < q := mt1_lt he0
      obtain ⟨e1, e2, l1, l2⟩ := N.2.2.2.2 e he
      rw [show mtS fa fb (S 41) q s1 = (some e, mtU fa fb (S 41) q s1.2 e) by unfold mtS; rw [he0]] at k
      show AW g _ 0 0 118 60 [some (.ref 38), some (.int (em s1.1)), some (.int (nI v)), some (.int (em (itr (mt1 (S 41) s1.1) q none))), some (.int (nI q)), z, s.2.2.2.1, s.2.2.2.2.1, s.2.2.2.2.2] [] (mem ch (am_up (am_up S 46 s1.2.1) 47 s1.2.2)) _
      rw [he0]
      refine am_iload_n rfl rfl ?_
      refine am_istore_n rfl ?_
      refine am_aload_n rfl rfl rfl ?_
      refine am_get rfl rfl rfl ?_
      refine am_iload_n rfl rfl ?_
      refine am_iald rfl rfl rfl (by omega) (by decide) ?_
      rw [show am_up (am_up S 46 s1.2.1) 47 s1.2.2 39 e = nI (fa e) from e1]
      refine am_istore rfl ?_
      refine am_aload_n rfl rfl rfl ?_
      refine am_get rfl rfl rfl ?_
      refine am_iload_n rfl rfl ?_
      refine am_iald rfl rfl rfl (by omega) (by decide) ?_
      rw [show am_up (am_up S 46 s1.2.1) 47 s1.2.2 40 e = nI (fb e) from e2]
      refine am_istore rfl ?_
      refine am_aload_n rfl rfl rfl ?_
      refine am_get rfl rfl rfl ?_
      refine am_iload rfl rfl ?_
      refine am_iald rfl rfl rfl (by omega) (by decide) ?_
      refine am_if_ge rfl (fun h76 => ?_) (fun h76 => ?_)
      · refine am_iinc rfl rfl ?_
        refine am_goto rfl ?_
        simp only [mtU, decide_eq_true (show 0 ≤ s1.2.1 (fa e) from h76), Bool.not_true, Bool.not_false, Bool.false_and, Bool.and_false, Bool.and_self, cond_true, cond_false, nI_succ] at k
        exact k (_, _, _, _, _, _) trivial
      · refine am_aload_n rfl rfl rfl ?_
        refine am_get rfl rfl rfl ?_
        refine am_iload rfl rfl ?_
        refine am_iald rfl rfl rfl (by omega) (by decide) ?_
        refine am_if_ge rfl (fun h81 => ?_) (fun h81 => ?_)
        · refine am_iinc rfl rfl ?_
          refine am_goto rfl ?_
          simp only [mtU, decide_eq_false (show ¬ 0 ≤ s1.2.1 (fa e) from h76), decide_eq_true (show 0 ≤ s1.2.1 (fb e) from h81), Bool.not_true, Bool.not_false, Bool.false_and, Bool.and_false, Bool.and_self, cond_true, cond_false, nI_succ] at k
          exact k (_, _, _, _, _, _) trivial
        · refine am_iconst rfl ?_
          refine am_istore rfl ?_
          refine am_iconst rfl ?_
          refine am_istore rfl ?_
          refine m_mt2 (d := d) (((N.up (k := 46) (by decide)).up (k := 47) (by decide))) v e (fa e) (fb e) he l1 l2 (some (.int (nI e)), ()) s.2.2.2.2.2 (fun z => ?_)
          refine am_aload_n rfl rfl rfl ?_
          refine am_get rfl rfl rfl ?_
          refine am_iload rfl rfl ?_
          refine am_iload rfl rfl ?_
          refine am_iast rfl rfl rfl (by omega) (by decide) ?_
          refine am_Meq mt46 ?_
          refine am_aload_n rfl rfl rfl ?_
          refine am_get rfl rfl rfl ?_
          refine am_iload rfl rfl ?_
          refine am_iload rfl rfl ?_
          refine am_iast rfl rfl rfl (by omega) (by decide) ?_
          refine am_Meq mt46 ?_
          refine am_aload_n rfl rfl rfl ?_
          refine am_get rfl rfl rfl ?_
          refine am_iload rfl rfl ?_
          refine am_iload rfl rfl ?_
          refine am_iconst rfl ?_
          refine am_iadd rfl ?_
          refine am_iast rfl rfl rfl (by omega) (by decide) ?_
          refine am_Meq mt47 ?_
          refine am_aload_n rfl rfl rfl ?_
          refine am_get rfl rfl rfl ?_
          refine am_iload rfl rfl ?_
          refine am_iload rfl rfl ?_
          refine am_iconst rfl ?_
          refine am_iadd rfl ?_
          refine am_iast rfl rfl rfl (by omega) (by decide) ?_
          refine am_Meq mt47 ?_
          refine am_iinc rfl rfl ?_
          refine am_goto rfl ?_
          simp only [mtU, decide_eq_false (show ¬ 0 ≤ s1.2.1 (fa e) from h76), decide_eq_false (show ¬ 0 ≤ s1.2.1 (fb e) from h81), Bool.not_false, Bool.and_self, cond_true, nI_succ] at k
          exact k (_, _, _, _, _, _) trivial
    · refine am_iload_n rfl rfl ?_
      refine am_aload_n rfl rfl rfl ?_
      refine am_get rfl rfl rfl ?_
      refine am_icmp_ge rfl (fun _ => ?_) (fun h => absurd (ed_ge (((N.up (k := 46) (by decide)).up (k := 47) (by decide)))) h)
      exact am_return rfl ⟨rfl, rfl⟩
end MM6
end
section
/-! the model: plant, isUnder, sumUnder, heldSums -/
theorem mt44 {ch : Option Nat} {S : am_S0} {f h f2 : Nat → Int32} : (mem ch (am_up (am_up S 44 f) 45 h)).set 44 (.inl (0, 12, .inl f2)) = mem ch (am_up (am_up S 44 f2) 45 h) := by
  show mem ch (am_up (am_up (am_up S 44 f) 45 h) 44 f2) = _
  rw [am_up_comm _ h f2 (by decide), am_up_up]
theorem mt45 {ch : Option Nat} {S : am_S0} {f h f2 : Nat → Int32} : (mem ch (am_up (am_up S 44 f) 45 h)).set 45 (.inl (0, 12, .inl f2)) = mem ch (am_up (am_up S 44 f) 45 f2) := ms45
def mpr (fa fb : Nat → Nat) (q n : Nat) (f : Nat → Int32) (rt v : Nat) : Option Nat := bif decide (v = rt) then none else mnr fa fb q n f v rt
def clb (pr : Nat → Option Nat) : Nat → Nat → Nat → (Nat → Int32) → (Nat → Int32)
  | 0, _, _, f => f
  | fuel + 1, v, h, f => match pr v with
    | none => upd f v (bif decide (nI h ≤ f v) then f v else nI h)
    | some u => clb pr fuel u (h + 1) (upd f v (bif decide (nI h ≤ f v) then f v else nI h))
def hts (pr : Nat → Option Nat) (n k : Nat) (f : Nat → Int32) : Nat → Int32 := itr (fun v => clb pr 13 v 0) k (pw n (fun _ => 0) f)
/-- a tree: each parent is a node and of lower rank -/
def Rk (pr : Nat → Option Nat) (n : Nat) (rk : Nat → Nat) : Prop := (∀ v, v < n → rk v < 12) ∧ ∀ v u, v < n → pr v = some u → u < n ∧ rk u < rk v
def und (pr : Nat → Option Nat) : Nat → Nat → Nat → Bool
  | 0, _, _ => false
  | fuel + 1, v, a => decide (v = a) || (match pr v with | none => false | some u => und pr fuel u a)
def smI (f : Nat → Int32) : Nat → Int32
  | 0 => 0
  | n + 1 => smI f n + f n
section MM7
variable {g : am_G} {d : Nat} {ch : Option Nat} {S : am_S0} {n q : Nat} {fa fb : Nat → Nat}
variable {pr : Nat → Option Nat} {rk : Nat → Nat}
theorem m_clb (R : Rk pr n rk) (hP : ∀ v, v < n → S 44 v = em (pr v)) (hn : n ≤ 12) {K : am_K} (k0 : Nat) : ∀ fuel v h f, v < n → rk v < fuel → (∀ z, AW g d 0 0 114 63 [some (.ref 38), some (.int (nI k0)), some (.int (-1)), z] [] (mem ch (am_up S 45 (clb pr fuel v h f))) K) → AW g d 0 0 114 38 [some (.ref 38), some (.int (nI k0)), some (.int (nI v)), some (.int (nI h))] [] (mem ch (am_up S 45 f)) K
  | 0, v, h, f, hv, hf, kk => absurd hf (Nat.not_lt_zero _)
  | fuel + 1, v, h, f, hv, hf, kk => by
    have ih := m_clb (K := K) R hP hn k0 fuel
    refine am_iload_n rfl rfl ?_
    refine am_if_lt rfl (fun h9 => absurd h9 (nI_pos (by omega))) (fun _ => ?_)
    refine am_aload_n rfl rfl rfl ?_
    refine am_get rfl rfl rfl ?_
    refine am_iload_n rfl rfl ?_
    refine am_aload_n rfl rfl rfl ?_
    refine am_get rfl rfl rfl ?_
    refine am_iload_n rfl rfl ?_
    refine am_iald rfl rfl rfl (by omega) (by decide) ?_
    refine am_iload_n rfl rfl ?_
    refine am_icmp_ge rfl (fun h48 => ?_) (fun h48 => ?_)
    · refine am_aload_n rfl rfl rfl ?_
      refine am_get rfl rfl rfl ?_
      refine am_iload_n rfl rfl ?_
      refine am_iald rfl rfl rfl (by omega) (by decide) ?_
      refine am_iast rfl rfl rfl (by omega) (by decide) ?_
      refine am_Meq ms45 ?_
      refine am_aload_n rfl rfl rfl ?_
      refine am_get rfl rfl rfl ?_
      refine am_iload_n rfl rfl ?_
      refine am_iald rfl rfl rfl (by omega) (by decide) ?_
      rw [show am_up S 45 _ 44 v = em (pr v) from hP v hv]
      rcases e : pr v with _ | u
      · refine am_istore_n rfl ?_
        refine am_iinc rfl rfl ?_
        refine am_goto rfl ?_
        refine am_iload_n rfl rfl ?_
        refine am_if_lt rfl (fun _ => ?_) (fun h => absurd (by decide) h)
        simp only [clb, e, decide_eq_true (show nI h ≤ f v from h48), cond_true, cond_false] at kk
        exact kk _
      · obtain ⟨hu, hr⟩ := R.2 v u hv e
        refine am_istore_n rfl ?_
        refine am_iinc rfl rfl ?_
        refine am_goto rfl ?_
        show AW g d 0 0 114 38 [some (.ref 38), some (.int (nI k0)), some (.int (nI u)), some (.int (nI h + 1))] [] _ K
        rw [nI_1]
        simp only [clb, e, decide_eq_true (show nI h ≤ f v from h48), cond_true, cond_false] at kk
        exact ih u (h + 1) _ hu (by omega) kk
    · refine am_iload_n rfl rfl ?_
      refine am_goto rfl ?_
      refine am_iast rfl rfl rfl (by omega) (by decide) ?_
      refine am_Meq ms45 ?_
      refine am_aload_n rfl rfl rfl ?_
      refine am_get rfl rfl rfl ?_
      refine am_iload_n rfl rfl ?_
      refine am_iald rfl rfl rfl (by omega) (by decide) ?_
      rw [show am_up S 45 _ 44 v = em (pr v) from hP v hv]
      rcases e : pr v with _ | u
      · refine am_istore_n rfl ?_
        refine am_iinc rfl rfl ?_
        refine am_goto rfl ?_
        refine am_iload_n rfl rfl ?_
        refine am_if_lt rfl (fun _ => ?_) (fun h => absurd (by decide) h)
        simp only [clb, e, decide_eq_false (show ¬ nI h ≤ f v from h48), cond_true, cond_false] at kk
        exact kk _
      · obtain ⟨hu, hr⟩ := R.2 v u hv e
        refine am_istore_n rfl ?_
        refine am_iinc rfl rfl ?_
        refine am_goto rfl ?_
        show AW g d 0 0 114 38 [some (.ref 38), some (.int (nI k0)), some (.int (nI u)), some (.int (nI h + 1))] [] _ K
        rw [nI_1]
        simp only [clb, e, decide_eq_false (show ¬ nI h ≤ f v from h48), cond_true, cond_false] at kk
        exact ih u (h + 1) _ hu (by omega) kk
theorem m_plant (N : MN S n q fa fb) (rt : Nat) (hrt : rt < n) (hr : S 38 9 = nI rt) (R : Rk (mpr fa fb q n (S 43) rt) n rk) : AW g (d + 3) 0 0 114 0 (am_L0 114 [.ref 38]) [] (mem ch S) (am_is none (mem ch (am_up (am_up S 44 (pw n (fun v => em (mpr fa fb q n (S 43) rt v)) (S 44))) 45 (hts (mpr fa fb q n (S 43) rt) n n (S 45))))) := by
  have hn := N.2.1
  refine am_iconst rfl ?_
  refine am_istore_n rfl ?_
  refine am_Meq (M' := mem ch (am_up (am_up S 44 (pw 0 (fun v => em (mpr fa fb q n (S 43) rt v)) (S 44))) 45 (pw 0 (fun _ => 0) (S 45)))) (by rw [pw_0, pw_0]; exact congrArg (mem ch) (by rw [am_up_self]; exact (am_up_self S 45).symm)) ?_
  show AW g _ 0 0 114 2 [some (.ref 38), some (.int (nI 0)), none, none] [] _ _
  refine am_for (n) (fun v => [some (.ref 38), some (.int (nI v)), none, none]) (fun v => mem ch (am_up (am_up S 44 (pw v (fun v => em (mpr fa fb q n (S 43) rt v)) (S 44))) 45 (pw v (fun _ => 0) (S 45)))) (fun v hv k => ?_) ?_ (n) 0 (by omega)
  · refine am_iload_n rfl rfl ?_
    refine am_aload_n rfl rfl rfl ?_
    refine am_get rfl rfl rfl ?_
    refine am_icmp_ge rfl (fun h => absurd h (nm_lt (((N.up (k := 44) (by decide)).up (k := 45) (by decide))).1 hn hv)) (fun _ => ?_)
    refine am_aload_n rfl rfl rfl ?_
    refine am_get rfl rfl rfl ?_
    refine am_iload_n rfl rfl ?_
    refine am_iload_n rfl rfl ?_
    refine am_aload_n rfl rfl rfl ?_
    refine am_get rfl rfl rfl ?_
    rw [show (am_up (am_up S 44 (pw v (fun v => em (mpr fa fb q n (S 43) rt v)) (S 44))) 45 (pw v (fun _ => 0) (S 45))) 38 9 = nI rt from hr]
    refine am_icmp_ne rfl (fun h12 => ?_) (fun h12 => ?_)
    · rw [nI_eq (by omega) (by omega)] at h12
      refine am_aload_n rfl rfl rfl ?_
      refine am_iload_n rfl rfl ?_
      refine am_aload_n rfl rfl rfl ?_
      refine am_get rfl rfl rfl ?_
      rw [show (am_up (am_up S 44 (pw v (fun v => em (mpr fa fb q n (S 43) rt v)) (S 44))) 45 (pw v (fun _ => 0) (S 45))) 38 9 = nI rt from hr]
      refine am_Vx [.int (nI v), .int (nI rt)] rfl rfl rfl rfl rfl rfl (m_nearer (d := d) (((N.up (k := 44) (by decide)).up (k := 45) (by decide))) v rt (by omega) (by omega)) ?_
      refine am_iast rfl rfl rfl (by omega) (by decide) ?_
      refine am_Meq mt44 ?_
      refine am_aload_n rfl rfl rfl ?_
      refine am_get rfl rfl rfl ?_
      refine am_iload_n rfl rfl ?_
      refine am_iconst rfl ?_
      refine am_iast rfl rfl rfl (by omega) (by decide) ?_
      refine am_Meq mt45 ?_
      refine am_iinc rfl rfl ?_
      refine am_goto rfl ?_
      refine am_Meq (M' := mem ch (am_up (am_up S 44 (pw (v + 1) (fun v => em (mpr fa fb q n (S 43) rt v)) (S 44))) 45 (pw (v + 1) (fun _ => 0) (S 45)))) ?_ ?_
      · rw [← pw_s, ← pw_s v (fun _ => 0) (S 45)]
        show mem ch (am_up (am_up S 44 (upd (pw v (fun v => em (mpr fa fb q n (S 43) rt v)) (S 44)) v (em (mnr fa fb q n (S 43) v rt)))) 45 (upd (pw v (fun _ => 0) (S 45)) v 0)) = mem ch (am_up (am_up S 44 (upd (pw v (fun v => em (mpr fa fb q n (S 43) rt v)) (S 44)) v (em (mpr fa fb q n (S 43) rt v)))) 45 (upd (pw v (fun _ => 0) (S 45)) v 0))
        simp only [mpr, decide_eq_false h12, cond_true, cond_false, em]
      simp only [nI_succ] at k
      exact k
    · rw [nI_eq (by omega) (by omega)] at h12
      refine am_iconst rfl ?_
      refine am_goto rfl ?_
      refine am_iast rfl rfl rfl (by omega) (by decide) ?_
      refine am_Meq mt44 ?_
      refine am_aload_n rfl rfl rfl ?_
      refine am_get rfl rfl rfl ?_
      refine am_iload_n rfl rfl ?_
      refine am_iconst rfl ?_
      refine am_iast rfl rfl rfl (by omega) (by decide) ?_
      refine am_Meq mt45 ?_
      refine am_iinc rfl rfl ?_
      refine am_goto rfl ?_
      refine am_Meq (M' := mem ch (am_up (am_up S 44 (pw (v + 1) (fun v => em (mpr fa fb q n (S 43) rt v)) (S 44))) 45 (pw (v + 1) (fun _ => 0) (S 45)))) ?_ ?_
      · rw [← pw_s, ← pw_s v (fun _ => 0) (S 45)]
        show mem ch (am_up (am_up S 44 (upd (pw v (fun v => em (mpr fa fb q n (S 43) rt v)) (S 44)) v (-1))) 45 (upd (pw v (fun _ => 0) (S 45)) v 0)) = mem ch (am_up (am_up S 44 (upd (pw v (fun v => em (mpr fa fb q n (S 43) rt v)) (S 44)) v (em (mpr fa fb q n (S 43) rt v)))) 45 (upd (pw v (fun _ => 0) (S 45)) v 0))
        simp only [mpr, decide_eq_true h12, cond_true, cond_false, em]
      simp only [nI_succ] at k
      exact k
  · refine am_iload_n rfl rfl ?_
    refine am_aload_n rfl rfl rfl ?_
    refine am_get rfl rfl rfl ?_
    refine am_icmp_ge rfl (fun _ => ?_) (fun h => absurd (nm_ge (((N.up (k := 44) (by decide)).up (k := 45) (by decide))).1 hn) h)
    refine am_iconst rfl ?_
    refine am_istore_n rfl ?_
    show AW g _ 0 0 114 30 [some (.ref 38), some (.int (nI 0)), none, none] [] (mem ch (am_up (am_up S 44 (pw n (fun v => em (mpr fa fb q n (S 43) rt v)) (S 44))) 45 (hts (mpr fa fb q n (S 43) rt) n 0 (S 45)))) _
    refine am_forS (n) (fun v s => [some (.ref 38), some (.int (nI v)), s.1, s.2]) (fun v s => mem ch (am_up (am_up S 44 (pw n (fun v => em (mpr fa fb q n (S 43) rt v)) (S 44))) 45 (hts (mpr fa fb q n (S 43) rt) n v (S 45)))) (fun v s => True) (fun v s hv _ k => ?_) (fun s _ => ?_) (n) 0 ((none, none)) (by omega) trivial
    · unfold hts at k ⊢
      rw [itr_s] at k
      generalize itr (fun v => clb (mpr fa fb q n (S 43) rt) 13 v 0) v (pw n (fun _ => 0) (S 45)) = F at k ⊢
      refine am_iload_n rfl rfl ?_
      refine am_aload_n rfl rfl rfl ?_
      refine am_get rfl rfl rfl ?_
      refine am_icmp_ge rfl (fun h => absurd h (nm_lt (((N.up (k := 44) (by decide)).up (k := 45) (by decide))).1 hn hv)) (fun _ => ?_)
      refine am_iload_n rfl rfl ?_
      refine am_istore_n rfl ?_
      refine am_iconst rfl ?_
      refine am_istore_n rfl ?_
      show AW g _ 0 0 114 38 [some (.ref 38), some (.int (nI v)), some (.int (nI v)), some (.int (nI 0))] [] _ _
      refine m_clb (S := am_up S 44 (pw n (fun v => em (mpr fa fb q n (S 43) rt v)) (S 44))) R (fun u hu => show pw n (fun v => em (mpr fa fb q n (S 43) rt v)) (S 44) u = em (mpr fa fb q n (S 43) rt u) from pw_lt hu) hn v 13 v 0 _ hv (by have := R.1 v hv; omega) (fun z => ?_)
      refine am_iinc rfl rfl ?_
      refine am_goto rfl ?_
      simp only [nI_succ] at k
      exact k (_, _) trivial
    · refine am_iload_n rfl rfl ?_
      refine am_aload_n rfl rfl rfl ?_
      refine am_get rfl rfl rfl ?_
      refine am_icmp_ge rfl (fun _ => ?_) (fun h => absurd (nm_ge (((N.up (k := 44) (by decide)).up (k := 45) (by decide))).1 hn) h)
      exact am_return rfl ⟨rfl, rfl⟩
theorem m_und (R : Rk pr n rk) (hP : ∀ v, v < n → S 44 v = em (pr v)) (hn : n ≤ 12) (a : Nat) (ha : a < 12) (y : Option Value) : ∀ fuel v, v < n → rk v < fuel → AW g d 0 0 143 2 [some (.ref 38), y, some (.int (nI a)), some (.int (nI v))] [] (mem ch S) (am_is (some (.int (bi (und pr fuel v a)))) (mem ch S))
  | 0, v, hv, hf => absurd hf (Nat.not_lt_zero _)
  | fuel + 1, v, hv, hf => by
    have ih := m_und R hP hn a ha y fuel
    refine am_iload_n rfl rfl ?_
    refine am_if_lt rfl (fun h9 => absurd h9 (nI_pos (by omega))) (fun _ => ?_)
    refine am_iload_n rfl rfl ?_
    refine am_iload_n rfl rfl ?_
    refine am_icmp_eq rfl (fun h6 => ?_) (fun h6 => ?_)
    · refine am_iload_n rfl rfl ?_
      refine am_iload_n rfl rfl ?_
      refine am_icmp_ne rfl (fun h => absurd h6 h) (fun _ => ?_)
      refine am_iconst rfl ?_
      refine am_goto rfl ?_
      refine am_ireturn rfl (fun _ => by decide) ⟨?_, rfl⟩
      rw [nI_eq (by omega) (by omega)] at h6
      simp only [und, decide_eq_true h6, Bool.true_or, bi, cond_true]
    · refine am_aload_n rfl rfl rfl ?_
      refine am_get rfl rfl rfl ?_
      refine am_iload_n rfl rfl ?_
      refine am_iald rfl rfl rfl (by omega) (by decide) ?_
      rw [hP v hv]
      rw [nI_eq (by omega) (by omega)] at h6
      rcases e : pr v with _ | u
      · refine am_istore_n rfl ?_
        refine am_goto rfl ?_
        refine am_iload_n rfl rfl ?_
        refine am_if_lt rfl (fun _ => ?_) (fun h => absurd (by decide) h)
        refine am_iload_n rfl rfl ?_
        refine am_iload_n rfl rfl ?_
        refine am_icmp_ne rfl (fun _ => ?_) (fun h => absurd h (neg1_nI a (by omega)))
        refine am_iconst rfl ?_
        refine am_ireturn rfl (fun _ => by decide) ⟨?_, rfl⟩
        simp only [und, decide_eq_false h6, e, Bool.or_self, bi, cond_false]
      · obtain ⟨hu, hr⟩ := R.2 v u hv e
        refine am_istore_n rfl ?_
        refine am_goto rfl ?_
        have k := ih u hu (by omega)
        simp only [und, decide_eq_false h6, e, Bool.false_or]
        exact k
theorem m_isUnder (R : Rk pr n rk) (hP : ∀ v, v < n → S 44 v = em (pr v)) (hn : n ≤ 12) (v a : Nat) (hv : v < n) (ha : a < 12) : AW g d 0 0 143 0 (am_L0 143 [.ref 38, .int (nI v), .int (nI a)]) [] (mem ch S) (am_is (some (.int (bi (und pr 13 v a)))) (mem ch S)) := by
  refine am_iload_n rfl rfl ?_
  refine am_istore_n rfl ?_
  exact m_und R hP hn a ha _ 13 v hv (by have := R.1 v hv; omega)
def sUn (pr : Nat → Option Nat) (ids : Nat → Int32) (n a : Nat) : Int32 := smI (fun v => bif und pr 13 v a then ids v else 0) n
theorem m_sumUnder (N : MN S n q fa fb) (R : Rk pr n rk) (hP : ∀ v, v < n → S 44 v = em (pr v)) (x : Nat) (hx : x < 12) : AW g (d + 1) 0 0 142 0 (am_L0 142 [.ref 38, .int (nI x)]) [] (mem ch S) (am_is (some (.int (sUn pr (S 42) n x))) (mem ch S)) := by
  have hn := N.2.1
  unfold sUn
  refine am_iconst rfl ?_
  refine am_istore_n rfl ?_
  refine am_iconst rfl ?_
  refine am_istore_n rfl ?_
  refine am_for (n) (fun v => [some (.ref 38), some (.int (nI x)), some (.int (smI (fun u => bif und pr 13 u x then S 42 u else 0) v)), some (.int (nI v))]) (fun v => mem ch S) (fun v hv k => ?_) ?_ (n) 0 (by omega)
  · refine am_iload_n rfl rfl ?_
    refine am_aload_n rfl rfl rfl ?_
    refine am_get rfl rfl rfl ?_
    refine am_icmp_ge rfl (fun h => absurd h (nm_lt N.1 hn hv)) (fun _ => ?_)
    refine am_iload_n rfl rfl ?_
    refine am_aload_n rfl rfl rfl ?_
    refine am_iload_n rfl rfl ?_
    refine am_iload_n rfl rfl ?_
    refine am_Vx [.int (nI v), .int (nI x)] rfl rfl rfl rfl rfl rfl (m_isUnder (d := _) R hP hn (v) (x) hv (by omega)) ?_
    refine am_if_eq rfl (fun h13 => ?_) (fun h13 => ?_)
    · refine am_iconst rfl ?_
      refine am_iadd rfl ?_
      refine am_istore_n rfl ?_
      refine am_iinc rfl rfl ?_
      refine am_goto rfl ?_
      simp only [smI, bi_0 h13, cond_true, cond_false, nI_succ] at k
      exact k
    · refine am_aload_n rfl rfl rfl ?_
      refine am_get rfl rfl rfl ?_
      refine am_iload_n rfl rfl ?_
      refine am_iald rfl rfl rfl (by omega) (by decide) ?_
      refine am_goto rfl ?_
      refine am_iadd rfl ?_
      refine am_istore_n rfl ?_
      refine am_iinc rfl rfl ?_
      refine am_goto rfl ?_
      simp only [smI, bi_1 h13, cond_true, cond_false, nI_succ] at k
      exact k
  · refine am_iload_n rfl rfl ?_
    refine am_aload_n rfl rfl rfl ?_
    refine am_get rfl rfl rfl ?_
    refine am_icmp_ge rfl (fun _ => ?_) (fun h => absurd (nm_ge N.1 hn) h)
    refine am_iload_n rfl rfl ?_
    refine am_ireturn rfl (fun h => absurd h (by decide)) ⟨?_, rfl⟩
    rfl
def hs1 (pr : Nat → Option Nat) (ids ht : Nat → Int32) (n : Nat) (v : Nat) (r : Int32) (c : Nat) (p : Int32 × Int32) : Int32 × Int32 := bif decide (em (pr c) = nI v) then (bif decide (r < ht c + 1) then (p.1 + 0, p.2 + 1) else (p.1 + sUn pr ids n c, p.2 + 0)) else p
def hsm (pr : Nat → Option Nat) (ids ht : Nat → Int32) (n : Nat) (v s : Nat) (r : Int32) : Int32 := match s with
  | 0 => (itr (hs1 pr ids ht n v r) n (ids v, 0)).1
  | 1 => (itr (hs1 pr ids ht n v r) n (ids v, 0)).2
  | _ => bif decide (r ≤ ht v) then 0 else 1
theorem m_heldSums (N : MN S n q fa fb) (R : Rk pr n rk) (hP : ∀ v, v < n → S 44 v = em (pr v)) (x s : Nat) (r : Int32) (hx : x < 12) (hs : s < 3) : AW g (d + 2) 0 0 141 0 (am_L0 141 [.ref 38, .int (nI x), .int (nI s), .int (r)]) [] (mem ch S) (am_is (some (.int (hsm pr (S 42) (S 45) n x s r))) (mem ch S)) := by
  have hn := N.2.1
  refine am_aload_n rfl rfl rfl ?_
  refine am_get rfl rfl rfl ?_
  refine am_iload_n rfl rfl ?_
  refine am_iald rfl rfl rfl (by omega) (by decide) ?_
  refine am_istore rfl ?_
  refine am_iconst rfl ?_
  refine am_istore rfl ?_
  refine am_iconst rfl ?_
  refine am_istore rfl ?_
  refine am_Leq (L' := [some (.ref 38), some (.int (nI x)), some (.int (nI s)), some (.int r), some (.int (itr (hs1 pr (S 42) (S 45) n x r) 0 (S 42 x, 0)).1), some (.int (itr (hs1 pr (S 42) (S 45) n x r) 0 (S 42 x, 0)).2), some (.int (nI 0)), none]) rfl ?_
  refine am_forS (n) (fun v z => [some (.ref 38), some (.int (nI x)), some (.int (nI s)), some (.int (r)), some (.int ((itr (hs1 pr (S 42) (S 45) n x r) v (S 42 x, 0)).1)), some (.int ((itr (hs1 pr (S 42) (S 45) n x r) v (S 42 x, 0)).2)), some (.int (nI v)), z]) (fun v z => mem ch S) (fun v z => True) (fun v z hv _ k => ?_) (fun z _ => ?_) (n) 0 (none) (by omega) trivial
  · rw [itr_s] at k
    generalize itr (hs1 pr (S 42) (S 45) n x r) v (S 42 x, 0) = p at k ⊢
    refine am_iload rfl rfl ?_
    refine am_aload_n rfl rfl rfl ?_
    refine am_get rfl rfl rfl ?_
    refine am_icmp_ge rfl (fun h => absurd h (nm_lt N.1 hn hv)) (fun _ => ?_)
    refine am_aload_n rfl rfl rfl ?_
    refine am_get rfl rfl rfl ?_
    refine am_iload rfl rfl ?_
    refine am_iald rfl rfl rfl (by omega) (by decide) ?_
    rw [hP v hv]
    refine am_iload_n rfl rfl ?_
    refine am_icmp_ne rfl (fun h18 => ?_) (fun h18 => ?_)
    · refine am_iinc rfl rfl ?_
      refine am_goto rfl ?_
      simp only [hs1, decide_eq_false h18, cond_true, cond_false, nI_succ] at k
      exact k _ trivial
    · refine am_aload_n rfl rfl rfl ?_
      refine am_get rfl rfl rfl ?_
      refine am_iload rfl rfl ?_
      refine am_iald rfl rfl rfl (by omega) (by decide) ?_
      refine am_iconst rfl ?_
      refine am_iadd rfl ?_
      refine am_iload_n rfl rfl ?_
      refine am_icmp_gt rfl (fun h26 => ?_) (fun h26 => ?_)
      · refine am_iconst rfl ?_
        refine am_istore rfl ?_
        refine am_iload rfl rfl ?_
        refine am_iload rfl rfl ?_
        refine am_if_eq rfl (fun _ => ?_) (fun h => absurd (by decide) h)
        refine am_iconst rfl ?_
        refine am_iadd rfl ?_
        refine am_istore rfl ?_
        refine am_iload rfl rfl ?_
        refine am_iload rfl rfl ?_
        refine am_if_eq rfl (fun _ => ?_) (fun h => absurd (by decide) h)
        refine am_iconst rfl ?_
        refine am_iadd rfl ?_
        refine am_istore rfl ?_
        refine am_iinc rfl rfl ?_
        refine am_goto rfl ?_
        simp only [hs1, decide_eq_true h18, decide_eq_true h26, cond_true, cond_false, nI_succ] at k
        exact k _ trivial
      · refine am_iconst rfl ?_
        refine am_goto rfl ?_
        refine am_istore rfl ?_
        refine am_iload rfl rfl ?_
        refine am_iload rfl rfl ?_
        refine am_if_eq rfl (fun h => absurd h (by decide)) (fun _ => ?_)
        refine am_aload_n rfl rfl rfl ?_
        refine am_iload rfl rfl ?_
        refine am_Vx [.int (nI v)] rfl rfl rfl rfl rfl rfl (m_sumUnder (d := _) N R hP (v) (by omega)) ?_
        refine am_goto rfl ?_
        refine am_iadd rfl ?_
        refine am_istore rfl ?_
        refine am_iload rfl rfl ?_
        refine am_iload rfl rfl ?_
        refine am_if_eq rfl (fun h => absurd h (by decide)) (fun _ => ?_)
        refine am_iconst rfl ?_
        refine am_goto rfl ?_
        refine am_iadd rfl ?_
        refine am_istore rfl ?_
        refine am_iinc rfl rfl ?_
        refine am_goto rfl ?_
        simp only [hs1, decide_eq_true h18, decide_eq_false h26, cond_true, cond_false, nI_succ] at k
        exact k _ trivial
  · refine am_iload rfl rfl ?_
    refine am_aload_n rfl rfl rfl ?_
    refine am_get rfl rfl rfl ?_
    refine am_icmp_ge rfl (fun _ => ?_) (fun h => absurd (nm_ge N.1 hn) h)
    match s, hs with
    | 0, _ =>
      refine am_iload_n rfl rfl ?_
      refine am_if_ne rfl (fun h => absurd rfl h) (fun _ => ?_)
      refine am_iload rfl rfl ?_
      refine am_goto rfl ?_
      exact am_ireturn rfl (fun h => absurd h (by decide)) ⟨rfl, rfl⟩
    | 1, _ =>
      refine am_iload_n rfl rfl ?_
      refine am_if_ne rfl (fun _ => ?_) (fun h => absurd h (by decide))
      refine am_iload_n rfl rfl ?_
      refine am_iconst rfl ?_
      refine am_icmp_ne rfl (fun h => absurd rfl h) (fun _ => ?_)
      refine am_iload rfl rfl ?_
      refine am_goto rfl ?_
      exact am_ireturn rfl (fun h => absurd h (by decide)) ⟨rfl, rfl⟩
    | 2, _ =>
      refine am_iload_n rfl rfl ?_
      refine am_if_ne rfl (fun _ => ?_) (fun h => absurd h (by decide))
      refine am_iload_n rfl rfl ?_
      refine am_iconst rfl ?_
      refine am_icmp_ne rfl (fun _ => ?_) (fun h => absurd h (by decide))
      refine am_iload_n rfl rfl ?_
      refine am_aload_n rfl rfl rfl ?_
      refine am_get rfl rfl rfl ?_
      refine am_iload_n rfl rfl ?_
      refine am_iald rfl rfl rfl (by omega) (by decide) ?_
      refine am_icmp_le rfl (fun h65 => ?_) (fun h65 => ?_)
      · refine am_iconst rfl ?_
        refine am_ireturn rfl (fun h => absurd h (by decide)) ⟨?_, rfl⟩
        simp only [hsm, decide_eq_true h65, cond_true, cond_false]
      · refine am_iconst rfl ?_
        refine am_goto rfl ?_
        refine am_ireturn rfl (fun h => absurd h (by decide)) ⟨?_, rfl⟩
        simp only [hsm, decide_eq_false h65, cond_true, cond_false]
    | s + 3, hs => exact absurd hs (by omega)
end MM7
end
section
/-! the model: ways -/
/-- all but the scratch cells is as before -/
def Scr (S S1 : am_S0) : Prop := ∀ j, j ≠ 48 → j ≠ 49 → j ≠ 50 → S1 j = S j
theorem Scr.rf {S : am_S0} : Scr S S := fun _ _ _ _ => rfl
theorem Scr.tr {S S1 S2 : am_S0} (h : Scr S S1) (h2 : Scr S1 S2) : Scr S S2 := fun j a b c => by rw [h2 j a b c, h j a b c]
theorem Scr.up {S S1 : am_S0} {k : Nat} {f : Nat → Int32} (h : Scr S S1) (hk : k = 48 ∨ k = 49 ∨ k = 50) : Scr S (am_up S1 k f) := fun j a b c => by
  rw [am_up_ne _ _ (by omega)]
  exact h j a b c
def am_sc (r0 : Int32) (ch : Option Nat) (S : am_S0) : am_K := fun r M => r = some (.int r0) ∧ ∃ S1, Scr S S1 ∧ M = mem ch S1
theorem MN.scr {S S1 : am_S0} {n q : Nat} {fa fb : Nat → Nat} (h : MN S n q fa fb) (A : Scr S S1) : MN S1 n q fa fb := h.eq (by rw [A 38 (by decide) (by decide) (by decide)]) (by rw [A 38 (by decide) (by decide) (by decide)]) (A 39 (by decide) (by decide) (by decide)) (A 40 (by decide) (by decide) (by decide))
def wy0 (rt v : Nat) : Int32 := bif decide (v = rt) then 0 else 1000000
def wy1 (fa fb : Nat → Nat) (w f : Nat → Int32) (r v e : Nat) (b : Int32) : Int32 := bif isf fa fb e v then (bif decide (b ≤ f (12 * r + oth fa fb e v) + w e) then b else f (12 * r + oth fa fb e v) + w e) else b
def wyB (fa fb : Nat → Nat) (w : Nat → Int32) (rt q : Nat) (r v : Nat) (f : Nat → Int32) : Int32 := match r with
  | 0 => wy0 rt v
  | r + 1 => itr (wy1 fa fb w f r v) q (wy0 rt v)
def cap (b : Int32) : Int32 := bif decide (1000000 ≤ b) then 1000000 else b
def wyV (fa fb : Nat → Nat) (w : Nat → Int32) (rt q : Nat) (r v : Nat) (f : Nat → Int32) : Nat → Int32 := upd f (12 * r + v) (cap (wyB fa fb w rt q r v f))
def rkw (fa fb : Nat → Nat) (w : Nat → Int32) (rt n q k : Nat) (f : Nat → Int32) : Nat → Int32 := itr (fun r => itr (wyV fa fb w rt q r) n) k f
theorem ixo {fa fb : Nat → Nat} {e v r : Nat} (h : isf fa fb e v = true) : (12 * (nI (r + 1) - 1) + nI (fa e) + nI (fb e)) - nI v = nI (12 * r + oth fa fb e v) := by
  rw [nI_pred, show (12 : Int32) = nI 12 from rfl, pk_mul, nI_add, nI_add]
  unfold isf at h
  unfold oth
  by_cases e9 : fa e = v
  · rw [decide_eq_true e9, cond_true, ← e9, pk_sub (by omega)]
    congr 1
    omega
  · rw [decide_eq_false e9, Bool.false_or] at h
    rw [decide_eq_false e9, cond_false, ← of_decide_eq_true h, pk_sub (by omega)]
    congr 1
    omega
section MM8
variable {g : am_G} {d : Nat} {ch : Option Nat} {S : am_S0} {n q : Nat} {fa fb : Nat → Nat}
theorem m_wyE (N : MN S n q fa fb) {K : am_K} (R r x : Nat) (hr : r < 12) (hx : x < 12) (b0 : Int32) (z0 : Option Value) (kk : ∀ z, AW g (d + 1) 0 0 132 67 [some (.ref 38), some (.int (nI R)), some (.int (nI (r + 1))), some (.int (nI x)), some (.int (itr (wy1 fa fb (S 41) (S 48) r x) q b0)), some (.int (nI q)), z] [] (mem ch S) K) : AW g (d + 1) 0 0 132 21 [some (.ref 38), some (.int (nI R)), some (.int (nI (r + 1))), some (.int (nI x)), some (.int b0), some (.int (nI 0)), z0] [] (mem ch S) K := by
  have hn := N.2.1
  have hq := N.2.2.2.1
  refine am_forS (q) (fun v z => [some (.ref 38), some (.int (nI R)), some (.int (nI (r + 1))), some (.int (nI x)), some (.int (itr (wy1 fa fb (S 41) (S 48) r x) v b0)), some (.int (nI v)), z]) (fun v z => mem ch S) (fun v z => True) (fun v z hv _ k => ?_) (fun z _ => ?_) (q) 0 (z0) (by omega) trivial
  · obtain ⟨e1, e2, l1, l2⟩ := N.2.2.2.2 v hv
    have o1 : oth fa fb v x < 12 := oth_lt l1 l2
    rw [itr_s] at k
    generalize itr (wy1 fa fb (S 41) (S 48) r x) v b0 = b at k ⊢
    refine am_iload rfl rfl ?_
    refine am_aload_n rfl rfl rfl ?_
    refine am_get rfl rfl rfl ?_
    refine am_icmp_ge rfl (fun h => absurd h (ed_lt N hv)) (fun _ => ?_)
    refine am_iload_n rfl rfl ?_
    refine am_if_le rfl (fun h => absurd h (nI_nle (by omega) (by omega))) (fun _ => ?_)
    refine am_aload_n rfl rfl rfl ?_
    refine am_iload rfl rfl ?_
    refine am_iload_n rfl rfl ?_
    refine am_Vx [.int (nI v), .int (nI x)] rfl rfl rfl rfl rfl rfl (m_isOf (d := _) N (v) (x) (by omega) (by omega)) ?_
    refine am_if_eq rfl (fun h31 => ?_) (fun h31 => ?_)
    · refine am_iinc rfl rfl ?_
      refine am_goto rfl ?_
      simp only [wy1, bi_0 h31, cond_true, cond_false, nI_succ v] at k
      exact k _ trivial
    · refine am_aload_n rfl rfl rfl ?_
      refine am_get rfl rfl rfl ?_
      refine am_bipush rfl ?_
      refine am_iload_n rfl rfl ?_
      refine am_iconst rfl ?_
      refine am_isub rfl ?_
      refine am_imul rfl ?_
      refine am_aload_n rfl rfl rfl ?_
      refine am_get rfl rfl rfl ?_
      refine am_iload rfl rfl ?_
      refine am_iald rfl rfl rfl (by omega) (by decide) ?_
      rw [e1]
      refine am_iadd rfl ?_
      refine am_aload_n rfl rfl rfl ?_
      refine am_get rfl rfl rfl ?_
      refine am_iload rfl rfl ?_
      refine am_iald rfl rfl rfl (by omega) (by decide) ?_
      rw [e2]
      refine am_iadd rfl ?_
      refine am_iload_n rfl rfl ?_
      refine am_isub rfl ?_
      rw [ixo (bi_1 h31)]
      refine am_iald rfl rfl rfl (by omega) (by decide) ?_
      refine am_aload_n rfl rfl rfl ?_
      refine am_get rfl rfl rfl ?_
      refine am_iload rfl rfl ?_
      refine am_iald rfl rfl rfl (by omega) (by decide) ?_
      refine am_iadd rfl ?_
      refine am_istore rfl ?_
      refine am_iload rfl rfl ?_
      refine am_iload rfl rfl ?_
      refine am_icmp_ge rfl (fun h60 => ?_) (fun h60 => ?_)
      · refine am_iload rfl rfl ?_
        refine am_istore rfl ?_
        refine am_iinc rfl rfl ?_
        refine am_goto rfl ?_
        simp only [wy1, bi_1 h31, decide_eq_true h60, cond_true, cond_false, nI_succ v] at k
        exact k _ trivial
      · refine am_iload rfl rfl ?_
        refine am_goto rfl ?_
        refine am_istore rfl ?_
        refine am_iinc rfl rfl ?_
        refine am_goto rfl ?_
        simp only [wy1, bi_1 h31, decide_eq_false h60, cond_true, cond_false, nI_succ v] at k
        exact k _ trivial
  · refine am_iload rfl rfl ?_
    refine am_aload_n rfl rfl rfl ?_
    refine am_get rfl rfl rfl ?_
    refine am_icmp_ge rfl (fun _ => ?_) (fun h => absurd (ed_ge N) h)
    exact kk z
theorem m_wyR (N : MN S n q fa fb) {K : am_K} (R rt r x : Nat) (hr : r ≤ 12) (hx : x < 12) (z0 : Option Value) (kk : ∀ y z, AW g (d + 1) 0 0 132 67 [some (.ref 38), some (.int (nI R)), some (.int (nI r)), some (.int (nI x)), some (.int (wyB fa fb (S 41) rt q r x (S 48))), y, z] [] (mem ch S) K) : AW g (d + 1) 0 0 132 21 [some (.ref 38), some (.int (nI R)), some (.int (nI r)), some (.int (nI x)), some (.int (wy0 rt x)), some (.int (nI 0)), z0] [] (mem ch S) K := by
  rcases r with _ | r
  · refine am_iload rfl rfl ?_
    refine am_aload_n rfl rfl rfl ?_
    refine am_get rfl rfl rfl ?_
    refine am_icmp_ge rfl (fun _ => kk _ _) (fun _ => ?_)
    refine am_iload_n rfl rfl ?_
    refine am_if_le rfl (fun _ => kk _ _) (fun h => absurd (by decide) h)
  · exact m_wyE N R r x (by omega) hx (wy0 rt x) z0 (fun z => kk _ z)
/-- reckonWays(rounds) -/
theorem m_reckon (N : MN S n q fa fb) (rt : Nat) (hrt : rt < n) (hr : S 38 9 = nI rt) (R : Nat) (hR : R ≤ 12) : AW g (d + 1) 0 0 132 0 (am_L0 132 [.ref 38, .int (nI R)]) [] (mem ch S) (am_is none (mem ch (am_up S 48 (rkw fa fb (S 41) rt n q (R + 1) (S 48))))) := by
  have hn := N.2.1
  refine am_iconst rfl ?_
  refine am_istore_n rfl ?_
  refine am_Meq (M' := mem ch (am_up S 48 (rkw fa fb (S 41) rt n q 0 (S 48)))) (by show mem ch S = mem ch (am_up S 48 (S 48)); rw [am_up_self]) ?_
  show AW g _ 0 0 132 2 [some (.ref 38), some (.int (nI R)), some (.int (nI 0)), none, none, none, none] [] _ _
  refine am_forS (R + 1) (fun r s => [some (.ref 38), some (.int (nI R)), some (.int (nI r)), s.1, s.2.1, s.2.2.1, s.2.2.2]) (fun r s => mem ch (am_up S 48 (rkw fa fb (S 41) rt n q r (S 48)))) (fun r s => True) (fun r s hv1 _ k1 => ?_) (fun s _ => ?_) (R + 1) 0 ((none, none, none, none)) (by omega) trivial
  · unfold rkw at k1 ⊢
    rw [itr_s] at k1
    generalize itr (fun r => itr (wyV fa fb (S 41) rt q r) n) r (S 48) = F at k1 ⊢
    refine am_iload_n rfl rfl ?_
    refine am_iload_n rfl rfl ?_
    refine am_icmp_gt rfl (fun h => absurd h (nI_nlt (by omega) (by omega))) (fun _ => ?_)
    refine am_iconst rfl ?_
    refine am_istore_n rfl ?_
    show AW g _ 0 0 132 7 [some (.ref 38), some (.int (nI R)), some (.int (nI r)), some (.int (nI 0)), s.2.1, s.2.2.1, s.2.2.2] [] (mem ch (am_up S 48 (itr (wyV fa fb (S 41) rt q r) 0 F))) _
    refine am_forS (n) (fun v s2 => [some (.ref 38), some (.int (nI R)), some (.int (nI r)), some (.int (nI v)), s2.1, s2.2.1, s2.2.2]) (fun v s2 => mem ch (am_up S 48 (itr (wyV fa fb (S 41) rt q r) v F))) (fun v s2 => True) (fun v s2 hv _ k => ?_) (fun s2 _ => ?_) (n) 0 ((s.2.1, s.2.2.1, s.2.2.2)) (by omega) trivial
    · rw [itr_s] at k
      generalize itr (wyV fa fb (S 41) rt q r) v F = F1 at k ⊢
      refine am_iload_n rfl rfl ?_
      refine am_aload_n rfl rfl rfl ?_
      refine am_get rfl rfl rfl ?_
      refine am_icmp_ge rfl (fun h => absurd h (nm_lt (N.up (k := 48) (by decide)).1 hn hv)) (fun _ => ?_)
      refine am_iload_n rfl rfl ?_
      refine am_aload_n rfl rfl rfl ?_
      refine am_get rfl rfl rfl ?_
      rw [show am_up S 48 F1 38 9 = nI rt from hr]
      refine am_icmp_ne rfl (fun h14 => ?_) (fun h14 => ?_)
      · rw [nI_eq (by omega) (by omega)] at h14
        refine am_ldc rfl ?_
        refine am_istore rfl ?_
        refine am_iconst rfl ?_
        refine am_istore rfl ?_
        show AW g (d + 1) 0 0 132 21 [some (.ref 38), some (.int (nI R)), some (.int (nI r)), some (.int (nI v)), some (.int 1000000), some (.int (nI 0)), s2.2.2] [] _ _
        rw [show (1000000 : Int32) = wy0 rt v by unfold wy0; rw [decide_eq_false h14]; rfl]
        refine m_wyR (d := d) (N.up (k := 48) (by decide)) R rt r v (by omega) (by omega) s2.2.2 (fun y z => ?_)
        refine am_aload_n rfl rfl rfl ?_
        refine am_get rfl rfl rfl ?_
        refine am_bipush rfl ?_
        refine am_iload_n rfl rfl ?_
        refine am_imul rfl ?_
        refine am_iload_n rfl rfl ?_
        refine am_iadd rfl ?_
        refine am_iload rfl rfl ?_
        refine am_ldc rfl ?_
        refine am_icmp_ge rfl (fun h76 => ?_) (fun h76 => ?_)
        · refine am_ldc rfl ?_
          refine am_iast rfl rfl (ix12 _ _) (by omega) (by decide) ?_
          refine am_Meq ms48 ?_
          refine am_iinc rfl rfl ?_
          refine am_goto rfl ?_
          simp only [wyV, cap, decide_eq_true (show 1000000 ≤ wyB fa fb (S 41) rt q r v F1 from h76), cond_true, cond_false, nI_succ] at k
          exact k (_, _, _) trivial
        · refine am_iload rfl rfl ?_
          refine am_goto rfl ?_
          refine am_iast rfl rfl (ix12 _ _) (by omega) (by decide) ?_
          refine am_Meq ms48 ?_
          refine am_iinc rfl rfl ?_
          refine am_goto rfl ?_
          simp only [wyV, cap, decide_eq_false (show ¬ 1000000 ≤ wyB fa fb (S 41) rt q r v F1 from h76), cond_true, cond_false, nI_succ] at k
          exact k (_, _, _) trivial
      · rw [nI_eq (by omega) (by omega)] at h14
        refine am_iconst rfl ?_
        refine am_goto rfl ?_
        refine am_istore rfl ?_
        refine am_iconst rfl ?_
        refine am_istore rfl ?_
        show AW g (d + 1) 0 0 132 21 [some (.ref 38), some (.int (nI R)), some (.int (nI r)), some (.int (nI v)), some (.int 0), some (.int (nI 0)), s2.2.2] [] _ _
        rw [show (0 : Int32) = wy0 rt v by unfold wy0; rw [decide_eq_true h14]; rfl]
        refine m_wyR (d := d) (N.up (k := 48) (by decide)) R rt r v (by omega) (by omega) s2.2.2 (fun y z => ?_)
        refine am_aload_n rfl rfl rfl ?_
        refine am_get rfl rfl rfl ?_
        refine am_bipush rfl ?_
        refine am_iload_n rfl rfl ?_
        refine am_imul rfl ?_
        refine am_iload_n rfl rfl ?_
        refine am_iadd rfl ?_
        refine am_iload rfl rfl ?_
        refine am_ldc rfl ?_
        refine am_icmp_ge rfl (fun h76 => ?_) (fun h76 => ?_)
        · refine am_ldc rfl ?_
          refine am_iast rfl rfl (ix12 _ _) (by omega) (by decide) ?_
          refine am_Meq ms48 ?_
          refine am_iinc rfl rfl ?_
          refine am_goto rfl ?_
          simp only [wyV, cap, decide_eq_true (show 1000000 ≤ wyB fa fb (S 41) rt q r v F1 from h76), cond_true, cond_false, nI_succ] at k
          exact k (_, _, _) trivial
        · refine am_iload rfl rfl ?_
          refine am_goto rfl ?_
          refine am_iast rfl rfl (ix12 _ _) (by omega) (by decide) ?_
          refine am_Meq ms48 ?_
          refine am_iinc rfl rfl ?_
          refine am_goto rfl ?_
          simp only [wyV, cap, decide_eq_false (show ¬ 1000000 ≤ wyB fa fb (S 41) rt q r v F1 from h76), cond_true, cond_false, nI_succ] at k
          exact k (_, _, _) trivial
    · refine am_iload_n rfl rfl ?_
      refine am_aload_n rfl rfl rfl ?_
      refine am_get rfl rfl rfl ?_
      refine am_icmp_ge rfl (fun _ => ?_) (fun h => absurd (nm_ge (N.up (k := 48) (by decide)).1 hn) h)
      refine am_iinc rfl rfl ?_
      refine am_goto rfl ?_
      simp only [nI_succ] at k1
      exact k1 (_, _, _, _) trivial
  · refine am_iload_n rfl rfl ?_
    refine am_iload_n rfl rfl ?_
    refine am_icmp_gt rfl (fun _ => ?_) (fun h => absurd (nI_lt (Nat.lt_succ_self R) (by omega)) h)
    exact am_return rfl ⟨rfl, rfl⟩
/-- the least sums, round by round -/
def wv (fa fb : Nat → Nat) (w : Nat → Int32) (rt q : Nat) : Nat → Nat → Int32
  | 0 => wy0 rt
  | r + 1 => fun v => cap (itr (fun e b => bif isf fa fb e v then (bif decide (b ≤ wv fa fb w rt q r (oth fa fb e v) + w e) then b else wv fa fb w rt q r (oth fa fb e v) + w e) else b) q (wy0 rt v))
theorem itr_congr {σ : Type} {f h : Nat → σ → σ} : ∀ {k : Nat} {s : σ}, (∀ j, j < k → ∀ s, f j s = h j s) → itr f k s = itr h k s
  | 0, _, _ => rfl
  | k + 1, s, e => by
    rw [itr_s, itr_s, itr_congr (k := k) (s := s) (fun j hj => e j (by omega)), e k (by omega)]
theorem wyB_wv {w f : Nat → Int32} {rt r v : Nat} (hv : v < n) (hab : ∀ e, e < q → fa e < n ∧ fb e < n) (h : ∀ s, s < r → ∀ u, u < n → f (12 * s + u) = wv fa fb w rt q s u) : cap (wyB fa fb w rt q r v f) = wv fa fb w rt q r v := by
  cases r with
  | zero =>
    show cap (wy0 rt v) = wy0 rt v
    unfold wy0
    cases decide (v = rt) <;> rfl
  | succ r =>
    show cap (itr (wy1 fa fb w f r v) q (wy0 rt v)) = cap _
    congr 1
    refine itr_congr (fun e he b => ?_)
    have ho : oth fa fb e v < n := by
      unfold oth
      have := hab e he
      cases decide (fa e = v)
      · exact this.1
      · exact this.2
    unfold wy1
    rw [h r (by omega) _ ho]
theorem wyI_wv {w : Nat → Int32} {rt r : Nat} (hn : n ≤ 12) (hab : ∀ e, e < q → fa e < n ∧ fb e < n) {f : Nat → Int32} (h : ∀ s, s < r → ∀ u, u < n → f (12 * s + u) = wv fa fb w rt q s u) : ∀ k, k ≤ n → (∀ s, s < r → ∀ u, u < n → itr (wyV fa fb w rt q r) k f (12 * s + u) = wv fa fb w rt q s u) ∧ ∀ u, u < k → itr (wyV fa fb w rt q r) k f (12 * r + u) = wv fa fb w rt q r u
  | 0, _ => ⟨h, fun u hu => absurd hu (Nat.not_lt_zero _)⟩
  | k + 1, hk => by
    obtain ⟨h1, h2⟩ := wyI_wv hn hab h k (by omega)
    rw [itr_s]
    generalize itr (wyV fa fb w rt q r) k f = F at h1 h2
    unfold wyV
    constructor
    · intro s hs u hu
      rw [pk_un (by omega)]
      exact h1 s hs u hu
    · intro u hu
      by_cases e : u = k
      · subst e
        rw [pk_us]
        exact wyB_wv (by omega) hab h1
      · rw [pk_un (by omega)]
        exact h2 u (by omega)
theorem rkw_wv {w : Nat → Int32} {rt : Nat} (hn : n ≤ 12) (hab : ∀ e, e < q → fa e < n ∧ fb e < n) (f : Nat → Int32) : ∀ k, ∀ s, s < k → ∀ u, u < n → rkw fa fb w rt n q k f (12 * s + u) = wv fa fb w rt q s u
  | 0, s, hs, _, _ => absurd hs (Nat.not_lt_zero _)
  | k + 1, s, hs, u, hu => by
    have ih := rkw_wv (w := w) (rt := rt) hn hab f k
    have h := wyI_wv hn hab ih n (Nat.le_refl _)
    show itr (wyV fa fb w rt q k) n (rkw fa fb w rt n q k f) (12 * s + u) = _
    by_cases e : s = k
    · subst e
      exact h.2 u hu
    · exact h.1 s (by omega) u hu
def lwy (W : Nat → Int32) : Nat → Nat
  | 0 => 0
  | t + 1 => bif decide (W (t + 1) = W t) then lwy W t else t + 1
theorem lwy_le (W : Nat → Int32) : ∀ t, lwy W t ≤ t
  | 0 => Nat.le_refl _
  | t + 1 => by
    have := lwy_le W t
    unfold lwy
    cases decide (W (t + 1) = W t)
    · exact Nat.le_refl _
    · show lwy W t ≤ t + 1
      omega
/-- lastWay(v, r) -/
theorem m_lastW (x : Nat) (hx : x < 12) (W : Nat → Int32) (y : Option Value) : ∀ t, t ≤ 12 → (∀ s, s ≤ t → S 48 (12 * s + x) = W s) → AW g (d + 1) 0 0 133 2 [some (.ref 38), some (.int (nI x)), y, some (.int (nI t))] [] (mem ch S) (am_is (some (.int (nI (lwy W t)))) (mem ch S))
  | 0, _, _ => by
    refine am_iload_n rfl rfl ?_
    refine am_if_le rfl (fun _ => ?_) (fun h => absurd (by decide) h)
    refine am_iload_n rfl rfl ?_
    refine am_ireturn rfl (fun h => absurd h (by decide)) ⟨rfl, rfl⟩
  | t + 1, ht, hW => by
    have ih := m_lastW x hx W y t (by omega) (fun s hs => hW s (by omega))
    refine am_iload_n rfl rfl ?_
    refine am_if_le rfl (fun h => absurd h (nI_nle (by omega) (by omega))) (fun _ => ?_)
    refine am_aload_n rfl rfl rfl ?_
    refine am_iload_n rfl rfl ?_
    refine am_iload_n rfl rfl ?_
    refine am_Vx [.int (nI x), .int (nI (t + 1))] rfl rfl rfl rfl rfl rfl (m_wayOf (d := _) x (t + 1) (by omega) (by omega)) ?_
    refine am_aload_n rfl rfl rfl ?_
    refine am_iload_n rfl rfl ?_
    refine am_iload_n rfl rfl ?_
    refine am_iconst rfl ?_
    refine am_isub rfl ?_
    rw [nI_pred]
    refine am_Vx [.int (nI x), .int (nI t)] rfl rfl rfl rfl rfl rfl (m_wayOf (d := _) x t (by omega) (by omega)) ?_
    rw [hW (t + 1) (by omega), hW t (by omega)]
    refine am_icmp_ne rfl (fun h => ?_) (fun h => ?_)
    · refine am_iload_n rfl rfl ?_
      refine am_ireturn rfl (fun h => absurd h (by decide)) ⟨?_, rfl⟩
      simp only [lwy, decide_eq_false h, cond_false]
    · refine am_iinc rfl rfl ?_
      refine am_goto rfl ?_
      simp only [lwy, decide_eq_true h, cond_true]
      rw [pk_m1]
      exact ih
theorem m_lastWay (x t : Nat) (hx : x < 12) (ht : t ≤ 12) (W : Nat → Int32) (hW : ∀ s, s ≤ t → S 48 (12 * s + x) = W s) : AW g (d + 1) 0 0 133 0 (am_L0 133 [.ref 38, .int (nI x), .int (nI t)]) [] (mem ch S) (am_is (some (.int (nI (lwy W t)))) (mem ch S)) := by
  refine am_iload_n rfl rfl ?_
  refine am_istore_n rfl ?_
  exact m_lastW x hx W _ t ht hW
def hwy1 (A : Nat → Nat → Option Nat) (W : Nat → Nat → Int32) (w : Nat → Int32) (x t u : Nat) : Bool := match A u x with
  | none => false
  | some e => decide (W t u + w e = W (t + 1) x)
/-- heldWays(v, slot, r) -/
def hwy (A : Nat → Nat → Option Nat) (W : Nat → Nat → Int32) (w : Nat → Int32) (n x s r : Nat) : Int32 := match s with
  | 0 => bif decide (1000000 ≤ W r x) then -1 else W r x
  | 2 => nI (lwy (fun t => W t x) r)
  | _ => match lwy (fun t => W t x) r with
    | 0 => -1
    | t + 1 => em (fst? (hwy1 A W w x t) n)
theorem m_heldWays (N : MN S n q fa fb) (rt : Nat) (hrt : rt < n) (hr : S 38 9 = nI rt) (hab : ∀ e, e < q → fa e < n ∧ fb e < n) (x s r : Nat) (hx : x < n) (hs : s < 3) (hr12 : r ≤ 12) : AW g (d + 2) 0 0 131 0 (am_L0 131 [.ref 38, .int (nI x), .int (nI s), .int (nI r)]) [] (mem ch S) (am_sc (hwy (bt fa fb q) (wv fa fb (S 41) rt q) (S 41) n x s r) ch S) := by
  have hn := N.2.1
  refine am_iload_n rfl rfl ?_
  refine am_bipush rfl ?_
  refine am_icmp_le rfl (fun _ => ?_) (fun h => absurd (nI_le hr12 (by decide)) h)
  refine am_iload_n rfl rfl ?_
  refine am_istore rfl ?_
  refine am_aload_n rfl rfl rfl ?_
  refine am_iload rfl rfl ?_
  refine am_Vx [.int (nI r)] rfl rfl rfl rfl rfl rfl (m_reckon (d := d) N rt hrt hr r hr12) ?_
  have hS1 : Scr S (am_up S 48 (rkw fa fb (S 41) rt n q (r + 1) (S 48))) := Scr.rf.up (Or.inl rfl)
  have N1 : MN (am_up S 48 (rkw fa fb (S 41) rt n q (r + 1) (S 48))) n q fa fb := N.scr hS1
  have hW : ∀ t, t ≤ r → ∀ u, u < n → am_up S 48 (rkw fa fb (S 41) rt n q (r + 1) (S 48)) 48 (12 * t + u) = wv fa fb (S 41) rt q t u := fun t ht u hu => rkw_wv hn hab (S 48) (r + 1) t (by omega) u hu
  have h41 : am_up S 48 (rkw fa fb (S 41) rt n q (r + 1) (S 48)) 41 = S 41 := rfl
  generalize am_up S 48 (rkw fa fb (S 41) rt n q (r + 1) (S 48)) = S1 at hS1 N1 hW h41 ⊢
  generalize wv fa fb (S 41) rt q = W at hW ⊢
  refine am_aload_n rfl rfl rfl ?_
  refine am_iload_n rfl rfl ?_
  refine am_iload rfl rfl ?_
  refine am_Vx [.int (nI x), .int (nI r)] rfl rfl rfl rfl rfl rfl (m_lastWay (d := d) x r (by omega) hr12 (fun t => W t x) (fun t ht => hW t ht x hx)) ?_
  refine am_istore rfl ?_
  have hl := lwy_le (fun t => W t x) r
  match s, hs with
  | 0, _ =>
    refine am_iload_n rfl rfl ?_
    refine am_if_ne rfl (fun h => absurd rfl h) (fun _ => ?_)
    refine am_aload_n rfl rfl rfl ?_
    refine am_iload_n rfl rfl ?_
    refine am_iload rfl rfl ?_
    refine am_Vx [.int (nI x), .int (nI r)] rfl rfl rfl rfl rfl rfl (m_wayOf (d := _) x r (by omega) (by omega)) ?_
    rw [hW r (by omega) x hx]
    refine am_ldc rfl ?_
    refine am_icmp_ge rfl (fun h => ?_) (fun h => ?_)
    · refine am_iconst rfl ?_
      refine am_ireturn rfl (fun h => absurd h (by decide)) ⟨?_, S1, hS1, rfl⟩
      simp only [hwy, decide_eq_true h, cond_true]
    · refine am_aload_n rfl rfl rfl ?_
      refine am_iload_n rfl rfl ?_
      refine am_iload rfl rfl ?_
      refine am_Vx [.int (nI x), .int (nI r)] rfl rfl rfl rfl rfl rfl (m_wayOf (d := _) x r (by omega) (by omega)) ?_
      refine am_goto rfl ?_
      refine am_ireturn rfl (fun h => absurd h (by decide)) ⟨?_, S1, hS1, rfl⟩
      simp only [hwy, decide_eq_false h, cond_false]
      rw [hW r (by omega) x hx]
  | 2, _ =>
    refine am_iload_n rfl rfl ?_
    refine am_if_ne rfl (fun _ => ?_) (fun h => absurd h (by decide))
    refine am_iload_n rfl rfl ?_
    refine am_iconst rfl ?_
    refine am_icmp_ne rfl (fun h => absurd rfl h) (fun _ => ?_)
    refine am_iload rfl rfl ?_
    exact am_ireturn rfl (fun h => absurd h (by decide)) ⟨rfl, S1, hS1, rfl⟩
  | 1, _ =>
    refine am_iload_n rfl rfl ?_
    refine am_if_ne rfl (fun _ => ?_) (fun h => absurd h (by decide))
    refine am_iload_n rfl rfl ?_
    refine am_iconst rfl ?_
    refine am_icmp_ne rfl (fun _ => ?_) (fun h => absurd h (by decide))
    refine am_iconst rfl ?_
    refine am_istore rfl ?_
    unfold hwy
    show AW g _ 0 0 131 37 [some (.ref 38), some (.int (nI x)), some (.int (nI 1)), some (.int (nI r)), some (.int (nI r)), some (.int (nI (lwy (fun t => W t x) r))), some (.int (nI 0)), none] [] _ _
    rcases el : lwy (fun t => W t x) r with _ | t
    · refine am_iload rfl rfl ?_
      refine am_aload_n rfl rfl rfl ?_
      refine am_get rfl rfl rfl ?_
      refine am_icmp_ge rfl (fun _ => ?_) (fun _ => ?_)
      · refine am_iconst rfl ?_
        refine am_ireturn rfl (fun h => absurd h (by decide)) ⟨?_, S1, hS1, rfl⟩
        simp only [el]
      · refine am_iload rfl rfl ?_
        refine am_if_le rfl (fun _ => ?_) (fun h => absurd (by decide) h)
        refine am_iconst rfl ?_
        refine am_ireturn rfl (fun h => absurd h (by decide)) ⟨?_, S1, hS1, rfl⟩
        simp only [el]
    simp only [el]
    have htr : t + 1 ≤ r := by omega
    refine am_forS (n) (fun v z => [some (.ref 38), some (.int (nI x)), some (.int (nI 1)), some (.int (nI r)), some (.int (nI r)), some (.int (nI (t + 1))), some (.int (nI v)), z]) (fun v z => mem ch S1) (fun v z => ∀ u, u < v → hwy1 (bt fa fb q) W (S 41) x t u = false) (fun v z hv hi k => ?_) (fun z hi => ?_) (n) 0 (none) (by omega) (fun u h => absurd h (Nat.not_lt_zero _))
    · refine am_iload rfl rfl ?_
      refine am_aload_n rfl rfl rfl ?_
      refine am_get rfl rfl rfl ?_
      refine am_icmp_ge rfl (fun h => absurd h (nm_lt N1.1 hn hv)) (fun _ => ?_)
      refine am_iload rfl rfl ?_
      refine am_if_le rfl (fun h => absurd h (nI_nle (by omega) (by omega))) (fun _ => ?_)
      refine am_aload_n rfl rfl rfl ?_
      refine am_iload rfl rfl ?_
      refine am_iload_n rfl rfl ?_
      refine am_Vx [.int (nI v), .int (nI x)] rfl rfl rfl rfl rfl rfl (m_between (d := _) N1 v x (by omega) (by omega)) ?_
      refine am_istore rfl ?_
      have hbl : ∀ e, bt fa fb q v x = some e → e < 24 := fun e he => by have := bt_lt he; have := N.2.2.2.1; omega
      rcases eb : bt fa fb q v x with _ | e
      · refine am_iload rfl rfl ?_
        refine am_if_lt rfl (fun _ => ?_) (fun h => absurd (by decide) h)
        refine am_iinc rfl rfl ?_
        refine am_goto rfl ?_
        have k := k (some (.int (-1))) (fun u hu => by
          by_cases e9 : u = v
          · subst e9; unfold hwy1; rw [eb]
          · exact hi u (by omega))
        simp only [nI_succ v] at k
        exact k
      · have he := hbl e eb
        have heq := bt_lt eb
        refine am_iload rfl rfl ?_
        refine am_if_lt rfl (fun h => absurd h (nI_pos (n := e) (by omega))) (fun _ => ?_)
        refine am_aload_n rfl rfl rfl ?_
        refine am_iload rfl rfl ?_
        refine am_iload rfl rfl ?_
        refine am_iconst rfl ?_
        refine am_isub rfl ?_
        rw [nI_pred]
        refine am_Vx [.int (nI v), .int (nI t)] rfl rfl rfl rfl rfl rfl (m_wayOf (d := _) v t (by omega) (by omega)) ?_
        refine am_aload_n rfl rfl rfl ?_
        refine am_get rfl rfl rfl ?_
        refine am_iload rfl rfl ?_
        refine am_iald (k8 := e) rfl rfl rfl (by omega) (by decide) ?_
        refine am_iadd rfl ?_
        refine am_aload_n rfl rfl rfl ?_
        refine am_iload_n rfl rfl ?_
        refine am_iload rfl rfl ?_
        refine am_Vx [.int (nI x), .int (nI (t + 1))] rfl rfl rfl rfl rfl rfl (m_wayOf (d := _) x (t + 1) (by omega) (by omega)) ?_
        rw [hW t (by omega) v hv, hW (t + 1) (by omega) x hx, h41]
        refine am_icmp_ne rfl (fun h65 => ?_) (fun h65 => ?_)
        · refine am_iinc rfl rfl ?_
          refine am_goto rfl ?_
          have k := k (some (.int (nI e))) (fun u hu => by
            by_cases e9 : u = v
            · subst e9; unfold hwy1; rw [eb]; exact decide_eq_false h65
            · exact hi u (by omega))
          simp only [nI_succ v] at k
          exact k
        · refine am_iload rfl rfl ?_
          refine am_ireturn rfl (fun h => absurd h (by decide)) ⟨?_, S1, hS1, rfl⟩
          rw [fst?_some (v := v) (by unfold hwy1; rw [eb]; exact decide_eq_true h65) hi hv]
          rfl
    · refine am_iload rfl rfl ?_
      refine am_aload_n rfl rfl rfl ?_
      refine am_get rfl rfl rfl ?_
      refine am_icmp_ge rfl (fun _ => ?_) (fun h => absurd (nm_ge N1.1 hn) h)
      refine am_iconst rfl ?_
      refine am_ireturn rfl (fun h => absurd h (by decide)) ⟨?_, S1, hS1, rfl⟩
      rw [fst?_none hi]
      rfl
  | s + 3, hs => exact absurd hs (by omega)
end MM8
end
section
/-! the model: colours and sides -/
theorem mt49 {ch : Option Nat} {S : am_S0} {f h f2 : Nat → Int32} : (mem ch (am_up (am_up S 49 f) 50 h)).set 49 (.inl (0, 12, .inl f2)) = mem ch (am_up (am_up S 49 f2) 50 h) := by
  show mem ch (am_up (am_up (am_up S 49 f) 50 h) 49 f2) = _
  rw [am_up_comm _ h f2 (by decide), am_up_up]
theorem mt50 {ch : Option Nat} {S : am_S0} {f h f2 : Nat → Int32} : (mem ch (am_up (am_up S 49 f) 50 h)).set 50 (.inl (0, 12, .inl f2)) = mem ch (am_up (am_up S 49 f) 50 f2) := ms50
def bitp (x : Int32) (p : Nat) : Int32 := (x >>> (nI p &&& 31)) &&& 1
def cst (pr : Nat → Option Nat) (f : Nat → Int32) (u : Nat) : Int32 := match pr u with
  | none => 2 * nI 0 + bitp (f u) 0
  | some w => 2 * nI (ldf (f u) (f w)) + bitp (f u) (ldf (f u) (f w))
def ck (pr : Nat → Option Nat) (n k : Nat) (f : Nat → Int32) : Nat → Int32 := itr (fun _ F => pw n (cst pr F) F) k f
theorem ck_congr {pr : Nat → Option Nat} {n : Nat} {f h : Nat → Int32} (hp : ∀ v u, v < n → pr v = some u → u < n) (e : ∀ u, u < n → f u = h u) : ∀ k u, u < n → ck pr n k f u = ck pr n k h u
  | 0, u, hu => e u hu
  | k + 1, u, hu => by
    have ih := ck_congr hp e k
    show pw n (cst pr (ck pr n k f)) (ck pr n k f) u = pw n (cst pr (ck pr n k h)) (ck pr n k h) u
    rw [pw_lt hu, pw_lt hu]
    unfold cst
    cases e9 : pr u with
    | none => simp only [ih u hu]
    | some w => simp only [ih u hu, ih w (hp u w hu e9)]
/-- where a node's bits and its parent's differ first -/
def Dif (pr : Nat → Option Nat) (n : Nat) (f : Nat → Int32) : Prop := ∀ u w, u < n → pr u = some w → (∀ p, p < ldf (f u) (f w) → bitp (f u) p = bitp (f w) p) ∧ ¬ bitp (f u) (ldf (f u) (f w)) = bitp (f w) (ldf (f u) (f w))
theorem ldf_le (x y : Int32) : ldf x y ≤ 31 := by
  unfold ldf
  cases e : fst? (fun p => !decide (((x ^^^ y) >>> (nI p &&& 31)) &&& 1 = 0)) 31 with
  | none => exact Nat.le_refl _
  | some p =>
    have := (fst?_lt e).1
    show p ≤ 31
    omega
section MM9
variable {g : am_G} {d : Nat} {ch : Option Nat} {S : am_S0} {n q : Nat} {fa fb : Nat → Nat}
variable {pr : Nat → Option Nat} {rk : Nat → Nat} {rt : Nat}
theorem m_whl {K : am_K} (F : Nat → Int32) (hn : n ≤ 12) (hr : S 38 9 = nI rt) (hP : ∀ v, v < n → S 44 v = em (pr v)) (hF : ∀ v, v < n → S 50 v = F v) (k0 u w : Nat) (hu : u < n) (hw : w < n) (hrt : rt < n) (hne : ¬ u = rt) (ep : pr u = some w) (hD : (∀ p, p < ldf (F u) (F w) → bitp (F u) p = bitp (F w) p) ∧ ¬ bitp (F u) (ldf (F u) (F w)) = bitp (F w) (ldf (F u) (F w))) (y : Option Value × Option Value) (kk : AW g d 0 0 144 71 [some (.ref 38), y.1, y.2, some (.int (nI k0)), some (.int (nI u)), some (.int (nI (ldf (F u) (F w))))] [] (mem ch S) K) : AW g d 0 0 144 45 [some (.ref 38), y.1, y.2, some (.int (nI k0)), some (.int (nI u)), some (.int (nI 0))] [] (mem ch S) K := by
  refine am_for (ldf (F u) (F w)) (fun v => [some (.ref 38), y.1, y.2, some (.int (nI k0)), some (.int (nI u)), some (.int (nI v))]) (fun v => mem ch S) (fun v hv k => ?_) ?_ (ldf (F u) (F w)) 0 (by omega)
  · refine am_iload rfl rfl ?_
    refine am_aload_n rfl rfl rfl ?_
    refine am_get rfl rfl rfl ?_
    rw [hr]
    refine am_icmp_eq rfl (fun h => absurd ((nI_eq (by omega) (by omega)).mp h) hne) (fun _ => ?_)
    refine am_aload_n rfl rfl rfl ?_
    refine am_get rfl rfl rfl ?_
    refine am_iload rfl rfl ?_
    refine am_iald rfl rfl rfl (by omega) (by decide) ?_
    rw [hF u hu]
    refine am_iload rfl rfl ?_
    refine am_ishr rfl ?_
    refine am_iconst rfl ?_
    refine am_iand rfl ?_
    refine am_aload_n rfl rfl rfl ?_
    refine am_get rfl rfl rfl ?_
    refine am_aload_n rfl rfl rfl ?_
    refine am_get rfl rfl rfl ?_
    refine am_iload rfl rfl ?_
    refine am_iald rfl rfl rfl (by omega) (by decide) ?_
    rw [hP u hu, ep]
    refine am_iald (k8 := w) rfl rfl rfl (by omega) (by decide) ?_
    rw [hF w hw]
    refine am_iload rfl rfl ?_
    refine am_ishr rfl ?_
    refine am_iconst rfl ?_
    refine am_iand rfl ?_
    refine am_icmp_ne rfl (fun h => absurd (hD.1 v hv) h) (fun _ => ?_)
    refine am_iinc rfl rfl ?_
    refine am_goto rfl ?_
    simp only [nI_succ v] at k
    exact k
  · refine am_iload rfl rfl ?_
    refine am_aload_n rfl rfl rfl ?_
    refine am_get rfl rfl rfl ?_
    rw [hr]
    refine am_icmp_eq rfl (fun h => absurd ((nI_eq (by omega) (by omega)).mp h) hne) (fun _ => ?_)
    refine am_aload_n rfl rfl rfl ?_
    refine am_get rfl rfl rfl ?_
    refine am_iload rfl rfl ?_
    refine am_iald rfl rfl rfl (by omega) (by decide) ?_
    rw [hF u hu]
    refine am_iload rfl rfl ?_
    refine am_ishr rfl ?_
    refine am_iconst rfl ?_
    refine am_iand rfl ?_
    refine am_aload_n rfl rfl rfl ?_
    refine am_get rfl rfl rfl ?_
    refine am_aload_n rfl rfl rfl ?_
    refine am_get rfl rfl rfl ?_
    refine am_iload rfl rfl ?_
    refine am_iald rfl rfl rfl (by omega) (by decide) ?_
    rw [hP u hu, ep]
    refine am_iald (k8 := w) rfl rfl rfl (by omega) (by decide) ?_
    rw [hF w hw]
    refine am_iload rfl rfl ?_
    refine am_ishr rfl ?_
    refine am_iconst rfl ?_
    refine am_iand rfl ?_
    refine am_icmp_ne rfl (fun _ => ?_) (fun h => absurd h hD.2)
    exact kk
/-- heldColour(v, r) -/
theorem m_heldColour (N : MN S n q fa fb) (hr : S 38 9 = nI rt) (hrt : rt < n) (R : Rk pr n rk) (hP : ∀ v, v < n → S 44 v = em (pr v)) (hro : ∀ v, v < n → (pr v = none ↔ v = rt)) (r : Nat) (hr4 : r < 1000000) (hDif : ∀ k, k < r → Dif pr n (ck pr n k (S 42))) (x : Nat) (hx : x < n) : AW g d 0 0 144 0 (am_L0 144 [.ref 38, .int (nI x), .int (nI r)]) [] (mem ch S) (am_sc (ck pr n r (S 42) x) ch S) := by
  have hn := N.2.1
  refine am_iconst rfl ?_
  refine am_istore_n rfl ?_
  refine am_Meq (M' := mem ch (am_up S 49 (pw 0 (S 42) (S 49)))) (by rw [pw_0, am_up_self]) ?_
  show AW g _ 0 0 144 2 [some (.ref 38), some (.int (nI x)), some (.int (nI r)), some (.int (nI 0)), none, none] [] _ _
  refine am_for (n) (fun v => [some (.ref 38), some (.int (nI x)), some (.int (nI r)), some (.int (nI v)), none, none]) (fun v => mem ch (am_up S 49 (pw v (S 42) (S 49)))) (fun v hv k => ?_) ?_ (n) 0 (by omega)
  · refine am_iload_n rfl rfl ?_
    refine am_aload_n rfl rfl rfl ?_
    refine am_get rfl rfl rfl ?_
    refine am_icmp_ge rfl (fun h => absurd h (nm_lt (N.up (k := 49) (by decide)).1 hn hv)) (fun _ => ?_)
    refine am_aload_n rfl rfl rfl ?_
    refine am_get rfl rfl rfl ?_
    refine am_iload_n rfl rfl ?_
    refine am_aload_n rfl rfl rfl ?_
    refine am_get rfl rfl rfl ?_
    refine am_iload_n rfl rfl ?_
    refine am_iald rfl rfl rfl (by omega) (by decide) ?_
    refine am_iast rfl rfl rfl (by omega) (by decide) ?_
    refine am_Meq ms49 ?_
    refine am_Meq (M' := mem ch (am_up S 49 (pw (v + 1) (S 42) (S 49)))) (by rw [← pw_s]; rfl) ?_
    refine am_iinc rfl rfl ?_
    refine am_goto rfl ?_
    simp only [nI_succ] at k
    exact k
  · refine am_iload_n rfl rfl ?_
    refine am_aload_n rfl rfl rfl ?_
    refine am_get rfl rfl rfl ?_
    refine am_icmp_ge rfl (fun _ => ?_) (fun h => absurd (nm_ge (N.up (k := 49) (by decide)).1 hn) h)
    refine am_iconst rfl ?_
    refine am_istore_n rfl ?_
    show AW g _ 0 0 144 18 [some (.ref 38), some (.int (nI x)), some (.int (nI r)), some (.int (nI 0)), none, none] [] _ _
    refine am_Meq (M' := mem ch (am_up (am_up S 49 (ck pr n 0 (pw n (S 42) (S 49)))) 50 (S 50))) (congrArg (mem ch) (am_up_self (am_up S 49 (pw n (S 42) (S 49))) 50).symm) ?_
    refine am_forS (r) (fun k0 s => [some (.ref 38), some (.int (nI x)), some (.int (nI r)), some (.int (nI k0)), s.1, s.2.1]) (fun k0 s => mem ch (am_up (am_up S 49 (ck pr n k0 (pw n (S 42) (S 49)))) 50 s.2.2)) (fun k0 s => True) (fun k0 s hk0 _ k1 => ?_) (fun s _ => ?_) (r) 0 (((none, none, S 50) : Option Value × Option Value × (Nat → Int32))) (by omega) trivial
    · have hD0 := hDif k0 hk0
      have hcc := ck_congr (f := pw n (S 42) (S 49)) (h := S 42) (fun v u hv h => (R.2 v u hv h).1) (fun u hu => pw_lt hu) k0
      have hD : Dif pr n (ck pr n k0 (pw n (S 42) (S 49))) := fun u w hu e => by
        have hw := (R.2 u w hu e).1
        rw [hcc u hu, hcc w hw]
        exact hD0 u w hu e
      have hck : ck pr n (k0 + 1) (pw n (S 42) (S 49)) = pw n (cst pr (ck pr n k0 (pw n (S 42) (S 49)))) (ck pr n k0 (pw n (S 42) (S 49))) := rfl
      rw [hck] at k1
      generalize ck pr n k0 (pw n (S 42) (S 49)) = F at k1 hD ⊢
      generalize s.2.2 = B
      refine am_iload_n rfl rfl ?_
      refine am_iload_n rfl rfl ?_
      refine am_icmp_ge rfl (fun h => absurd h (nI_ge hk0 (by omega))) (fun _ => ?_)
      refine am_iconst rfl ?_
      refine am_istore rfl ?_
      show AW g _ 0 0 144 23 [some (.ref 38), some (.int (nI x)), some (.int (nI r)), some (.int (nI k0)), some (.int (nI 0)), s.2.1] [] (mem ch (am_up (am_up S 49 F) 50 (pw 0 F B))) _
      refine am_for (n) (fun v => [some (.ref 38), some (.int (nI x)), some (.int (nI r)), some (.int (nI k0)), some (.int (nI v)), s.2.1]) (fun v => mem ch (am_up (am_up S 49 F) 50 (pw v F B))) (fun v hv k => ?_) ?_ (n) 0 (by omega)
      · refine am_iload rfl rfl ?_
        refine am_aload_n rfl rfl rfl ?_
        refine am_get rfl rfl rfl ?_
        refine am_icmp_ge rfl (fun h => absurd h (nm_lt (((N.up (k := 49) (by decide)).up (k := 50) (by decide))).1 hn hv)) (fun _ => ?_)
        refine am_aload_n rfl rfl rfl ?_
        refine am_get rfl rfl rfl ?_
        refine am_iload rfl rfl ?_
        refine am_aload_n rfl rfl rfl ?_
        refine am_get rfl rfl rfl ?_
        refine am_iload rfl rfl ?_
        refine am_iald rfl rfl rfl (by omega) (by decide) ?_
        refine am_iast rfl rfl rfl (by omega) (by decide) ?_
        refine am_Meq mt50 ?_
        refine am_Meq (M' := mem ch (am_up (am_up S 49 F) 50 (pw (v + 1) F B))) (by rw [← pw_s]; rfl) ?_
        refine am_iinc rfl rfl ?_
        refine am_goto rfl ?_
        simp only [nI_succ] at k
        exact k
      · refine am_iload rfl rfl ?_
        refine am_aload_n rfl rfl rfl ?_
        refine am_get rfl rfl rfl ?_
        refine am_icmp_ge rfl (fun _ => ?_) (fun h => absurd (nm_ge (((N.up (k := 49) (by decide)).up (k := 50) (by decide))).1 hn) h)
        refine am_iconst rfl ?_
        refine am_istore rfl ?_
        show AW g _ 0 0 144 39 [some (.ref 38), some (.int (nI x)), some (.int (nI r)), some (.int (nI k0)), some (.int (nI 0)), s.2.1] [] (mem ch (am_up (am_up S 49 (pw 0 (cst pr F) F)) 50 (pw n F B))) _
        refine am_forS (n) (fun v z => [some (.ref 38), some (.int (nI x)), some (.int (nI r)), some (.int (nI k0)), some (.int (nI v)), z]) (fun v z => mem ch (am_up (am_up S 49 (pw v (cst pr F) F)) 50 (pw n F B))) (fun v z => True) (fun v z hv _ k => ?_) (fun z _ => ?_) (n) 0 (s.2.1) (by omega) trivial
        · refine am_iload rfl rfl ?_
          refine am_aload_n rfl rfl rfl ?_
          refine am_get rfl rfl rfl ?_
          refine am_icmp_ge rfl (fun h => absurd h (nm_lt (((N.up (k := 49) (by decide)).up (k := 50) (by decide))).1 hn hv)) (fun _ => ?_)
          refine am_iconst rfl ?_
          refine am_istore rfl ?_
          rcases ep : pr v with _ | w
          · have hv0 := (hro v hv).mp ep
            refine am_iload rfl rfl ?_
            refine am_aload_n rfl rfl rfl ?_
            refine am_get rfl rfl rfl ?_
            rw [show am_up (am_up S 49 (pw v (cst pr F) F)) 50 (pw n F B) 38 9 = nI rt from hr]
            refine am_icmp_eq rfl (fun _ => ?_) (fun h => absurd (by rw [hv0]) h)
            show AW g _ 0 0 144 71 [some (.ref 38), some (.int (nI x)), some (.int (nI r)), some (.int (nI k0)), some (.int (nI v)), some (.int (nI 0))] [] _ _
            refine am_aload_n rfl rfl rfl ?_
            refine am_get rfl rfl rfl ?_
            refine am_iload rfl rfl ?_
            refine am_iconst rfl ?_
            refine am_iload rfl rfl ?_
            refine am_imul rfl ?_
            refine am_aload_n rfl rfl rfl ?_
            refine am_get rfl rfl rfl ?_
            refine am_iload rfl rfl ?_
            refine am_iald rfl rfl rfl (by omega) (by decide) ?_
            rw [show am_up (am_up S 49 (pw v (cst pr F) F)) 50 (pw n F B) 50 v = F v from pw_lt hv]
            refine am_iload rfl rfl ?_
            refine am_ishr rfl ?_
            refine am_iconst rfl ?_
            refine am_iand rfl ?_
            refine am_iadd rfl ?_
            refine am_iast rfl rfl rfl (by omega) (by decide) ?_
            refine am_Meq mt49 ?_
            refine am_Meq (M' := mem ch (am_up (am_up S 49 (pw (v + 1) (cst pr F) F)) 50 (pw n F B))) (by
              rw [← pw_s]
              show mem ch (am_up (am_up S 49 (upd (pw v (cst pr F) F) v (2 * nI 0 + bitp (F v) 0))) 50 (pw n F B)) = _
              rw [show cst pr F v = 2 * nI 0 + bitp (F v) 0 by unfold cst; rw [ep]]) ?_
            refine am_iinc rfl rfl ?_
            refine am_goto rfl ?_
            simp only [nI_succ v] at k
            exact k _ trivial
          · obtain ⟨hw, _⟩ := R.2 v w hv ep
            have hne : ¬ v = rt := fun h => by rw [(hro v hv).mpr h] at ep; cases ep
            refine m_whl (S := am_up (am_up S 49 (pw v (cst pr F) F)) 50 (pw n F B)) F hn hr hP (fun u hu => show pw n F B u = F u from pw_lt hu) k0 v w hv hw hrt hne ep (hD v w hv ep) (some (.int (nI x)), some (.int (nI r))) ?_
            refine am_aload_n rfl rfl rfl ?_
            refine am_get rfl rfl rfl ?_
            refine am_iload rfl rfl ?_
            refine am_iconst rfl ?_
            refine am_iload rfl rfl ?_
            refine am_imul rfl ?_
            refine am_aload_n rfl rfl rfl ?_
            refine am_get rfl rfl rfl ?_
            refine am_iload rfl rfl ?_
            refine am_iald rfl rfl rfl (by omega) (by decide) ?_
            rw [show am_up (am_up S 49 (pw v (cst pr F) F)) 50 (pw n F B) 50 v = F v from pw_lt hv]
            refine am_iload rfl rfl ?_
            refine am_ishr rfl ?_
            refine am_iconst rfl ?_
            refine am_iand rfl ?_
            refine am_iadd rfl ?_
            refine am_iast rfl rfl rfl (by omega) (by decide) ?_
            refine am_Meq mt49 ?_
            refine am_Meq (M' := mem ch (am_up (am_up S 49 (pw (v + 1) (cst pr F) F)) 50 (pw n F B))) (by
              rw [← pw_s]
              show mem ch (am_up (am_up S 49 (upd (pw v (cst pr F) F) v (2 * nI (ldf (F v) (F w)) + bitp (F v) (ldf (F v) (F w))))) 50 (pw n F B)) = _
              rw [show cst pr F v = 2 * nI (ldf (F v) (F w)) + bitp (F v) (ldf (F v) (F w)) by unfold cst; rw [ep]]) ?_
            refine am_iinc rfl rfl ?_
            refine am_goto rfl ?_
            simp only [nI_succ v] at k
            exact k _ trivial
        · refine am_iload rfl rfl ?_
          refine am_aload_n rfl rfl rfl ?_
          refine am_get rfl rfl rfl ?_
          refine am_icmp_ge rfl (fun _ => ?_) (fun h => absurd (nm_ge (((N.up (k := 49) (by decide)).up (k := 50) (by decide))).1 hn) h)
          refine am_iinc rfl rfl ?_
          refine am_goto rfl ?_
          simp only [nI_succ k0] at k1
          exact k1 (_, _, _) trivial
    · refine am_iload_n rfl rfl ?_
      refine am_iload_n rfl rfl ?_
      refine am_icmp_ge rfl (fun _ => ?_) (fun h => absurd (nI_le (Nat.le_refl r) (by omega)) h)
      refine am_aload_n rfl rfl rfl ?_
      refine am_get rfl rfl rfl ?_
      refine am_iload_n rfl rfl ?_
      refine am_iald rfl rfl rfl (by omega) (by decide) ?_
      refine am_ireturn rfl (fun h => absurd h (by decide)) ⟨?_, am_up (am_up S 49 (ck pr n r (pw n (S 42) (S 49)))) 50 s.2.2, (Scr.rf.up (Or.inr (Or.inl rfl))).up (Or.inr (Or.inr rfl)), rfl⟩
      exact congrArg (fun z => some (Value.int z)) (ck_congr (fun v u hv h => (R.2 v u hv h).1) (fun u hu => pw_lt hu) r x hx)
/-- heldSide(v, slot, r) -/
def hsd (A : Nat → Nat → Option Nat) (f : Nat → Int32) (n rt x s : Nat) (r : Int32) : Int32 := match s with
  | 0 => bif decide (r < f (12 * rt + x)) then -1 else f (12 * rt + x) - f (12 * rt + x) / 2 * 2
  | 2 => bif decide (r < f (12 * rt + x)) then 0 else f (12 * rt + x)
  | _ => bif anyb (fun u => (A u x).isSome && decide (f (12 * rt + u) = f (12 * rt + x))) n && !decide (r ≤ f (12 * rt + x)) then 1 else 0
theorem m_heldSide (N : MN S n q fa fb) (hrt : rt < n) (hr : S 38 9 = nI rt) (x s : Nat) (r : Int32) (hx : x < n) (hs : s < 3) : AW g (d + 2) 0 0 145 0 (am_L0 145 [.ref 38, .int (nI x), .int (nI s), .int r]) [] (mem ch S) (am_is (some (.int (hsd (bt fa fb q) (S 43) n rt x s r))) (mem ch S)) := by
  have hn := N.2.1
  refine am_aload_n rfl rfl rfl ?_
  refine am_aload_n rfl rfl rfl ?_
  refine am_get rfl rfl rfl ?_
  rw [hr]
  refine am_iload_n rfl rfl ?_
  refine am_Vx [.int (nI rt), .int (nI x)] rfl rfl rfl rfl rfl rfl (m_far (d := _) rt x (by omega) (by omega)) ?_
  refine am_istore rfl ?_
  match s, hs with
  | 0, _ =>
    refine am_iload_n rfl rfl ?_
    refine am_if_ne rfl (fun h => absurd rfl h) (fun _ => ?_)
    refine am_iload rfl rfl ?_
    refine am_iload_n rfl rfl ?_
    refine am_icmp_gt rfl (fun h10 => ?_) (fun h10 => ?_)
    · refine am_iconst rfl ?_
      refine am_ireturn rfl (fun h => absurd h (by decide)) ⟨?_, rfl⟩
      simp only [hsd, decide_eq_true h10, cond_true, cond_false]
    · refine am_iload rfl rfl ?_
      refine am_iconst rfl ?_
      refine am_irem rfl (by decide) ?_
      refine am_goto rfl ?_
      refine am_ireturn rfl (fun h => absurd h (by decide)) ⟨?_, rfl⟩
      simp only [hsd, decide_eq_false h10, cond_true, cond_false]
  | 2, _ =>
    refine am_iload_n rfl rfl ?_
    refine am_if_ne rfl (fun _ => ?_) (fun h => absurd h (by decide))
    refine am_iload_n rfl rfl ?_
    refine am_iconst rfl ?_
    refine am_icmp_ne rfl (fun h => absurd rfl h) (fun _ => ?_)
    refine am_iload rfl rfl ?_
    refine am_iload_n rfl rfl ?_
    refine am_icmp_gt rfl (fun h22 => ?_) (fun h22 => ?_)
    · refine am_iconst rfl ?_
      refine am_ireturn rfl (fun h => absurd h (by decide)) ⟨?_, rfl⟩
      simp only [hsd, decide_eq_true h22, cond_true, cond_false]
    · refine am_iload rfl rfl ?_
      refine am_goto rfl ?_
      refine am_ireturn rfl (fun h => absurd h (by decide)) ⟨?_, rfl⟩
      simp only [hsd, decide_eq_false h22, cond_true, cond_false]
  | 1, _ =>
    refine am_iload_n rfl rfl ?_
    refine am_if_ne rfl (fun _ => ?_) (fun h => absurd h (by decide))
    refine am_iload_n rfl rfl ?_
    refine am_iconst rfl ?_
    refine am_icmp_ne rfl (fun _ => ?_) (fun h => absurd h (by decide))
    refine am_iconst rfl ?_
    refine am_istore rfl ?_
    refine am_iconst rfl ?_
    refine am_istore rfl ?_
    show AW g _ 0 0 145 31 [some (.ref 38), some (.int (nI x)), some (.int (nI 1)), some (.int r), some (.int (S 43 (12 * rt + x))), some (.int (bi (anyb (fun u => (bt fa fb q u x).isSome && decide (S 43 (12 * rt + u) = S 43 (12 * rt + x))) 0))), some (.int (nI 0))] [] _ _
    refine am_for (n) (fun v => [some (.ref 38), some (.int (nI x)), some (.int (nI 1)), some (.int (r)), some (.int (S 43 (12 * rt + x))), some (.int (bi (anyb (fun u => (bt fa fb q u x).isSome && decide (S 43 (12 * rt + u) = S 43 (12 * rt + x))) v))), some (.int (nI v))]) (fun v => mem ch S) (fun v hv k => ?_) ?_ (n) 0 (by omega)
    · refine am_iload rfl rfl ?_
      refine am_aload_n rfl rfl rfl ?_
      refine am_get rfl rfl rfl ?_
      refine am_icmp_ge rfl (fun h => absurd h (nm_lt N.1 hn hv)) (fun _ => ?_)
      refine am_iload rfl rfl ?_
      refine am_if_ne rfl (fun h36 => ?_) (fun h36 => ?_)
      · refine am_iconst rfl ?_
        refine am_goto rfl ?_
        refine am_istore rfl ?_
        refine am_iinc rfl rfl ?_
        refine am_goto rfl ?_
        simp only [anyb, bi_1 h36, Bool.true_or, Bool.false_or, Bool.true_and, Bool.false_and, nI_succ] at k
        exact k
      · refine am_aload_n rfl rfl rfl ?_
        refine am_iload rfl rfl ?_
        refine am_iload_n rfl rfl ?_
        refine am_Vx [.int (nI v), .int (nI x)] rfl rfl rfl rfl rfl rfl (m_areN (d := _) N (v) (x) (by omega) (by omega)) ?_
        refine am_if_eq rfl (fun h41 => ?_) (fun h41 => ?_)
        · refine am_iconst rfl ?_
          refine am_istore rfl ?_
          refine am_iinc rfl rfl ?_
          refine am_goto rfl ?_
          simp only [anyb, bi_0 h36, bi_0 h41, Bool.true_or, Bool.false_or, Bool.true_and, Bool.false_and, nI_succ] at k
          exact k
        · refine am_aload_n rfl rfl rfl ?_
          refine am_aload_n rfl rfl rfl ?_
          refine am_get rfl rfl rfl ?_
          rw [hr]
          refine am_iload rfl rfl ?_
          refine am_Vx [.int (nI rt), .int (nI v)] rfl rfl rfl rfl rfl rfl (m_far (d := _) rt v (by omega) (by omega)) ?_
          refine am_iload rfl rfl ?_
          refine am_icmp_ne rfl (fun h48 => ?_) (fun h48 => ?_)
          · refine am_iconst rfl ?_
            refine am_istore rfl ?_
            refine am_iinc rfl rfl ?_
            refine am_goto rfl ?_
            simp only [anyb, bi_0 h36, bi_1 h41, decide_eq_false h48, Bool.true_or, Bool.false_or, Bool.true_and, Bool.false_and, nI_succ] at k
            exact k
          · refine am_iconst rfl ?_
            refine am_goto rfl ?_
            refine am_istore rfl ?_
            refine am_iinc rfl rfl ?_
            refine am_goto rfl ?_
            simp only [anyb, bi_0 h36, bi_1 h41, decide_eq_true h48, Bool.true_or, Bool.false_or, Bool.true_and, Bool.false_and, nI_succ] at k
            exact k
    · refine am_iload rfl rfl ?_
      refine am_aload_n rfl rfl rfl ?_
      refine am_get rfl rfl rfl ?_
      refine am_icmp_ge rfl (fun _ => ?_) (fun h => absurd (nm_ge N.1 hn) h)
      refine am_iload rfl rfl ?_
      refine am_if_eq rfl (fun h56 => ?_) (fun h56 => ?_)
      · refine am_iconst rfl ?_
        refine am_ireturn rfl (fun h => absurd h (by decide)) ⟨?_, rfl⟩
        simp only [hsd, bi_0 h56, Bool.true_and, Bool.false_and, Bool.not_true, Bool.not_false, cond_true, cond_false]
      · refine am_iload_n rfl rfl ?_
        refine am_iload rfl rfl ?_
        refine am_icmp_le rfl (fun h59 => ?_) (fun h59 => ?_)
        · refine am_iconst rfl ?_
          refine am_ireturn rfl (fun h => absurd h (by decide)) ⟨?_, rfl⟩
          simp only [hsd, bi_1 h56, decide_eq_true h59, Bool.true_and, Bool.false_and, Bool.not_true, Bool.not_false, cond_true, cond_false]
        · refine am_iconst rfl ?_
          refine am_goto rfl ?_
          refine am_ireturn rfl (fun h => absurd h (by decide)) ⟨?_, rfl⟩
          simp only [hsd, bi_1 h56, decide_eq_false h59, Bool.true_and, Bool.false_and, Bool.not_true, Bool.not_false, cond_true, cond_false]
  | s + 3, hs => exact absurd hs (by omega)
end MM9
end
section
/-! the model: what is held, letters, the end of a run -/
/-- the model's run: algorithm k, root rt, r rounds done -/
def MR (S : am_S0) (n q : Nat) (fa fb : Nat → Nat) (k rt r : Nat) (pr : Nat → Option Nat) (rk : Nat → Nat) : Prop := S 38 8 = nI k ∧ k < 8 ∧ S 38 10 = nI r ∧ r < 1000000 ∧ (k = 1 ∨ k = 2 ∨ k = 3 ∨ k = 7 → rt < n ∧ S 38 9 = nI rt) ∧ (k = 2 ∨ k = 3 → Rk pr n rk ∧ ∀ v, v < n → S 44 v = em (pr v)) ∧ (k = 3 → (∀ v, v < n → (pr v = none ↔ v = rt)) ∧ ∀ j, j < r → Dif pr n (ck pr n j (S 42))) ∧ (k = 1 → r ≤ 12) ∧ ∀ e, e < q → fa e < n ∧ fb e < n
theorem MR.scr {S S1 : am_S0} {n q : Nat} {fa fb : Nat → Nat} {k rt r : Nat} {pr : Nat → Option Nat} {rk : Nat → Nat} (h : MR S n q fa fb k rt r pr rk) (A : Scr S S1) : MR S1 n q fa fb k rt r pr rk := by
  unfold MR
  rw [A 38 (by decide) (by decide) (by decide), A 44 (by decide) (by decide) (by decide), A 42 (by decide) (by decide) (by decide)]
  exact h
def hAf (S : am_S0) (n q : Nat) (fa fb : Nat → Nat) (rt : Nat) (pr : Nat → Option Nat) (k x s r : Nat) : Int32 := match k with
  | 0 => (match s with | 0 => S 42 (lst (S 42) (S 43) n x (nI r)) | 1 => S 43 (12 * x + lst (S 42) (S 43) n x (nI r)) | _ => em (mnr fa fb q n (S 43) x (lst (S 42) (S 43) n x (nI r))))
  | 1 => hwy (bt fa fb q) (wv fa fb (S 41) rt q) (S 41) n x s r
  | 2 => hsm pr (S 42) (S 45) n x s (nI r)
  | 3 => (match s with | 0 => ck pr n r (S 42) x | _ => -1)
  | 4 => (match s with | 2 => -1 | 0 => bif mov (S 47) x (nI r) then S 46 x else 0 | _ => bif mov (S 47) x (nI r) then S 47 x else 0)
  | 5 => (match s with | 2 => -1 | 0 => bif mov (S 47) x (nI r) then S 46 x else -1 | _ => bif mov (S 47) x (nI r) then S 47 x else 0)
  | 6 => (match s with | 0 => bif mov (S 47) x (nI r) then 0 else 1 | 1 => bif mov (S 47) x (nI r) then S 47 x else 0 | _ => nI (ins (bt fa fb q) (S 47) n x (bif mov (S 47) x (nI r) then S 47 x else nI r)))
  | _ => hsd (bt fa fb q) (S 43) n rt x s (nI r)
section MM10
variable {g : am_G} {d : Nat} {ch : Option Nat} {S : am_S0} {n q : Nat} {fa fb : Nat → Nat}
variable {pr : Nat → Option Nat} {rk : Nat → Nat} {rt k r : Nat}
/-- heldAfter(v, slot, r) -/
theorem m_heldAfter (N : MN S n q fa fb) (M : MR S n q fa fb k rt r pr rk) (x s : Nat) (hx : x < n) (hs : s < 3) : AW g (d + 3) 0 0 140 0 (am_L0 140 [.ref 38, .int (nI x), .int (nI s), .int (nI r)]) [] (mem ch S) (am_sc (hAf S n q fa fb rt pr k x s r) ch S) := by
  have hn := N.2.1
  match k, M with
  | 0, M =>
    obtain ⟨h8, _, h10, hr6, hR, hT, hC, hW, hab⟩ := M
    refine am_aload_n rfl rfl rfl ?_
    refine am_get rfl rfl rfl ?_
    rw [h8]
    refine am_swIn (j := 0) rfl (by decide) (by decide) rfl ?_
    refine am_aload_n rfl rfl rfl ?_
    refine am_iload_n rfl rfl ?_
    refine am_iload_n rfl rfl ?_
    refine am_Vx [.int (nI x), .int (nI r)] rfl rfl rfl rfl rfl rfl (m_least (d := _) N x (nI r) (by omega)) ?_
    have hl : lst (S 42) (S 43) n x (nI r) < 12 := lst_lt (by omega) hn
    refine am_istore rfl ?_
    match s, hs with
    | 0, _ =>
      refine am_iload_n rfl rfl ?_
      refine am_if_ne rfl (fun h => absurd (by decide) h) (fun _ => ?_)
      refine am_aload_n rfl rfl rfl ?_
      refine am_get rfl rfl rfl ?_
      refine am_iload rfl rfl ?_
      refine am_iald rfl rfl rfl (by omega) (by decide) ?_
      refine am_goto rfl ?_
      refine am_ireturn rfl (fun h => absurd h (by decide)) ⟨?_, S, Scr.rf, rfl⟩
      rfl
    | 1, _ =>
      refine am_iload_n rfl rfl ?_
      refine am_if_ne rfl (fun _ => ?_) (fun h => absurd h (by decide))
      refine am_iload_n rfl rfl ?_
      refine am_iconst rfl ?_
      refine am_icmp_ne rfl (fun h => absurd (by decide) h) (fun _ => ?_)
      refine am_aload_n rfl rfl rfl ?_
      refine am_iload_n rfl rfl ?_
      refine am_iload rfl rfl ?_
      refine am_Vx [.int (nI x), .int (nI (lst (S 42) (S 43) n x (nI r)))] rfl rfl rfl rfl rfl rfl (m_far (d := _) (x) ((lst (S 42) (S 43) n x (nI r))) (by omega) (by omega)) ?_
      refine am_goto rfl ?_
      refine am_ireturn rfl (fun h => absurd h (by decide)) ⟨?_, S, Scr.rf, rfl⟩
      rfl
    | 2, _ =>
      refine am_iload_n rfl rfl ?_
      refine am_if_ne rfl (fun _ => ?_) (fun h => absurd h (by decide))
      refine am_iload_n rfl rfl ?_
      refine am_iconst rfl ?_
      refine am_icmp_ne rfl (fun _ => ?_) (fun h => absurd h (by decide))
      refine am_aload_n rfl rfl rfl ?_
      refine am_iload_n rfl rfl ?_
      refine am_iload rfl rfl ?_
      refine am_Vx [.int (nI x), .int (nI (lst (S 42) (S 43) n x (nI r)))] rfl rfl rfl rfl rfl rfl (m_nearer (d := _) N (x) ((lst (S 42) (S 43) n x (nI r))) (by omega) (by omega)) ?_
      refine am_ireturn rfl (fun h => absurd h (by decide)) ⟨?_, S, Scr.rf, rfl⟩
      rfl
    | s + 3, hs => exact absurd hs (by omega)
  | 1, M =>
    obtain ⟨h8, _, h10, hr6, hR, hT, hC, hW, hab⟩ := M
    refine am_aload_n rfl rfl rfl ?_
    refine am_get rfl rfl rfl ?_
    rw [h8]
    refine am_swIn (j := 1) rfl (by decide) (by decide) rfl ?_
    refine am_aload_n rfl rfl rfl ?_
    refine am_iload_n rfl rfl ?_
    refine am_iload_n rfl rfl ?_
    refine am_iload_n rfl rfl ?_
    have hrt := hR (by decide)
    refine am_V [.int (nI x), .int (nI s), .int (nI r)] rfl rfl rfl rfl rfl rfl (m_heldWays (d := _) N rt hrt.1 hrt.2 hab x s r hx hs (hW rfl)) ?_
    rintro _ _ ⟨rfl, S1, hS1, rfl⟩ _
    exact am_ireturn rfl (fun h => absurd h (by decide)) ⟨rfl, S1, hS1, rfl⟩
  | 2, M =>
    obtain ⟨h8, _, h10, hr6, hR, hT, hC, hW, hab⟩ := M
    refine am_aload_n rfl rfl rfl ?_
    refine am_get rfl rfl rfl ?_
    rw [h8]
    refine am_swIn (j := 2) rfl (by decide) (by decide) rfl ?_
    refine am_aload_n rfl rfl rfl ?_
    refine am_iload_n rfl rfl ?_
    refine am_iload_n rfl rfl ?_
    refine am_iload_n rfl rfl ?_
    have hT2 := hT (by decide)
    refine am_Vx [.int (nI x), .int (nI s), .int (nI r)] rfl rfl rfl rfl rfl rfl (m_heldSums (d := _) N hT2.1 hT2.2 x s (nI r) (by omega) hs) ?_
    exact am_ireturn rfl (fun h => absurd h (by decide)) ⟨rfl, S, Scr.rf, rfl⟩
  | 3, M =>
    obtain ⟨h8, _, h10, hr6, hR, hT, hC, hW, hab⟩ := M
    refine am_aload_n rfl rfl rfl ?_
    refine am_get rfl rfl rfl ?_
    rw [h8]
    refine am_swIn (j := 3) rfl (by decide) (by decide) rfl ?_
    have hrt := hR (by decide)
    have hT2 := hT (by decide)
    have hC3 := hC rfl
    match s, hs with
    | 0, _ =>
      refine am_iload_n rfl rfl ?_
      refine am_if_ne rfl (fun h => absurd (by decide) h) (fun _ => ?_)
      refine am_aload_n rfl rfl rfl ?_
      refine am_iload_n rfl rfl ?_
      refine am_iload_n rfl rfl ?_
      refine am_V [.int (nI x), .int (nI r)] rfl rfl rfl rfl rfl rfl (m_heldColour (d := _) N hrt.2 hrt.1 hT2.1 hT2.2 hC3.1 r hr6 hC3.2 x hx) ?_
      rintro _ _ ⟨rfl, S1, hS1, rfl⟩ _
      refine am_goto rfl ?_
      exact am_ireturn rfl (fun h => absurd h (by decide)) ⟨rfl, S1, hS1, rfl⟩
    | 1, _ =>
      refine am_iload_n rfl rfl ?_
      refine am_if_ne rfl (fun _ => ?_) (fun h => absurd h (by decide))
      refine am_iconst rfl ?_
      refine am_ireturn rfl (fun h => absurd h (by decide)) ⟨?_, S, Scr.rf, rfl⟩
      rfl
    | 2, _ =>
      refine am_iload_n rfl rfl ?_
      refine am_if_ne rfl (fun _ => ?_) (fun h => absurd h (by decide))
      refine am_iconst rfl ?_
      refine am_ireturn rfl (fun h => absurd h (by decide)) ⟨?_, S, Scr.rf, rfl⟩
      rfl
    | s + 3, hs => exact absurd hs (by omega)
  | 4, M =>
    obtain ⟨h8, _, h10, hr6, hR, hT, hC, hW, hab⟩ := M
    refine am_aload_n rfl rfl rfl ?_
    refine am_get rfl rfl rfl ?_
    rw [h8]
    refine am_swIn (j := 4) rfl (by decide) (by decide) rfl ?_
    match s, hs with
    | 0, _ =>
      refine am_iload_n rfl rfl ?_
      refine am_iconst rfl ?_
      refine am_icmp_ne rfl (fun _ => ?_) (fun h => absurd h (by decide))
      refine am_aload_n rfl rfl rfl ?_
      refine am_iload_n rfl rfl ?_
      refine am_iload_n rfl rfl ?_
      refine am_Vx [.int (nI x), .int (nI r)] rfl rfl rfl rfl rfl rfl (m_isOver (d := _) (x) (by omega) (nI r)) ?_
      refine am_if_ne rfl (fun h58 => ?_) (fun h58 => ?_)
      · refine am_iload_n rfl rfl ?_
        refine am_if_ne rfl (fun h => absurd (by decide) h) (fun _ => ?_)
        refine am_aload_n rfl rfl rfl ?_
        refine am_get rfl rfl rfl ?_
        refine am_iload_n rfl rfl ?_
        refine am_iald rfl rfl rfl (by omega) (by decide) ?_
        refine am_goto rfl ?_
        refine am_ireturn rfl (fun h => absurd h (by decide)) ⟨?_, S, Scr.rf, rfl⟩
        first | rfl | simp only [hAf, bi_1 h58, cond_true, cond_false]
      · refine am_iconst rfl ?_
        refine am_goto rfl ?_
        refine am_ireturn rfl (fun h => absurd h (by decide)) ⟨?_, S, Scr.rf, rfl⟩
        first | rfl | simp only [hAf, bi_0 h58, cond_true, cond_false]
    | 1, _ =>
      refine am_iload_n rfl rfl ?_
      refine am_iconst rfl ?_
      refine am_icmp_ne rfl (fun _ => ?_) (fun h => absurd h (by decide))
      refine am_aload_n rfl rfl rfl ?_
      refine am_iload_n rfl rfl ?_
      refine am_iload_n rfl rfl ?_
      refine am_Vx [.int (nI x), .int (nI r)] rfl rfl rfl rfl rfl rfl (m_isOver (d := _) (x) (by omega) (nI r)) ?_
      refine am_if_ne rfl (fun h58 => ?_) (fun h58 => ?_)
      · refine am_iload_n rfl rfl ?_
        refine am_if_ne rfl (fun _ => ?_) (fun h => absurd h (by decide))
        refine am_aload_n rfl rfl rfl ?_
        refine am_get rfl rfl rfl ?_
        refine am_iload_n rfl rfl ?_
        refine am_iald rfl rfl rfl (by omega) (by decide) ?_
        refine am_ireturn rfl (fun h => absurd h (by decide)) ⟨?_, S, Scr.rf, rfl⟩
        first | rfl | simp only [hAf, bi_1 h58, cond_true, cond_false]
      · refine am_iconst rfl ?_
        refine am_goto rfl ?_
        refine am_ireturn rfl (fun h => absurd h (by decide)) ⟨?_, S, Scr.rf, rfl⟩
        first | rfl | simp only [hAf, bi_0 h58, cond_true, cond_false]
    | 2, _ =>
      refine am_iload_n rfl rfl ?_
      refine am_iconst rfl ?_
      refine am_icmp_ne rfl (fun h => absurd (by decide) h) (fun _ => ?_)
      refine am_iconst rfl ?_
      refine am_goto rfl ?_
      refine am_ireturn rfl (fun h => absurd h (by decide)) ⟨?_, S, Scr.rf, rfl⟩
      first | rfl | simp only [hAf, cond_true, cond_false]
    | s + 3, hs => exact absurd hs (by omega)
  | 5, M =>
    obtain ⟨h8, _, h10, hr6, hR, hT, hC, hW, hab⟩ := M
    refine am_aload_n rfl rfl rfl ?_
    refine am_get rfl rfl rfl ?_
    rw [h8]
    refine am_swIn (j := 5) rfl (by decide) (by decide) rfl ?_
    match s, hs with
    | 0, _ =>
      refine am_iload_n rfl rfl ?_
      refine am_iconst rfl ?_
      refine am_icmp_ne rfl (fun _ => ?_) (fun h => absurd h (by decide))
      refine am_iload_n rfl rfl ?_
      refine am_iconst rfl ?_
      refine am_icmp_ne rfl (fun _ => ?_) (fun h => absurd h (by decide))
      refine am_aload_n rfl rfl rfl ?_
      refine am_iload_n rfl rfl ?_
      refine am_iload_n rfl rfl ?_
      refine am_Vx [.int (nI x), .int (nI r)] rfl rfl rfl rfl rfl rfl (m_isOver (d := _) (x) (by omega) (nI r)) ?_
      refine am_if_eq rfl (fun h97 => ?_) (fun h97 => ?_)
      · refine am_iconst rfl ?_
        refine am_ireturn rfl (fun h => absurd h (by decide)) ⟨?_, S, Scr.rf, rfl⟩
        first | rfl | simp only [hAf, bi_0 h97, cond_true, cond_false]
      · refine am_aload_n rfl rfl rfl ?_
        refine am_get rfl rfl rfl ?_
        refine am_iload_n rfl rfl ?_
        refine am_iald rfl rfl rfl (by omega) (by decide) ?_
        refine am_goto rfl ?_
        refine am_ireturn rfl (fun h => absurd h (by decide)) ⟨?_, S, Scr.rf, rfl⟩
        first | rfl | simp only [hAf, bi_1 h97, cond_true, cond_false]
    | 1, _ =>
      refine am_iload_n rfl rfl ?_
      refine am_iconst rfl ?_
      refine am_icmp_ne rfl (fun _ => ?_) (fun h => absurd h (by decide))
      refine am_iload_n rfl rfl ?_
      refine am_iconst rfl ?_
      refine am_icmp_ne rfl (fun h => absurd (by decide) h) (fun _ => ?_)
      refine am_aload_n rfl rfl rfl ?_
      refine am_iload_n rfl rfl ?_
      refine am_iload_n rfl rfl ?_
      refine am_Vx [.int (nI x), .int (nI r)] rfl rfl rfl rfl rfl rfl (m_isOver (d := _) (x) (by omega) (nI r)) ?_
      refine am_if_eq rfl (fun h85 => ?_) (fun h85 => ?_)
      · refine am_iconst rfl ?_
        refine am_goto rfl ?_
        refine am_ireturn rfl (fun h => absurd h (by decide)) ⟨?_, S, Scr.rf, rfl⟩
        first | rfl | simp only [hAf, bi_0 h85, cond_true, cond_false]
      · refine am_aload_n rfl rfl rfl ?_
        refine am_get rfl rfl rfl ?_
        refine am_iload_n rfl rfl ?_
        refine am_iald rfl rfl rfl (by omega) (by decide) ?_
        refine am_goto rfl ?_
        refine am_ireturn rfl (fun h => absurd h (by decide)) ⟨?_, S, Scr.rf, rfl⟩
        first | rfl | simp only [hAf, bi_1 h85, cond_true, cond_false]
    | 2, _ =>
      refine am_iload_n rfl rfl ?_
      refine am_iconst rfl ?_
      refine am_icmp_ne rfl (fun h => absurd (by decide) h) (fun _ => ?_)
      refine am_iconst rfl ?_
      refine am_goto rfl ?_
      refine am_ireturn rfl (fun h => absurd h (by decide)) ⟨?_, S, Scr.rf, rfl⟩
      first | rfl | simp only [hAf, cond_true, cond_false]
    | s + 3, hs => exact absurd hs (by omega)
  | 6, M =>
    obtain ⟨h8, _, h10, hr6, hR, hT, hC, hW, hab⟩ := M
    refine am_aload_n rfl rfl rfl ?_
    refine am_get rfl rfl rfl ?_
    rw [h8]
    refine am_swIn (j := 6) rfl (by decide) (by decide) rfl ?_
    match s, hs with
    | 0, _ =>
      refine am_iload_n rfl rfl ?_
      refine am_if_ne rfl (fun h => absurd (by decide) h) (fun _ => ?_)
      refine am_aload_n rfl rfl rfl ?_
      refine am_iload_n rfl rfl ?_
      refine am_iload_n rfl rfl ?_
      refine am_Vx [.int (nI x), .int (nI r)] rfl rfl rfl rfl rfl rfl (m_isOver (d := _) (x) (by omega) (nI r)) ?_
      refine am_if_eq rfl (fun h111 => ?_) (fun h111 => ?_)
      · refine am_iconst rfl ?_
        refine am_goto rfl ?_
        refine am_ireturn rfl (fun h => absurd h (by decide)) ⟨?_, S, Scr.rf, rfl⟩
        first | rfl | simp only [hAf, bi_0 h111, cond_true, cond_false]
      · refine am_iconst rfl ?_
        refine am_goto rfl ?_
        refine am_ireturn rfl (fun h => absurd h (by decide)) ⟨?_, S, Scr.rf, rfl⟩
        first | rfl | simp only [hAf, bi_1 h111, cond_true, cond_false]
    | 1, _ =>
      refine am_iload_n rfl rfl ?_
      refine am_if_ne rfl (fun _ => ?_) (fun h => absurd h (by decide))
      refine am_iload_n rfl rfl ?_
      refine am_iconst rfl ?_
      refine am_icmp_ne rfl (fun h => absurd (by decide) h) (fun _ => ?_)
      refine am_aload_n rfl rfl rfl ?_
      refine am_iload_n rfl rfl ?_
      refine am_iload_n rfl rfl ?_
      refine am_Vx [.int (nI x), .int (nI r)] rfl rfl rfl rfl rfl rfl (m_isOver (d := _) (x) (by omega) (nI r)) ?_
      refine am_if_eq rfl (fun h123 => ?_) (fun h123 => ?_)
      · refine am_iconst rfl ?_
        refine am_goto rfl ?_
        refine am_ireturn rfl (fun h => absurd h (by decide)) ⟨?_, S, Scr.rf, rfl⟩
        first | rfl | simp only [hAf, bi_0 h123, cond_true, cond_false]
      · refine am_aload_n rfl rfl rfl ?_
        refine am_get rfl rfl rfl ?_
        refine am_iload_n rfl rfl ?_
        refine am_iald rfl rfl rfl (by omega) (by decide) ?_
        refine am_goto rfl ?_
        refine am_ireturn rfl (fun h => absurd h (by decide)) ⟨?_, S, Scr.rf, rfl⟩
        first | rfl | simp only [hAf, bi_1 h123, cond_true, cond_false]
    | 2, _ =>
      refine am_iload_n rfl rfl ?_
      refine am_if_ne rfl (fun _ => ?_) (fun h => absurd h (by decide))
      refine am_iload_n rfl rfl ?_
      refine am_iconst rfl ?_
      refine am_icmp_ne rfl (fun _ => ?_) (fun h => absurd h (by decide))
      refine am_aload_n rfl rfl rfl ?_
      refine am_iload_n rfl rfl ?_
      refine am_aload_n rfl rfl rfl ?_
      refine am_iload_n rfl rfl ?_
      refine am_iload_n rfl rfl ?_
      refine am_Vx [.int (nI x), .int (nI r)] rfl rfl rfl rfl rfl rfl (m_isOver (d := _) (x) (by omega) (nI r)) ?_
      refine am_if_eq rfl (fun h137 => ?_) (fun h137 => ?_)
      · refine am_iload_n rfl rfl ?_
        refine am_Vx [.int (nI x), .int (nI r)] rfl rfl rfl rfl rfl rfl (m_inside (d := _) N x (nI r) (by omega)) ?_
        refine am_ireturn rfl (fun h => absurd h (by decide)) ⟨?_, S, Scr.rf, rfl⟩
        simp only [hAf, bi_0 h137, cond_false]
      · refine am_aload_n rfl rfl rfl ?_
        refine am_get rfl rfl rfl ?_
        refine am_iload_n rfl rfl ?_
        refine am_iald rfl rfl rfl (by omega) (by decide) ?_
        refine am_goto rfl ?_
        refine am_Vx [.int (nI x), .int (S 47 x)] rfl rfl rfl rfl rfl rfl (m_inside (d := _) N x (S 47 x) (by omega)) ?_
        refine am_ireturn rfl (fun h => absurd h (by decide)) ⟨?_, S, Scr.rf, rfl⟩
        simp only [hAf, bi_1 h137, cond_true]
    | s + 3, hs => exact absurd hs (by omega)
  | 7, M =>
    obtain ⟨h8, _, h10, hr6, hR, hT, hC, hW, hab⟩ := M
    refine am_aload_n rfl rfl rfl ?_
    refine am_get rfl rfl rfl ?_
    rw [h8]
    refine am_swOut rfl (Or.inr (by decide)) ?_
    refine am_aload_n rfl rfl rfl ?_
    refine am_iload_n rfl rfl ?_
    refine am_iload_n rfl rfl ?_
    refine am_iload_n rfl rfl ?_
    have hrt := hR (by decide)
    refine am_Vx [.int (nI x), .int (nI s), .int (nI r)] rfl rfl rfl rfl rfl rfl (m_heldSide (d := _) N hrt.1 hrt.2 x s (nI r) hx hs) ?_
    exact am_ireturn rfl (fun h => absurd h (by decide)) ⟨rfl, S, Scr.rf, rfl⟩
  | k + 8, M => exact absurd M.2.1 (by omega)
theorem m_held0 (h : S 38 8 = -1) (x y : Int32) : AW g d 0 0 139 0 (am_L0 139 [.ref 38, .int x, .int y]) [] (mem ch S) (am_is (some (.int (-2))) (mem ch S)) := by
  refine am_aload_n rfl rfl rfl ?_
  refine am_get rfl rfl rfl ?_
  rw [h]
  refine am_if_lt rfl (fun _ => ?_) (fun h => absurd (by decide) h)
  refine am_bipush rfl ?_
  refine am_goto rfl ?_
  exact am_ireturn rfl (fun h => absurd h (by decide)) ⟨rfl, rfl⟩
theorem m_heldNo (x y : Int32) (h : (decide (0 ≤ x) && decide (x < S 38 0)) = false ∨ y < 0 ∨ ¬ y < 3) : AW g (d + 1) 0 0 139 0 (am_L0 139 [.ref 38, .int x, .int y]) [] (mem ch S) (am_is (some (.int (-2))) (mem ch S)) := by
  refine am_aload_n rfl rfl rfl ?_
  refine am_get rfl rfl rfl ?_
  refine am_if_lt rfl (fun h2 => ?_) (fun h2 => ?_)
  · refine am_bipush rfl ?_
    refine am_goto rfl ?_
    refine am_ireturn rfl (fun h => absurd h (by decide)) ⟨?_, rfl⟩
    rfl
  · refine am_aload_n rfl rfl rfl ?_
    refine am_iload_n rfl rfl ?_
    refine am_Vx [.int (x)] rfl rfl rfl rfl rfl rfl (m_isNode (d := _) (x)) ?_
    refine am_if_eq rfl (fun h6 => ?_) (fun h6 => ?_)
    · refine am_bipush rfl ?_
      refine am_goto rfl ?_
      refine am_ireturn rfl (fun h => absurd h (by decide)) ⟨?_, rfl⟩
      rfl
    · refine am_iload_n rfl rfl ?_
      refine am_if_lt rfl (fun h8 => ?_) (fun h8 => ?_)
      · refine am_bipush rfl ?_
        refine am_goto rfl ?_
        refine am_ireturn rfl (fun h => absurd h (by decide)) ⟨?_, rfl⟩
        rfl
      · refine am_iload_n rfl rfl ?_
        refine am_iconst rfl ?_
        refine am_icmp_le rfl (fun h11 => ?_) (fun h11 => ?_)
        · exact h.elim (fun q => by rw [bi_1 h6] at q; cases q) (fun q => q.elim (fun q => absurd q h8) (fun q => absurd (show y < 3 from Int32.lt_iff_toInt_lt.mpr (by have := Int32.le_iff_toInt_le.mp h11; have h2 : (2 : Int32).toInt = 2 := (by decide); have h3 : (3 : Int32).toInt = 3 := (by decide); omega)) q))
        · refine am_bipush rfl ?_
          refine am_goto rfl ?_
          refine am_ireturn rfl (fun h => absurd h (by decide)) ⟨?_, rfl⟩
          rfl
theorem m_held (N : MN S n q fa fb) (M : MR S n q fa fb k rt r pr rk) (x s : Nat) (hx : x < n) (hs : s < 3) : AW g (d + 4) 0 0 139 0 (am_L0 139 [.ref 38, .int (nI x), .int (nI s)]) [] (mem ch S) (am_sc (hAf S n q fa fb rt pr k x s r) ch S) := by
  have hn := N.2.1
  refine am_aload_n rfl rfl rfl ?_
  refine am_get rfl rfl rfl ?_
  rw [M.1]
  refine am_if_lt rfl (fun h => absurd h (nI_pos (by have := M.2.1; omega))) (fun _ => ?_)
  refine am_aload_n rfl rfl rfl ?_
  refine am_iload_n rfl rfl ?_
  refine am_Vx [.int (nI x)] rfl rfl rfl rfl rfl rfl (m_isNode (d := _) (nI x)) ?_
  rw [isN_to N.1 hn hx]
  refine am_if_eq rfl (fun h => absurd h (by decide)) (fun _ => ?_)
  refine am_iload_n rfl rfl ?_
  refine am_if_lt rfl (fun h => absurd h (nI_pos (by omega))) (fun _ => ?_)
  refine am_iload_n rfl rfl ?_
  refine am_iconst rfl ?_
  refine am_icmp_le rfl (fun _ => ?_) (fun h => absurd (nI_le (b := 2) (by omega) (by decide)) h)
  refine am_aload_n rfl rfl rfl ?_
  refine am_iload_n rfl rfl ?_
  refine am_iload_n rfl rfl ?_
  refine am_aload_n rfl rfl rfl ?_
  refine am_get rfl rfl rfl ?_
  rw [M.2.2.1]
  refine am_V [.int (nI x), .int (nI s), .int (nI r)] rfl rfl rfl rfl rfl rfl (m_heldAfter (d := d) N M x s hx hs) ?_
  rintro _ _ ⟨rfl, S1, hS1, rfl⟩ _
  exact am_ireturn rfl (fun h => absurd h (by decide)) ⟨rfl, S1, hS1, rfl⟩
def dgr (A : Nat → Nat → Option Nat) (n x : Nat) : Int32 := nI (cnt (fun u => (A u x).isSome) n)
/-- lettersOf(v, r + 1) -/
def ltO (S : am_S0) (n q : Nat) (fa fb : Nat → Nat) (rt : Nat) (k r x : Nat) : Int32 := match k with
  | 0 => (match r with | 0 => dgr (bt fa fb q) n x | r + 1 => bif decide (lst (S 42) (S 43) n x (nI (r + 1)) = lst (S 42) (S 43) n x (nI r)) then 0 else dgr (bt fa fb q) n x)
  | 1 => (match r with | 0 => bif decide (x = rt) then dgr (bt fa fb q) n x else 0 | r + 1 => bif decide (hwy (bt fa fb q) (wv fa fb (S 41) rt q) (S 41) n x 0 (r + 1) = hwy (bt fa fb q) (wv fa fb (S 41) rt q) (S 41) n x 0 r) then 0 else dgr (bt fa fb q) n x)
  | 2 => bif decide (x = rt) then 0 else bif decide (S 45 x + 1 = nI (r + 1)) then 1 else 0
  | 3 => bif decide (x = rt) then 0 else 1
  | 6 => (match r with | 0 => 0 | r + 1 => bif decide (S 47 x = nI (r + 1)) then nI (ins (bt fa fb q) (S 47) n x (nI (r + 2))) else 0)
  | 7 => bif decide (S 43 (12 * rt + x) = nI r) then dgr (bt fa fb q) n x else 0
  | _ => 0
theorem nI_m2 (r : Nat) : nI (r + 2) - 2 = nI r := by
  rw [show (2 : Int32) = nI 2 from rfl, pk_sub (by omega)]
  congr 1
theorem m_lettersOf (N : MN S n q fa fb) (M : MR S n q fa fb k rt r pr rk) (x : Nat) (hx : x < n) : AW g (d + 3) 0 0 128 0 (am_L0 128 [.ref 38, .int (nI x), .int (nI (r + 1))]) [] (mem ch S) (am_sc (ltO S n q fa fb rt k r x) ch S) := by
  have hn := N.2.1
  match k, M with
  | 0, M =>
    obtain ⟨h8, _, h10, hr6, hR, hT, hC, hW, hab⟩ := M
    refine am_aload_n rfl rfl rfl ?_
    refine am_get rfl rfl rfl ?_
    rw [h8]
    refine am_swIn (j := 0) rfl (by decide) (by decide) rfl ?_
    have hS1 : Scr S S := Scr.rf
    have N1 := N
    rcases r with _ | r
    · refine am_iload_n rfl rfl ?_
      refine am_iconst rfl ?_
      refine am_icmp_eq rfl (fun _ => ?_) (fun h => absurd (by decide) h)
      refine am_aload_n rfl rfl rfl ?_
      refine am_iload_n rfl rfl ?_
      refine am_Vx [.int (nI x)] rfl rfl rfl rfl rfl rfl (m_degree (d := _) N1 x (by omega)) ?_
      refine am_goto rfl ?_
      refine am_ireturn rfl (fun h => absurd h (by decide)) ⟨?_, S, hS1, rfl⟩
      rfl
    · refine am_iload_n rfl rfl ?_
      refine am_iconst rfl ?_
      refine am_icmp_eq rfl (fun h => absurd ((nI_eq (b := 1) (by omega) (by decide)).mp h) (by omega)) (fun _ => ?_)
      refine am_aload_n rfl rfl rfl ?_
      refine am_iload_n rfl rfl ?_
      refine am_iload_n rfl rfl ?_
      refine am_iconst rfl ?_
      refine am_isub rfl ?_
      rw [nI_pred]
      refine am_Vx [.int (nI x), .int (nI (r + 1))] rfl rfl rfl rfl rfl rfl (m_least (d := _) N x (nI (r + 1)) (by omega)) ?_
      refine am_aload_n rfl rfl rfl ?_
      refine am_iload_n rfl rfl ?_
      refine am_iload_n rfl rfl ?_
      refine am_iconst rfl ?_
      refine am_isub rfl ?_
      rw [nI_m2]
      refine am_Vx [.int (nI x), .int (nI r)] rfl rfl rfl rfl rfl rfl (m_least (d := _) N x (nI r) (by omega)) ?_
      have hl1 : lst (S 42) (S 43) n x (nI r) < 12 := lst_lt (by omega) hn
      have hl2 : lst (S 42) (S 43) n x (nI (r + 1)) < 12 := lst_lt (by omega) hn
      refine am_icmp_eq rfl (fun h => ?_) (fun h => ?_)
      · rw [nI_eq (by omega) (by omega)] at h
        refine am_iconst rfl ?_
        refine am_ireturn rfl (fun h => absurd h (by decide)) ⟨?_, S, hS1, rfl⟩
        simp only [ltO, decide_eq_true h, cond_true]
      · rw [nI_eq (by omega) (by omega)] at h
        refine am_aload_n rfl rfl rfl ?_
        refine am_iload_n rfl rfl ?_
        refine am_Vx [.int (nI x)] rfl rfl rfl rfl rfl rfl (m_degree (d := _) N1 x (by omega)) ?_
        refine am_goto rfl ?_
        refine am_ireturn rfl (fun h => absurd h (by decide)) ⟨?_, S, hS1, rfl⟩
        simp only [ltO, dgr, decide_eq_false h, cond_false]
  | 1, M =>
    obtain ⟨h8, _, h10, hr6, hR, hT, hC, hW, hab⟩ := M
    refine am_aload_n rfl rfl rfl ?_
    refine am_get rfl rfl rfl ?_
    rw [h8]
    refine am_swIn (j := 1) rfl (by decide) (by decide) rfl ?_
    have hrt := hR (by decide)
    rcases r with _ | r
    · have hS1 : Scr S S := Scr.rf
      have N1 := N
      refine am_iload_n rfl rfl ?_
      refine am_iconst rfl ?_
      refine am_icmp_ne rfl (fun h => absurd (by decide) h) (fun _ => ?_)
      refine am_iload_n rfl rfl ?_
      refine am_aload_n rfl rfl rfl ?_
      refine am_get rfl rfl rfl ?_
      rw [hrt.2]
      refine am_icmp_ne rfl (fun h => ?_) (fun h => ?_)
      · rw [nI_eq (by omega) (by omega)] at h
        refine am_iconst rfl ?_
        refine am_goto rfl ?_
        refine am_istore_n rfl ?_
        refine am_iload_n rfl rfl ?_
        refine am_if_eq rfl (fun _ => ?_) (fun h => absurd (by decide) h)
        refine am_iconst rfl ?_
        refine am_ireturn rfl (fun h => absurd h (by decide)) ⟨?_, S, hS1, rfl⟩
        simp only [ltO, decide_eq_false h, cond_false]
      · rw [nI_eq (by omega) (by omega)] at h
        refine am_iconst rfl ?_
        refine am_goto rfl ?_
        refine am_istore_n rfl ?_
        refine am_iload_n rfl rfl ?_
        refine am_if_eq rfl (fun h => absurd h (by decide)) (fun _ => ?_)
        refine am_aload_n rfl rfl rfl ?_
        refine am_iload_n rfl rfl ?_
        refine am_Vx [.int (nI x)] rfl rfl rfl rfl rfl rfl (m_degree (d := _) N1 x (by omega)) ?_
        refine am_goto rfl ?_
        refine am_ireturn rfl (fun h => absurd h (by decide)) ⟨?_, S, hS1, rfl⟩
        simp only [ltO, dgr, decide_eq_true h, cond_true]
    · have hW1 := hW rfl
      refine am_iload_n rfl rfl ?_
      refine am_iconst rfl ?_
      refine am_icmp_ne rfl (fun _ => ?_) (fun h => absurd ((nI_eq (b := 1) (by omega) (by decide)).mp h) (by omega))
      refine am_aload_n rfl rfl rfl ?_
      refine am_iload_n rfl rfl ?_
      refine am_iconst rfl ?_
      refine am_iload_n rfl rfl ?_
      refine am_iconst rfl ?_
      refine am_isub rfl ?_
      rw [nI_pred]
      refine am_V [.int (nI x), .int (nI 0), .int (nI (r + 1))] rfl rfl rfl rfl rfl rfl (m_heldWays (d := _) N rt hrt.1 hrt.2 hab x 0 (r + 1) hx (by decide) hW1) ?_
      rintro _ _ ⟨rfl, S2, hS2, rfl⟩ _
      have N2 := N.scr hS2
      refine am_aload_n rfl rfl rfl ?_
      refine am_iload_n rfl rfl ?_
      refine am_iconst rfl ?_
      refine am_iload_n rfl rfl ?_
      refine am_iconst rfl ?_
      refine am_isub rfl ?_
      rw [nI_m2]
      refine am_V [.int (nI x), .int (nI 0), .int (nI r)] rfl rfl rfl rfl rfl rfl (m_heldWays (d := _) N2 rt hrt.1 (by rw [hS2 38 (by decide) (by decide) (by decide)]; exact hrt.2) hab x 0 r hx (by decide) (by omega)) ?_
      rintro _ _ ⟨rfl, S1, hS3, rfl⟩ _
      have hS1 := hS2.tr hS3
      have N1 := N.scr hS1
      rw [hS2 41 (by decide) (by decide) (by decide)]
      refine am_icmp_eq rfl (fun h => ?_) (fun h => ?_)
      · refine am_iconst rfl ?_
        refine am_istore_n rfl ?_
        refine am_iload_n rfl rfl ?_
        refine am_if_eq rfl (fun _ => ?_) (fun h => absurd (by decide) h)
        refine am_iconst rfl ?_
        refine am_ireturn rfl (fun h => absurd h (by decide)) ⟨?_, S1, hS1, rfl⟩
        simp only [ltO, decide_eq_true h, cond_true]
      · refine am_iconst rfl ?_
        refine am_goto rfl ?_
        refine am_istore_n rfl ?_
        refine am_iload_n rfl rfl ?_
        refine am_if_eq rfl (fun h => absurd h (by decide)) (fun _ => ?_)
        refine am_aload_n rfl rfl rfl ?_
        refine am_iload_n rfl rfl ?_
        refine am_Vx [.int (nI x)] rfl rfl rfl rfl rfl rfl (m_degree (d := _) N1 x (by omega)) ?_
        refine am_goto rfl ?_
        refine am_ireturn rfl (fun h => absurd h (by decide)) ⟨?_, S1, hS1, rfl⟩
        simp only [ltO, dgr, decide_eq_false h, cond_false]
  | 2, M =>
    obtain ⟨h8, _, h10, hr6, hR, hT, hC, hW, hab⟩ := M
    refine am_aload_n rfl rfl rfl ?_
    refine am_get rfl rfl rfl ?_
    rw [h8]
    refine am_swIn (j := 2) rfl (by decide) (by decide) rfl ?_
    have hrt := hR (by decide)
    refine am_iload_n rfl rfl ?_
    refine am_aload_n rfl rfl rfl ?_
    refine am_get rfl rfl rfl ?_
    rw [hrt.2]
    refine am_icmp_eq rfl (fun h66 => ?_) (fun h66 => ?_)
    · refine am_iconst rfl ?_
      refine am_ireturn rfl (fun h => absurd h (by decide)) ⟨?_, S, Scr.rf, rfl⟩
      simp only [ltO, decide_eq_true ((nI_eq (by omega) (by omega)).mp h66), cond_true, cond_false]
    · refine am_aload_n rfl rfl rfl ?_
      refine am_get rfl rfl rfl ?_
      refine am_iload_n rfl rfl ?_
      refine am_iald rfl rfl rfl (by omega) (by decide) ?_
      refine am_iconst rfl ?_
      refine am_iadd rfl ?_
      refine am_iload_n rfl rfl ?_
      refine am_icmp_ne rfl (fun h74 => ?_) (fun h74 => ?_)
      · refine am_iconst rfl ?_
        refine am_ireturn rfl (fun h => absurd h (by decide)) ⟨?_, S, Scr.rf, rfl⟩
        simp only [ltO, decide_eq_false (fun q => h66 ((nI_eq (by omega) (by omega)).mpr q)), decide_eq_false h74, cond_true, cond_false]
      · refine am_iconst rfl ?_
        refine am_goto rfl ?_
        refine am_ireturn rfl (fun h => absurd h (by decide)) ⟨?_, S, Scr.rf, rfl⟩
        simp only [ltO, decide_eq_false (fun q => h66 ((nI_eq (by omega) (by omega)).mpr q)), decide_eq_true h74, cond_true, cond_false]
  | 3, M =>
    obtain ⟨h8, _, h10, hr6, hR, hT, hC, hW, hab⟩ := M
    refine am_aload_n rfl rfl rfl ?_
    refine am_get rfl rfl rfl ?_
    rw [h8]
    refine am_swIn (j := 3) rfl (by decide) (by decide) rfl ?_
    have hrt := hR (by decide)
    refine am_iload_n rfl rfl ?_
    refine am_aload_n rfl rfl rfl ?_
    refine am_get rfl rfl rfl ?_
    rw [hrt.2]
    refine am_icmp_ne rfl (fun h82 => ?_) (fun h82 => ?_)
    · refine am_iconst rfl ?_
      refine am_ireturn rfl (fun h => absurd h (by decide)) ⟨?_, S, Scr.rf, rfl⟩
      simp only [ltO, decide_eq_false (fun q => h82 ((nI_eq (by omega) (by omega)).mpr q)), cond_true, cond_false]
    · refine am_iconst rfl ?_
      refine am_goto rfl ?_
      refine am_ireturn rfl (fun h => absurd h (by decide)) ⟨?_, S, Scr.rf, rfl⟩
      simp only [ltO, decide_eq_true ((nI_eq (by omega) (by omega)).mp h82), cond_true, cond_false]
  | 4, M =>
    obtain ⟨h8, _, h10, hr6, hR, hT, hC, hW, hab⟩ := M
    refine am_aload_n rfl rfl rfl ?_
    refine am_get rfl rfl rfl ?_
    rw [h8]
    refine am_swIn (j := 4) rfl (by decide) (by decide) rfl ?_
    refine am_iconst rfl ?_
    refine am_ireturn rfl (fun h => absurd h (by decide)) ⟨?_, S, Scr.rf, rfl⟩
    rfl
  | 5, M =>
    obtain ⟨h8, _, h10, hr6, hR, hT, hC, hW, hab⟩ := M
    refine am_aload_n rfl rfl rfl ?_
    refine am_get rfl rfl rfl ?_
    rw [h8]
    refine am_swIn (j := 5) rfl (by decide) (by decide) rfl ?_
    refine am_iconst rfl ?_
    refine am_ireturn rfl (fun h => absurd h (by decide)) ⟨?_, S, Scr.rf, rfl⟩
    rfl
  | 6, M =>
    obtain ⟨h8, _, h10, hr6, hR, hT, hC, hW, hab⟩ := M
    refine am_aload_n rfl rfl rfl ?_
    refine am_get rfl rfl rfl ?_
    rw [h8]
    refine am_swIn (j := 6) rfl (by decide) (by decide) rfl ?_
    rcases r with _ | r
    · refine am_iload_n rfl rfl ?_
      refine am_iconst rfl ?_
      refine am_icmp_le rfl (fun _ => ?_) (fun h => absurd (by decide) h)
      refine am_iconst rfl ?_
      refine am_ireturn rfl (fun h => absurd h (by decide)) ⟨?_, S, Scr.rf, rfl⟩
      rfl
    · refine am_iload_n rfl rfl ?_
      refine am_iconst rfl ?_
      refine am_icmp_le rfl (fun h => absurd h (nI_ge (a := 1) (by omega) (by omega))) (fun _ => ?_)
      refine am_aload_n rfl rfl rfl ?_
      refine am_get rfl rfl rfl ?_
      refine am_iload_n rfl rfl ?_
      refine am_iald rfl rfl rfl (by omega) (by decide) ?_
      refine am_iload_n rfl rfl ?_
      refine am_iconst rfl ?_
      refine am_isub rfl ?_
      rw [nI_pred]
      refine am_icmp_ne rfl (fun h97 => ?_) (fun h97 => ?_)
      · refine am_iconst rfl ?_
        refine am_ireturn rfl (fun h => absurd h (by decide)) ⟨?_, S, Scr.rf, rfl⟩
        simp only [ltO, decide_eq_false h97, cond_true, cond_false]
      · refine am_aload_n rfl rfl rfl ?_
        refine am_iload_n rfl rfl ?_
        refine am_iload_n rfl rfl ?_
        refine am_Vx [.int (nI x), .int (nI (r + 2))] rfl rfl rfl rfl rfl rfl (m_inside (d := _) N x (nI (r + 2)) (by omega)) ?_
        refine am_goto rfl ?_
        refine am_ireturn rfl (fun h => absurd h (by decide)) ⟨?_, S, Scr.rf, rfl⟩
        simp only [ltO, decide_eq_true h97, cond_true, cond_false]
  | 7, M =>
    obtain ⟨h8, _, h10, hr6, hR, hT, hC, hW, hab⟩ := M
    refine am_aload_n rfl rfl rfl ?_
    refine am_get rfl rfl rfl ?_
    rw [h8]
    refine am_swIn (j := 7) rfl (by decide) (by decide) rfl ?_
    have hrt := hR (by decide)
    refine am_aload_n rfl rfl rfl ?_
    refine am_aload_n rfl rfl rfl ?_
    refine am_get rfl rfl rfl ?_
    rw [hrt.2]
    refine am_iload_n rfl rfl ?_
    refine am_Vx [.int (nI rt), .int (nI x)] rfl rfl rfl rfl rfl rfl (m_far (d := _) rt x (by omega) (by omega)) ?_
    refine am_iload_n rfl rfl ?_
    refine am_iconst rfl ?_
    refine am_isub rfl ?_
    rw [nI_pred]
    refine am_icmp_ne rfl (fun h113 => ?_) (fun h113 => ?_)
    · refine am_iconst rfl ?_
      refine am_ireturn rfl (fun h => absurd h (by decide)) ⟨?_, S, Scr.rf, rfl⟩
      simp only [ltO, dgr, decide_eq_false h113, cond_true, cond_false]
    · refine am_aload_n rfl rfl rfl ?_
      refine am_iload_n rfl rfl ?_
      refine am_Vx [.int (nI x)] rfl rfl rfl rfl rfl rfl (m_degree (d := _) N (x) (by omega)) ?_
      refine am_goto rfl ?_
      refine am_ireturn rfl (fun h => absurd h (by decide)) ⟨?_, S, Scr.rf, rfl⟩
      simp only [ltO, dgr, decide_eq_true h113, cond_true, cond_false]
  | k + 8, M => exact absurd M.2.1 (by omega)
end MM10
end
section
/-! the model: letters, the end of a run, round, run, choose -/
def ltI (S : am_S0) (n q : Nat) (fa fb : Nat → Nat) (rt k r : Nat) : Int32 := match k with
  | 4 | 5 => 2 * nI (opn fa fb (S 47) q (nI r))
  | _ => smI (ltO S n q fa fb rt k r) n
def fns (S : am_S0) (n q : Nat) (fa fb : Nat → Nat) (rt k r : Nat) : Bool := match k with
  | 2 => !decide (nI r ≤ S 45 rt)
  | 3 => decide (nI r = 4)
  | 4 => !anyb (fun v => !mov (S 47) v (nI r)) n
  | 6 => !anyb (fun v => decide (S 47 v = nI r + 1)) n
  | _ => decide (ltI S n q fa fb rt k r = 0)
/-- what answers depend on -/
def Sta (S S1 : am_S0) : Prop := S1 41 = S 41 ∧ S1 42 = S 42 ∧ S1 43 = S 43 ∧ S1 45 = S 45 ∧ S1 46 = S 46 ∧ S1 47 = S 47
theorem Scr.sta {S S1 : am_S0} (h : Scr S S1) : Sta S S1 := ⟨h 41 (by decide) (by decide) (by decide), h 42 (by decide) (by decide) (by decide), h 43 (by decide) (by decide) (by decide), h 45 (by decide) (by decide) (by decide), h 46 (by decide) (by decide) (by decide), h 47 (by decide) (by decide) (by decide)⟩
section MM11
variable {g : am_G} {d : Nat} {ch : Option Nat} {S : am_S0} {n q : Nat} {fa fb : Nat → Nat}
variable {pr : Nat → Option Nat} {rk : Nat → Nat} {rt k r : Nat}
theorem ltO_sta {S1 : am_S0} (h : Sta S S1) : ltO S1 n q fa fb rt k r = ltO S n q fa fb rt k r := by
  obtain ⟨h1, h2, h3, h4, h5, h6⟩ := h
  unfold ltO
  rw [h1, h2, h3, h4, h6]
theorem ltI_sta {S1 : am_S0} (h : Sta S S1) : ltI S1 n q fa fb rt k r = ltI S n q fa fb rt k r := by
  have e := ltO_sta (n := n) (q := q) (fa := fa) (fb := fb) (rt := rt) (k := k) (r := r) h
  unfold ltI
  rw [e, h.2.2.2.2.2]
theorem fns_sta {S1 : am_S0} (h : Sta S S1) : fns S1 n q fa fb rt k r = fns S n q fa fb rt k r := by
  have e := ltI_sta (n := n) (q := q) (fa := fa) (fb := fb) (rt := rt) (k := k) (r := r) h
  unfold fns
  rw [e, h.2.2.2.1, h.2.2.2.2.2]
theorem hAf_sta {S1 : am_S0} {x s : Nat} (h : Sta S S1) : hAf S1 n q fa fb rt pr k x s r = hAf S n q fa fb rt pr k x s r := by
  obtain ⟨h1, h2, h3, h4, h5, h6⟩ := h
  unfold hAf
  rw [h1, h2, h3, h4, h5, h6]
theorem m_lettersIn (N : MN S n q fa fb) (M : MR S n q fa fb k rt r pr rk) : AW g (d + 4) 0 0 126 0 (am_L0 126 [.ref 38, .int (nI (r + 1))]) [] (mem ch S) (am_sc (ltI S n q fa fb rt k r) ch S) := by
  have hn := N.2.1
  have hk := M.2.1
  have hop : AW g (d + 4) 0 0 126 8 (am_L0 126 [.ref 38, .int (nI (r + 1))]) [] (mem ch S) (am_sc (2 * nI (opn fa fb (S 47) q (nI r))) ch S) := by
    refine am_iconst rfl ?_
    refine am_aload_n rfl rfl rfl ?_
    refine am_iload_n rfl rfl ?_
    refine am_Vx [.int (nI (r + 1))] rfl rfl rfl rfl rfl rfl (m_open (d := d + 2) N (nI (r + 1))) ?_
    rw [nI_pred]
    refine am_imul rfl ?_
    exact am_ireturn rfl (fun h => absurd h (by decide)) ⟨rfl, S, Scr.rf, rfl⟩
  refine am_aload_n rfl rfl rfl ?_
  refine am_get rfl rfl rfl ?_
  rw [M.1]
  refine am_iconst rfl ?_
  refine am_icmp_eq rfl (fun h3 => ?_) (fun h3 => ?_)
  · have := (nI_eq (b := 4) (by omega) (by decide)).mp h3
    subst this
    exact hop
  · refine am_aload_n rfl rfl rfl ?_
    refine am_get rfl rfl rfl ?_
    rw [M.1]
    refine am_iconst rfl ?_
    refine am_icmp_ne rfl (fun h7 => ?_) (fun h7 => ?_)
    · have h4 : ¬ k = 4 := fun e => h3 (by rw [e]; rfl)
      have h5 : ¬ k = 5 := fun e => h7 (by rw [e]; rfl)
      have hsm9 : ltI S n q fa fb rt k r = smI (ltO S n q fa fb rt k r) n := by
        unfold ltI
        split
        · exact absurd rfl h4
        · exact absurd rfl h5
        · rfl
      refine am_iconst rfl ?_
      refine am_istore_n rfl ?_
      refine am_iconst rfl ?_
      refine am_istore_n rfl ?_
      show AW g _ 0 0 126 18 [some (.ref 38), some (.int (nI (r + 1))), some (.int (smI (ltO S n q fa fb rt k r) 0)), some (.int (nI 0))] [] _ _
      refine am_forS (n) (fun v S1 => [some (.ref 38), some (.int (nI (r + 1))), some (.int (smI (ltO S n q fa fb rt k r) v)), some (.int (nI v))]) (fun v S1 => mem ch S1) (fun v S1 => Scr S S1) (fun v S1 hv hi kl => ?_) (fun S1 hi => ?_) (n) 0 (S) (by omega) Scr.rf
      · refine am_iload_n rfl rfl ?_
        refine am_aload_n rfl rfl rfl ?_
        refine am_get rfl rfl rfl ?_
        refine am_icmp_ge rfl (fun h => absurd h (nm_lt (N.scr hi).1 hn hv)) (fun _ => ?_)
        refine am_iload_n rfl rfl ?_
        refine am_aload_n rfl rfl rfl ?_
        refine am_iload_n rfl rfl ?_
        refine am_iload_n rfl rfl ?_
        refine am_V [.int (nI v), .int (nI (r + 1))] rfl rfl rfl rfl rfl rfl (m_lettersOf (d := _) (N.scr hi) (M.scr hi) v hv) ?_
        rintro _ _ ⟨rfl, S2, hS2, rfl⟩ _
        rw [ltO_sta hi.sta]
        refine am_iadd rfl ?_
        refine am_istore_n rfl ?_
        refine am_iinc rfl rfl ?_
        refine am_goto rfl ?_
        simp only [nI_succ v] at kl
        exact kl S2 (hi.tr hS2)
      · refine am_iload_n rfl rfl ?_
        refine am_aload_n rfl rfl rfl ?_
        refine am_get rfl rfl rfl ?_
        refine am_icmp_ge rfl (fun _ => ?_) (fun h => absurd (nm_ge (N.scr hi).1 hn) h)
        refine am_iload_n rfl rfl ?_
        exact am_ireturn rfl (fun h => absurd h (by decide)) ⟨by rw [hsm9], S1, hi, rfl⟩
    · have := (nI_eq (b := 5) (by omega) (by decide)).mp h7
      subst this
      exact hop
theorem m_isFinished (N : MN S n q fa fb) (M : MR S n q fa fb k rt r pr rk) : AW g (d + 5) 0 0 124 0 (am_L0 124 [.ref 38]) [] (mem ch S) (am_sc (bi (fns S n q fa fb rt k r)) ch S) := by
  have hn := N.2.1
  match k, M with
  | 0, M =>
    refine am_iconst rfl ?_
    refine am_istore_n rfl ?_
    refine am_aload_n rfl rfl rfl ?_
    refine am_get rfl rfl rfl ?_
    rw [M.1]
    refine am_swOut rfl (Or.inl (by decide)) ?_
    refine am_aload_n rfl rfl rfl ?_
    refine am_aload_n rfl rfl rfl ?_
    refine am_get rfl rfl rfl ?_
    rw [M.2.2.1]
    refine am_iconst rfl ?_
    refine am_iadd rfl ?_
    rw [nI_1]
    refine am_V [.int (nI (r + 1))] rfl rfl rfl rfl rfl rfl (m_lettersIn (d := _) N M) ?_
    rintro _ _ ⟨rfl, S1, hS1, rfl⟩ _
    refine am_if_ne rfl (fun h => ?_) (fun h => ?_)
    · refine am_iconst rfl ?_
      refine am_ireturn rfl (fun _ => by decide) ⟨?_, S1, hS1, rfl⟩
      simp only [fns, decide_eq_false h, bi, cond_false]
    · refine am_iconst rfl ?_
      refine am_goto rfl ?_
      refine am_ireturn rfl (fun _ => by decide) ⟨?_, S1, hS1, rfl⟩
      simp only [fns, decide_eq_true h, bi, cond_true]
  | 1, M =>
    refine am_iconst rfl ?_
    refine am_istore_n rfl ?_
    refine am_aload_n rfl rfl rfl ?_
    refine am_get rfl rfl rfl ?_
    rw [M.1]
    refine am_swOut rfl (Or.inl (by decide)) ?_
    refine am_aload_n rfl rfl rfl ?_
    refine am_aload_n rfl rfl rfl ?_
    refine am_get rfl rfl rfl ?_
    rw [M.2.2.1]
    refine am_iconst rfl ?_
    refine am_iadd rfl ?_
    rw [nI_1]
    refine am_V [.int (nI (r + 1))] rfl rfl rfl rfl rfl rfl (m_lettersIn (d := _) N M) ?_
    rintro _ _ ⟨rfl, S1, hS1, rfl⟩ _
    refine am_if_ne rfl (fun h => ?_) (fun h => ?_)
    · refine am_iconst rfl ?_
      refine am_ireturn rfl (fun _ => by decide) ⟨?_, S1, hS1, rfl⟩
      simp only [fns, decide_eq_false h, bi, cond_false]
    · refine am_iconst rfl ?_
      refine am_goto rfl ?_
      refine am_ireturn rfl (fun _ => by decide) ⟨?_, S1, hS1, rfl⟩
      simp only [fns, decide_eq_true h, bi, cond_true]
  | 2, M =>
    refine am_iconst rfl ?_
    refine am_istore_n rfl ?_
    refine am_aload_n rfl rfl rfl ?_
    refine am_get rfl rfl rfl ?_
    rw [M.1]
    refine am_swIn (j := 0) rfl (by decide) (by decide) rfl ?_
    have hrt := M.2.2.2.2.1 (by decide)
    refine am_aload_n rfl rfl rfl ?_
    refine am_get rfl rfl rfl ?_
    rw [M.2.2.1]
    refine am_aload_n rfl rfl rfl ?_
    refine am_get rfl rfl rfl ?_
    refine am_aload_n rfl rfl rfl ?_
    refine am_get rfl rfl rfl ?_
    rw [hrt.2]
    refine am_iald (k8 := rt) rfl rfl rfl (by omega) (by decide) ?_
    refine am_icmp_le rfl (fun h12 => ?_) (fun h12 => ?_)
    · refine am_iconst rfl ?_
      refine am_ireturn rfl (fun _ => by decide) ⟨?_, S, Scr.rf, rfl⟩
      simp only [fns, decide_eq_true h12, Bool.not_true, Bool.not_false, bi, cond_true, cond_false]
    · refine am_iconst rfl ?_
      refine am_goto rfl ?_
      refine am_ireturn rfl (fun _ => by decide) ⟨?_, S, Scr.rf, rfl⟩
      simp only [fns, decide_eq_false h12, Bool.not_true, Bool.not_false, bi, cond_true, cond_false]
  | 3, M =>
    refine am_iconst rfl ?_
    refine am_istore_n rfl ?_
    refine am_aload_n rfl rfl rfl ?_
    refine am_get rfl rfl rfl ?_
    rw [M.1]
    refine am_swIn (j := 1) rfl (by decide) (by decide) rfl ?_
    refine am_aload_n rfl rfl rfl ?_
    refine am_get rfl rfl rfl ?_
    rw [M.2.2.1]
    refine am_iconst rfl ?_
    refine am_icmp_ne rfl (fun h20 => ?_) (fun h20 => ?_)
    · refine am_iconst rfl ?_
      refine am_ireturn rfl (fun _ => by decide) ⟨?_, S, Scr.rf, rfl⟩
      simp only [fns, decide_eq_false h20, bi, cond_true, cond_false]
    · refine am_iconst rfl ?_
      refine am_goto rfl ?_
      refine am_ireturn rfl (fun _ => by decide) ⟨?_, S, Scr.rf, rfl⟩
      simp only [fns, decide_eq_true h20, bi, cond_true, cond_false]
  | 4, M =>
    refine am_iconst rfl ?_
    refine am_istore_n rfl ?_
    refine am_aload_n rfl rfl rfl ?_
    refine am_get rfl rfl rfl ?_
    rw [M.1]
    refine am_swIn (j := 2) rfl (by decide) (by decide) rfl ?_
    refine am_iconst rfl ?_
    refine am_istore_n rfl ?_
    show AW g _ 0 0 124 27 [some (.ref 38), some (.int (bi (!anyb (fun u => !mov (S 47) u (nI r)) 0))), some (.int (nI 0))] [] _ _
    refine am_for (n) (fun v => [some (.ref 38), some (.int (bi (!anyb (fun u => !mov (S 47) u (nI r)) v))), some (.int (nI v))]) (fun v => mem ch S) (fun v hv kl => ?_) ?_ (n) 0 (by omega)
    · refine am_iload_n rfl rfl ?_
      refine am_aload_n rfl rfl rfl ?_
      refine am_get rfl rfl rfl ?_
      refine am_icmp_ge rfl (fun h => absurd h (nm_lt N.1 hn hv)) (fun _ => ?_)
      refine am_iload_n rfl rfl ?_
      refine am_if_eq rfl (fun h32 => ?_) (fun h32 => ?_)
      · refine am_iconst rfl ?_
        refine am_istore_n rfl ?_
        refine am_iinc rfl rfl ?_
        refine am_goto rfl ?_
        simp only [anyb, Bool.not_or, bi_0 h32, Bool.true_and, Bool.false_and, Bool.not_not, nI_succ] at kl
        exact kl
      · refine am_aload_n rfl rfl rfl ?_
        refine am_iload_n rfl rfl ?_
        refine am_aload_n rfl rfl rfl ?_
        refine am_get rfl rfl rfl ?_
        rw [M.2.2.1]
        refine am_Vx [.int (nI v), .int (nI r)] rfl rfl rfl rfl rfl rfl (m_isOver (d := _) v (by omega) (nI r)) ?_
        refine am_if_eq rfl (fun h38 => ?_) (fun h38 => ?_)
        · refine am_iconst rfl ?_
          refine am_istore_n rfl ?_
          refine am_iinc rfl rfl ?_
          refine am_goto rfl ?_
          simp only [anyb, Bool.not_or, bi_1 h32, bi_0 h38, Bool.true_and, Bool.false_and, Bool.not_not, nI_succ] at kl
          exact kl
        · refine am_iconst rfl ?_
          refine am_goto rfl ?_
          refine am_istore_n rfl ?_
          refine am_iinc rfl rfl ?_
          refine am_goto rfl ?_
          simp only [anyb, Bool.not_or, bi_1 h32, bi_1 h38, Bool.true_and, Bool.false_and, Bool.not_not, nI_succ] at kl
          exact kl
    · refine am_iload_n rfl rfl ?_
      refine am_aload_n rfl rfl rfl ?_
      refine am_get rfl rfl rfl ?_
      refine am_icmp_ge rfl (fun _ => ?_) (fun h => absurd (nm_ge N.1 hn) h)
      refine am_iload_n rfl rfl ?_
      refine am_ireturn rfl (fun _ => bi_01 _) ⟨?_, S, Scr.rf, rfl⟩
      rfl
  | 5, M =>
    refine am_iconst rfl ?_
    refine am_istore_n rfl ?_
    refine am_aload_n rfl rfl rfl ?_
    refine am_get rfl rfl rfl ?_
    rw [M.1]
    refine am_swIn (j := 3) rfl (by decide) (by decide) rfl ?_
    refine am_aload_n rfl rfl rfl ?_
    refine am_aload_n rfl rfl rfl ?_
    refine am_get rfl rfl rfl ?_
    rw [M.2.2.1]
    refine am_iconst rfl ?_
    refine am_iadd rfl ?_
    rw [nI_1]
    refine am_V [.int (nI (r + 1))] rfl rfl rfl rfl rfl rfl (m_lettersIn (d := _) N M) ?_
    rintro _ _ ⟨rfl, S1, hS1, rfl⟩ _
    refine am_if_ne rfl (fun h => ?_) (fun h => ?_)
    · refine am_iconst rfl ?_
      refine am_ireturn rfl (fun _ => by decide) ⟨?_, S1, hS1, rfl⟩
      simp only [fns, decide_eq_false h, bi, cond_false]
    · refine am_iconst rfl ?_
      refine am_goto rfl ?_
      refine am_ireturn rfl (fun _ => by decide) ⟨?_, S1, hS1, rfl⟩
      simp only [fns, decide_eq_true h, bi, cond_true]
  | 6, M =>
    refine am_iconst rfl ?_
    refine am_istore_n rfl ?_
    refine am_aload_n rfl rfl rfl ?_
    refine am_get rfl rfl rfl ?_
    rw [M.1]
    refine am_swIn (j := 4) rfl (by decide) (by decide) rfl ?_
    refine am_iconst rfl ?_
    refine am_istore_n rfl ?_
    show AW g _ 0 0 124 49 [some (.ref 38), some (.int (bi (!anyb (fun u => decide (S 47 u = nI r + 1)) 0))), some (.int (nI 0))] [] _ _
    refine am_for (n) (fun v => [some (.ref 38), some (.int (bi (!anyb (fun u => decide (S 47 u = nI r + 1)) v))), some (.int (nI v))]) (fun v => mem ch S) (fun v hv kl => ?_) ?_ (n) 0 (by omega)
    · refine am_iload_n rfl rfl ?_
      refine am_aload_n rfl rfl rfl ?_
      refine am_get rfl rfl rfl ?_
      refine am_icmp_ge rfl (fun h => absurd h (nm_lt N.1 hn hv)) (fun _ => ?_)
      refine am_iload_n rfl rfl ?_
      refine am_if_eq rfl (fun h54 => ?_) (fun h54 => ?_)
      · refine am_iconst rfl ?_
        refine am_istore_n rfl ?_
        refine am_iinc rfl rfl ?_
        refine am_goto rfl ?_
        simp only [anyb, Bool.not_or, bi_0 h54, Bool.true_and, Bool.false_and, Bool.and_true, Bool.and_false, Bool.not_true, Bool.not_false, nI_succ] at kl
        exact kl
      · refine am_aload_n rfl rfl rfl ?_
        refine am_get rfl rfl rfl ?_
        refine am_iload_n rfl rfl ?_
        refine am_iald rfl rfl rfl (by omega) (by decide) ?_
        refine am_aload_n rfl rfl rfl ?_
        refine am_get rfl rfl rfl ?_
        rw [M.2.2.1]
        refine am_iconst rfl ?_
        refine am_iadd rfl ?_
        refine am_icmp_eq rfl (fun h63 => ?_) (fun h63 => ?_)
        · refine am_iconst rfl ?_
          refine am_istore_n rfl ?_
          refine am_iinc rfl rfl ?_
          refine am_goto rfl ?_
          simp only [anyb, Bool.not_or, bi_1 h54, decide_eq_true h63, Bool.true_and, Bool.false_and, Bool.and_true, Bool.and_false, Bool.not_true, Bool.not_false, nI_succ] at kl
          exact kl
        · refine am_iconst rfl ?_
          refine am_goto rfl ?_
          refine am_istore_n rfl ?_
          refine am_iinc rfl rfl ?_
          refine am_goto rfl ?_
          simp only [anyb, Bool.not_or, bi_1 h54, decide_eq_false h63, Bool.true_and, Bool.false_and, Bool.and_true, Bool.and_false, Bool.not_true, Bool.not_false, nI_succ] at kl
          exact kl
    · refine am_iload_n rfl rfl ?_
      refine am_aload_n rfl rfl rfl ?_
      refine am_get rfl rfl rfl ?_
      refine am_icmp_ge rfl (fun _ => ?_) (fun h => absurd (nm_ge N.1 hn) h)
      refine am_iload_n rfl rfl ?_
      refine am_ireturn rfl (fun _ => bi_01 _) ⟨?_, S, Scr.rf, rfl⟩
      rfl
  | 7, M =>
    refine am_iconst rfl ?_
    refine am_istore_n rfl ?_
    refine am_aload_n rfl rfl rfl ?_
    refine am_get rfl rfl rfl ?_
    rw [M.1]
    refine am_swOut rfl (Or.inr (by decide)) ?_
    refine am_aload_n rfl rfl rfl ?_
    refine am_aload_n rfl rfl rfl ?_
    refine am_get rfl rfl rfl ?_
    rw [M.2.2.1]
    refine am_iconst rfl ?_
    refine am_iadd rfl ?_
    rw [nI_1]
    refine am_V [.int (nI (r + 1))] rfl rfl rfl rfl rfl rfl (m_lettersIn (d := _) N M) ?_
    rintro _ _ ⟨rfl, S1, hS1, rfl⟩ _
    refine am_if_ne rfl (fun h => ?_) (fun h => ?_)
    · refine am_iconst rfl ?_
      refine am_ireturn rfl (fun _ => by decide) ⟨?_, S1, hS1, rfl⟩
      simp only [fns, decide_eq_false h, bi, cond_false]
    · refine am_iconst rfl ?_
      refine am_goto rfl ?_
      refine am_ireturn rfl (fun _ => by decide) ⟨?_, S1, hS1, rfl⟩
      simp only [fns, decide_eq_true h, bi, cond_true]
  | k + 8, M => exact absurd M.2.1 (by omega)
theorem m_fin0 (h : S 38 8 = -1) : AW g d 0 0 136 0 (am_L0 136 [.ref 38]) [] (mem ch S) (am_is (some (.int 0)) (mem ch S)) := by
  refine am_aload_n rfl rfl rfl ?_
  refine am_get rfl rfl rfl ?_
  rw [h]
  refine am_if_lt rfl (fun _ => ?_) (fun h => absurd (by decide) h)
  refine am_iconst rfl ?_
  exact am_ireturn rfl (fun _ => by decide) ⟨rfl, rfl⟩
theorem m_fin (N : MN S n q fa fb) (M : MR S n q fa fb k rt r pr rk) : AW g (d + 6) 0 0 136 0 (am_L0 136 [.ref 38]) [] (mem ch S) (am_sc (bi (fns S n q fa fb rt k r)) ch S) := by
  refine am_aload_n rfl rfl rfl ?_
  refine am_get rfl rfl rfl ?_
  rw [M.1]
  refine am_if_lt rfl (fun h => absurd h (nI_pos (by have := M.2.1; omega))) (fun _ => ?_)
  refine am_aload_n rfl rfl rfl ?_
  refine am_V [] rfl rfl rfl rfl rfl rfl (m_isFinished (d := d) N M) ?_
  rintro _ _ ⟨rfl, S1, hS1, rfl⟩ _
  refine am_if_eq rfl (fun h => ?_) (fun h => ?_)
  · refine am_iconst rfl ?_
    exact am_ireturn rfl (fun _ => by decide) ⟨by rw [bi_0 h]; rfl, S1, hS1, rfl⟩
  · refine am_iconst rfl ?_
    refine am_goto rfl ?_
    exact am_ireturn rfl (fun _ => by decide) ⟨by rw [bi_1 h]; rfl, S1, hS1, rfl⟩
theorem m_rounds0 (h : S 38 8 = -1) : AW g d 0 0 137 0 (am_L0 137 [.ref 38]) [] (mem ch S) (am_is (some (.int (-1))) (mem ch S)) := by
  refine am_aload_n rfl rfl rfl ?_
  refine am_get rfl rfl rfl ?_
  rw [h]
  refine am_if_ge rfl (fun h => absurd h (by decide)) (fun _ => ?_)
  refine am_iconst rfl ?_
  refine am_goto rfl ?_
  exact am_ireturn rfl (fun h => absurd h (by decide)) ⟨rfl, rfl⟩
theorem m_rounds (h : S 38 8 = nI k) (hk : k < 8) : AW g d 0 0 137 0 (am_L0 137 [.ref 38]) [] (mem ch S) (am_is (some (.int (S 38 10))) (mem ch S)) := by
  refine am_aload_n rfl rfl rfl ?_
  refine am_get rfl rfl rfl ?_
  rw [h]
  refine am_if_ge rfl (fun _ => ?_) (fun h => absurd (nI_pos' (by omega)) h)
  refine am_aload_n rfl rfl rfl ?_
  refine am_get rfl rfl rfl ?_
  exact am_ireturn rfl (fun h => absurd h (by decide)) ⟨rfl, rfl⟩
theorem m_letters0 (h : S 38 8 = -1) : AW g d 0 0 138 0 (am_L0 138 [.ref 38]) [] (mem ch S) (am_is (some (.int (-1))) (mem ch S)) := by
  refine am_aload_n rfl rfl rfl ?_
  refine am_get rfl rfl rfl ?_
  rw [h]
  refine am_if_ge rfl (fun h => absurd h (by decide)) (fun _ => ?_)
  refine am_iconst rfl ?_
  refine am_goto rfl ?_
  exact am_ireturn rfl (fun h => absurd h (by decide)) ⟨rfl, rfl⟩
theorem m_letters (h : S 38 8 = nI k) (hk : k < 8) : AW g d 0 0 138 0 (am_L0 138 [.ref 38]) [] (mem ch S) (am_is (some (.int (S 38 11))) (mem ch S)) := by
  refine am_aload_n rfl rfl rfl ?_
  refine am_get rfl rfl rfl ?_
  rw [h]
  refine am_if_ge rfl (fun _ => ?_) (fun h => absurd (nI_pos' (by omega)) h)
  refine am_aload_n rfl rfl rfl ?_
  refine am_get rfl rfl rfl ?_
  exact am_ireturn rfl (fun h => absurd h (by decide)) ⟨rfl, rfl⟩
def mdn (S : am_S0) (r : Nat) (t : Int32) : am_S0 := am_up S 38 (upd (upd (S 38) 10 (nI r)) 11 t)
theorem Scr.dn {S1 : am_S0} {t : Int32} (h : Scr S S1) : Scr (mdn S r t) (mdn S1 r t) := fun j a b c => by
  unfold mdn am_up
  by_cases e : j = 38
  · rw [if_pos e, if_pos e, h 38 (by decide) (by decide) (by decide)]
  · rw [if_neg e, if_neg e, h j a b c]
theorem Sta.dn {t : Int32} : Sta S (mdn S r t) := ⟨rfl, rfl, rfl, rfl, rfl, rfl⟩
theorem MN.dn {t : Int32} (N : MN S n q fa fb) : MN (mdn S r t) n q fa fb := N.eq rfl rfl rfl rfl
theorem m_round0 (h : S 38 8 = -1) : AW g d 0 0 123 0 (am_L0 123 [.ref 38]) [] (mem ch S) (am_is (some (.int (-1))) (mem ch S)) := by
  refine am_aload_n rfl rfl rfl ?_
  refine am_get rfl rfl rfl ?_
  rw [h]
  refine am_if_lt rfl (fun _ => ?_) (fun h => absurd (by decide) h)
  refine am_iconst rfl ?_
  exact am_ireturn rfl (fun h => absurd h (by decide)) ⟨rfl, rfl⟩
theorem m_roundEnd (N : MN S n q fa fb) (M : MR S n q fa fb k rt r pr rk) (hf : fns S n q fa fb rt k r = true) : AW g (d + 6) 0 0 123 0 (am_L0 123 [.ref 38]) [] (mem ch S) (am_sc (-1) ch S) := by
  refine am_aload_n rfl rfl rfl ?_
  refine am_get rfl rfl rfl ?_
  rw [M.1]
  refine am_if_lt rfl (fun h => absurd h (nI_pos (by have := M.2.1; omega))) (fun _ => ?_)
  refine am_aload_n rfl rfl rfl ?_
  refine am_V [] rfl rfl rfl rfl rfl rfl (m_isFinished (d := d) N M) ?_
  rintro _ _ ⟨rfl, S1, hS1, rfl⟩ _
  rw [hf]
  refine am_if_eq rfl (fun h => absurd h (by decide)) (fun _ => ?_)
  refine am_iconst rfl ?_
  exact am_ireturn rfl (fun h => absurd h (by decide)) ⟨rfl, S1, hS1, rfl⟩
theorem m_roundGo (N : MN S n q fa fb) (M : MR S n q fa fb k rt r pr rk) (hf : fns S n q fa fb rt k r = false) : AW g (d + 6) 0 0 123 0 (am_L0 123 [.ref 38]) [] (mem ch S) (am_sc (ltI S n q fa fb rt k r) ch (mdn S (r + 1) (S 38 11 + ltI S n q fa fb rt k r))) := by
  refine am_aload_n rfl rfl rfl ?_
  refine am_get rfl rfl rfl ?_
  rw [M.1]
  refine am_if_lt rfl (fun h => absurd h (nI_pos (by have := M.2.1; omega))) (fun _ => ?_)
  refine am_aload_n rfl rfl rfl ?_
  refine am_V [] rfl rfl rfl rfl rfl rfl (m_isFinished (d := d) N M) ?_
  rintro _ _ ⟨rfl, S1, hS1, rfl⟩ _
  rw [hf]
  refine am_if_eq rfl (fun _ => ?_) (fun h => absurd (by decide) h)
  have N1 := N.scr hS1
  have M1 := M.scr hS1
  refine am_aload_n rfl rfl rfl ?_
  refine am_aload_n rfl rfl rfl ?_
  refine am_get rfl rfl rfl ?_
  rw [M1.2.2.1]
  refine am_iconst rfl ?_
  refine am_iadd rfl ?_
  rw [nI_1]
  refine am_V [.int (nI (r + 1))] rfl rfl rfl rfl rfl rfl (m_lettersIn (d := d + 1) N1 M1) ?_
  rintro _ _ ⟨rfl, S2, hS2, rfl⟩ _
  have hS := hS1.tr hS2
  have M2 := M.scr hS
  rw [ltI_sta hS1.sta]
  generalize ltI S n q fa fb rt k r = t
  refine am_istore_n rfl ?_
  refine am_aload_n rfl rfl rfl ?_
  refine am_dup rfl rfl ?_
  refine am_get rfl rfl rfl ?_
  rw [M2.2.2.1]
  refine am_iconst rfl ?_
  refine am_iadd rfl ?_
  rw [nI_1]
  refine am_put rfl rfl (Nat.le_of_ble_eq_true rfl) rfl ?_
  refine am_aload_n rfl rfl rfl ?_
  refine am_dup rfl rfl ?_
  refine am_get rfl rfl rfl ?_
  refine am_iload_n rfl rfl ?_
  refine am_iadd rfl ?_
  refine am_put rfl rfl (Nat.le_of_ble_eq_true rfl) rfl ?_
  refine am_iload_n rfl rfl ?_
  refine am_ireturn rfl (fun h => absurd h (by decide)) ⟨rfl, mdn S2 (r + 1) (S 38 11 + t), hS.dn, ?_⟩
  rw [← hS 38 (by decide) (by decide) (by decide)]
  rfl
/-- the letters sent, j rounds on -/
def mtot (S : am_S0) (n q : Nat) (fa fb : Nat → Nat) (rt k r : Nat) : Nat → Int32
  | 0 => S 38 11
  | j + 1 => mtot S n q fa fb rt k r j + ltI S n q fa fb rt k (r + j)
theorem m_run0 (h : S 38 8 = -1) (x : Int32) : AW g d 0 0 135 0 (am_L0 135 [.ref 38, .int x]) [] (mem ch S) (am_is (some (.int (-1))) (mem ch S)) := by
  refine am_aload_n rfl rfl rfl ?_
  refine am_get rfl rfl rfl ?_
  rw [h]
  refine am_if_lt rfl (fun _ => ?_) (fun h => absurd (by decide) h)
  refine am_iconst rfl ?_
  exact am_ireturn rfl (fun h => absurd h (by decide)) ⟨rfl, rfl⟩
theorem m_runNeg (h : S 38 8 = nI k) (hk : k < 8) (x : Int32) (hx : x < 0) : AW g d 0 0 135 0 (am_L0 135 [.ref 38, .int x]) [] (mem ch S) (am_is (some (.int (-1))) (mem ch S)) := by
  refine am_aload_n rfl rfl rfl ?_
  refine am_get rfl rfl rfl ?_
  rw [h]
  refine am_if_lt rfl (fun h => absurd h (nI_pos (by omega))) (fun _ => ?_)
  refine am_iload_n rfl rfl ?_
  refine am_if_ge rfl (fun h => absurd hx (Int32.not_lt.mpr h)) (fun _ => ?_)
  refine am_iconst rfl ?_
  exact am_ireturn rfl (fun h => absurd h (by decide)) ⟨rfl, rfl⟩
theorem m_run (N : MN S n q fa fb) (lim J : Nat) (hl : lim < 2 ^ 31) (hJ : J ≤ lim) (hM : ∀ i, i ≤ J → ∀ t, MR (mdn S (r + i) t) n q fa fb k rt (r + i) pr rk) (hgo : ∀ i, i < J → fns S n q fa fb rt k (r + i) = false ∧ 0 ≤ ltI S n q fa fb rt k (r + i)) (hend : J = lim ∨ fns S n q fa fb rt k (r + J) = true) (h10 : S 38 10 = nI r) : AW g (d + 7) 0 0 135 0 (am_L0 135 [.ref 38, .int (nI lim)]) [] (mem ch S) (am_sc (nI J) ch (mdn S (r + J) (mtot S n q fa fb rt k r J))) := by
  have M0 := hM 0 (Nat.zero_le _) 0
  refine am_aload_n rfl rfl rfl ?_
  refine am_get rfl rfl rfl ?_
  rw [show S 38 8 = nI k from M0.1]
  refine am_if_lt rfl (fun h => absurd h (nI_pos (by have := M0.2.1; omega))) (fun _ => ?_)
  refine am_iload_n rfl rfl ?_
  refine am_if_ge rfl (fun _ => ?_) (fun h => absurd (nI_pos' (by omega)) h)
  refine am_iconst rfl ?_
  refine am_istore_n rfl ?_
  have e0 : mdn S (r + 0) (mtot S n q fa fb rt k r 0) = S := by
    funext j
    unfold mdn am_up
    by_cases e : j = 38
    · rw [if_pos e, e]
      funext i
      unfold upd
      by_cases e1 : i = 11
      · rw [if_pos e1, e1]; rfl
      · rw [if_neg e1]
        by_cases e2 : i = 10
        · rw [if_pos e2, e2, h10]; rfl
        · rw [if_neg e2]
    · rw [if_neg e]
  show AW g _ 0 0 135 9 [some (.ref 38), some (.int (nI lim)), some (.int (nI 0))] [] _ _
  refine am_forS J (fun i _ => [some (.ref 38), some (.int (nI lim)), some (.int (nI i))]) (fun i S1 => mem ch S1) (fun i S1 => Scr (mdn S (r + i) (mtot S n q fa fb rt k r i)) S1) (fun i S1 hi I k0 => ?_) (fun S1 I => ?_) J 0 S (by omega) (by rw [e0]; exact Scr.rf)
  · obtain ⟨f1, f2⟩ := hgo i hi
    have N1 : MN S1 n q fa fb := (N.dn).scr I
    have M1 := (hM i (by omega) (mtot S n q fa fb rt k r i)).scr I
    refine am_iload_n rfl rfl ?_
    refine am_iload_n rfl rfl ?_
    refine am_icmp_ge rfl (fun h => absurd h (nI_ge (by omega) hl)) (fun _ => ?_)
    refine am_aload_n rfl rfl rfl ?_
    have e1 : fns S1 n q fa fb rt k (r + i) = false := by rw [fns_sta I.sta, fns_sta Sta.dn]; exact f1
    have e2 : ltI S1 n q fa fb rt k (r + i) = ltI S n q fa fb rt k (r + i) := by rw [ltI_sta I.sta, ltI_sta Sta.dn]
    have e3 : S1 38 11 = mtot S n q fa fb rt k r i := by rw [I 38 (by decide) (by decide) (by decide)]; rfl
    refine am_V [] rfl rfl rfl rfl rfl rfl (m_roundGo (d := d) N1 M1 e1) ?_
    rintro _ _ ⟨rfl, S2, hS2, rfl⟩ _
    rw [e2]
    rw [e2, e3] at hS2
    refine am_if_lt rfl (fun h => absurd h (Int32.not_lt.mpr f2)) (fun _ => ?_)
    refine am_iinc rfl rfl ?_
    refine am_goto rfl ?_
    have I2 : Scr (mdn S (r + (i + 1)) (mtot S n q fa fb rt k r (i + 1))) S2 := by
      intro j a b c
      rw [hS2 j a b c]
      show mdn S1 (r + i + 1) (mtot S n q fa fb rt k r (i + 1)) j = mdn S (r + (i + 1)) (mtot S n q fa fb rt k r (i + 1)) j
      generalize mtot S n q fa fb rt k r (i + 1) = t9
      have hI38 := I 38 (by decide) (by decide) (by decide)
      have hIj := I j a b c
      unfold mdn am_up at hI38 hIj ⊢
      rw [if_pos rfl] at hI38
      by_cases e : j = 38
      · rw [if_pos e, if_pos e, hI38]
        funext z
        unfold upd
        by_cases z1 : z = 11
        · subst z1; rfl
        · by_cases z2 : z = 10
          · subst z2; rfl
          · simp only [if_neg z1, if_neg z2]
      · rw [if_neg e] at hIj ⊢
        rw [if_neg e, hIj]
    have k0 := k0 S2 I2
    simp only [nI_succ] at k0
    exact k0
  · have N1 : MN S1 n q fa fb := (N.dn).scr I
    have M1 := (hM J (Nat.le_refl _) (mtot S n q fa fb rt k r J)).scr I
    refine am_iload_n rfl rfl ?_
    refine am_iload_n rfl rfl ?_
    refine am_icmp_ge rfl (fun _ => ?_) (fun h => ?_)
    · refine am_iload_n rfl rfl ?_
      exact am_ireturn rfl (fun h => absurd h (by decide)) ⟨rfl, S1, I, rfl⟩
    · have hJl : ¬ J = lim := fun e => h (by rw [e]; exact Int32.le_refl _)
      have e1 : fns S1 n q fa fb rt k (r + J) = true := by rw [fns_sta I.sta, fns_sta Sta.dn]; exact hend.resolve_left hJl
      refine am_aload_n rfl rfl rfl ?_
      refine am_V [] rfl rfl rfl rfl rfl rfl (m_roundEnd (d := d) N1 M1 e1) ?_
      rintro _ _ ⟨rfl, S2, hS2, rfl⟩ _
      refine am_if_lt rfl (fun _ => ?_) (fun h => absurd (by decide) h)
      refine am_iload_n rfl rfl ?_
      exact am_ireturn rfl (fun h => absurd h (by decide)) ⟨rfl, S2, I.tr hS2, rfl⟩
theorem m_chooseNo (x y : Int32) (h : S 38 6 = 0 ∨ x < 0 ∨ ¬ x < 8) : AW g d 0 0 113 0 (am_L0 113 [.ref 38, .int x, .int y]) [] (mem ch S) (am_is (some (.int 0)) (mem ch S)) := by
  refine am_aload_n rfl rfl rfl ?_
  refine am_get rfl rfl rfl ?_
  refine am_if_eq rfl (fun h2 => ?_) (fun h2 => ?_)
  · refine am_iconst rfl ?_
    refine am_ireturn rfl (fun _ => by decide) ⟨?_, rfl⟩
    rfl
  · refine am_iload_n rfl rfl ?_
    refine am_if_lt rfl (fun h4 => ?_) (fun h4 => ?_)
    · refine am_iconst rfl ?_
      refine am_ireturn rfl (fun _ => by decide) ⟨?_, rfl⟩
      rfl
    · refine am_iload_n rfl rfl ?_
      refine am_bipush rfl ?_
      refine am_icmp_le rfl (fun h7 => ?_) (fun h7 => ?_)
      · exact h.elim (fun q => absurd q h2) (fun q => q.elim (fun q => absurd q h4) (fun q => absurd (show x < 8 from Int32.lt_iff_toInt_lt.mpr (by have := Int32.le_iff_toInt_le.mp h7; have h2 : (7 : Int32).toInt = 7 := (by decide); have h3 : (8 : Int32).toInt = 8 := (by decide); omega)) q))
      · refine am_iconst rfl ?_
        refine am_ireturn rfl (fun _ => by decide) ⟨?_, rfl⟩
        rfl
def mtb (k : Nat) (S : am_S0) (x : Int32) : Bool := match k with
  | 0 | 4 | 5 => true
  | 6 => decide (1 ≤ x) && decide (x ≤ 12)
  | _ => decide (0 ≤ x) && decide (x < S 38 0)
def mcs1 (S : am_S0) (k : Nat) (y : Int32) : am_S0 := am_up S 38 (upd (upd (upd (upd (S 38) 8 (nI k)) 9 y) 10 0) 11 0)
def mcs2 (S : am_S0) (A : Nat → Nat → Option Nat) (n k : Nat) (y : Int32) : am_S0 := am_up (mcs1 S k y) 43 (mdist A n (S 43))
def mcs (S : am_S0) (n q : Nat) (fa fb : Nat → Nat) (rt k : Nat) (y : Int32) : am_S0 := match k with
  | 2 | 3 => am_up (am_up (mcs2 S (bt fa fb q) n k y) 44 (pw n (fun v => em (mpr fa fb q n (mdist (bt fa fb q) n (S 43)) rt v)) (S 44))) 45 (hts (mpr fa fb q n (mdist (bt fa fb q) n (S 43)) rt) n n (S 45))
  | 4 => am_up (am_up (mcs2 S (bt fa fb q) n k y) 46 (pck (bt fa fb q) (S 42) n n (S 46) (S 47)).1) 47 (pck (bt fa fb q) (S 42) n n (S 46) (S 47)).2
  | 5 => am_up (am_up (mcs2 S (bt fa fb q) n k y) 46 (mtc fa fb (S 41) n q q (S 46) (S 47)).2.1) 47 (mtc fa fb (S 41) n q q (S 46) (S 47)).2.2
  | 6 => am_up (mcs2 S (bt fa fb q) n k y) 47 (pel (bt fa fb q) n y n (S 47))
  | _ => mcs2 S (bt fa fb q) n k y
theorem m_chooseNo2 (hk : k < 8) (y : Int32) (h1 : ¬ S 38 6 = 0) (ht : mtb k S y = false) : AW g (d + 1) 0 0 113 0 (am_L0 113 [.ref 38, .int (nI k), .int y]) [] (mem ch S) (am_is (some (.int 0)) (mem ch S)) := by
  match k, hk with
  | 0, _ =>
    cases ht
  | 1, _ =>
    refine am_aload_n rfl rfl rfl ?_
    refine am_get rfl rfl rfl ?_
    refine am_if_eq rfl (fun h => absurd h h1) (fun _ => ?_)
    refine am_iload_n rfl rfl ?_
    refine am_if_lt rfl (fun h => absurd h (by decide)) (fun _ => ?_)
    refine am_iload_n rfl rfl ?_
    refine am_bipush rfl ?_
    refine am_icmp_le rfl (fun _ => ?_) (fun h => absurd (by decide) h)
    refine am_iload_n rfl rfl ?_
    refine am_iconst rfl ?_
    refine am_icmp_eq rfl (fun _ => ?_) (fun h => absurd (by decide) h)
    refine am_iconst rfl ?_
    refine am_goto rfl ?_
    refine am_istore_n rfl ?_
    refine am_iload_n rfl rfl ?_
    refine am_if_eq rfl (fun h => absurd h (by decide)) (fun _ => ?_)
    refine am_aload_n rfl rfl rfl ?_
    refine am_iload_n rfl rfl ?_
    refine am_Vx [.int y] rfl rfl rfl rfl rfl rfl (m_isNode (d := _) y) ?_
    rw [show (decide (0 ≤ y) && decide (y < S 38 0)) = false from ht]
    refine am_if_eq rfl (fun _ => ?_) (fun h => absurd (by decide) h)
    refine am_iconst rfl ?_
    refine am_ireturn rfl (fun _ => by decide) ⟨?_, rfl⟩
    rfl
  | 2, _ =>
    refine am_aload_n rfl rfl rfl ?_
    refine am_get rfl rfl rfl ?_
    refine am_if_eq rfl (fun h => absurd h h1) (fun _ => ?_)
    refine am_iload_n rfl rfl ?_
    refine am_if_lt rfl (fun h => absurd h (by decide)) (fun _ => ?_)
    refine am_iload_n rfl rfl ?_
    refine am_bipush rfl ?_
    refine am_icmp_le rfl (fun _ => ?_) (fun h => absurd (by decide) h)
    refine am_iload_n rfl rfl ?_
    refine am_iconst rfl ?_
    refine am_icmp_eq rfl (fun h => absurd h (by decide)) (fun _ => ?_)
    refine am_iload_n rfl rfl ?_
    refine am_iconst rfl ?_
    refine am_icmp_eq rfl (fun _ => ?_) (fun h => absurd (by decide) h)
    refine am_iconst rfl ?_
    refine am_goto rfl ?_
    refine am_istore_n rfl ?_
    refine am_iload_n rfl rfl ?_
    refine am_if_eq rfl (fun h => absurd h (by decide)) (fun _ => ?_)
    refine am_aload_n rfl rfl rfl ?_
    refine am_iload_n rfl rfl ?_
    refine am_Vx [.int y] rfl rfl rfl rfl rfl rfl (m_isNode (d := _) y) ?_
    rw [show (decide (0 ≤ y) && decide (y < S 38 0)) = false from ht]
    refine am_if_eq rfl (fun _ => ?_) (fun h => absurd (by decide) h)
    refine am_iconst rfl ?_
    refine am_ireturn rfl (fun _ => by decide) ⟨?_, rfl⟩
    rfl
  | 3, _ =>
    refine am_aload_n rfl rfl rfl ?_
    refine am_get rfl rfl rfl ?_
    refine am_if_eq rfl (fun h => absurd h h1) (fun _ => ?_)
    refine am_iload_n rfl rfl ?_
    refine am_if_lt rfl (fun h => absurd h (by decide)) (fun _ => ?_)
    refine am_iload_n rfl rfl ?_
    refine am_bipush rfl ?_
    refine am_icmp_le rfl (fun _ => ?_) (fun h => absurd (by decide) h)
    refine am_iload_n rfl rfl ?_
    refine am_iconst rfl ?_
    refine am_icmp_eq rfl (fun h => absurd h (by decide)) (fun _ => ?_)
    refine am_iload_n rfl rfl ?_
    refine am_iconst rfl ?_
    refine am_icmp_eq rfl (fun h => absurd h (by decide)) (fun _ => ?_)
    refine am_iload_n rfl rfl ?_
    refine am_iconst rfl ?_
    refine am_icmp_eq rfl (fun _ => ?_) (fun h => absurd (by decide) h)
    refine am_iconst rfl ?_
    refine am_goto rfl ?_
    refine am_istore_n rfl ?_
    refine am_iload_n rfl rfl ?_
    refine am_if_eq rfl (fun h => absurd h (by decide)) (fun _ => ?_)
    refine am_aload_n rfl rfl rfl ?_
    refine am_iload_n rfl rfl ?_
    refine am_Vx [.int y] rfl rfl rfl rfl rfl rfl (m_isNode (d := _) y) ?_
    rw [show (decide (0 ≤ y) && decide (y < S 38 0)) = false from ht]
    refine am_if_eq rfl (fun _ => ?_) (fun h => absurd (by decide) h)
    refine am_iconst rfl ?_
    refine am_ireturn rfl (fun _ => by decide) ⟨?_, rfl⟩
    rfl
  | 4, _ =>
    cases ht
  | 5, _ =>
    cases ht
  | 6, _ =>
    refine am_aload_n rfl rfl rfl ?_
    refine am_get rfl rfl rfl ?_
    refine am_if_eq rfl (fun h => absurd h h1) (fun _ => ?_)
    refine am_iload_n rfl rfl ?_
    refine am_if_lt rfl (fun h => absurd h (by decide)) (fun _ => ?_)
    refine am_iload_n rfl rfl ?_
    refine am_bipush rfl ?_
    refine am_icmp_le rfl (fun _ => ?_) (fun h => absurd (by decide) h)
    refine am_iload_n rfl rfl ?_
    refine am_iconst rfl ?_
    refine am_icmp_eq rfl (fun h => absurd h (by decide)) (fun _ => ?_)
    refine am_iload_n rfl rfl ?_
    refine am_iconst rfl ?_
    refine am_icmp_eq rfl (fun h => absurd h (by decide)) (fun _ => ?_)
    refine am_iload_n rfl rfl ?_
    refine am_iconst rfl ?_
    refine am_icmp_eq rfl (fun h => absurd h (by decide)) (fun _ => ?_)
    refine am_iload_n rfl rfl ?_
    refine am_bipush rfl ?_
    refine am_icmp_ne rfl (fun _ => ?_) (fun h => absurd h (by decide))
    refine am_iconst rfl ?_
    refine am_istore_n rfl ?_
    refine am_iload_n rfl rfl ?_
    refine am_if_eq rfl (fun _ => ?_) (fun h => absurd (by decide) h)
    refine am_iload_n rfl rfl ?_
    refine am_bipush rfl ?_
    refine am_icmp_ne rfl (fun h => absurd (by decide) h) (fun _ => ?_)
    refine am_iload_n rfl rfl ?_
    refine am_iconst rfl ?_
    refine am_icmp_lt rfl (fun h37 => ?_) (fun h37 => ?_)
    · refine am_iconst rfl ?_
      refine am_ireturn rfl (fun _ => by decide) ⟨?_, rfl⟩
      rfl
    · refine am_iload_n rfl rfl ?_
      refine am_bipush rfl ?_
      refine am_icmp_le rfl (fun h40 => ?_) (fun h40 => ?_)
      · exfalso
        simp only [mtb, decide_eq_true (Int32.not_lt.mp h37), decide_eq_true h40, Bool.and_self] at ht
        cases ht
      · refine am_iconst rfl ?_
        refine am_ireturn rfl (fun _ => by decide) ⟨?_, rfl⟩
        rfl
  | 7, _ =>
    refine am_aload_n rfl rfl rfl ?_
    refine am_get rfl rfl rfl ?_
    refine am_if_eq rfl (fun h => absurd h h1) (fun _ => ?_)
    refine am_iload_n rfl rfl ?_
    refine am_if_lt rfl (fun h => absurd h (by decide)) (fun _ => ?_)
    refine am_iload_n rfl rfl ?_
    refine am_bipush rfl ?_
    refine am_icmp_le rfl (fun _ => ?_) (fun h => absurd (by decide) h)
    refine am_iload_n rfl rfl ?_
    refine am_iconst rfl ?_
    refine am_icmp_eq rfl (fun h => absurd h (by decide)) (fun _ => ?_)
    refine am_iload_n rfl rfl ?_
    refine am_iconst rfl ?_
    refine am_icmp_eq rfl (fun h => absurd h (by decide)) (fun _ => ?_)
    refine am_iload_n rfl rfl ?_
    refine am_iconst rfl ?_
    refine am_icmp_eq rfl (fun h => absurd h (by decide)) (fun _ => ?_)
    refine am_iload_n rfl rfl ?_
    refine am_bipush rfl ?_
    refine am_icmp_ne rfl (fun h => absurd (by decide) h) (fun _ => ?_)
    refine am_iconst rfl ?_
    refine am_goto rfl ?_
    refine am_istore_n rfl ?_
    refine am_iload_n rfl rfl ?_
    refine am_if_eq rfl (fun h => absurd h (by decide)) (fun _ => ?_)
    refine am_aload_n rfl rfl rfl ?_
    refine am_iload_n rfl rfl ?_
    refine am_Vx [.int y] rfl rfl rfl rfl rfl rfl (m_isNode (d := _) y) ?_
    rw [show (decide (0 ≤ y) && decide (y < S 38 0)) = false from ht]
    refine am_if_eq rfl (fun _ => ?_) (fun h => absurd (by decide) h)
    refine am_iconst rfl ?_
    refine am_ireturn rfl (fun _ => by decide) ⟨?_, rfl⟩
    rfl
  | k + 8, hk => exact absurd hk (by omega)
theorem m_chooseYes (hk : k < 8) (N : MN S n q fa fb) (y : Int32) (h1 : ¬ S 38 6 = 0) (ht : mtb k S y = true) (hr : k = 1 ∨ k = 2 ∨ k = 3 ∨ k = 7 → rt < n ∧ y = nI rt) (hT : k = 2 ∨ k = 3 → Rk (mpr fa fb q n (mdist (bt fa fb q) n (S 43)) rt) n rk) (hp : k = 4 → ∀ j, j < n → (pkv (S 42) (pck (bt fa fb q) (S 42) n j (S 46) (S 47)).1 n).isSome = true) (hm : k = 5 → (∀ j, j < q → (itr (mt1 (S 41) (mtc fa fb (S 41) n q j (S 46) (S 47)).1) q none).isSome = true) ∧ ∀ j, j < q → ∀ l, (mtc fa fb (S 41) n q j (S 46) (S 47)).1 = some l → l < q) : AW g (d + 4) 0 0 113 0 (am_L0 113 [.ref 38, .int (nI k), .int y]) [] (mem ch S) (am_is (some (.int 1)) (mem ch (mcs S n q fa fb rt k y))) := by
  match k, hk with
  | 0, _ =>
    refine am_aload_n rfl rfl rfl ?_
    refine am_get rfl rfl rfl ?_
    refine am_if_eq rfl (fun h => absurd h h1) (fun _ => ?_)
    refine am_iload_n rfl rfl ?_
    refine am_if_lt rfl (fun h => absurd h (by decide)) (fun _ => ?_)
    refine am_iload_n rfl rfl ?_
    refine am_bipush rfl ?_
    refine am_icmp_le rfl (fun _ => ?_) (fun h => absurd (by decide) h)
    refine am_iload_n rfl rfl ?_
    refine am_iconst rfl ?_
    refine am_icmp_eq rfl (fun h => absurd h (by decide)) (fun _ => ?_)
    refine am_iload_n rfl rfl ?_
    refine am_iconst rfl ?_
    refine am_icmp_eq rfl (fun h => absurd h (by decide)) (fun _ => ?_)
    refine am_iload_n rfl rfl ?_
    refine am_iconst rfl ?_
    refine am_icmp_eq rfl (fun h => absurd h (by decide)) (fun _ => ?_)
    refine am_iload_n rfl rfl ?_
    refine am_bipush rfl ?_
    refine am_icmp_ne rfl (fun _ => ?_) (fun h => absurd h (by decide))
    refine am_iconst rfl ?_
    refine am_istore_n rfl ?_
    refine am_iload_n rfl rfl ?_
    refine am_if_eq rfl (fun _ => ?_) (fun h => absurd (by decide) h)
    refine am_iload_n rfl rfl ?_
    refine am_bipush rfl ?_
    refine am_icmp_ne rfl (fun _ => ?_) (fun h => absurd h (by decide))
    refine am_aload_n rfl rfl rfl ?_
    refine am_iload_n rfl rfl ?_
    refine am_put rfl rfl (Nat.le_of_ble_eq_true rfl) rfl ?_
    refine am_aload_n rfl rfl rfl ?_
    refine am_iload_n rfl rfl ?_
    refine am_put rfl rfl (Nat.le_of_ble_eq_true rfl) rfl ?_
    refine am_aload_n rfl rfl rfl ?_
    refine am_iconst rfl ?_
    refine am_put rfl rfl (Nat.le_of_ble_eq_true rfl) rfl ?_
    refine am_aload_n rfl rfl rfl ?_
    refine am_iconst rfl ?_
    refine am_put rfl rfl (Nat.le_of_ble_eq_true rfl) rfl ?_
    refine am_Meq (M' := mem ch (mcs1 S 0 y)) rfl ?_
    refine am_aload_n rfl rfl rfl ?_
    refine am_Vx [] rfl rfl rfl rfl rfl rfl (m_measure (d := _) (N.eq (S1 := mcs1 S 0 y) rfl rfl rfl rfl)) ?_
    refine am_Meq (M' := mem ch (mcs2 S (bt fa fb q) n 0 y)) rfl ?_
    refine am_aload_n rfl rfl rfl ?_
    refine am_get rfl rfl rfl ?_
    show AW g _ 0 0 113 59 _ (.int (nI 0) :: _) _ _
    refine am_iconst rfl ?_
    refine am_icmp_eq rfl (fun h => absurd h (by decide)) (fun _ => ?_)
    refine am_aload_n rfl rfl rfl ?_
    refine am_get rfl rfl rfl ?_
    show AW g _ 0 0 113 63 _ (.int (nI 0) :: _) _ _
    refine am_iconst rfl ?_
    refine am_icmp_ne rfl (fun _ => ?_) (fun h => absurd h (by decide))
    refine am_aload_n rfl rfl rfl ?_
    refine am_get rfl rfl rfl ?_
    show AW g _ 0 0 113 70 _ (.int (nI 0) :: _) _ _
    refine am_iconst rfl ?_
    refine am_icmp_ne rfl (fun _ => ?_) (fun h => absurd h (by decide))
    refine am_aload_n rfl rfl rfl ?_
    refine am_get rfl rfl rfl ?_
    show AW g _ 0 0 113 77 _ (.int (nI 0) :: _) _ _
    refine am_iconst rfl ?_
    refine am_icmp_ne rfl (fun _ => ?_) (fun h => absurd h (by decide))
    refine am_aload_n rfl rfl rfl ?_
    refine am_get rfl rfl rfl ?_
    show AW g _ 0 0 113 84 _ (.int (nI 0) :: _) _ _
    refine am_bipush rfl ?_
    refine am_icmp_ne rfl (fun _ => ?_) (fun h => absurd h (by decide))
    refine am_iconst rfl ?_
    exact am_ireturn rfl (fun _ => by decide) ⟨rfl, rfl⟩
  | 1, _ =>
    refine am_aload_n rfl rfl rfl ?_
    refine am_get rfl rfl rfl ?_
    refine am_if_eq rfl (fun h => absurd h h1) (fun _ => ?_)
    refine am_iload_n rfl rfl ?_
    refine am_if_lt rfl (fun h => absurd h (by decide)) (fun _ => ?_)
    refine am_iload_n rfl rfl ?_
    refine am_bipush rfl ?_
    refine am_icmp_le rfl (fun _ => ?_) (fun h => absurd (by decide) h)
    refine am_iload_n rfl rfl ?_
    refine am_iconst rfl ?_
    refine am_icmp_eq rfl (fun _ => ?_) (fun h => absurd (by decide) h)
    refine am_iconst rfl ?_
    refine am_goto rfl ?_
    refine am_istore_n rfl ?_
    refine am_iload_n rfl rfl ?_
    refine am_if_eq rfl (fun h => absurd h (by decide)) (fun _ => ?_)
    refine am_aload_n rfl rfl rfl ?_
    refine am_iload_n rfl rfl ?_
    refine am_Vx [.int y] rfl rfl rfl rfl rfl rfl (m_isNode (d := _) y) ?_
    rw [show (decide (0 ≤ y) && decide (y < S 38 0)) = true from ht]
    refine am_if_eq rfl (fun h => absurd h (by decide)) (fun _ => ?_)
    refine am_iload_n rfl rfl ?_
    refine am_bipush rfl ?_
    refine am_icmp_ne rfl (fun _ => ?_) (fun h => absurd h (by decide))
    refine am_aload_n rfl rfl rfl ?_
    refine am_iload_n rfl rfl ?_
    refine am_put rfl rfl (Nat.le_of_ble_eq_true rfl) rfl ?_
    refine am_aload_n rfl rfl rfl ?_
    refine am_iload_n rfl rfl ?_
    refine am_put rfl rfl (Nat.le_of_ble_eq_true rfl) rfl ?_
    refine am_aload_n rfl rfl rfl ?_
    refine am_iconst rfl ?_
    refine am_put rfl rfl (Nat.le_of_ble_eq_true rfl) rfl ?_
    refine am_aload_n rfl rfl rfl ?_
    refine am_iconst rfl ?_
    refine am_put rfl rfl (Nat.le_of_ble_eq_true rfl) rfl ?_
    refine am_Meq (M' := mem ch (mcs1 S 1 y)) rfl ?_
    refine am_aload_n rfl rfl rfl ?_
    refine am_Vx [] rfl rfl rfl rfl rfl rfl (m_measure (d := _) (N.eq (S1 := mcs1 S 1 y) rfl rfl rfl rfl)) ?_
    refine am_Meq (M' := mem ch (mcs2 S (bt fa fb q) n 1 y)) rfl ?_
    refine am_aload_n rfl rfl rfl ?_
    refine am_get rfl rfl rfl ?_
    show AW g _ 0 0 113 59 _ (.int (nI 1) :: _) _ _
    refine am_iconst rfl ?_
    refine am_icmp_eq rfl (fun h => absurd h (by decide)) (fun _ => ?_)
    refine am_aload_n rfl rfl rfl ?_
    refine am_get rfl rfl rfl ?_
    show AW g _ 0 0 113 63 _ (.int (nI 1) :: _) _ _
    refine am_iconst rfl ?_
    refine am_icmp_ne rfl (fun _ => ?_) (fun h => absurd h (by decide))
    refine am_aload_n rfl rfl rfl ?_
    refine am_get rfl rfl rfl ?_
    show AW g _ 0 0 113 70 _ (.int (nI 1) :: _) _ _
    refine am_iconst rfl ?_
    refine am_icmp_ne rfl (fun _ => ?_) (fun h => absurd h (by decide))
    refine am_aload_n rfl rfl rfl ?_
    refine am_get rfl rfl rfl ?_
    show AW g _ 0 0 113 77 _ (.int (nI 1) :: _) _ _
    refine am_iconst rfl ?_
    refine am_icmp_ne rfl (fun _ => ?_) (fun h => absurd h (by decide))
    refine am_aload_n rfl rfl rfl ?_
    refine am_get rfl rfl rfl ?_
    show AW g _ 0 0 113 84 _ (.int (nI 1) :: _) _ _
    refine am_bipush rfl ?_
    refine am_icmp_ne rfl (fun _ => ?_) (fun h => absurd h (by decide))
    refine am_iconst rfl ?_
    exact am_ireturn rfl (fun _ => by decide) ⟨rfl, rfl⟩
  | 2, _ =>
    refine am_aload_n rfl rfl rfl ?_
    refine am_get rfl rfl rfl ?_
    refine am_if_eq rfl (fun h => absurd h h1) (fun _ => ?_)
    refine am_iload_n rfl rfl ?_
    refine am_if_lt rfl (fun h => absurd h (by decide)) (fun _ => ?_)
    refine am_iload_n rfl rfl ?_
    refine am_bipush rfl ?_
    refine am_icmp_le rfl (fun _ => ?_) (fun h => absurd (by decide) h)
    refine am_iload_n rfl rfl ?_
    refine am_iconst rfl ?_
    refine am_icmp_eq rfl (fun h => absurd h (by decide)) (fun _ => ?_)
    refine am_iload_n rfl rfl ?_
    refine am_iconst rfl ?_
    refine am_icmp_eq rfl (fun _ => ?_) (fun h => absurd (by decide) h)
    refine am_iconst rfl ?_
    refine am_goto rfl ?_
    refine am_istore_n rfl ?_
    refine am_iload_n rfl rfl ?_
    refine am_if_eq rfl (fun h => absurd h (by decide)) (fun _ => ?_)
    refine am_aload_n rfl rfl rfl ?_
    refine am_iload_n rfl rfl ?_
    refine am_Vx [.int y] rfl rfl rfl rfl rfl rfl (m_isNode (d := _) y) ?_
    rw [show (decide (0 ≤ y) && decide (y < S 38 0)) = true from ht]
    refine am_if_eq rfl (fun h => absurd h (by decide)) (fun _ => ?_)
    refine am_iload_n rfl rfl ?_
    refine am_bipush rfl ?_
    refine am_icmp_ne rfl (fun _ => ?_) (fun h => absurd h (by decide))
    refine am_aload_n rfl rfl rfl ?_
    refine am_iload_n rfl rfl ?_
    refine am_put rfl rfl (Nat.le_of_ble_eq_true rfl) rfl ?_
    refine am_aload_n rfl rfl rfl ?_
    refine am_iload_n rfl rfl ?_
    refine am_put rfl rfl (Nat.le_of_ble_eq_true rfl) rfl ?_
    refine am_aload_n rfl rfl rfl ?_
    refine am_iconst rfl ?_
    refine am_put rfl rfl (Nat.le_of_ble_eq_true rfl) rfl ?_
    refine am_aload_n rfl rfl rfl ?_
    refine am_iconst rfl ?_
    refine am_put rfl rfl (Nat.le_of_ble_eq_true rfl) rfl ?_
    refine am_Meq (M' := mem ch (mcs1 S 2 y)) rfl ?_
    refine am_aload_n rfl rfl rfl ?_
    refine am_Vx [] rfl rfl rfl rfl rfl rfl (m_measure (d := _) (N.eq (S1 := mcs1 S 2 y) rfl rfl rfl rfl)) ?_
    refine am_Meq (M' := mem ch (mcs2 S (bt fa fb q) n 2 y)) rfl ?_
    refine am_aload_n rfl rfl rfl ?_
    refine am_get rfl rfl rfl ?_
    show AW g _ 0 0 113 59 _ (.int (nI 2) :: _) _ _
    refine am_iconst rfl ?_
    refine am_icmp_eq rfl (fun _ => ?_) (fun h => absurd (by decide) h)
    refine am_aload_n rfl rfl rfl ?_
    refine am_Vx [] rfl rfl rfl rfl rfl rfl (m_plant (d := _) (N.eq (S1 := mcs2 S (bt fa fb q) n 2 y) rfl rfl rfl rfl) rt (hr (by decide)).1 (hr (by decide)).2 (hT (by decide))) ?_
    refine am_goto rfl ?_
    refine am_iconst rfl ?_
    exact am_ireturn rfl (fun _ => by decide) ⟨rfl, rfl⟩
  | 3, _ =>
    refine am_aload_n rfl rfl rfl ?_
    refine am_get rfl rfl rfl ?_
    refine am_if_eq rfl (fun h => absurd h h1) (fun _ => ?_)
    refine am_iload_n rfl rfl ?_
    refine am_if_lt rfl (fun h => absurd h (by decide)) (fun _ => ?_)
    refine am_iload_n rfl rfl ?_
    refine am_bipush rfl ?_
    refine am_icmp_le rfl (fun _ => ?_) (fun h => absurd (by decide) h)
    refine am_iload_n rfl rfl ?_
    refine am_iconst rfl ?_
    refine am_icmp_eq rfl (fun h => absurd h (by decide)) (fun _ => ?_)
    refine am_iload_n rfl rfl ?_
    refine am_iconst rfl ?_
    refine am_icmp_eq rfl (fun h => absurd h (by decide)) (fun _ => ?_)
    refine am_iload_n rfl rfl ?_
    refine am_iconst rfl ?_
    refine am_icmp_eq rfl (fun _ => ?_) (fun h => absurd (by decide) h)
    refine am_iconst rfl ?_
    refine am_goto rfl ?_
    refine am_istore_n rfl ?_
    refine am_iload_n rfl rfl ?_
    refine am_if_eq rfl (fun h => absurd h (by decide)) (fun _ => ?_)
    refine am_aload_n rfl rfl rfl ?_
    refine am_iload_n rfl rfl ?_
    refine am_Vx [.int y] rfl rfl rfl rfl rfl rfl (m_isNode (d := _) y) ?_
    rw [show (decide (0 ≤ y) && decide (y < S 38 0)) = true from ht]
    refine am_if_eq rfl (fun h => absurd h (by decide)) (fun _ => ?_)
    refine am_iload_n rfl rfl ?_
    refine am_bipush rfl ?_
    refine am_icmp_ne rfl (fun _ => ?_) (fun h => absurd h (by decide))
    refine am_aload_n rfl rfl rfl ?_
    refine am_iload_n rfl rfl ?_
    refine am_put rfl rfl (Nat.le_of_ble_eq_true rfl) rfl ?_
    refine am_aload_n rfl rfl rfl ?_
    refine am_iload_n rfl rfl ?_
    refine am_put rfl rfl (Nat.le_of_ble_eq_true rfl) rfl ?_
    refine am_aload_n rfl rfl rfl ?_
    refine am_iconst rfl ?_
    refine am_put rfl rfl (Nat.le_of_ble_eq_true rfl) rfl ?_
    refine am_aload_n rfl rfl rfl ?_
    refine am_iconst rfl ?_
    refine am_put rfl rfl (Nat.le_of_ble_eq_true rfl) rfl ?_
    refine am_Meq (M' := mem ch (mcs1 S 3 y)) rfl ?_
    refine am_aload_n rfl rfl rfl ?_
    refine am_Vx [] rfl rfl rfl rfl rfl rfl (m_measure (d := _) (N.eq (S1 := mcs1 S 3 y) rfl rfl rfl rfl)) ?_
    refine am_Meq (M' := mem ch (mcs2 S (bt fa fb q) n 3 y)) rfl ?_
    refine am_aload_n rfl rfl rfl ?_
    refine am_get rfl rfl rfl ?_
    show AW g _ 0 0 113 59 _ (.int (nI 3) :: _) _ _
    refine am_iconst rfl ?_
    refine am_icmp_eq rfl (fun h => absurd h (by decide)) (fun _ => ?_)
    refine am_aload_n rfl rfl rfl ?_
    refine am_get rfl rfl rfl ?_
    show AW g _ 0 0 113 63 _ (.int (nI 3) :: _) _ _
    refine am_iconst rfl ?_
    refine am_icmp_ne rfl (fun h => absurd (by decide) h) (fun _ => ?_)
    refine am_aload_n rfl rfl rfl ?_
    refine am_Vx [] rfl rfl rfl rfl rfl rfl (m_plant (d := _) (N.eq (S1 := mcs2 S (bt fa fb q) n 3 y) rfl rfl rfl rfl) rt (hr (by decide)).1 (hr (by decide)).2 (hT (by decide))) ?_
    refine am_goto rfl ?_
    refine am_iconst rfl ?_
    exact am_ireturn rfl (fun _ => by decide) ⟨rfl, rfl⟩
  | 4, _ =>
    refine am_aload_n rfl rfl rfl ?_
    refine am_get rfl rfl rfl ?_
    refine am_if_eq rfl (fun h => absurd h h1) (fun _ => ?_)
    refine am_iload_n rfl rfl ?_
    refine am_if_lt rfl (fun h => absurd h (by decide)) (fun _ => ?_)
    refine am_iload_n rfl rfl ?_
    refine am_bipush rfl ?_
    refine am_icmp_le rfl (fun _ => ?_) (fun h => absurd (by decide) h)
    refine am_iload_n rfl rfl ?_
    refine am_iconst rfl ?_
    refine am_icmp_eq rfl (fun h => absurd h (by decide)) (fun _ => ?_)
    refine am_iload_n rfl rfl ?_
    refine am_iconst rfl ?_
    refine am_icmp_eq rfl (fun h => absurd h (by decide)) (fun _ => ?_)
    refine am_iload_n rfl rfl ?_
    refine am_iconst rfl ?_
    refine am_icmp_eq rfl (fun h => absurd h (by decide)) (fun _ => ?_)
    refine am_iload_n rfl rfl ?_
    refine am_bipush rfl ?_
    refine am_icmp_ne rfl (fun _ => ?_) (fun h => absurd h (by decide))
    refine am_iconst rfl ?_
    refine am_istore_n rfl ?_
    refine am_iload_n rfl rfl ?_
    refine am_if_eq rfl (fun _ => ?_) (fun h => absurd (by decide) h)
    refine am_iload_n rfl rfl ?_
    refine am_bipush rfl ?_
    refine am_icmp_ne rfl (fun _ => ?_) (fun h => absurd h (by decide))
    refine am_aload_n rfl rfl rfl ?_
    refine am_iload_n rfl rfl ?_
    refine am_put rfl rfl (Nat.le_of_ble_eq_true rfl) rfl ?_
    refine am_aload_n rfl rfl rfl ?_
    refine am_iload_n rfl rfl ?_
    refine am_put rfl rfl (Nat.le_of_ble_eq_true rfl) rfl ?_
    refine am_aload_n rfl rfl rfl ?_
    refine am_iconst rfl ?_
    refine am_put rfl rfl (Nat.le_of_ble_eq_true rfl) rfl ?_
    refine am_aload_n rfl rfl rfl ?_
    refine am_iconst rfl ?_
    refine am_put rfl rfl (Nat.le_of_ble_eq_true rfl) rfl ?_
    refine am_Meq (M' := mem ch (mcs1 S 4 y)) rfl ?_
    refine am_aload_n rfl rfl rfl ?_
    refine am_Vx [] rfl rfl rfl rfl rfl rfl (m_measure (d := _) (N.eq (S1 := mcs1 S 4 y) rfl rfl rfl rfl)) ?_
    refine am_Meq (M' := mem ch (mcs2 S (bt fa fb q) n 4 y)) rfl ?_
    refine am_aload_n rfl rfl rfl ?_
    refine am_get rfl rfl rfl ?_
    show AW g _ 0 0 113 59 _ (.int (nI 4) :: _) _ _
    refine am_iconst rfl ?_
    refine am_icmp_eq rfl (fun h => absurd h (by decide)) (fun _ => ?_)
    refine am_aload_n rfl rfl rfl ?_
    refine am_get rfl rfl rfl ?_
    show AW g _ 0 0 113 63 _ (.int (nI 4) :: _) _ _
    refine am_iconst rfl ?_
    refine am_icmp_ne rfl (fun _ => ?_) (fun h => absurd h (by decide))
    refine am_aload_n rfl rfl rfl ?_
    refine am_get rfl rfl rfl ?_
    show AW g _ 0 0 113 70 _ (.int (nI 4) :: _) _ _
    refine am_iconst rfl ?_
    refine am_icmp_ne rfl (fun h => absurd (by decide) h) (fun _ => ?_)
    refine am_aload_n rfl rfl rfl ?_
    refine am_Vx [] rfl rfl rfl rfl rfl rfl (m_pick (d := _) (N.eq (S1 := mcs2 S (bt fa fb q) n 4 y) rfl rfl rfl rfl) (hp rfl)) ?_
    refine am_goto rfl ?_
    refine am_iconst rfl ?_
    exact am_ireturn rfl (fun _ => by decide) ⟨rfl, rfl⟩
  | 5, _ =>
    refine am_aload_n rfl rfl rfl ?_
    refine am_get rfl rfl rfl ?_
    refine am_if_eq rfl (fun h => absurd h h1) (fun _ => ?_)
    refine am_iload_n rfl rfl ?_
    refine am_if_lt rfl (fun h => absurd h (by decide)) (fun _ => ?_)
    refine am_iload_n rfl rfl ?_
    refine am_bipush rfl ?_
    refine am_icmp_le rfl (fun _ => ?_) (fun h => absurd (by decide) h)
    refine am_iload_n rfl rfl ?_
    refine am_iconst rfl ?_
    refine am_icmp_eq rfl (fun h => absurd h (by decide)) (fun _ => ?_)
    refine am_iload_n rfl rfl ?_
    refine am_iconst rfl ?_
    refine am_icmp_eq rfl (fun h => absurd h (by decide)) (fun _ => ?_)
    refine am_iload_n rfl rfl ?_
    refine am_iconst rfl ?_
    refine am_icmp_eq rfl (fun h => absurd h (by decide)) (fun _ => ?_)
    refine am_iload_n rfl rfl ?_
    refine am_bipush rfl ?_
    refine am_icmp_ne rfl (fun _ => ?_) (fun h => absurd h (by decide))
    refine am_iconst rfl ?_
    refine am_istore_n rfl ?_
    refine am_iload_n rfl rfl ?_
    refine am_if_eq rfl (fun _ => ?_) (fun h => absurd (by decide) h)
    refine am_iload_n rfl rfl ?_
    refine am_bipush rfl ?_
    refine am_icmp_ne rfl (fun _ => ?_) (fun h => absurd h (by decide))
    refine am_aload_n rfl rfl rfl ?_
    refine am_iload_n rfl rfl ?_
    refine am_put rfl rfl (Nat.le_of_ble_eq_true rfl) rfl ?_
    refine am_aload_n rfl rfl rfl ?_
    refine am_iload_n rfl rfl ?_
    refine am_put rfl rfl (Nat.le_of_ble_eq_true rfl) rfl ?_
    refine am_aload_n rfl rfl rfl ?_
    refine am_iconst rfl ?_
    refine am_put rfl rfl (Nat.le_of_ble_eq_true rfl) rfl ?_
    refine am_aload_n rfl rfl rfl ?_
    refine am_iconst rfl ?_
    refine am_put rfl rfl (Nat.le_of_ble_eq_true rfl) rfl ?_
    refine am_Meq (M' := mem ch (mcs1 S 5 y)) rfl ?_
    refine am_aload_n rfl rfl rfl ?_
    refine am_Vx [] rfl rfl rfl rfl rfl rfl (m_measure (d := _) (N.eq (S1 := mcs1 S 5 y) rfl rfl rfl rfl)) ?_
    refine am_Meq (M' := mem ch (mcs2 S (bt fa fb q) n 5 y)) rfl ?_
    refine am_aload_n rfl rfl rfl ?_
    refine am_get rfl rfl rfl ?_
    show AW g _ 0 0 113 59 _ (.int (nI 5) :: _) _ _
    refine am_iconst rfl ?_
    refine am_icmp_eq rfl (fun h => absurd h (by decide)) (fun _ => ?_)
    refine am_aload_n rfl rfl rfl ?_
    refine am_get rfl rfl rfl ?_
    show AW g _ 0 0 113 63 _ (.int (nI 5) :: _) _ _
    refine am_iconst rfl ?_
    refine am_icmp_ne rfl (fun _ => ?_) (fun h => absurd h (by decide))
    refine am_aload_n rfl rfl rfl ?_
    refine am_get rfl rfl rfl ?_
    show AW g _ 0 0 113 70 _ (.int (nI 5) :: _) _ _
    refine am_iconst rfl ?_
    refine am_icmp_ne rfl (fun _ => ?_) (fun h => absurd h (by decide))
    refine am_aload_n rfl rfl rfl ?_
    refine am_get rfl rfl rfl ?_
    show AW g _ 0 0 113 77 _ (.int (nI 5) :: _) _ _
    refine am_iconst rfl ?_
    refine am_icmp_ne rfl (fun h => absurd (by decide) h) (fun _ => ?_)
    refine am_aload_n rfl rfl rfl ?_
    refine am_Vx [] rfl rfl rfl rfl rfl rfl (m_match (d := _) (N.eq (S1 := mcs2 S (bt fa fb q) n 5 y) rfl rfl rfl rfl) (hm rfl).1 (hm rfl).2) ?_
    refine am_goto rfl ?_
    refine am_iconst rfl ?_
    exact am_ireturn rfl (fun _ => by decide) ⟨rfl, rfl⟩
  | 6, _ =>
    rw [show mtb 6 S y = (decide (1 ≤ y) && decide (y ≤ 12)) from rfl, Bool.and_eq_true, decide_eq_true_eq, decide_eq_true_eq] at ht
    refine am_aload_n rfl rfl rfl ?_
    refine am_get rfl rfl rfl ?_
    refine am_if_eq rfl (fun h => absurd h h1) (fun _ => ?_)
    refine am_iload_n rfl rfl ?_
    refine am_if_lt rfl (fun h => absurd h (by decide)) (fun _ => ?_)
    refine am_iload_n rfl rfl ?_
    refine am_bipush rfl ?_
    refine am_icmp_le rfl (fun _ => ?_) (fun h => absurd (by decide) h)
    refine am_iload_n rfl rfl ?_
    refine am_iconst rfl ?_
    refine am_icmp_eq rfl (fun h => absurd h (by decide)) (fun _ => ?_)
    refine am_iload_n rfl rfl ?_
    refine am_iconst rfl ?_
    refine am_icmp_eq rfl (fun h => absurd h (by decide)) (fun _ => ?_)
    refine am_iload_n rfl rfl ?_
    refine am_iconst rfl ?_
    refine am_icmp_eq rfl (fun h => absurd h (by decide)) (fun _ => ?_)
    refine am_iload_n rfl rfl ?_
    refine am_bipush rfl ?_
    refine am_icmp_ne rfl (fun _ => ?_) (fun h => absurd h (by decide))
    refine am_iconst rfl ?_
    refine am_istore_n rfl ?_
    refine am_iload_n rfl rfl ?_
    refine am_if_eq rfl (fun _ => ?_) (fun h => absurd (by decide) h)
    refine am_iload_n rfl rfl ?_
    refine am_bipush rfl ?_
    refine am_icmp_ne rfl (fun h => absurd (by decide) h) (fun _ => ?_)
    refine am_iload_n rfl rfl ?_
    refine am_iconst rfl ?_
    refine am_icmp_lt rfl (fun h => absurd h (Int32.not_lt.mpr ht.1)) (fun _ => ?_)
    refine am_iload_n rfl rfl ?_
    refine am_bipush rfl ?_
    refine am_icmp_le rfl (fun _ => ?_) (fun h => absurd ht.2 h)
    refine am_aload_n rfl rfl rfl ?_
    refine am_iload_n rfl rfl ?_
    refine am_put rfl rfl (Nat.le_of_ble_eq_true rfl) rfl ?_
    refine am_aload_n rfl rfl rfl ?_
    refine am_iload_n rfl rfl ?_
    refine am_put rfl rfl (Nat.le_of_ble_eq_true rfl) rfl ?_
    refine am_aload_n rfl rfl rfl ?_
    refine am_iconst rfl ?_
    refine am_put rfl rfl (Nat.le_of_ble_eq_true rfl) rfl ?_
    refine am_aload_n rfl rfl rfl ?_
    refine am_iconst rfl ?_
    refine am_put rfl rfl (Nat.le_of_ble_eq_true rfl) rfl ?_
    refine am_Meq (M' := mem ch (mcs1 S 6 y)) rfl ?_
    refine am_aload_n rfl rfl rfl ?_
    refine am_Vx [] rfl rfl rfl rfl rfl rfl (m_measure (d := _) (N.eq (S1 := mcs1 S 6 y) rfl rfl rfl rfl)) ?_
    refine am_Meq (M' := mem ch (mcs2 S (bt fa fb q) n 6 y)) rfl ?_
    refine am_aload_n rfl rfl rfl ?_
    refine am_get rfl rfl rfl ?_
    show AW g _ 0 0 113 59 _ (.int (nI 6) :: _) _ _
    refine am_iconst rfl ?_
    refine am_icmp_eq rfl (fun h => absurd h (by decide)) (fun _ => ?_)
    refine am_aload_n rfl rfl rfl ?_
    refine am_get rfl rfl rfl ?_
    show AW g _ 0 0 113 63 _ (.int (nI 6) :: _) _ _
    refine am_iconst rfl ?_
    refine am_icmp_ne rfl (fun _ => ?_) (fun h => absurd h (by decide))
    refine am_aload_n rfl rfl rfl ?_
    refine am_get rfl rfl rfl ?_
    show AW g _ 0 0 113 70 _ (.int (nI 6) :: _) _ _
    refine am_iconst rfl ?_
    refine am_icmp_ne rfl (fun _ => ?_) (fun h => absurd h (by decide))
    refine am_aload_n rfl rfl rfl ?_
    refine am_get rfl rfl rfl ?_
    show AW g _ 0 0 113 77 _ (.int (nI 6) :: _) _ _
    refine am_iconst rfl ?_
    refine am_icmp_ne rfl (fun _ => ?_) (fun h => absurd h (by decide))
    refine am_aload_n rfl rfl rfl ?_
    refine am_get rfl rfl rfl ?_
    show AW g _ 0 0 113 84 _ (.int (nI 6) :: _) _ _
    refine am_bipush rfl ?_
    refine am_icmp_ne rfl (fun h => absurd (by decide) h) (fun _ => ?_)
    refine am_aload_n rfl rfl rfl ?_
    refine am_Vx [] rfl rfl rfl rfl rfl rfl (m_peel (d := _) (N.eq (S1 := mcs2 S (bt fa fb q) n 6 y) rfl rfl rfl rfl)) ?_
    refine am_iconst rfl ?_
    exact am_ireturn rfl (fun _ => by decide) ⟨rfl, rfl⟩
  | 7, _ =>
    refine am_aload_n rfl rfl rfl ?_
    refine am_get rfl rfl rfl ?_
    refine am_if_eq rfl (fun h => absurd h h1) (fun _ => ?_)
    refine am_iload_n rfl rfl ?_
    refine am_if_lt rfl (fun h => absurd h (by decide)) (fun _ => ?_)
    refine am_iload_n rfl rfl ?_
    refine am_bipush rfl ?_
    refine am_icmp_le rfl (fun _ => ?_) (fun h => absurd (by decide) h)
    refine am_iload_n rfl rfl ?_
    refine am_iconst rfl ?_
    refine am_icmp_eq rfl (fun h => absurd h (by decide)) (fun _ => ?_)
    refine am_iload_n rfl rfl ?_
    refine am_iconst rfl ?_
    refine am_icmp_eq rfl (fun h => absurd h (by decide)) (fun _ => ?_)
    refine am_iload_n rfl rfl ?_
    refine am_iconst rfl ?_
    refine am_icmp_eq rfl (fun h => absurd h (by decide)) (fun _ => ?_)
    refine am_iload_n rfl rfl ?_
    refine am_bipush rfl ?_
    refine am_icmp_ne rfl (fun h => absurd (by decide) h) (fun _ => ?_)
    refine am_iconst rfl ?_
    refine am_goto rfl ?_
    refine am_istore_n rfl ?_
    refine am_iload_n rfl rfl ?_
    refine am_if_eq rfl (fun h => absurd h (by decide)) (fun _ => ?_)
    refine am_aload_n rfl rfl rfl ?_
    refine am_iload_n rfl rfl ?_
    refine am_Vx [.int y] rfl rfl rfl rfl rfl rfl (m_isNode (d := _) y) ?_
    rw [show (decide (0 ≤ y) && decide (y < S 38 0)) = true from ht]
    refine am_if_eq rfl (fun h => absurd h (by decide)) (fun _ => ?_)
    refine am_iload_n rfl rfl ?_
    refine am_bipush rfl ?_
    refine am_icmp_ne rfl (fun _ => ?_) (fun h => absurd h (by decide))
    refine am_aload_n rfl rfl rfl ?_
    refine am_iload_n rfl rfl ?_
    refine am_put rfl rfl (Nat.le_of_ble_eq_true rfl) rfl ?_
    refine am_aload_n rfl rfl rfl ?_
    refine am_iload_n rfl rfl ?_
    refine am_put rfl rfl (Nat.le_of_ble_eq_true rfl) rfl ?_
    refine am_aload_n rfl rfl rfl ?_
    refine am_iconst rfl ?_
    refine am_put rfl rfl (Nat.le_of_ble_eq_true rfl) rfl ?_
    refine am_aload_n rfl rfl rfl ?_
    refine am_iconst rfl ?_
    refine am_put rfl rfl (Nat.le_of_ble_eq_true rfl) rfl ?_
    refine am_Meq (M' := mem ch (mcs1 S 7 y)) rfl ?_
    refine am_aload_n rfl rfl rfl ?_
    refine am_Vx [] rfl rfl rfl rfl rfl rfl (m_measure (d := _) (N.eq (S1 := mcs1 S 7 y) rfl rfl rfl rfl)) ?_
    refine am_Meq (M' := mem ch (mcs2 S (bt fa fb q) n 7 y)) rfl ?_
    refine am_aload_n rfl rfl rfl ?_
    refine am_get rfl rfl rfl ?_
    show AW g _ 0 0 113 59 _ (.int (nI 7) :: _) _ _
    refine am_iconst rfl ?_
    refine am_icmp_eq rfl (fun h => absurd h (by decide)) (fun _ => ?_)
    refine am_aload_n rfl rfl rfl ?_
    refine am_get rfl rfl rfl ?_
    show AW g _ 0 0 113 63 _ (.int (nI 7) :: _) _ _
    refine am_iconst rfl ?_
    refine am_icmp_ne rfl (fun _ => ?_) (fun h => absurd h (by decide))
    refine am_aload_n rfl rfl rfl ?_
    refine am_get rfl rfl rfl ?_
    show AW g _ 0 0 113 70 _ (.int (nI 7) :: _) _ _
    refine am_iconst rfl ?_
    refine am_icmp_ne rfl (fun _ => ?_) (fun h => absurd h (by decide))
    refine am_aload_n rfl rfl rfl ?_
    refine am_get rfl rfl rfl ?_
    show AW g _ 0 0 113 77 _ (.int (nI 7) :: _) _ _
    refine am_iconst rfl ?_
    refine am_icmp_ne rfl (fun _ => ?_) (fun h => absurd h (by decide))
    refine am_aload_n rfl rfl rfl ?_
    refine am_get rfl rfl rfl ?_
    show AW g _ 0 0 113 84 _ (.int (nI 7) :: _) _ _
    refine am_bipush rfl ?_
    refine am_icmp_ne rfl (fun _ => ?_) (fun h => absurd h (by decide))
    refine am_iconst rfl ?_
    exact am_ireturn rfl (fun _ => by decide) ⟨rfl, rfl⟩
  | k + 8, hk => exact absurd hk (by omega)
end MM11
end
section
/-! the constructors -/
def Z0 : am_S0 := fun _ _ => 0
def memN (c0 c1 : am_C) (S : am_S0) : am_M := [c0, c1, .inr (2, [.ref 3, .ref 4, .ref 5, .ref 18, .int (S 2 4), .int (S 2 5)]), .inl (0, 12, .inl (S 3)), .inl (0, 24, .inl (S 4)), .inl (2, 12, .inr fun j => if j < 12 then some (6 + j) else none), .inl (0, 12, .inl (S 6)), .inl (0, 12, .inl (S 7)), .inl (0, 12, .inl (S 8)), .inl (0, 12, .inl (S 9)), .inl (0, 12, .inl (S 10)), .inl (0, 12, .inl (S 11)), .inl (0, 12, .inl (S 12)), .inl (0, 12, .inl (S 13)), .inl (0, 12, .inl (S 14)), .inl (0, 12, .inl (S 15)), .inl (0, 12, .inl (S 16)), .inl (0, 12, .inl (S 17)), .inl (0, 12, .inl (S 18))]
def memC (c0 : am_C) (S : am_S0) : am_M := [c0, .inr (1, [.ref 2, .ref 19, .ref 23, .ref 27, .ref 28, .int (S 1 5), .int (S 1 6), .int (S 1 7)]), .inr (2, [.ref 3, .ref 4, .ref 5, .ref 18, .int (S 2 4), .int (S 2 5)]), .inl (0, 12, .inl (S 3)), .inl (0, 24, .inl (S 4)), .inl (2, 12, .inr fun j => if j < 12 then some (6 + j) else none), .inl (0, 12, .inl (S 6)), .inl (0, 12, .inl (S 7)), .inl (0, 12, .inl (S 8)), .inl (0, 12, .inl (S 9)), .inl (0, 12, .inl (S 10)), .inl (0, 12, .inl (S 11)), .inl (0, 12, .inl (S 12)), .inl (0, 12, .inl (S 13)), .inl (0, 12, .inl (S 14)), .inl (0, 12, .inl (S 15)), .inl (0, 12, .inl (S 16)), .inl (0, 12, .inl (S 17)), .inl (0, 12, .inl (S 18)), .inl (2, 3, .inr fun j => if j < 3 then some (20 + j) else none), .inl (0, 12, .inl (S 20)), .inl (0, 12, .inl (S 21)), .inl (0, 12, .inl (S 22)), .inl (2, 3, .inr fun j => if j < 3 then some (24 + j) else none), .inl (0, 12, .inl (S 24)), .inl (0, 12, .inl (S 25)), .inl (0, 12, .inl (S 26)), .inl (1, 12, .inl (S 27)), .inl (0, 12, .inl (S 28))]
def memB (ch : Option Nat) (S : am_S0) : am_M := [.inr (0, [.ref 1, .ref 29, am_ch ch, .int (S 0 3)]), .inr (1, [.ref 2, .ref 19, .ref 23, .ref 27, .ref 28, .int (S 1 5), .int (S 1 6), .int (S 1 7)]), .inr (2, [.ref 3, .ref 4, .ref 5, .ref 18, .int (S 2 4), .int (S 2 5)]), .inl (0, 12, .inl (S 3)), .inl (0, 24, .inl (S 4)), .inl (2, 12, .inr fun j => if j < 12 then some (6 + j) else none), .inl (0, 12, .inl (S 6)), .inl (0, 12, .inl (S 7)), .inl (0, 12, .inl (S 8)), .inl (0, 12, .inl (S 9)), .inl (0, 12, .inl (S 10)), .inl (0, 12, .inl (S 11)), .inl (0, 12, .inl (S 12)), .inl (0, 12, .inl (S 13)), .inl (0, 12, .inl (S 14)), .inl (0, 12, .inl (S 15)), .inl (0, 12, .inl (S 16)), .inl (0, 12, .inl (S 17)), .inl (0, 12, .inl (S 18)), .inl (2, 3, .inr fun j => if j < 3 then some (20 + j) else none), .inl (0, 12, .inl (S 20)), .inl (0, 12, .inl (S 21)), .inl (0, 12, .inl (S 22)), .inl (2, 3, .inr fun j => if j < 3 then some (24 + j) else none), .inl (0, 12, .inl (S 24)), .inl (0, 12, .inl (S 25)), .inl (0, 12, .inl (S 26)), .inl (1, 12, .inl (S 27)), .inl (0, 12, .inl (S 28)), .inl (3, 8, .inr fun j => if j < 8 then some (30 + j) else none), .inr (3, []), .inr (4, []), .inr (5, []), .inr (6, []), .inr (7, []), .inr (8, []), .inr (9, []), .inr (10, [])]
theorem memN_eb {c0 c1 : am_C} {S : am_S0} : ∀ v : Nat, v < 12 → (memN c0 c1 S)[6 + v]? = some (.inl (0, 12, .inl (S (6 + v))))
  | 0, _ | 1, _ | 2, _ | 3, _ | 4, _ | 5, _ | 6, _ | 7, _ | 8, _ | 9, _ | 10, _ | 11, _ => rfl
  | n + 12, h => absurd h (by omega)
theorem memN_eb_set {c0 c1 : am_C} {S : am_S0} {f : Nat → Int32} : ∀ v : Nat, v < 12 → (memN c0 c1 S).set (6 + v) (.inl (0, 12, .inl f)) = memN c0 c1 (am_up S (6 + v) f)
  | 0, _ | 1, _ | 2, _ | 3, _ | 4, _ | 5, _ | 6, _ | 7, _ | 8, _ | 9, _ | 10, _ | 11, _ => rfl
  | n + 12, h => absurd h (by omega)
theorem am_wk {g : am_G} {d d2 nc nc2 ns ns2 m i : Nat} {L : am_L} {st : List Value} {M : am_M} {K : am_K} (hd : d ≤ d2) (h1 : nc ≤ nc2) (h2 : ns ≤ ns2) (k : AW g d nc ns m i L st M K) : AW g d2 nc2 ns2 m i L st M K := by
  intro p e R s mid args below meth c H locs cells slots Q ls C g1 g2 g3 g4 hH hS hL hQ
  exact k p e R s mid args below meth c H locs cells slots Q ls C (by omega) (by omega) (by omega) (by omega) hH hS hL hQ
section CON
variable {g : am_G} {d : Nat} {c0 c1 : am_C} {S : am_S0}
theorem s_clearN (x : Int32) : AW g (d + 1) 0 0 5 0 (am_L0 5 [.ref 2, .int x]) [] (memN c0 c1 S) (am_is none (memN c0 c1 (itr clr1 12 (clr0 S x)))) := by
  refine am_aload_n rfl rfl rfl ?_
  refine am_iload_n rfl rfl ?_
  refine am_put rfl rfl (Nat.le_of_ble_eq_true rfl) rfl ?_
  refine am_aload_n rfl rfl rfl ?_
  refine am_iconst rfl ?_
  refine am_put rfl rfl (Nat.le_of_ble_eq_true rfl) rfl ?_
  refine am_iconst rfl ?_
  refine am_istore_n rfl ?_
  refine am_Meq (M' := memN c0 c1 (itr clr1 0 (clr0 S x))) rfl ?_
  show AW g (d + 1) 0 0 5 8 [some (.ref 2), some (.int x), some (.int (nI 0))] [] _ _
  refine am_for (12) (fun v => [some (.ref 2), some (.int x), some (.int (nI v))]) (fun v => memN c0 c1 (itr clr1 v (clr0 S x))) (fun v hv k => ?_) ?_ 12 0 (by omega)
  · rw [itr_s] at k
    generalize itr clr1 v (clr0 S x) = S1 at k ⊢
    refine am_iload_n rfl rfl ?_
    refine am_bipush rfl ?_
    refine am_icmp_ge rfl (fun h => absurd h (nI_ge hv (by decide))) (fun _ => ?_)
    refine am_aload_n rfl rfl rfl ?_
    refine am_get rfl rfl rfl ?_
    refine am_iload_n rfl rfl ?_
    refine am_iload_n rfl rfl ?_
    refine am_iconst rfl ?_
    refine am_iadd rfl ?_
    refine am_iast rfl rfl rfl hv (by decide) ?_
    refine am_Meq (M' := memN c0 c1 (am_up S1 3 (upd (S1 3) v (nI v + 1)))) rfl ?_
    refine am_aload_n rfl rfl rfl ?_
    refine am_get rfl rfl rfl ?_
    refine am_iload_n rfl rfl ?_
    refine am_aald rfl rfl (Or.inl rfl) rfl hv (by decide) (if_pos hv) ?_
    refine am_iconst rfl ?_
    refine am_Sx [.ref (6 + v), .int (-1)] rfl rfl rfl rfl (s_fill (d := d) (memN_eb v hv) (by decide) (-1)) ?_
    refine am_Meq (memN_eb_set v hv) ?_
    rw [am_up_ne _ _ (show 6 + v ≠ 3 by omega)]
    refine am_iinc rfl rfl ?_
    refine am_goto rfl ?_
    unfold clr1 at k
    simp only [nI_succ] at k
    exact k
  · refine am_iload_n rfl rfl ?_
    refine am_bipush rfl ?_
    refine am_icmp_ge rfl (fun _ => ?_) (fun h => absurd (nI_le (Nat.le_refl 12) (by decide)) h)
    exact am_return rfl ⟨rfl, rfl⟩
theorem k_alg8 {M : am_M} (o : Nat) : AW g (d + 1) 0 0 8 0 (am_L0 8 [.ref o]) [] M (am_is none M) := by
  refine am_aload_n rfl rfl rfl ?_
  refine am_cO rfl (by decide) ?_
  exact am_return rfl ⟨rfl, rfl⟩
theorem k_alg7 {M : am_M} (o : Nat) : AW g (d + 2) 0 0 7 0 (am_L0 7 [.ref o]) [] M (am_is none M) := by
  refine am_aload_n rfl rfl rfl ?_
  refine am_cN (nc := 0) (ns := 0) (nc' := 0) (ns' := 0) [] rfl rfl rfl (k_alg8 (d := d) o) ?_
  rintro _ _ ⟨rfl, rfl⟩ _
  exact am_return rfl ⟨rfl, rfl⟩
theorem k_alg9 {M : am_M} (o : Nat) : AW g (d + 2) 0 0 9 0 (am_L0 9 [.ref o]) [] M (am_is none M) := by
  refine am_aload_n rfl rfl rfl ?_
  refine am_cN (nc := 0) (ns := 0) (nc' := 0) (ns' := 0) [] rfl rfl rfl (k_alg8 (d := d) o) ?_
  rintro _ _ ⟨rfl, rfl⟩ _
  exact am_return rfl ⟨rfl, rfl⟩
theorem k_alg10 {M : am_M} (o : Nat) : AW g (d + 2) 0 0 10 0 (am_L0 10 [.ref o]) [] M (am_is none M) := by
  refine am_aload_n rfl rfl rfl ?_
  refine am_cN (nc := 0) (ns := 0) (nc' := 0) (ns' := 0) [] rfl rfl rfl (k_alg8 (d := d) o) ?_
  rintro _ _ ⟨rfl, rfl⟩ _
  exact am_return rfl ⟨rfl, rfl⟩
theorem k_alg11 {M : am_M} (o : Nat) : AW g (d + 2) 0 0 11 0 (am_L0 11 [.ref o]) [] M (am_is none M) := by
  refine am_aload_n rfl rfl rfl ?_
  refine am_cN (nc := 0) (ns := 0) (nc' := 0) (ns' := 0) [] rfl rfl rfl (k_alg8 (d := d) o) ?_
  rintro _ _ ⟨rfl, rfl⟩ _
  exact am_return rfl ⟨rfl, rfl⟩
theorem k_alg12 {M : am_M} (o : Nat) : AW g (d + 2) 0 0 12 0 (am_L0 12 [.ref o]) [] M (am_is none M) := by
  refine am_aload_n rfl rfl rfl ?_
  refine am_cN (nc := 0) (ns := 0) (nc' := 0) (ns' := 0) [] rfl rfl rfl (k_alg8 (d := d) o) ?_
  rintro _ _ ⟨rfl, rfl⟩ _
  exact am_return rfl ⟨rfl, rfl⟩
theorem k_alg13 {M : am_M} (o : Nat) : AW g (d + 2) 0 0 13 0 (am_L0 13 [.ref o]) [] M (am_is none M) := by
  refine am_aload_n rfl rfl rfl ?_
  refine am_cN (nc := 0) (ns := 0) (nc' := 0) (ns' := 0) [] rfl rfl rfl (k_alg8 (d := d) o) ?_
  rintro _ _ ⟨rfl, rfl⟩ _
  exact am_return rfl ⟨rfl, rfl⟩
theorem k_alg14 {M : am_M} (o : Nat) : AW g (d + 2) 0 0 14 0 (am_L0 14 [.ref o]) [] M (am_is none M) := by
  refine am_aload_n rfl rfl rfl ?_
  refine am_cN (nc := 0) (ns := 0) (nc' := 0) (ns' := 0) [] rfl rfl rfl (k_alg8 (d := d) o) ?_
  rintro _ _ ⟨rfl, rfl⟩ _
  exact am_return rfl ⟨rfl, rfl⟩
theorem k_alg15 {M : am_M} (o : Nat) : AW g (d + 2) 0 0 15 0 (am_L0 15 [.ref o]) [] M (am_is none M) := by
  refine am_aload_n rfl rfl rfl ?_
  refine am_cN (nc := 0) (ns := 0) (nc' := 0) (ns' := 0) [] rfl rfl rfl (k_alg8 (d := d) o) ?_
  rintro _ _ ⟨rfl, rfl⟩ _
  exact am_return rfl ⟨rfl, rfl⟩
theorem clr_out (k : Nat) (h : k < 2 ∨ 18 ≤ k) : itr clr1 12 (clr0 Z0 1) k = fun _ => 0 := by
  have key : ∀ v, v ≤ 12 → itr clr1 v (clr0 Z0 1) k = fun _ => 0 := by
    intro v
    induction v with
    | zero =>
      intro _
      show am_up Z0 2 _ k = _
      rw [am_up_ne _ _ (by omega)]
      rfl
    | succ v ih =>
      intro hv
      rw [itr_s]
      unfold clr1
      rw [am_up_ne _ _ (by omega), am_up_ne _ _ (by omega)]
      exact ih (by omega)
  exact key 12 (by omega)
theorem k_net : AW g (d + 2) 16 204 4 0 (am_L0 4 [.ref 2]) [] [c0, c1, .inr (2, [.null, .null, .null, .null, .int 0, .int 0])] (am_is none (memN c0 c1 (itr clr1 12 (clr0 Z0 1)))) := by
  refine am_aload_n rfl rfl rfl ?_
  refine am_cO rfl (by decide) ?_
  refine am_aload_n rfl rfl rfl ?_
  refine am_bipush rfl ?_
  refine am_newa (nc := 15) (ns := 192) (n := 12) rfl rfl (by decide) (Or.inl rfl) ?_
  refine am_put rfl rfl (Nat.le_of_ble_eq_true rfl) rfl ?_
  refine am_aload_n rfl rfl rfl ?_
  refine am_bipush rfl ?_
  refine am_newa (nc := 14) (ns := 168) (n := 24) rfl rfl (by decide) (Or.inl rfl) ?_
  refine am_put rfl rfl (Nat.le_of_ble_eq_true rfl) rfl ?_
  refine am_aload_n rfl rfl rfl ?_
  refine am_bipush rfl ?_
  refine am_bipush rfl ?_
  refine am_mna (nc := 1) (ns := 12) (N := 12) (k8 := 12) rfl rfl rfl (by decide) (by decide) ?_
  refine am_put rfl rfl (Nat.le_of_ble_eq_true rfl) rfl ?_
  refine am_aload_n rfl rfl rfl ?_
  refine am_bipush rfl ?_
  refine am_newa (nc := 0) (ns := 0) (n := 12) rfl rfl (by decide) (Or.inl rfl) ?_
  refine am_put rfl rfl (Nat.le_of_ble_eq_true rfl) rfl ?_
  refine am_Meq (M' := memN c0 c1 Z0) rfl ?_
  refine am_aload_n rfl rfl rfl ?_
  refine am_iconst rfl ?_
  refine am_Vx [.int 1] rfl rfl rfl rfl rfl rfl (s_clearN (d := d) 1) ?_
  exact am_return rfl ⟨rfl, rfl⟩
theorem k_course : AW g (d + 3) 27 312 3 0 (am_L0 3 [.ref 1]) [] [c0, .inr (1, [.null, .null, .null, .null, .null, .int 0, .int 0, .int 0])] (am_is none (memC c0 (itr clr1 12 (clr0 Z0 1)))) := by
  refine am_aload_n rfl rfl rfl ?_
  refine am_cO rfl (by decide) ?_
  refine am_aload_n rfl rfl rfl ?_
  refine am_new (nc := 26) (ns := 306) (n := 6) (fs := [.null, .null, .null, .null, .int 0, .int 0]) rfl rfl (fun j hj => by match j, hj with | 0, _ => rfl | 1, _ => rfl | 2, _ => rfl | 3, _ => rfl | 4, _ => rfl | 5, _ => rfl | j + 6, hj => exact absurd hj (by omega)) rfl ?_
  refine am_dup rfl rfl ?_
  refine am_cI (nc := 10) (ns := 102) (nc' := 16) (ns' := 204) [] rfl rfl rfl (k_net (d := d)) ?_
  rintro _ _ ⟨rfl, rfl⟩ _
  have h1c : itr clr1 12 (clr0 Z0 1) 1 = fun _ => 0 := clr_out 1 (by omega)
  have hz : ∀ k, 19 ≤ k → itr clr1 12 (clr0 Z0 1) k = fun _ => 0 := fun k hk => clr_out k (by omega)
  generalize itr clr1 12 (clr0 Z0 1) = S1 at hz h1c ⊢
  refine am_put rfl rfl (Nat.le_of_ble_eq_true rfl) rfl ?_
  refine am_aload_n rfl rfl rfl ?_
  refine am_iconst rfl ?_
  refine am_bipush rfl ?_
  refine am_mna (nc := 6) (ns := 63) (N := 3) (k8 := 12) rfl rfl rfl (by decide) (by decide) ?_
  refine am_put rfl rfl (Nat.le_of_ble_eq_true rfl) rfl ?_
  refine am_aload_n rfl rfl rfl ?_
  refine am_iconst rfl ?_
  refine am_bipush rfl ?_
  refine am_mna (nc := 2) (ns := 24) (N := 3) (k8 := 12) rfl rfl rfl (by decide) (by decide) ?_
  refine am_put rfl rfl (Nat.le_of_ble_eq_true rfl) rfl ?_
  refine am_aload_n rfl rfl rfl ?_
  refine am_bipush rfl ?_
  refine am_newa (nc := 1) (ns := 12) (n := 12) rfl rfl (by decide) (Or.inr rfl) ?_
  refine am_put rfl rfl (Nat.le_of_ble_eq_true rfl) rfl ?_
  refine am_aload_n rfl rfl rfl ?_
  refine am_bipush rfl ?_
  refine am_newa (nc := 0) (ns := 0) (n := 12) rfl rfl (by decide) (Or.inl rfl) ?_
  refine am_put rfl rfl (Nat.le_of_ble_eq_true rfl) rfl ?_
  refine am_return rfl ⟨rfl, ?_⟩
  unfold memC
  rw [hz 20 (by decide), hz 21 (by decide), hz 22 (by decide), hz 24 (by decide), hz 25 (by decide), hz 26 (by decide), hz 27 (by decide), hz 28 (by decide), h1c]
  rfl
theorem am_nrm {d nc ns m i : Nat} {L : am_L} {st st9 : List Value} {M M9 : am_M} {K : am_K} (h1 : st = st9) (h2 : M = M9) (k : AW g d nc ns m i L st9 M9 K) : AW g d nc ns m i L st M K := by
  subst h1
  subst h2
  exact k
def alF : Nat → Nat → Option Nat
  | 0 => fun _ => none
  | k + 1 => va_up (alF k) k (some (30 + k))
theorem alF_8 : alF 8 = fun j => if j < 8 then some (30 + j) else none := by
  funext j
  match j with
  | 0 | 1 | 2 | 3 | 4 | 5 | 6 | 7 => rfl
  | n + 8 =>
    rw [if_neg (by omega)]
    simp only [alF, va_up]
    rw [if_neg (by omega), if_neg (by omega), if_neg (by omega), if_neg (by omega), if_neg (by omega), if_neg (by omega), if_neg (by omega), if_neg (by omega)]
theorem k_bench : AW g (d + 4) 37 328 1 0 (am_L0 1 [.ref 0]) [] [.inr (0, [.null, .null, .null, .int 0])] (am_is none (memB none (itr clr1 12 (clr0 Z0 1)))) := by
  refine am_aload_n rfl rfl rfl ?_
  refine am_cO rfl (by decide) ?_
  refine am_aload_n rfl rfl rfl ?_
  refine am_new (nc := 36) (ns := 320) (n := 8) (fs := [.null, .null, .null, .null, .null, .int 0, .int 0, .int 0]) rfl rfl (fun j hj => by match j, hj with | 0, _ => rfl | 1, _ => rfl | 2, _ => rfl | 3, _ => rfl | 4, _ => rfl | 5, _ => rfl | 6, _ => rfl | 7, _ => rfl | j + 8, hj => exact absurd hj (by omega)) rfl ?_
  refine am_dup rfl rfl ?_
  refine am_cN (nc := 9) (ns := 8) (nc' := 27) (ns' := 312) [] rfl rfl rfl (k_course (d := d)) ?_
  rintro _ _ ⟨rfl, rfl⟩ _
  have h0c : itr clr1 12 (clr0 Z0 1) 0 = fun _ => 0 := clr_out 0 (by omega)
  generalize itr clr1 12 (clr0 Z0 1) = S1 at h0c ⊢
  refine am_put rfl rfl (Nat.le_of_ble_eq_true rfl) rfl ?_
  refine am_nrm (st9 := []) (M9 := memC (.inr (0, [.ref 1, .null, .null, .int 0])) S1) rfl rfl ?_
  refine am_aload_n rfl rfl rfl ?_
  refine am_bipush rfl ?_
  refine am_anew (nc := 8) (ns := 0) (n := 8) rfl rfl (by decide) ?_
  refine am_nrm (st9 := [.ref 29, .ref 0]) (M9 := memC (.inr (0, [.ref 1, .null, .null, .int 0])) S1 ++ [.inl (3, 8, .inr (alF 0))]) rfl rfl ?_
  refine am_dup rfl rfl ?_
  refine am_iconst rfl ?_
  refine am_new (nc := 7) (ns := 0) (n := 0) (fs := []) rfl rfl (fun j hj => by match j, hj with | j + 0, hj => exact absurd hj (by omega)) rfl ?_
  refine am_nrm (st9 := [.ref 30, .int 0, .ref 29, .ref 29, .ref 0]) (M9 := memC (.inr (0, [.ref 1, .null, .null, .int 0])) S1 ++ [.inl (3, 8, .inr (alF 0)), .inr (3, [])]) rfl rfl ?_
  refine am_dup rfl rfl ?_
  refine am_cN (nc := 7) (ns := 0) (nc' := 0) (ns' := 0) [] rfl rfl rfl (k_alg7 (d := d + 1) _) ?_
  rintro _ _ ⟨rfl, rfl⟩ _
  refine am_aast (k8 := 0) rfl rfl rfl (by decide) (by decide) rfl (by decide) (by decide) ?_
  refine am_nrm (st9 := [.ref 29, .ref 0]) (M9 := memC (.inr (0, [.ref 1, .null, .null, .int 0])) S1 ++ [.inl (3, 8, .inr (alF 1)), .inr (3, [])]) rfl rfl ?_
  refine am_dup rfl rfl ?_
  refine am_iconst rfl ?_
  refine am_new (nc := 6) (ns := 0) (n := 0) (fs := []) rfl rfl (fun j hj => by match j, hj with | j + 0, hj => exact absurd hj (by omega)) rfl ?_
  refine am_nrm (st9 := [.ref 31, .int 1, .ref 29, .ref 29, .ref 0]) (M9 := memC (.inr (0, [.ref 1, .null, .null, .int 0])) S1 ++ [.inl (3, 8, .inr (alF 1)), .inr (3, []), .inr (4, [])]) rfl rfl ?_
  refine am_dup rfl rfl ?_
  refine am_cN (nc := 6) (ns := 0) (nc' := 0) (ns' := 0) [] rfl rfl rfl (k_alg9 (d := d + 1) _) ?_
  rintro _ _ ⟨rfl, rfl⟩ _
  refine am_aast (k8 := 1) rfl rfl rfl (by decide) (by decide) rfl (by decide) (by decide) ?_
  refine am_nrm (st9 := [.ref 29, .ref 0]) (M9 := memC (.inr (0, [.ref 1, .null, .null, .int 0])) S1 ++ [.inl (3, 8, .inr (alF 2)), .inr (3, []), .inr (4, [])]) rfl rfl ?_
  refine am_dup rfl rfl ?_
  refine am_iconst rfl ?_
  refine am_new (nc := 5) (ns := 0) (n := 0) (fs := []) rfl rfl (fun j hj => by match j, hj with | j + 0, hj => exact absurd hj (by omega)) rfl ?_
  refine am_nrm (st9 := [.ref 32, .int 2, .ref 29, .ref 29, .ref 0]) (M9 := memC (.inr (0, [.ref 1, .null, .null, .int 0])) S1 ++ [.inl (3, 8, .inr (alF 2)), .inr (3, []), .inr (4, []), .inr (5, [])]) rfl rfl ?_
  refine am_dup rfl rfl ?_
  refine am_cN (nc := 5) (ns := 0) (nc' := 0) (ns' := 0) [] rfl rfl rfl (k_alg10 (d := d + 1) _) ?_
  rintro _ _ ⟨rfl, rfl⟩ _
  refine am_aast (k8 := 2) rfl rfl rfl (by decide) (by decide) rfl (by decide) (by decide) ?_
  refine am_nrm (st9 := [.ref 29, .ref 0]) (M9 := memC (.inr (0, [.ref 1, .null, .null, .int 0])) S1 ++ [.inl (3, 8, .inr (alF 3)), .inr (3, []), .inr (4, []), .inr (5, [])]) rfl rfl ?_
  refine am_dup rfl rfl ?_
  refine am_iconst rfl ?_
  refine am_new (nc := 4) (ns := 0) (n := 0) (fs := []) rfl rfl (fun j hj => by match j, hj with | j + 0, hj => exact absurd hj (by omega)) rfl ?_
  refine am_nrm (st9 := [.ref 33, .int 3, .ref 29, .ref 29, .ref 0]) (M9 := memC (.inr (0, [.ref 1, .null, .null, .int 0])) S1 ++ [.inl (3, 8, .inr (alF 3)), .inr (3, []), .inr (4, []), .inr (5, []), .inr (6, [])]) rfl rfl ?_
  refine am_dup rfl rfl ?_
  refine am_cN (nc := 4) (ns := 0) (nc' := 0) (ns' := 0) [] rfl rfl rfl (k_alg11 (d := d + 1) _) ?_
  rintro _ _ ⟨rfl, rfl⟩ _
  refine am_aast (k8 := 3) rfl rfl rfl (by decide) (by decide) rfl (by decide) (by decide) ?_
  refine am_nrm (st9 := [.ref 29, .ref 0]) (M9 := memC (.inr (0, [.ref 1, .null, .null, .int 0])) S1 ++ [.inl (3, 8, .inr (alF 4)), .inr (3, []), .inr (4, []), .inr (5, []), .inr (6, [])]) rfl rfl ?_
  refine am_dup rfl rfl ?_
  refine am_iconst rfl ?_
  refine am_new (nc := 3) (ns := 0) (n := 0) (fs := []) rfl rfl (fun j hj => by match j, hj with | j + 0, hj => exact absurd hj (by omega)) rfl ?_
  refine am_nrm (st9 := [.ref 34, .int 4, .ref 29, .ref 29, .ref 0]) (M9 := memC (.inr (0, [.ref 1, .null, .null, .int 0])) S1 ++ [.inl (3, 8, .inr (alF 4)), .inr (3, []), .inr (4, []), .inr (5, []), .inr (6, []), .inr (7, [])]) rfl rfl ?_
  refine am_dup rfl rfl ?_
  refine am_cN (nc := 3) (ns := 0) (nc' := 0) (ns' := 0) [] rfl rfl rfl (k_alg12 (d := d + 1) _) ?_
  rintro _ _ ⟨rfl, rfl⟩ _
  refine am_aast (k8 := 4) rfl rfl rfl (by decide) (by decide) rfl (by decide) (by decide) ?_
  refine am_nrm (st9 := [.ref 29, .ref 0]) (M9 := memC (.inr (0, [.ref 1, .null, .null, .int 0])) S1 ++ [.inl (3, 8, .inr (alF 5)), .inr (3, []), .inr (4, []), .inr (5, []), .inr (6, []), .inr (7, [])]) rfl rfl ?_
  refine am_dup rfl rfl ?_
  refine am_iconst rfl ?_
  refine am_new (nc := 2) (ns := 0) (n := 0) (fs := []) rfl rfl (fun j hj => by match j, hj with | j + 0, hj => exact absurd hj (by omega)) rfl ?_
  refine am_nrm (st9 := [.ref 35, .int 5, .ref 29, .ref 29, .ref 0]) (M9 := memC (.inr (0, [.ref 1, .null, .null, .int 0])) S1 ++ [.inl (3, 8, .inr (alF 5)), .inr (3, []), .inr (4, []), .inr (5, []), .inr (6, []), .inr (7, []), .inr (8, [])]) rfl rfl ?_
  refine am_dup rfl rfl ?_
  refine am_cN (nc := 2) (ns := 0) (nc' := 0) (ns' := 0) [] rfl rfl rfl (k_alg13 (d := d + 1) _) ?_
  rintro _ _ ⟨rfl, rfl⟩ _
  refine am_aast (k8 := 5) rfl rfl rfl (by decide) (by decide) rfl (by decide) (by decide) ?_
  refine am_nrm (st9 := [.ref 29, .ref 0]) (M9 := memC (.inr (0, [.ref 1, .null, .null, .int 0])) S1 ++ [.inl (3, 8, .inr (alF 6)), .inr (3, []), .inr (4, []), .inr (5, []), .inr (6, []), .inr (7, []), .inr (8, [])]) rfl rfl ?_
  refine am_dup rfl rfl ?_
  refine am_bipush rfl ?_
  refine am_new (nc := 1) (ns := 0) (n := 0) (fs := []) rfl rfl (fun j hj => by match j, hj with | j + 0, hj => exact absurd hj (by omega)) rfl ?_
  refine am_nrm (st9 := [.ref 36, .int 6, .ref 29, .ref 29, .ref 0]) (M9 := memC (.inr (0, [.ref 1, .null, .null, .int 0])) S1 ++ [.inl (3, 8, .inr (alF 6)), .inr (3, []), .inr (4, []), .inr (5, []), .inr (6, []), .inr (7, []), .inr (8, []), .inr (9, [])]) rfl rfl ?_
  refine am_dup rfl rfl ?_
  refine am_cN (nc := 1) (ns := 0) (nc' := 0) (ns' := 0) [] rfl rfl rfl (k_alg14 (d := d + 1) _) ?_
  rintro _ _ ⟨rfl, rfl⟩ _
  refine am_aast (k8 := 6) rfl rfl rfl (by decide) (by decide) rfl (by decide) (by decide) ?_
  refine am_nrm (st9 := [.ref 29, .ref 0]) (M9 := memC (.inr (0, [.ref 1, .null, .null, .int 0])) S1 ++ [.inl (3, 8, .inr (alF 7)), .inr (3, []), .inr (4, []), .inr (5, []), .inr (6, []), .inr (7, []), .inr (8, []), .inr (9, [])]) rfl rfl ?_
  refine am_dup rfl rfl ?_
  refine am_bipush rfl ?_
  refine am_new (nc := 0) (ns := 0) (n := 0) (fs := []) rfl rfl (fun j hj => by match j, hj with | j + 0, hj => exact absurd hj (by omega)) rfl ?_
  refine am_nrm (st9 := [.ref 37, .int 7, .ref 29, .ref 29, .ref 0]) (M9 := memC (.inr (0, [.ref 1, .null, .null, .int 0])) S1 ++ [.inl (3, 8, .inr (alF 7)), .inr (3, []), .inr (4, []), .inr (5, []), .inr (6, []), .inr (7, []), .inr (8, []), .inr (9, []), .inr (10, [])]) rfl rfl ?_
  refine am_dup rfl rfl ?_
  refine am_cN (nc := 0) (ns := 0) (nc' := 0) (ns' := 0) [] rfl rfl rfl (k_alg15 (d := d + 1) _) ?_
  rintro _ _ ⟨rfl, rfl⟩ _
  refine am_aast (k8 := 7) rfl rfl rfl (by decide) (by decide) rfl (by decide) (by decide) ?_
  refine am_nrm (st9 := [.ref 29, .ref 0]) (M9 := memC (.inr (0, [.ref 1, .null, .null, .int 0])) S1 ++ [.inl (3, 8, .inr (alF 8)), .inr (3, []), .inr (4, []), .inr (5, []), .inr (6, []), .inr (7, []), .inr (8, []), .inr (9, []), .inr (10, [])]) rfl rfl ?_
  refine am_put rfl rfl (Nat.le_of_ble_eq_true rfl) rfl ?_
  refine am_nrm (st9 := []) (M9 := memC (.inr (0, [.ref 1, .ref 29, .null, .int 0])) S1 ++ [.inl (3, 8, .inr (alF 8)), .inr (3, []), .inr (4, []), .inr (5, []), .inr (6, []), .inr (7, []), .inr (8, []), .inr (9, []), .inr (10, [])]) rfl rfl ?_
  refine am_aload_n rfl rfl rfl ?_
  refine am_null rfl ?_
  refine am_put rfl rfl (Nat.le_of_ble_eq_true rfl) rfl ?_
  refine am_aload_n rfl rfl rfl ?_
  refine am_iconst rfl ?_
  refine am_put rfl rfl (Nat.le_of_ble_eq_true rfl) rfl ?_
  refine am_nrm (st9 := []) (M9 := memC (.inr (0, [.ref 1, .ref 29, .null, .int 0])) S1 ++ [.inl (3, 8, .inr (alF 8)), .inr (3, []), .inr (4, []), .inr (5, []), .inr (6, []), .inr (7, []), .inr (8, []), .inr (9, []), .inr (10, [])]) rfl rfl ?_
  refine am_return rfl ⟨rfl, ?_⟩
  rw [alF_8]
  unfold memB
  rw [h0c]
  rfl
theorem k_model : AW g (d + 1) 12 468 103 0 (am_L0 103 [.ref 38]) [] (memB none S ++ [.inr (11, [.int 0, .int 0, .null, .null, .null, .null, .int 0, .null, .int 0, .int 0, .int 0, .int 0, .null, .null, .null, .null, .null, .null, .null])]) (am_is none (mem none (fun k => if k < 38 then S k else if k = 38 then upd (upd (fun _ => 0) 0 1) 8 (-1) else if k = 42 then upd (fun _ => 0) 0 1 else fun _ => 0))) := by
  refine am_aload_n rfl rfl rfl ?_
  refine am_cO rfl (by decide) ?_
  refine am_aload_n rfl rfl rfl ?_
  refine am_iconst rfl ?_
  refine am_put rfl rfl (Nat.le_of_ble_eq_true rfl) rfl ?_
  refine am_nrm (st9 := []) (M9 := memB none S ++ [.inr (11, [.int 1, .int 0, .null, .null, .null, .null, .int 0, .null, .int 0, .int 0, .int 0, .int 0, .null, .null, .null, .null, .null, .null, .null])]) rfl rfl ?_
  refine am_aload_n rfl rfl rfl ?_
  refine am_bipush rfl ?_
  refine am_newa (nc := 11) (ns := 444) (n := 24) rfl rfl (by decide) (Or.inl rfl) ?_
  refine am_nrm (st9 := [.ref 39, .ref 38]) (M9 := memB none S ++ [.inr (11, [.int 1, .int 0, .null, .null, .null, .null, .int 0, .null, .int 0, .int 0, .int 0, .int 0, .null, .null, .null, .null, .null, .null, .null]), .inl (0, 24, .inl fun _ => 0)]) rfl rfl ?_
  refine am_put rfl rfl (Nat.le_of_ble_eq_true rfl) rfl ?_
  refine am_nrm (st9 := []) (M9 := memB none S ++ [.inr (11, [.int 1, .int 0, .ref 39, .null, .null, .null, .int 0, .null, .int 0, .int 0, .int 0, .int 0, .null, .null, .null, .null, .null, .null, .null]), .inl (0, 24, .inl fun _ => 0)]) rfl rfl ?_
  refine am_aload_n rfl rfl rfl ?_
  refine am_bipush rfl ?_
  refine am_newa (nc := 10) (ns := 420) (n := 24) rfl rfl (by decide) (Or.inl rfl) ?_
  refine am_nrm (st9 := [.ref 40, .ref 38]) (M9 := memB none S ++ [.inr (11, [.int 1, .int 0, .ref 39, .null, .null, .null, .int 0, .null, .int 0, .int 0, .int 0, .int 0, .null, .null, .null, .null, .null, .null, .null]), .inl (0, 24, .inl fun _ => 0), .inl (0, 24, .inl fun _ => 0)]) rfl rfl ?_
  refine am_put rfl rfl (Nat.le_of_ble_eq_true rfl) rfl ?_
  refine am_nrm (st9 := []) (M9 := memB none S ++ [.inr (11, [.int 1, .int 0, .ref 39, .ref 40, .null, .null, .int 0, .null, .int 0, .int 0, .int 0, .int 0, .null, .null, .null, .null, .null, .null, .null]), .inl (0, 24, .inl fun _ => 0), .inl (0, 24, .inl fun _ => 0)]) rfl rfl ?_
  refine am_aload_n rfl rfl rfl ?_
  refine am_bipush rfl ?_
  refine am_newa (nc := 9) (ns := 396) (n := 24) rfl rfl (by decide) (Or.inl rfl) ?_
  refine am_nrm (st9 := [.ref 41, .ref 38]) (M9 := memB none S ++ [.inr (11, [.int 1, .int 0, .ref 39, .ref 40, .null, .null, .int 0, .null, .int 0, .int 0, .int 0, .int 0, .null, .null, .null, .null, .null, .null, .null]), .inl (0, 24, .inl fun _ => 0), .inl (0, 24, .inl fun _ => 0), .inl (0, 24, .inl fun _ => 0)]) rfl rfl ?_
  refine am_put rfl rfl (Nat.le_of_ble_eq_true rfl) rfl ?_
  refine am_nrm (st9 := []) (M9 := memB none S ++ [.inr (11, [.int 1, .int 0, .ref 39, .ref 40, .ref 41, .null, .int 0, .null, .int 0, .int 0, .int 0, .int 0, .null, .null, .null, .null, .null, .null, .null]), .inl (0, 24, .inl fun _ => 0), .inl (0, 24, .inl fun _ => 0), .inl (0, 24, .inl fun _ => 0)]) rfl rfl ?_
  refine am_aload_n rfl rfl rfl ?_
  refine am_bipush rfl ?_
  refine am_newa (nc := 8) (ns := 384) (n := 12) rfl rfl (by decide) (Or.inl rfl) ?_
  refine am_nrm (st9 := [.ref 42, .ref 38]) (M9 := memB none S ++ [.inr (11, [.int 1, .int 0, .ref 39, .ref 40, .ref 41, .null, .int 0, .null, .int 0, .int 0, .int 0, .int 0, .null, .null, .null, .null, .null, .null, .null]), .inl (0, 24, .inl fun _ => 0), .inl (0, 24, .inl fun _ => 0), .inl (0, 24, .inl fun _ => 0), .inl (0, 12, .inl fun _ => 0)]) rfl rfl ?_
  refine am_put rfl rfl (Nat.le_of_ble_eq_true rfl) rfl ?_
  refine am_nrm (st9 := []) (M9 := memB none S ++ [.inr (11, [.int 1, .int 0, .ref 39, .ref 40, .ref 41, .ref 42, .int 0, .null, .int 0, .int 0, .int 0, .int 0, .null, .null, .null, .null, .null, .null, .null]), .inl (0, 24, .inl fun _ => 0), .inl (0, 24, .inl fun _ => 0), .inl (0, 24, .inl fun _ => 0), .inl (0, 12, .inl fun _ => 0)]) rfl rfl ?_
  refine am_aload_n rfl rfl rfl ?_
  refine am_sipush rfl ?_
  refine am_newa (nc := 7) (ns := 240) (n := 144) rfl rfl (by decide) (Or.inl rfl) ?_
  refine am_nrm (st9 := [.ref 43, .ref 38]) (M9 := memB none S ++ [.inr (11, [.int 1, .int 0, .ref 39, .ref 40, .ref 41, .ref 42, .int 0, .null, .int 0, .int 0, .int 0, .int 0, .null, .null, .null, .null, .null, .null, .null]), .inl (0, 24, .inl fun _ => 0), .inl (0, 24, .inl fun _ => 0), .inl (0, 24, .inl fun _ => 0), .inl (0, 12, .inl fun _ => 0), .inl (0, 144, .inl fun _ => 0)]) rfl rfl ?_
  refine am_put rfl rfl (Nat.le_of_ble_eq_true rfl) rfl ?_
  refine am_nrm (st9 := []) (M9 := memB none S ++ [.inr (11, [.int 1, .int 0, .ref 39, .ref 40, .ref 41, .ref 42, .int 0, .ref 43, .int 0, .int 0, .int 0, .int 0, .null, .null, .null, .null, .null, .null, .null]), .inl (0, 24, .inl fun _ => 0), .inl (0, 24, .inl fun _ => 0), .inl (0, 24, .inl fun _ => 0), .inl (0, 12, .inl fun _ => 0), .inl (0, 144, .inl fun _ => 0)]) rfl rfl ?_
  refine am_aload_n rfl rfl rfl ?_
  refine am_iconst rfl ?_
  refine am_put rfl rfl (Nat.le_of_ble_eq_true rfl) rfl ?_
  refine am_nrm (st9 := []) (M9 := memB none S ++ [.inr (11, [.int 1, .int 0, .ref 39, .ref 40, .ref 41, .ref 42, .int 0, .ref 43, .int (-1), .int 0, .int 0, .int 0, .null, .null, .null, .null, .null, .null, .null]), .inl (0, 24, .inl fun _ => 0), .inl (0, 24, .inl fun _ => 0), .inl (0, 24, .inl fun _ => 0), .inl (0, 12, .inl fun _ => 0), .inl (0, 144, .inl fun _ => 0)]) rfl rfl ?_
  refine am_aload_n rfl rfl rfl ?_
  refine am_bipush rfl ?_
  refine am_newa (nc := 6) (ns := 228) (n := 12) rfl rfl (by decide) (Or.inl rfl) ?_
  refine am_nrm (st9 := [.ref 44, .ref 38]) (M9 := memB none S ++ [.inr (11, [.int 1, .int 0, .ref 39, .ref 40, .ref 41, .ref 42, .int 0, .ref 43, .int (-1), .int 0, .int 0, .int 0, .null, .null, .null, .null, .null, .null, .null]), .inl (0, 24, .inl fun _ => 0), .inl (0, 24, .inl fun _ => 0), .inl (0, 24, .inl fun _ => 0), .inl (0, 12, .inl fun _ => 0), .inl (0, 144, .inl fun _ => 0), .inl (0, 12, .inl fun _ => 0)]) rfl rfl ?_
  refine am_put rfl rfl (Nat.le_of_ble_eq_true rfl) rfl ?_
  refine am_nrm (st9 := []) (M9 := memB none S ++ [.inr (11, [.int 1, .int 0, .ref 39, .ref 40, .ref 41, .ref 42, .int 0, .ref 43, .int (-1), .int 0, .int 0, .int 0, .ref 44, .null, .null, .null, .null, .null, .null]), .inl (0, 24, .inl fun _ => 0), .inl (0, 24, .inl fun _ => 0), .inl (0, 24, .inl fun _ => 0), .inl (0, 12, .inl fun _ => 0), .inl (0, 144, .inl fun _ => 0), .inl (0, 12, .inl fun _ => 0)]) rfl rfl ?_
  refine am_aload_n rfl rfl rfl ?_
  refine am_bipush rfl ?_
  refine am_newa (nc := 5) (ns := 216) (n := 12) rfl rfl (by decide) (Or.inl rfl) ?_
  refine am_nrm (st9 := [.ref 45, .ref 38]) (M9 := memB none S ++ [.inr (11, [.int 1, .int 0, .ref 39, .ref 40, .ref 41, .ref 42, .int 0, .ref 43, .int (-1), .int 0, .int 0, .int 0, .ref 44, .null, .null, .null, .null, .null, .null]), .inl (0, 24, .inl fun _ => 0), .inl (0, 24, .inl fun _ => 0), .inl (0, 24, .inl fun _ => 0), .inl (0, 12, .inl fun _ => 0), .inl (0, 144, .inl fun _ => 0), .inl (0, 12, .inl fun _ => 0), .inl (0, 12, .inl fun _ => 0)]) rfl rfl ?_
  refine am_put rfl rfl (Nat.le_of_ble_eq_true rfl) rfl ?_
  refine am_nrm (st9 := []) (M9 := memB none S ++ [.inr (11, [.int 1, .int 0, .ref 39, .ref 40, .ref 41, .ref 42, .int 0, .ref 43, .int (-1), .int 0, .int 0, .int 0, .ref 44, .ref 45, .null, .null, .null, .null, .null]), .inl (0, 24, .inl fun _ => 0), .inl (0, 24, .inl fun _ => 0), .inl (0, 24, .inl fun _ => 0), .inl (0, 12, .inl fun _ => 0), .inl (0, 144, .inl fun _ => 0), .inl (0, 12, .inl fun _ => 0), .inl (0, 12, .inl fun _ => 0)]) rfl rfl ?_
  refine am_aload_n rfl rfl rfl ?_
  refine am_bipush rfl ?_
  refine am_newa (nc := 4) (ns := 204) (n := 12) rfl rfl (by decide) (Or.inl rfl) ?_
  refine am_nrm (st9 := [.ref 46, .ref 38]) (M9 := memB none S ++ [.inr (11, [.int 1, .int 0, .ref 39, .ref 40, .ref 41, .ref 42, .int 0, .ref 43, .int (-1), .int 0, .int 0, .int 0, .ref 44, .ref 45, .null, .null, .null, .null, .null]), .inl (0, 24, .inl fun _ => 0), .inl (0, 24, .inl fun _ => 0), .inl (0, 24, .inl fun _ => 0), .inl (0, 12, .inl fun _ => 0), .inl (0, 144, .inl fun _ => 0), .inl (0, 12, .inl fun _ => 0), .inl (0, 12, .inl fun _ => 0), .inl (0, 12, .inl fun _ => 0)]) rfl rfl ?_
  refine am_put rfl rfl (Nat.le_of_ble_eq_true rfl) rfl ?_
  refine am_nrm (st9 := []) (M9 := memB none S ++ [.inr (11, [.int 1, .int 0, .ref 39, .ref 40, .ref 41, .ref 42, .int 0, .ref 43, .int (-1), .int 0, .int 0, .int 0, .ref 44, .ref 45, .ref 46, .null, .null, .null, .null]), .inl (0, 24, .inl fun _ => 0), .inl (0, 24, .inl fun _ => 0), .inl (0, 24, .inl fun _ => 0), .inl (0, 12, .inl fun _ => 0), .inl (0, 144, .inl fun _ => 0), .inl (0, 12, .inl fun _ => 0), .inl (0, 12, .inl fun _ => 0), .inl (0, 12, .inl fun _ => 0)]) rfl rfl ?_
  refine am_aload_n rfl rfl rfl ?_
  refine am_bipush rfl ?_
  refine am_newa (nc := 3) (ns := 192) (n := 12) rfl rfl (by decide) (Or.inl rfl) ?_
  refine am_nrm (st9 := [.ref 47, .ref 38]) (M9 := memB none S ++ [.inr (11, [.int 1, .int 0, .ref 39, .ref 40, .ref 41, .ref 42, .int 0, .ref 43, .int (-1), .int 0, .int 0, .int 0, .ref 44, .ref 45, .ref 46, .null, .null, .null, .null]), .inl (0, 24, .inl fun _ => 0), .inl (0, 24, .inl fun _ => 0), .inl (0, 24, .inl fun _ => 0), .inl (0, 12, .inl fun _ => 0), .inl (0, 144, .inl fun _ => 0), .inl (0, 12, .inl fun _ => 0), .inl (0, 12, .inl fun _ => 0), .inl (0, 12, .inl fun _ => 0), .inl (0, 12, .inl fun _ => 0)]) rfl rfl ?_
  refine am_put rfl rfl (Nat.le_of_ble_eq_true rfl) rfl ?_
  refine am_nrm (st9 := []) (M9 := memB none S ++ [.inr (11, [.int 1, .int 0, .ref 39, .ref 40, .ref 41, .ref 42, .int 0, .ref 43, .int (-1), .int 0, .int 0, .int 0, .ref 44, .ref 45, .ref 46, .ref 47, .null, .null, .null]), .inl (0, 24, .inl fun _ => 0), .inl (0, 24, .inl fun _ => 0), .inl (0, 24, .inl fun _ => 0), .inl (0, 12, .inl fun _ => 0), .inl (0, 144, .inl fun _ => 0), .inl (0, 12, .inl fun _ => 0), .inl (0, 12, .inl fun _ => 0), .inl (0, 12, .inl fun _ => 0), .inl (0, 12, .inl fun _ => 0)]) rfl rfl ?_
  refine am_aload_n rfl rfl rfl ?_
  refine am_sipush rfl ?_
  refine am_newa (nc := 2) (ns := 24) (n := 168) rfl rfl (by decide) (Or.inl rfl) ?_
  refine am_nrm (st9 := [.ref 48, .ref 38]) (M9 := memB none S ++ [.inr (11, [.int 1, .int 0, .ref 39, .ref 40, .ref 41, .ref 42, .int 0, .ref 43, .int (-1), .int 0, .int 0, .int 0, .ref 44, .ref 45, .ref 46, .ref 47, .null, .null, .null]), .inl (0, 24, .inl fun _ => 0), .inl (0, 24, .inl fun _ => 0), .inl (0, 24, .inl fun _ => 0), .inl (0, 12, .inl fun _ => 0), .inl (0, 144, .inl fun _ => 0), .inl (0, 12, .inl fun _ => 0), .inl (0, 12, .inl fun _ => 0), .inl (0, 12, .inl fun _ => 0), .inl (0, 12, .inl fun _ => 0), .inl (0, 168, .inl fun _ => 0)]) rfl rfl ?_
  refine am_put rfl rfl (Nat.le_of_ble_eq_true rfl) rfl ?_
  refine am_nrm (st9 := []) (M9 := memB none S ++ [.inr (11, [.int 1, .int 0, .ref 39, .ref 40, .ref 41, .ref 42, .int 0, .ref 43, .int (-1), .int 0, .int 0, .int 0, .ref 44, .ref 45, .ref 46, .ref 47, .ref 48, .null, .null]), .inl (0, 24, .inl fun _ => 0), .inl (0, 24, .inl fun _ => 0), .inl (0, 24, .inl fun _ => 0), .inl (0, 12, .inl fun _ => 0), .inl (0, 144, .inl fun _ => 0), .inl (0, 12, .inl fun _ => 0), .inl (0, 12, .inl fun _ => 0), .inl (0, 12, .inl fun _ => 0), .inl (0, 12, .inl fun _ => 0), .inl (0, 168, .inl fun _ => 0)]) rfl rfl ?_
  refine am_aload_n rfl rfl rfl ?_
  refine am_bipush rfl ?_
  refine am_newa (nc := 1) (ns := 12) (n := 12) rfl rfl (by decide) (Or.inl rfl) ?_
  refine am_nrm (st9 := [.ref 49, .ref 38]) (M9 := memB none S ++ [.inr (11, [.int 1, .int 0, .ref 39, .ref 40, .ref 41, .ref 42, .int 0, .ref 43, .int (-1), .int 0, .int 0, .int 0, .ref 44, .ref 45, .ref 46, .ref 47, .ref 48, .null, .null]), .inl (0, 24, .inl fun _ => 0), .inl (0, 24, .inl fun _ => 0), .inl (0, 24, .inl fun _ => 0), .inl (0, 12, .inl fun _ => 0), .inl (0, 144, .inl fun _ => 0), .inl (0, 12, .inl fun _ => 0), .inl (0, 12, .inl fun _ => 0), .inl (0, 12, .inl fun _ => 0), .inl (0, 12, .inl fun _ => 0), .inl (0, 168, .inl fun _ => 0), .inl (0, 12, .inl fun _ => 0)]) rfl rfl ?_
  refine am_put rfl rfl (Nat.le_of_ble_eq_true rfl) rfl ?_
  refine am_nrm (st9 := []) (M9 := memB none S ++ [.inr (11, [.int 1, .int 0, .ref 39, .ref 40, .ref 41, .ref 42, .int 0, .ref 43, .int (-1), .int 0, .int 0, .int 0, .ref 44, .ref 45, .ref 46, .ref 47, .ref 48, .ref 49, .null]), .inl (0, 24, .inl fun _ => 0), .inl (0, 24, .inl fun _ => 0), .inl (0, 24, .inl fun _ => 0), .inl (0, 12, .inl fun _ => 0), .inl (0, 144, .inl fun _ => 0), .inl (0, 12, .inl fun _ => 0), .inl (0, 12, .inl fun _ => 0), .inl (0, 12, .inl fun _ => 0), .inl (0, 12, .inl fun _ => 0), .inl (0, 168, .inl fun _ => 0), .inl (0, 12, .inl fun _ => 0)]) rfl rfl ?_
  refine am_aload_n rfl rfl rfl ?_
  refine am_bipush rfl ?_
  refine am_newa (nc := 0) (ns := 0) (n := 12) rfl rfl (by decide) (Or.inl rfl) ?_
  refine am_nrm (st9 := [.ref 50, .ref 38]) (M9 := memB none S ++ [.inr (11, [.int 1, .int 0, .ref 39, .ref 40, .ref 41, .ref 42, .int 0, .ref 43, .int (-1), .int 0, .int 0, .int 0, .ref 44, .ref 45, .ref 46, .ref 47, .ref 48, .ref 49, .null]), .inl (0, 24, .inl fun _ => 0), .inl (0, 24, .inl fun _ => 0), .inl (0, 24, .inl fun _ => 0), .inl (0, 12, .inl fun _ => 0), .inl (0, 144, .inl fun _ => 0), .inl (0, 12, .inl fun _ => 0), .inl (0, 12, .inl fun _ => 0), .inl (0, 12, .inl fun _ => 0), .inl (0, 12, .inl fun _ => 0), .inl (0, 168, .inl fun _ => 0), .inl (0, 12, .inl fun _ => 0), .inl (0, 12, .inl fun _ => 0)]) rfl rfl ?_
  refine am_put rfl rfl (Nat.le_of_ble_eq_true rfl) rfl ?_
  refine am_nrm (st9 := []) (M9 := memB none S ++ [.inr (11, [.int 1, .int 0, .ref 39, .ref 40, .ref 41, .ref 42, .int 0, .ref 43, .int (-1), .int 0, .int 0, .int 0, .ref 44, .ref 45, .ref 46, .ref 47, .ref 48, .ref 49, .ref 50]), .inl (0, 24, .inl fun _ => 0), .inl (0, 24, .inl fun _ => 0), .inl (0, 24, .inl fun _ => 0), .inl (0, 12, .inl fun _ => 0), .inl (0, 144, .inl fun _ => 0), .inl (0, 12, .inl fun _ => 0), .inl (0, 12, .inl fun _ => 0), .inl (0, 12, .inl fun _ => 0), .inl (0, 12, .inl fun _ => 0), .inl (0, 168, .inl fun _ => 0), .inl (0, 12, .inl fun _ => 0), .inl (0, 12, .inl fun _ => 0)]) rfl rfl ?_
  refine am_aload_n rfl rfl rfl ?_
  refine am_get rfl rfl rfl ?_
  refine am_iconst rfl ?_
  refine am_iconst rfl ?_
  refine am_iast (k8 := 0) rfl rfl rfl (by decide) (by decide) ?_
  refine am_nrm (st9 := []) (M9 := memB none S ++ [.inr (11, [.int 1, .int 0, .ref 39, .ref 40, .ref 41, .ref 42, .int 0, .ref 43, .int (-1), .int 0, .int 0, .int 0, .ref 44, .ref 45, .ref 46, .ref 47, .ref 48, .ref 49, .ref 50]), .inl (0, 24, .inl fun _ => 0), .inl (0, 24, .inl fun _ => 0), .inl (0, 24, .inl fun _ => 0), .inl (0, 12, .inl (upd (fun _ => 0) 0 1)), .inl (0, 144, .inl fun _ => 0), .inl (0, 12, .inl fun _ => 0), .inl (0, 12, .inl fun _ => 0), .inl (0, 12, .inl fun _ => 0), .inl (0, 12, .inl fun _ => 0), .inl (0, 168, .inl fun _ => 0), .inl (0, 12, .inl fun _ => 0), .inl (0, 12, .inl fun _ => 0)]) rfl rfl ?_
  exact am_return rfl ⟨rfl, rfl⟩
end CON
end
section
/-! pure mathematics: least of a fold, pigeons, walks, distances -/
theorem itr_inv {σ : Type} {f : Nat → σ → σ} (P : Nat → σ → Prop) : ∀ {n : Nat} {s : σ}, (∀ k s, k < n → P k s → P (k + 1) (f k s)) → P 0 s → P n (itr f n s)
  | 0, _, _, h => h
  | n + 1, s, hs, h => by
    rw [itr_s]
    exact hs n _ (by omega) (itr_inv P (n := n) (fun k s hk => hs k s (by omega)) h)
/-- the least of a fold: the first of the least stays -/
theorem argmin {T : Type} (cur : T → Int) (κ : Nat → Int) (ok : Nat → Bool) (mk : Nat → T) (f : Nat → T → T) (h1 : ∀ u t, ok u = true → κ u < cur t → f u t = mk u) (h2 : ∀ u t, ¬ (ok u = true ∧ κ u < cur t) → f u t = t) (hm : ∀ u, ok u = true → cur (mk u) = κ u) (t : T) : ∀ k, (itr f k t = t ∧ ∀ u, u < k → ok u = true → cur t ≤ κ u) ∨ ∃ u0, u0 < k ∧ ok u0 = true ∧ itr f k t = mk u0 ∧ κ u0 < cur t ∧ (∀ u, u < k → ok u = true → κ u0 ≤ κ u) ∧ ∀ u, u < u0 → ok u = true → κ u0 < κ u
  | 0 => Or.inl ⟨rfl, fun u h => absurd h (Nat.not_lt_zero _)⟩
  | k + 1 => by
    rcases argmin cur κ ok mk f h1 h2 hm t k with ⟨e, ha⟩ | ⟨u0, hu, ho, e, hl, ha, hb⟩
    · rw [itr_s, e]
      by_cases c : ok k = true ∧ κ k < cur t
      · refine Or.inr ⟨k, by omega, c.1, h1 k t c.1 c.2, c.2, fun u hu hk => ?_, fun u hu hk => ?_⟩
        · by_cases e9 : u = k
          · rw [e9]; exact Int.le_refl _
          · have := ha u (by omega) hk
            omega
        · have := ha u (by omega) hk
          omega
      · refine Or.inl ⟨h2 k t c, fun u hu hk => ?_⟩
        by_cases e9 : u = k
        · subst e9
          have : ¬ κ u < cur t := fun h => c ⟨hk, h⟩
          omega
        · exact ha u (by omega) hk
    · rw [itr_s, e]
      by_cases c : ok k = true ∧ κ k < cur (mk u0)
      · have c2 := c.2
        rw [hm u0 ho] at c2
        refine Or.inr ⟨k, by omega, c.1, h1 k _ c.1 c.2, by omega, fun u hu hk => ?_, fun u hu hk => ?_⟩
        · by_cases e9 : u = k
          · rw [e9]; exact Int.le_refl _
          · have := ha u (by omega) hk
            omega
        · have := ha u (by omega) hk
          omega
      · refine Or.inr ⟨u0, by omega, ho, h2 k _ c, hl, fun u hu hk => ?_, hb⟩
        by_cases e9 : u = k
        · subst e9
          have : ¬ κ u < cur (mk u0) := fun h => c ⟨hk, h⟩
          rw [hm u0 ho] at this
          omega
        · exact ha u (by omega) hk
/-- pigeons -/
theorem pigeon : ∀ (n k : Nat) (P : Nat → Nat → Prop), (∀ i, i < k → ∃ x, x < n ∧ P i x) → (∀ i j x, i < k → j < k → P i x → P j x → i = j) → k ≤ n
  | 0, k, P, h, _ => by
    rcases Nat.eq_zero_or_pos k with e | e
    · omega
    · obtain ⟨x, hx, _⟩ := h 0 e
      omega
  | n + 1, k, P, h, hi => by
    by_cases c : ∃ i, i < k ∧ P i n
    · obtain ⟨i0, hi0, hp0⟩ := c
      have ih := pigeon n (k - 1) (fun j x => P (if j < i0 then j else j + 1) x) (fun j hj => by
        have hj2 : (if j < i0 then j else j + 1) < k := by split <;> omega
        have hne : (if j < i0 then j else j + 1) ≠ i0 := by split <;> omega
        obtain ⟨x, hx, hp⟩ := h _ hj2
        refine ⟨x, ?_, hp⟩
        have : x ≠ n := fun e => hne (hi _ _ n hj2 hi0 (e ▸ hp) hp0)
        omega) (fun i j x h1 h2 p1 p2 => by
        have := hi _ _ x (by split <;> omega) (by split <;> omega) p1 p2
        split at this <;> split at this <;> omega)
      omega
    · have := pigeon n k P (fun i hik => by
        obtain ⟨x, hx, hp⟩ := h i hik
        refine ⟨x, ?_, hp⟩
        have : x ≠ n := fun e => c ⟨i, hik, e ▸ hp⟩
        omega) hi
      omega
/-- the net's edges -/
def GR (n q : Nat) (fa fb : Nat → Nat) : Prop := n ≤ 12 ∧ q ≤ 24 ∧ (∀ e, e < q → fa e < n ∧ fb e < n ∧ fa e ≠ fb e) ∧ ∀ e f, e < q → f < q → (fa e = fa f ∧ fb e = fb f ∨ fa e = fb f ∧ fb e = fa f) → e = f
theorem bt_comm (fa fb : Nat → Nat) (q u w : Nat) : bt fa fb q u w = bt fa fb q w u := by
  unfold bt
  congr 1
  funext e
  exact Bool.or_comm _ _
theorem bt_some {fa fb : Nat → Nat} {q u w e : Nat} (h : bt fa fb q u w = some e) : e < q ∧ (fa e = u ∧ fb e = w ∨ fa e = w ∧ fb e = u) := by
  have := fst?_lt h
  refine ⟨this.1, ?_⟩
  have h2 := this.2
  simp only [Bool.or_eq_true, Bool.and_eq_true, decide_eq_true_eq] at h2
  exact h2
section GRA
variable {n q : Nat} {fa fb : Nat → Nat}
theorem bt_of (G : GR n q fa fb) {e u w : Nat} (he : e < q) (h : fa e = u ∧ fb e = w ∨ fa e = w ∧ fb e = u) : bt fa fb q u w = some e := by
  unfold bt
  refine fst?_some ?_ (fun f hf => ?_) he
  · simp only [Bool.or_eq_true, Bool.and_eq_true, decide_eq_true_eq]
    exact h
  · cases c : (decide (fa f = u) && decide (fb f = w) || decide (fa f = w) && decide (fb f = u)) with
    | false => rfl
    | true =>
      simp only [Bool.or_eq_true, Bool.and_eq_true, decide_eq_true_eq] at c
      have := G.2.2.2 f e (by omega) he (by omega)
      omega
theorem bt_nd (G : GR n q fa fb) {u w : Nat} (h : (bt fa fb q u w).isSome = true) : u < n ∧ w < n ∧ u ≠ w := by
  obtain ⟨e, he⟩ := Option.isSome_iff_exists.mp h
  obtain ⟨h1, h2⟩ := bt_some he
  have := G.2.2.1 e h1
  omega
/-- walks -/
def wk (A : Nat → Nat → Option Nat) : Nat → Nat → Nat → Prop
  | 0, a, b => a = b
  | l + 1, a, b => ∃ u, (A a u).isSome = true ∧ wk A l u b
variable {A : Nat → Nat → Option Nat}
theorem wk_tr : ∀ {l m a b c : Nat}, wk A l a b → wk A m b c → wk A (l + m) a c
  | 0, m, a, b, c, h1, h2 => by
    have : a = b := h1
    subst this
    rw [Nat.zero_add]
    exact h2
  | l + 1, m, a, b, c, ⟨u, hu, h1⟩, h2 => by
    rw [Nat.add_right_comm]
    exact ⟨u, hu, wk_tr h1 h2⟩
theorem wk_1 {a b : Nat} (h : (A a b).isSome = true) : wk A 1 a b := ⟨b, h, rfl⟩
theorem wk_sym (hs : ∀ u w, A u w = A w u) : ∀ {l a b : Nat}, wk A l a b → wk A l b a
  | 0, a, b, h => Eq.symm (show a = b from h)
  | l + 1, a, b, ⟨u, hu, h⟩ => wk_tr (wk_sym hs h) (wk_1 (by rw [hs]; exact hu))
theorem wk_split : ∀ {l m a b : Nat}, wk A (l + m) a b → ∃ c, wk A l a c ∧ wk A m c b
  | 0, m, a, b, h => ⟨a, rfl, by rw [Nat.zero_add] at h; exact h⟩
  | l + 1, m, a, b, h => by
    rw [Nat.add_right_comm] at h
    obtain ⟨u, hu, h⟩ := h
    obtain ⟨c, h1, h2⟩ := wk_split h
    exact ⟨c, ⟨u, hu, h1⟩, h2⟩
theorem wk_nd (hA : ∀ u w, (A u w).isSome = true → u < n ∧ w < n ∧ u ≠ w) : ∀ {l a b : Nat}, a < n → wk A l a b → b < n
  | 0, a, b, ha, h => by
    have : a = b := h
    omega
  | l + 1, a, b, ha, ⟨u, hu, h⟩ => wk_nd hA (hA a u hu).2.1 h
/-- a walk over nodes below k -/
def Wk (A : Nat → Nat → Option Nat) (k l a b : Nat) : Prop := ∀ P : Nat → Nat → Nat → Prop, (∀ a, P 0 a a) → (∀ a b, (A a b).isSome = true → P 1 a b) → (∀ l m a c b, c < k → P l a c → P m c b → P (l + m) a b) → P l a b
theorem Wk.nil {k : Nat} (a : Nat) : Wk A k 0 a a := fun _ h _ _ => h a
theorem Wk.edge {k : Nat} (a b : Nat) (h : (A a b).isSome = true) : Wk A k 1 a b := fun _ _ h2 _ => h2 a b h
theorem Wk.cat {k : Nat} (l m a c b : Nat) (hc : c < k) (h1 : Wk A k l a c) (h2 : Wk A k m c b) : Wk A k (l + m) a b := fun P a1 a2 a3 => a3 l m a c b hc (h1 P a1 a2 a3) (h2 P a1 a2 a3)
theorem Wk.split {k l a b : Nat} (h : Wk A (k + 1) l a b) : (∃ l', l' ≤ l ∧ Wk A k l' a b) ∨ ∃ l1 l2, Wk A k l1 a k ∧ Wk A k l2 k b ∧ l1 + l2 ≤ l := by
  refine h (fun l a b => (∃ l', l' ≤ l ∧ Wk A k l' a b) ∨ ∃ l1 l2, Wk A k l1 a k ∧ Wk A k l2 k b ∧ l1 + l2 ≤ l) (fun a => Or.inl ⟨0, Nat.le_refl _, Wk.nil a⟩) (fun a b h => Or.inl ⟨1, Nat.le_refl _, Wk.edge a b h⟩) (fun l m a c b hc i1 i2 => ?_)
  · by_cases e : c = k
    · subst e
      have j1 : ∃ l1, l1 ≤ l ∧ Wk A c l1 a c := by
        rcases i1 with ⟨l', h, w⟩ | ⟨l1, l2, w1, w2, h⟩
        · exact ⟨l', h, w⟩
        · exact ⟨l1, by omega, w1⟩
      have j2 : ∃ l1, l1 ≤ m ∧ Wk A c l1 c b := by
        rcases i2 with ⟨l', h, w⟩ | ⟨l1, l2, w1, w2, h⟩
        · exact ⟨l', h, w⟩
        · exact ⟨l2, by omega, w2⟩
      obtain ⟨x, hx, wx⟩ := j1
      obtain ⟨y, hy, wy⟩ := j2
      exact Or.inr ⟨x, y, wx, wy, by omega⟩
    · have hck : c < k := by omega
      rcases i1 with ⟨l', h, w⟩ | ⟨l1, l2, w1, w2, h⟩
      · rcases i2 with ⟨m', h', w'⟩ | ⟨m1, m2, v1, v2, h'⟩
        · exact Or.inl ⟨l' + m', by omega, Wk.cat _ _ _ c _ hck w w'⟩
        · exact Or.inr ⟨l' + m1, m2, Wk.cat _ _ _ c _ hck w v1, v2, by omega⟩
      · rcases i2 with ⟨m', h', w'⟩ | ⟨m1, m2, v1, v2, h'⟩
        · exact Or.inr ⟨l1, l2 + m', w1, Wk.cat _ _ _ c _ hck w2 w', by omega⟩
        · exact Or.inr ⟨l1, m2, w1, v2, by omega⟩
theorem Wk.of (hA : ∀ u w, (A u w).isSome = true → u < n ∧ w < n ∧ u ≠ w) : ∀ {l a b : Nat}, wk A l a b → Wk A n l a b
  | 0, a, b, h => by
    have : a = b := h
    subst this
    exact Wk.nil a
  | l + 1, a, b, ⟨u, hu, h⟩ => by
    rw [Nat.add_comm]
    exact Wk.cat 1 l a u b (hA a u hu).2.1 (Wk.edge a u hu) (Wk.of hA h)
/-- the distances, in numbers -/
def gf1 (y a b : Nat) (G : Nat → Nat → Nat) : Nat → Nat → Nat := fun x z => if x = a ∧ z = b then min (G a b) (G a y + G y b) else G x z
def gin (A : Nat → Nat → Option Nat) (a b : Nat) : Nat := if a = b then 0 else if (A a b).isSome = true then 1 else 1000000
def gf (n k : Nat) (G : Nat → Nat → Nat) : Nat → Nat → Nat := itr (fun y => itr (fun a => itr (gf1 y a) n) n) k G
theorem gf1_le (y a b : Nat) (G : Nat → Nat → Nat) (x z : Nat) : gf1 y a b G x z ≤ G x z := by
  unfold gf1
  split
  · next h => rw [h.1, h.2]; exact Nat.min_le_left _ _
  · exact Nat.le_refl _
theorem gfi (y a : Nat) (G : Nat → Nat → Nat) : ∀ k, (∀ x z, itr (gf1 y a) k G x z ≤ G x z) ∧ ∀ b, b < k → itr (gf1 y a) k G a b ≤ G a y + G y b
  | 0 => ⟨fun _ _ => Nat.le_refl _, fun b h => absurd h (Nat.not_lt_zero _)⟩
  | k + 1 => by
    obtain ⟨h1, h2⟩ := gfi y a G k
    rw [itr_s]
    refine ⟨fun x z => Nat.le_trans (gf1_le _ _ _ _ _ _) (h1 x z), fun b hb => ?_⟩
    by_cases e : b = k
    · subst e
      have i1 := h1 a y
      have i2 := h1 y b
      generalize itr (gf1 y a) b G = G1 at i1 i2 ⊢
      unfold gf1
      rw [if_pos ⟨rfl, rfl⟩]
      exact Nat.le_trans (Nat.min_le_right _ _) (by omega)
    · exact Nat.le_trans (gf1_le _ _ _ _ _ _) (h2 b (by omega))
theorem gfo (y n : Nat) (G : Nat → Nat → Nat) : ∀ k, (∀ x z, itr (fun a => itr (gf1 y a) n) k G x z ≤ G x z) ∧ ∀ a b, a < k → b < n → itr (fun a => itr (gf1 y a) n) k G a b ≤ G a y + G y b
  | 0 => ⟨fun _ _ => Nat.le_refl _, fun a b h => absurd h (Nat.not_lt_zero _)⟩
  | k + 1 => by
    obtain ⟨h1, h2⟩ := gfo y n G k
    rw [itr_s]
    have i := gfi y k (itr (fun a => itr (gf1 y a) n) k G) n
    refine ⟨fun x z => Nat.le_trans (i.1 x z) (h1 x z), fun a b ha hb => ?_⟩
    by_cases e : a = k
    · subst e
      have := i.2 b hb
      have j1 := h1 a y
      have j2 := h1 y b
      omega
    · exact Nat.le_trans (i.1 a b) (h2 a b (by omega) hb)
theorem gf_up : ∀ k, k ≤ n → ∀ a b l, a < n → b < n → Wk A k l a b → gf n k (gin A) a b ≤ l
  | 0, _, a, b, l, ha, hb, w => by
    refine w (fun l a b => gin A a b ≤ l) (fun a => ?_) (fun a b h => ?_) (fun l m a c b hc => absurd hc (Nat.not_lt_zero _))
    · unfold gin; rw [if_pos rfl]; exact Nat.le_refl _
    · unfold gin
      split
      · omega
      · first | exact Nat.le_refl _ | (rw [if_pos h]; exact Nat.le_refl _)
  | k + 1, hk, a, b, l, ha, hb, w => by
    have ih := gf_up k (by omega)
    have g := gfo k n (gf n k (gin A)) n
    show itr (fun a => itr (gf1 k a) n) n (gf n k (gin A)) a b ≤ l
    rcases w.split with ⟨l', h, w'⟩ | ⟨l1, l2, w1, w2, h⟩
    · have := g.1 a b
      have := ih a b l' ha hb w'
      omega
    · have := g.2 a b ha hb
      have := ih a k l1 ha (by omega) w1
      have := ih k b l2 (by omega) hb w2
      omega
/-- what the numbers are: walks, or a million -/
def Snd (A : Nat → Nat → Option Nat) (n : Nat) (G : Nat → Nat → Nat) : Prop := ∀ a b, a < n → b < n → G a b ≤ 1000000 ∧ (G a b < 1000000 → wk A (G a b) a b)
theorem Snd.st {G : Nat → Nat → Nat} {y a b : Nat} (hy : y < n) (ha : a < n) (hb : b < n) (h : Snd A n G) : Snd A n (gf1 y a b G) := by
  intro x z hx hz
  unfold gf1
  split
  · next e =>
    rcases Nat.le_total (G a b) (G a y + G y b) with c | c
    · rw [Nat.min_eq_left c]
      have := h a b ha hb
      rw [e.1, e.2]
      exact this
    · rw [Nat.min_eq_right c]
      have h1 := h a b ha hb
      have h2 := h a y ha hy
      have h3 := h y b hy hb
      refine ⟨by omega, fun hl => ?_⟩
      rw [e.1, e.2]
      exact wk_tr (h2.2 (by omega)) (h3.2 (by omega))
  · exact h x z hx hz
theorem gf_snd : ∀ k, k ≤ n → Snd A n (gf n k (gin A)) := fun k hk => by
  refine itr_inv (fun _ G => Snd A n G) (fun y G hy h => ?_) ?_
  · refine itr_inv (fun _ G => Snd A n G) (fun a G ha h => ?_) h
    exact itr_inv (fun _ G => Snd A n G) (fun b G hb h => h.st (by omega) ha hb) h
  · intro a b ha hb
    unfold gin
    split
    · next e => exact ⟨by omega, fun _ => e⟩
    · split
      · next h => exact ⟨by omega, fun _ => wk_1 h⟩
      · exact ⟨Nat.le_refl _, fun h => absurd h (Nat.lt_irrefl _)⟩
/-- the model's array holds them -/
def Rep (n : Nat) (F : Nat → Int32) (G : Nat → Nat → Nat) : Prop := ∀ a b, a < n → b < n → F (12 * a + b) = nI (G a b) ∧ G a b ≤ 1000000
theorem Rep.st {F : Nat → Int32} {G : Nat → Nat → Nat} {y a b : Nat} (hn : n ≤ 12) (hy : y < n) (ha : a < n) (hb : b < n) (h : Rep n F G) : Rep n (fw1 y a b F) (gf1 y a b G) := by
  intro x z hx hz
  have h1 := h a b ha hb
  have h2 := h a y ha hy
  have h3 := h y b hy hb
  have h4 := h x z hx hz
  unfold fw1 gf1
  by_cases e : x = a ∧ z = b
  · rw [if_pos e, e.1, e.2, pk_us, h1.1, h2.1, h3.1, nI_add]
    refine ⟨?_, by have := Nat.min_le_left (G a b) (G a y + G y b); omega⟩
    by_cases c : G a y + G y b < G a b
    · rw [decide_eq_true ((nI_ltI (by omega) (by omega)).mpr c), Nat.min_eq_right (by omega)]
      rfl
    · rw [decide_eq_false (fun q => c ((nI_ltI (by omega) (by omega)).mp q)), Nat.min_eq_left (by omega)]
      rfl
  · rw [if_neg e, pk_un (by omega)]
    exact h4
theorem mdist_rep (hn : n ≤ 12) (f : Nat → Int32) : Rep n (mdist A n f) (gf n n (gin A)) := by
  unfold mdist fw gf
  have hini : Rep n (ini A n n f) (gin A) := by
    have key : ∀ k, k ≤ n → ∀ a b, a < k → b < n → ini A n k f (12 * a + b) = iv A a b := by
      intro k
      induction k with
      | zero => intro _ a b h; exact absurd h (Nat.not_lt_zero _)
      | succ k ih =>
        intro hk a b ha hb
        show itr (ini1 A k) n (ini A n k f) (12 * a + b) = _
        have inner : ∀ j, j ≤ n → ∀ x z, x ≤ k → z < n → itr (ini1 A k) j (ini A n k f) (12 * x + z) = if x = k ∧ z < j then iv A k z else ini A n k f (12 * x + z) := by
          intro j
          induction j with
          | zero => intro _ x z _ _; rw [if_neg (by omega)]; rfl
          | succ j ih2 =>
            intro hj x z hx hz
            rw [itr_s]
            show upd _ (12 * k + j) (iv A k j) (12 * x + z) = _
            by_cases e : x = k ∧ z = j
            · rw [e.1, e.2, pk_us, if_pos ⟨rfl, by omega⟩]
            · rw [pk_un (by omega), ih2 (by omega) x z hx hz]
              by_cases c : x = k ∧ z < j
              · rw [if_pos c, if_pos ⟨c.1, by omega⟩]
              · rw [if_neg c, if_neg (by omega)]
        rw [inner n (Nat.le_refl _) a b (by omega) hb]
        by_cases c : a = k ∧ b < n
        · rw [if_pos c, c.1]
        · rw [if_neg c]
          exact ih (by omega) a b (by omega) hb
    intro a b ha hb
    rw [key n (Nat.le_refl _) a b ha hb]
    unfold iv gin
    by_cases e : a = b
    · rw [if_pos e, decide_eq_true e]
      exact ⟨rfl, by omega⟩
    · rw [if_neg e, decide_eq_false e]
      by_cases c : (A a b).isSome = true
      · rw [if_pos c, c]
        exact ⟨rfl, by omega⟩
      · rw [if_neg c, Bool.eq_false_iff.mpr c]
        exact ⟨rfl, Nat.le_refl _⟩
  have go : ∀ k, k ≤ n → Rep n (itr (fun y => itr (fun a => itr (fw1 y a) n) n) k (ini A n n f)) (itr (fun y => itr (fun a => itr (gf1 y a) n) n) k (gin A)) := by
    intro k
    induction k with
    | zero => intro _; exact hini
    | succ k ih =>
      intro hk
      have ih := ih (by omega)
      rw [itr_s, itr_s]
      generalize itr (fun y => itr (fun a => itr (fw1 y a) n) n) k (ini A n n f) = F at ih ⊢
      generalize itr (fun y => itr (fun a => itr (gf1 y a) n) n) k (gin A) = G at ih ⊢
      have o : ∀ a, a ≤ n → Rep n (itr (fun a => itr (fw1 k a) n) a F) (itr (fun a => itr (gf1 k a) n) a G) := by
        intro a
        induction a with
        | zero => intro _; exact ih
        | succ a ih2 =>
          intro ha
          have ih2 := ih2 (by omega)
          rw [itr_s, itr_s]
          generalize itr (fun a => itr (fw1 k a) n) a F = F2 at ih2 ⊢
          generalize itr (fun a => itr (gf1 k a) n) a G = G2 at ih2 ⊢
          have i : ∀ b, b ≤ n → Rep n (itr (fw1 k a) b F2) (itr (gf1 k a) b G2) := by
            intro b
            induction b with
            | zero => intro _; exact ih2
            | succ b ih3 =>
              intro hb
              rw [itr_s, itr_s]
              exact (ih3 (by omega)).st hn (by omega) (by omega) (by omega)
          exact i n (Nat.le_refl _)
      exact o n (Nat.le_refl _)
  exact go n (Nat.le_refl _)
/-- distances of a net -/
def dst (A : Nat → Nat → Option Nat) (n : Nat) : Nat → Nat → Nat := gf n n (gin A)
theorem dst_le (hA : ∀ u w, (A u w).isSome = true → u < n ∧ w < n ∧ u ≠ w) {a b l : Nat} (ha : a < n) (hb : b < n) (h : wk A l a b) : dst A n a b ≤ l := gf_up n (Nat.le_refl _) a b l ha hb (Wk.of hA h)
theorem dst_wk {a b : Nat} (ha : a < n) (hb : b < n) (h : dst A n a b < 1000000) : wk A (dst A n a b) a b := (gf_snd n (Nat.le_refl _) a b ha hb).2 h
theorem dst_max {a b : Nat} (ha : a < n) (hb : b < n) : dst A n a b ≤ 1000000 := (gf_snd n (Nat.le_refl _) a b ha hb).1
/-- a shortest walk is short -/
theorem wk_short (hA : ∀ u w, (A u w).isSome = true → u < n ∧ w < n ∧ u ≠ w) {a b : Nat} (ha : a < n) : ∀ d, wk A d a b → (∀ l, wk A l a b → d ≤ l) → d < n := fun d h hmin => by
  refine pigeon n (d + 1) (fun i x => wk A i a x ∧ wk A (d - i) x b) (fun i hi => ?_) (fun i j x hi hj h1 h2 => ?_)
  · have h' : wk A (i + (d - i)) a b := by rw [show i + (d - i) = d by omega]; exact h
    obtain ⟨c, h1, h2⟩ := wk_split h'
    exact ⟨c, wk_nd hA ha h1, h1, h2⟩
  · have a1 := hmin _ (wk_tr h1.1 h2.2)
    have a2 := hmin _ (wk_tr h2.1 h1.2)
    omega
theorem dst_lt (hA : ∀ u w, (A u w).isSome = true → u < n ∧ w < n ∧ u ≠ w) {a b : Nat} (ha : a < n) (hb : b < n) (h : dst A n a b < 1000000) : dst A n a b < n := wk_short hA ha _ (dst_wk ha hb h) (fun l hl => dst_le hA ha hb hl)
theorem wk_least : ∀ (l : Nat) {a b : Nat}, wk A l a b → ∃ d, d ≤ l ∧ wk A d a b ∧ ∀ m, wk A m a b → d ≤ m := by
  intro l
  induction l using Nat.strongRecOn with
  | ind l ih =>
    intro a b h
    by_cases c : ∃ m, m < l ∧ wk A m a b
    · obtain ⟨m, hm, hw⟩ := c
      obtain ⟨d, h1, h2, h3⟩ := ih m hm hw
      exact ⟨d, by omega, h2, h3⟩
    · exact ⟨l, Nat.le_refl _, h, fun m hm => Nat.not_lt.mp (fun q => c ⟨m, q, hm⟩)⟩
theorem dst_re (hA : ∀ u w, (A u w).isSome = true → u < n ∧ w < n ∧ u ≠ w) (hn : n ≤ 12) {a b l : Nat} (ha : a < n) (hb : b < n) (h : wk A l a b) : dst A n a b < n := by
  obtain ⟨d, h1, h2, h3⟩ := wk_least l h
  have := wk_short hA ha d h2 h3
  have := dst_le hA ha hb h2
  omega
end GRA
end
section
/-! distances: the class's and the model's -/
section DIS
variable {n q : Nat} {fa fb : Nat → Nat} {A : Nat → Nat → Option Nat}
def DI (A : Nat → Nat → Option Nat) (n : Nat) (D : Nat → Nat → Nat) : Prop := (∀ a, a < n → D a a = 0) ∧ (∀ a b, a < n → b < n → D a b = 0 → a = b) ∧ (∀ a b, a < n → b < n → D a b = D b a) ∧ (∀ a u b, b < n → (A a u).isSome = true → D a b ≤ D u b + 1) ∧ (∀ a b l, a < n → b < n → D a b = l + 1 → ∃ u, (A a u).isSome = true ∧ D u b = l) ∧ ∀ a b, a < n → b < n → D a b < n
/-- the net's neighbours are nodes, and each other's -/
def Nb (A : Nat → Nat → Option Nat) (n : Nat) : Prop := (∀ u w, (A u w).isSome = true → u < n ∧ w < n ∧ u ≠ w) ∧ ∀ u w, A u w = A w u
theorem GR.nb (G : GR n q fa fb) : Nb (bt fa fb q) n := ⟨fun _ _ h => bt_nd G h, bt_comm fa fb q⟩
theorem dst_self (hB : Nb A n) {a : Nat} (ha : a < n) : dst A n a a = 0 := Nat.le_zero.mp (dst_le hB.1 ha ha (l := 0) rfl)
theorem dst_zero {a b : Nat} (ha : a < n) (hb : b < n) (h : dst A n a b = 0) : a = b := by
  have := dst_wk (A := A) ha hb (by omega)
  rw [h] at this
  exact this
theorem dst_sym1 (hB : Nb A n) {a b : Nat} (ha : a < n) (hb : b < n) : dst A n a b ≤ dst A n b a := by
  rcases Nat.lt_or_ge (dst A n b a) 1000000 with h | h
  · exact dst_le hB.1 ha hb (wk_sym hB.2 (dst_wk hb ha h))
  · exact Nat.le_trans (dst_max ha hb) h
theorem dst_sym (hB : Nb A n) {a b : Nat} (ha : a < n) (hb : b < n) : dst A n a b = dst A n b a := Nat.le_antisymm (dst_sym1 hB ha hb) (dst_sym1 hB hb ha)
theorem dst_nb (hB : Nb A n) {a u b : Nat} (hb : b < n) (h : (A a u).isSome = true) : dst A n a b ≤ dst A n u b + 1 := by
  have hn := hB.1 a u h
  rcases Nat.lt_or_ge (dst A n u b) 1000000 with c | c
  · rw [Nat.add_comm]
    exact dst_le hB.1 hn.1 hb (wk_tr (wk_1 h) (dst_wk hn.2.1 hb c))
  · exact Nat.le_trans (dst_max hn.1 hb) (by omega)
theorem dst_dn (hB : Nb A n) {a b l : Nat} (ha : a < n) (hb : b < n) (hl : dst A n a b < 1000000) (h : dst A n a b = l + 1) : ∃ u, (A a u).isSome = true ∧ dst A n u b = l := by
  have w := dst_wk ha hb hl
  rw [h] at w
  obtain ⟨u, hu, w⟩ := w
  have hn := hB.1 a u hu
  have h1 := dst_le hB.1 hn.2.1 hb w
  have h2 := dst_nb hB hb hu
  exact ⟨u, hu, by omega⟩
/-- all hangs together -/
def Con (A : Nat → Nat → Option Nat) (n : Nat) : Prop := ∀ v, v < n → dst A n 0 v < 1000000
theorem Con.di (hn : n ≤ 12) (hB : Nb A n) (C : Con A n) : DI A n (dst A n) := by
  have all : ∀ a b, a < n → b < n → dst A n a b < n := fun a b ha hb => by
    have h0 : 0 < n := by omega
    exact dst_re hB.1 hn ha hb (wk_tr (wk_sym hB.2 (dst_wk h0 ha (C a ha))) (dst_wk h0 hb (C b hb)))
  exact ⟨fun a ha => dst_self hB ha, fun a b ha hb => dst_zero ha hb, fun a b ha hb => dst_sym hB ha hb, fun a u b hb h => dst_nb hB hb h, fun a b l ha hb h => dst_dn hB ha hb (by have := all a b ha hb; omega) h, all⟩
/-- the class's layers -/
theorem lvl_dst (hn : n ≤ 12) (hB : Nb A n) {x t : Nat} (hx : x < n) (ht : t < n) {F : Nat → Int32} (h : ∀ v, v < n → F v = if dst A n x v ≤ t then nI (dst A n x v) else -1) : ∀ k, k ≤ n → ∀ u, u < n → lvl A n t k F u = if dst A n x u ≤ t then nI (dst A n x u) else bif anyb (fun v => decide (dst A n x v = t) && (A v u).isSome) k then nI (t + 1) else -1
  | 0, _, u, hu => by
    rw [lvl_0, h u hu]
    rfl
  | k + 1, hk, u, hu => by
    have ih := lvl_dst hn hB hx ht h k (by omega)
    rw [lvl_s]
    have ihu := ih u hu
    have ihk := ih k (by omega)
    generalize lvl A n t k F = C at ih ihu ihk ⊢
    have hck : C k = nI t ↔ dst A n x k = t := by
      rw [ihk]
      have := dst_max (A := A) hx (show k < n by omega)
      by_cases c : dst A n x k ≤ t
      · rw [if_pos c, nI_eq (by omega) (by omega)]
      · rw [if_neg c]
        refine ⟨fun q => ?_, fun q => absurd q (by omega)⟩
        revert q
        cases anyb (fun v => decide (dst A n x v = t) && (A v k).isSome) k
        · intro q
          exact absurd q (neg1_nI t (by omega))
        · intro q
          have := (nI_eq (by omega) (by omega)).mp q
          omega
    show (if C k = nI t then rch A k n C else C) u = if _ then _ else bif (anyb _ k || (decide (dst A n x k = t) && (A k u).isSome)) then _ else _
    by_cases c : dst A n x k = t
    · rw [if_pos (hck.mpr c), decide_eq_true c, Bool.true_and]
      unfold rch
      by_cases c2 : dst A n x u ≤ t
      · rw [if_pos c2] at ihu ⊢
        rw [if_neg (fun q => absurd (ihu ▸ q.2.2 : nI (dst A n x u) = -1) (fun e => neg1_nI _ (by omega) e.symm)), ihu]
      · rw [if_neg c2] at ihu ⊢
        cases e1 : anyb (fun v => decide (dst A n x v = t) && (A v u).isSome) k with
        | true =>
          rw [e1] at ihu
          have ihu2 : C u = nI (t + 1) := ihu
          rw [if_neg (fun q => absurd (ihu2.symm.trans q.2.2) (fun e => neg1_nI _ (by omega) e.symm)), ihu2]
          rfl
        | false =>
          rw [e1] at ihu
          cases e2 : (A k u).isSome with
          | true => rw [if_pos ⟨hu, rfl, ihu⟩, hck.mpr c, nI_1]; rfl
          | false => rw [if_neg (fun q => by cases q.2.1), ihu]; rfl
    · rw [if_neg (fun q => c (hck.mp q)), decide_eq_false c, Bool.false_and, Bool.or_false, ihu]
theorem msr_dst (hn : n ≤ 12) (hB : Nb A n) {x : Nat} (hx : x < n) (f : Nat → Int32) : ∀ t, t ≤ n → ∀ v, v < n → msr A n t (far0 x f) v = if dst A n x v ≤ t then nI (dst A n x v) else -1
  | 0, _, v, hv => by
    show upd (fil 12 (-1) f) x 0 v = _
    by_cases c : v = x
    · subst c
      rw [pk_us, dst_self hB hv]
      rfl
    · rw [pk_un c, if_neg (fun q => c (dst_zero hx hv (Nat.le_zero.mp q)).symm)]
      unfold fil
      rw [if_pos (by omega)]
  | t + 1, ht, v, hv => by
    rw [msr_s, lvl_dst hn hB hx (by omega) (msr_dst hn hB hx f t (by omega)) n (Nat.le_refl _) v hv]
    by_cases c : dst A n x v ≤ t
    · rw [if_pos c, if_pos (by omega)]
    · rw [if_neg c]
      by_cases c2 : dst A n x v ≤ t + 1
      · rw [if_pos c2]
        have c3 : dst A n x v = t + 1 := by omega
        have hs := dst_sym hB hx hv
        obtain ⟨u, hu, h2⟩ := dst_dn hB hv hx (by omega) (show dst A n v x = t + 1 by omega)
        have hun := (hB.1 v u hu).2.1
        rw [anyb_true.mpr ⟨u, hun, by rw [Bool.and_eq_true, decide_eq_true_eq]; exact ⟨by rw [dst_sym hB hx hun]; exact h2, by rw [hB.2]; exact hu⟩⟩, c3]
        rfl
      · rw [if_neg c2, anyb_false (fun u hu => ?_)]
        · rfl
        · cases e : (decide (dst A n x u = t) && (A u v).isSome) with
          | false => rfl
          | true =>
            rw [Bool.and_eq_true, decide_eq_true_eq] at e
            have h1 := dst_nb hB hx (show (A v u).isSome = true by rw [hB.2]; exact e.2)
            rw [dst_sym hB hv hx, dst_sym hB hu hx] at h1
            omega
theorem con_cls (hn : n ≤ 12) (hB : Nb A n) (h0 : 0 < n) (f : Nat → Int32) : anyb (fun v => decide (msr A n n (far0 0 f) v = -1)) n = false ↔ Con A n := by
  constructor
  · intro h v hv
    rcases Nat.lt_or_ge (dst A n 0 v) 1000000 with c | c
    · exact c
    · have : anyb (fun v => decide (msr A n n (far0 0 f) v = -1)) n = true := anyb_true.mpr ⟨v, hv, by
        rw [decide_eq_true_eq, msr_dst hn hB h0 f n (Nat.le_refl _) v hv, if_neg (by omega)]⟩
      rw [h] at this
      cases this
  · intro C
    refine anyb_false (fun v hv => ?_)
    rw [decide_eq_false_iff_not, msr_dst hn hB h0 f n (Nat.le_refl _) v hv]
    have := dst_lt hB.1 h0 hv (C v hv)
    rw [if_pos (by omega)]
    intro q
    exact neg1_nI _ (by omega) q.symm
theorem con_mod (hn : n ≤ 12) (h0 : 0 < n) (f : Nat → Int32) : anyb (fun v => !decide (mdist A n f v < 1000000)) n = false ↔ Con A n := by
  have hr : ∀ v, v < n → (mdist A n f v < 1000000 ↔ dst A n 0 v < 1000000) := fun v hv => by
    have h := mdist_rep (A := A) hn f 0 v h0 hv
    rw [Nat.mul_zero, Nat.zero_add] at h
    rw [h.1, show (1000000 : Int32) = nI 1000000 from rfl, nI_ltI (by have := h.2; omega) (by decide)]
    exact Iff.rfl
  constructor
  · intro h v hv
    rw [← hr v hv]
    cases e : decide (mdist A n f v < 1000000) with
    | true => exact of_decide_eq_true e
    | false =>
      have : anyb (fun v => !decide (mdist A n f v < 1000000)) n = true := anyb_true.mpr ⟨v, hv, by rw [e]; rfl⟩
      rw [h] at this
      cases this
  · intro C
    refine anyb_false (fun v hv => ?_)
    rw [decide_eq_true ((hr v hv).mpr (C v hv))]
    rfl
/-- identities all different -/
def Dis (ids : Nat → Int32) (n : Nat) : Prop := ∀ a b, a < n → b < n → ids a = ids b → a = b
theorem twn_dis (ids : Nat → Int32) (n : Nat) : twn ids n = false ↔ Dis ids n := by
  unfold twn
  constructor
  · intro h a b ha hb e
    have key : ∀ a b, a < n → b < n → a < b → ids a = ids b → False := fun a b ha hb hl e => by
      have : anyb (fun a => anyb (fun b => decide (a < b) && decide (ids a = ids b)) n) n = true := anyb_true.mpr ⟨a, ha, anyb_true.mpr ⟨b, hb, by rw [decide_eq_true hl, decide_eq_true e]; rfl⟩⟩
      rw [h] at this
      cases this
    rcases Nat.lt_trichotomy a b with c | c | c
    · exact (key a b ha hb c e).elim
    · exact c
    · exact (key b a hb ha c e.symm).elim
  · intro h
    refine anyb_false (fun a ha => anyb_false (fun b hb => ?_))
    by_cases c : a < b
    · rw [decide_eq_false (fun q => absurd (h a b ha hb q) (by omega)), Bool.and_false]
    · rw [decide_eq_false c, Bool.false_and]
theorem twm_dis (ids : Nat → Int32) (n : Nat) : anyb (fun a => anyb (fun b => decide (b < a) && decide (ids a = ids b)) n) n = false ↔ Dis ids n := by
  constructor
  · intro h a b ha hb e
    have key : ∀ a b, a < n → b < n → b < a → ids a = ids b → False := fun a b ha hb hl e => by
      have : anyb (fun a => anyb (fun b => decide (b < a) && decide (ids a = ids b)) n) n = true := anyb_true.mpr ⟨a, ha, anyb_true.mpr ⟨b, hb, by rw [decide_eq_true hl, decide_eq_true e]; rfl⟩⟩
      rw [h] at this
      cases this
    rcases Nat.lt_trichotomy a b with c | c | c
    · exact (key b a hb ha c e.symm).elim
    · exact c
    · exact (key a b ha hb c e).elim
  · intro h
    refine anyb_false (fun a ha => anyb_false (fun b hb => ?_))
    by_cases c : b < a
    · rw [decide_eq_false (fun q => absurd (h a b ha hb q) (by omega)), Bool.and_false]
    · rw [decide_eq_false c, Bool.false_and]
theorem ready_eq (hn : n ≤ 12) (hB : Nb A n) (h0 : 0 < n) {S : am_S0} {ids f : Nat → Int32} (hi : ∀ v, v < n → S 3 v = ids v) : rdy S A n = mrd A n ids f ∧ (mrd A n ids f = 0 → Con A n ∧ Dis ids n) := by
  have hd : Dis (S 3) n ↔ Dis ids n := ⟨fun h a b ha hb e => h a b ha hb (by rw [hi a ha, hi b hb]; exact e), fun h a b ha hb e => h a b ha hb (by rw [← hi a ha, ← hi b hb]; exact e)⟩
  have e1 : anyb (fun v => decide (msr A n n (far0 0 (S 18)) v = -1)) n = anyb (fun v => !decide (mdist A n f v < 1000000)) n := by
    rw [Bool.eq_iff_iff]
    have a := con_cls hn hB h0 (S 18)
    have b := con_mod (A := A) hn h0 f
    rw [← Bool.not_eq_false, ← Bool.not_eq_false, a, b]
  have e2 : twn (S 3) n = anyb (fun a => anyb (fun b => decide (b < a) && decide (ids a = ids b)) n) n := by
    rw [Bool.eq_iff_iff, ← Bool.not_eq_false, ← Bool.not_eq_false, twn_dis, twm_dis, hd]
  refine ⟨by unfold rdy mrd; rw [e1, e2], fun h => ?_⟩
  unfold mrd at h
  cases c1 : anyb (fun v => !decide (mdist A n f v < 1000000)) n with
  | true => rw [c1] at h; cases h
  | false =>
    rw [c1] at h
    cases c2 : anyb (fun a => anyb (fun b => decide (b < a) && decide (ids a = ids b)) n) n with
    | true => rw [c2] at h; cases h
    | false => exact ⟨(con_mod hn h0 f).mp c1, (twm_dis ids n).mp c2⟩
/-- the tree -/
theorem fst?_congr {p p2 : Nat → Bool} : ∀ {n : Nat}, (∀ u, u < n → p u = p2 u) → fst? p n = fst? p2 n
  | 0, _ => rfl
  | n + 1, h => by
    unfold fst?
    rw [fst?_congr (n := n) (fun u hu => h u (by omega)), h n (by omega)]
def ptr (A : Nat → Nat → Option Nat) (n : Nat) (D : Nat → Nat → Nat) (rt v : Nat) : Option Nat := bif decide (v = rt) then none else fst? (fun u => (A v u).isSome && decide (D rt u + 1 = D rt v)) n
theorem nrr_ptr (hn : n ≤ 12) (hB : Nb A n) (C : Con A n) {rt : Nat} (hr : rt < n) (f : Nat → Int32) {v : Nat} (hv : v < n) : nrr A n (msr A n n (far0 rt f)) v = ptr A n (dst A n) rt v := by
  have I := C.di hn hB
  have hF : ∀ u, u < n → msr A n n (far0 rt f) u = nI (dst A n rt u) := fun u hu => by
    rw [msr_dst hn hB hr f n (Nat.le_refl _) u hu, if_pos (Nat.le_of_lt (I.2.2.2.2.2 rt u hr hu))]
  unfold nrr ptr
  rw [hF v hv]
  have hb := I.2.2.2.2.2 rt v hr hv
  by_cases c : v = rt
  · subst c
    rw [I.1 v hv, decide_eq_true (show v = v from rfl)]
    rfl
  · have h1 : 0 < dst A n rt v := Nat.pos_of_ne_zero (fun e => c (I.2.1 rt v hr hv e).symm)
    rw [decide_eq_false c, decide_eq_true (show (0 : Int32) < nI (dst A n rt v) from nI_lt (a := 0) h1 (by omega))]
    refine fst?_congr (fun u hu => ?_)
    have hu2 := I.2.2.2.2.2 rt u hr hu
    congr 1
    rw [hF u hu, Bool.eq_iff_iff, decide_eq_true_eq, decide_eq_true_eq, show nI (dst A n rt v) - 1 = nI (dst A n rt v - 1) from pk_sub (b := 1) h1, nI_eq (by omega) (by omega)]
    omega
theorem mpr_ptr (hn : n ≤ 12) (G : GR n q fa fb) (C : Con (bt fa fb q) n) {rt : Nat} (hr : rt < n) (f : Nat → Int32) {v : Nat} (hv : v < n) : mpr fa fb q n (mdist (bt fa fb q) n f) rt v = ptr (bt fa fb q) n (dst (bt fa fb q) n) rt v := by
  have hB := G.nb
  have I := C.di hn hB
  have hF : ∀ u, u < n → mdist (bt fa fb q) n f (12 * u + rt) = nI (dst (bt fa fb q) n rt u) := fun u hu => by
    have h := mdist_rep (A := bt fa fb q) hn f u rt hu hr
    rw [h.1]
    show nI (dst (bt fa fb q) n u rt) = _
    rw [dst_sym hB hu hr]
  unfold mpr ptr mnr
  by_cases c : v = rt
  · rw [decide_eq_true c]
    rfl
  · rw [decide_eq_false c, cond_false, cond_false]
    have hb := I.2.2.2.2.2 rt v hr hv
    have h1 : 0 < dst (bt fa fb q) n rt v := Nat.pos_of_ne_zero (fun e => c (I.2.1 rt v hr hv e).symm)
    refine fst?_congr (fun u hu => ?_)
    have hu2 := I.2.2.2.2.2 rt u hr hu
    rw [bt_comm fa fb q u v]
    congr 1
    rw [hF u hu, hF v hv, Bool.eq_iff_iff, decide_eq_true_eq, decide_eq_true_eq, show nI (dst (bt fa fb q) n rt v) - 1 = nI (dst (bt fa fb q) n rt v - 1) from pk_sub (b := 1) h1, nI_eq (by omega) (by omega)]
    omega
theorem ptr_some {D : Nat → Nat → Nat} {rt v u : Nat} (h : ptr A n D rt v = some u) : u < n ∧ (A v u).isSome = true ∧ D rt u + 1 = D rt v := by
  unfold ptr at h
  rcases bif_or h with h | h
  · cases h
  · have := fst?_lt h
    rw [Bool.and_eq_true, decide_eq_true_eq] at this
    exact this
theorem ptr_none (hB : Nb A n) {D : Nat → Nat → Nat} (I : DI A n D) {rt v : Nat} (hr : rt < n) (hv : v < n) : ptr A n D rt v = none ↔ v = rt := by
  constructor
  · intro h
    by_cases c : v = rt
    · exact c
    · have h1 : 0 < D rt v := Nat.pos_of_ne_zero (fun e => c (I.2.1 rt v hr hv e).symm)
      have hs := I.2.2.1 rt v hr hv
      obtain ⟨u, hu, hd⟩ := I.2.2.2.2.1 v rt (D rt v - 1) hv hr (by omega)
      have hun := (hB.1 v u hu).2.1
      have hs2 := I.2.2.1 rt u hr hun
      unfold ptr at h
      rw [decide_eq_false c, cond_false] at h
      have key : ∀ k, k ≤ n → u < k → fst? (fun u => (A v u).isSome && decide (D rt u + 1 = D rt v)) k ≠ none := by
        intro k
        induction k with
        | zero => intro _ h; exact absurd h (Nat.not_lt_zero _)
        | succ k ih =>
          intro hk hl he
          unfold fst? at he
          cases e : fst? (fun u => (A v u).isSome && decide (D rt u + 1 = D rt v)) k with
          | some w => rw [e] at he; cases he
          | none =>
            rw [e] at he
            by_cases c2 : u < k
            · exact ih (by omega) c2 e
            · have : u = k := by omega
              subst this
              rw [hu, decide_eq_true (show D rt u + 1 = D rt v by omega)] at he
              cases he
      exact absurd h (key n (Nat.le_refl _) hun)
  · intro h
    unfold ptr
    rw [decide_eq_true h]
    rfl
theorem ptr_rk {D : Nat → Nat → Nat} (hn : n ≤ 12) (I : DI A n D) {rt : Nat} (hr : rt < n) : Rk (ptr A n D rt) n (fun v => D rt v) := ⟨fun v hv => by have := I.2.2.2.2.2 rt v hr hv; show D rt v < 12; omega, fun v u hv h => by have := ptr_some h; exact ⟨this.1, by show D rt u < D rt v; omega⟩⟩
end DIS
end
section
/-! the class's rounds, told by threes; LEAST -/
abbrev T3 : Type := Int32 × Int32 × Int32
def tri (S : am_S0) (v : Nat) : T3 := (S 20 v, S 21 v, S 22 v)
def bri (S : am_S0) (v : Nat) : T3 := (S 24 v, S 25 v, S 26 v)
theorem tri_itr {f : Nat → am_S0 → am_S0} {φ : Nat → T3 → T3} (S : am_S0) (hA : ∀ v S1, Ag S1 (f v S1)) (h1 : ∀ v S1, Ag S S1 → tri (f v S1) v = φ v (tri S1 v)) (h2 : ∀ v j S1, Ag S S1 → j ≠ v → tri (f v S1) j = tri S1 j) : ∀ n v, tri (itr f n S) v = if v < n then φ v (tri S v) else tri S v
  | 0, v => by rw [if_neg (Nat.not_lt_zero _)]; rfl
  | n + 1, v => by
    have ih := tri_itr S hA h1 h2 n
    have A : Ag S (itr f n S) := Ag.itr hA n S
    rw [itr_s]
    by_cases e : v = n
    · subst e
      rw [h1 v _ A, ih v, if_neg (Nat.lt_irrefl _), if_pos (by omega)]
    · rw [h2 n v _ A e, ih v]
      by_cases c : v < n
      · rw [if_pos c, if_pos (by omega)]
      · rw [if_neg c, if_neg (by omega)]
/-- the class's run behind r rounds: what is held, who is fresh -/
def Cls (S : am_S0) (n : Nat) (H : Nat → T3) (fr : Nat → Bool) (r : Nat) : Prop := (∀ v, v < n → tri S v = H v) ∧ (∀ v, v < n → bri S v = H v) ∧ (∀ v, v < n → S 27 v = bi (fr v)) ∧ S 1 6 = nI r
section PLY
variable {S : am_S0} {n k r : Nat} {E : Nat → Nat → Option Nat} {p : Nat → Option Nat} {H H2 : Nat → T3} {fr : Nat → Bool}
theorem tic_ne {j : Nat} (h : j ≠ 1) : tic S j = S j := am_up_ne _ _ h
theorem stl_o {j : Nat} (h : j ≠ 24 ∧ j ≠ 25 ∧ j ≠ 26) : stl S j = S j := by
  unfold stl
  rw [am_up_ne _ _ h.2.2, am_up_ne _ _ h.2.1, am_up_ne _ _ h.1]
theorem ply_o {j : Nat} (h : j ≠ 1 ∧ j ≠ 20 ∧ j ≠ 21 ∧ j ≠ 22 ∧ j ≠ 24 ∧ j ≠ 25 ∧ j ≠ 26 ∧ j ≠ 27) : ply k E n p S j = S j := by
  unfold ply
  rw [stl_o ⟨h.2.2.2.2.1, h.2.2.2.2.2.1, h.2.2.2.2.2.2.1⟩]
  unfold mrk adl
  rw [am_up_ne _ _ h.2.2.2.2.2.2.2, am_up_ne _ _ h.1, chA_ag k E n p (tic S) j h.2.1 h.2.2.1 h.2.2.2.1]
  exact tic_ne h.1
theorem ply_17 : ply k E n p S 1 7 = S 1 7 + ltr k E n (tic S) := by
  have e : chA k E n p (tic S) 1 = tic S 1 := chA_ag k E n p (tic S) 1 (by decide) (by decide) (by decide)
  show upd (chA k E n p (tic S) 1) 7 (chA k E n p (tic S) 1 7 + ltr k E n (tic S)) 7 = _
  rw [pk_us, e]
  rfl
theorem ply_cls (hn : n ≤ 12) (C : Cls S n H fr r) (h : ∀ v, v < n → tri (chA k E n p (tic S)) v = H2 v) : Cls (ply k E n p S) n H2 (fun v => !decide ((H2 v).1 = (H v).1)) (r + 1) := by
  have hag := chA_ag k E n p (tic S)
  have t1 : ∀ v, v < n → tri (ply k E n p S) v = H2 v := fun v hv => h v hv
  refine ⟨t1, fun v hv => ?_, fun v hv => ?_, ?_⟩
  · rw [← h v hv]
    show (pw 12 _ _ v, pw 12 _ _ v, pw 12 _ _ v) = _
    rw [pw_lt (by omega), pw_lt (by omega), pw_lt (by omega)]
    rfl
  · show pw n (fun v => bi (!decide (chA k E n p (tic S) 20 v = chA k E n p (tic S) 24 v))) _ v = _
    rw [pw_lt hv, hag 24 (by decide) (by decide) (by decide)]
    have a : chA k E n p (tic S) 20 v = (H2 v).1 := congrArg (fun t : T3 => t.1) (h v hv)
    have b : tic S 24 v = (H v).1 := congrArg (fun t : T3 => t.1) (C.2.1 v hv)
    rw [a, b]
  · have e : chA k E n p (tic S) 1 = tic S 1 := hag 1 (by decide) (by decide) (by decide)
    show upd (chA k E n p (tic S) 1) 7 (chA k E n p (tic S) 1 7 + ltr k E n (tic S)) 6 = _
    rw [pk_un (by decide), e]
    show S 1 6 + 1 = _
    rw [C.2.2.2, nI_1]
end PLY
/-- letters of those that are fresh -/
theorem smI_congr {f h : Nat → Int32} : ∀ {n : Nat}, (∀ v, v < n → f v = h v) → smI f n = smI h n
  | 0, _ => rfl
  | n + 1, e => by
    show smI f n + f n = smI h n + h n
    rw [smI_congr (n := n) (fun v hv => e v (by omega)), e n (by omega)]
theorem nI_sm (f : Nat → Nat) : ∀ n, nI (sm f n) = smI (fun v => nI (f v)) n
  | 0 => rfl
  | n + 1 => by
    show nI (sm f n + f n) = smI _ n + nI (f n)
    rw [← nI_add, nI_sm f n]
theorem dgr_deg {A : Nat → Nat → Option Nat} {n : Nat} (hB : Nb A n) (v : Nat) : dgr A n v = nI (deg A n v) := by
  unfold dgr deg
  rw [cnt_congr n (fun u _ => by rw [hB.2 u v])]
theorem frl_smI {A : Nat → Nat → Option Nat} {n : Nat} (hB : Nb A n) {f lo : Nat → Int32} {fr : Nat → Bool} (h : ∀ v, v < n → f v = bi (fr v)) (hl : ∀ v, v < n → lo v = bif fr v then dgr A n v else 0) : nI (frl A n f) = smI lo n := by
  unfold frl
  rw [nI_sm]
  refine smI_congr (fun v hv => ?_)
  rw [h v hv, hl v hv]
  cases fr v
  · rfl
  · rw [if_neg (by decide)]
    exact (dgr_deg hB v).symm
theorem smI_0 {f : Nat → Int32} : ∀ {n : Nat}, (∀ v, v < n → f v = 0) → smI f n = 0
  | 0, _ => rfl
  | n + 1, h => by
    show smI f n + f n = 0
    rw [smI_0 (n := n) (fun v hv => h v (by omega)), h n (by omega)]
    rfl
theorem i32_lt {x y : Int32} : x < y ↔ x.toInt < y.toInt := Int32.lt_iff_toInt_lt
theorem i32_le {x y : Int32} : x ≤ y ↔ x.toInt ≤ y.toInt := Int32.le_iff_toInt_le
theorem i32_eq {x y : Int32} (h : x.toInt = y.toInt) : x = y := Int32.toInt_inj.mp h
section LEAST
variable {n q : Nat} {A : Nat → Nat → Option Nat} {D : Nat → Nat → Nat} {ids F : Nat → Int32}
def Fis (n : Nat) (F : Nat → Int32) (D : Nat → Nat → Nat) : Prop := ∀ a b, a < n → b < n → F (12 * a + b) = nI (D a b)
theorem lst_spec (hn : n ≤ 12) (I : DI A n D) (hF : Fis n F D) {x r : Nat} (hx : x < n) (hr : r < 1000000) : lst ids F n x (nI r) < n ∧ D x (lst ids F n x (nI r)) ≤ r ∧ ∀ u, u < n → D x u ≤ r → (ids (lst ids F n x (nI r))).toInt ≤ (ids u).toInt := by
  have hok : ∀ u, u < n → ((!decide (nI r < F (12 * x + u))) = true ↔ D x u ≤ r) := fun u hu => by
    have := I.2.2.2.2.2 x u hx hu
    rw [hF x u hx hu, Bool.not_eq_true', decide_eq_false_iff_not, nI_ltI (by omega) (by omega)]
    omega
  have h := argmin (T := Nat) (fun w => (ids w).toInt) (fun u => (ids u).toInt) (fun u => !decide (nI r < F (12 * x + u))) (fun u => u) (lst1 ids F x (nI r)) (fun u t h1 h2 => by
      unfold lst1
      rw [h1, decide_eq_false (fun q => absurd (i32_le.mp q) (by omega))]
      rfl) (fun u t h => by
      unfold lst1
      cases e : (!decide (nI r < F (12 * x + u))) with
      | false => rfl
      | true =>
        rw [decide_eq_true (i32_le.mpr (by have : ¬ (ids u).toInt < (ids t).toInt := fun q => h ⟨e, q⟩; omega))]
        rfl) (fun u _ => rfl) x n
  unfold lst
  rcases h with ⟨e, ha⟩ | ⟨u0, hu, ho, e, hl, ha, _⟩
  · rw [e]
    exact ⟨hx, by rw [I.1 x hx]; omega, fun u hu hd => ha u hu ((hok u hu).mpr hd)⟩
  · rw [e]
    exact ⟨hu, (hok u0 hu).mp ho, fun u hu hd => ha u hu ((hok u hu).mpr hd)⟩
theorem lst_uni (hd : Dis ids n) {x r l m : Nat} (h1 : l < n ∧ D x l ≤ r ∧ ∀ u, u < n → D x u ≤ r → (ids l).toInt ≤ (ids u).toInt) (h2 : m < n ∧ D x m ≤ r ∧ ∀ u, u < n → D x u ≤ r → (ids m).toInt ≤ (ids u).toInt) : l = m := by
  have a := h1.2.2 m h2.1 h2.2.1
  have b := h2.2.2 l h1.1 h1.2.1
  exact hd l m h1.1 h2.1 (i32_eq (by omega))
def mnr2 (A : Nat → Nat → Option Nat) (n : Nat) (f : Nat → Int32) (x t : Nat) : Option Nat := fst? (fun u => (A u x).isSome && decide (f (12 * u + t) = f (12 * x + t) - 1)) n
def Hl (A : Nat → Nat → Option Nat) (n : Nat) (ids F : Nat → Int32) (r v : Nat) : T3 := (ids (lst ids F n v (nI r)), F (12 * v + lst ids F n v (nI r)), em (mnr2 A n F v (lst ids F n v (nI r))))
def lt0 (A : Nat → Nat → Option Nat) (v : Nat) (b0 b1 : Nat → Int32) (u : Nat) (t : T3) : T3 := bif (A v u).isSome && decide (b0 u < t.1) then (b0 u, b1 u + 1, nI u) else t
theorem least_step (hn : n ≤ 12) (hB : Nb A n) (I : DI A n D) (hF : Fis n F D) (hd : Dis ids n) {r v : Nat} (hv : v < n) (hr : r < 100000) : itr (lt0 A v (fun u => (Hl A n ids F r u).1) (fun u => (Hl A n ids F r u).2.1)) n (Hl A n ids F r v) = Hl A n ids F (r + 1) v := by
  have sp := fun (x : Nat) (hx : x < n) => lst_spec (ids := ids) hn I hF hx (show r < 1000000 by omega)
  have sp1 := lst_spec (ids := ids) hn I hF hv (show r + 1 < 1000000 by omega)
  have h := argmin (T := T3) (fun t => t.1.toInt) (fun u => (ids (lst ids F n u (nI r))).toInt) (fun u => (A v u).isSome) (fun u => ((Hl A n ids F r u).1, (Hl A n ids F r u).2.1 + 1, nI u)) (lt0 A v (fun u => (Hl A n ids F r u).1) (fun u => (Hl A n ids F r u).2.1)) (fun u t h1 h2 => by
      show (bif (A v u).isSome && decide ((Hl A n ids F r u).1 < t.1) then _ else _) = _
      rw [h1, decide_eq_true (show (Hl A n ids F r u).1 < t.1 from i32_lt.mpr h2)]
      rfl) (fun u t h => by
      show (bif (A v u).isSome && decide ((Hl A n ids F r u).1 < t.1) then _ else _) = _
      cases e : (A v u).isSome with
      | false => rfl
      | true =>
        rw [decide_eq_false (show ¬ (Hl A n ids F r u).1 < t.1 from fun q => h ⟨e, i32_lt.mp q⟩)]
        rfl) (fun u _ => rfl) (Hl A n ids F r v) n
  -- a node that is far r + 1 is far r from some neighbour
  have hstep : ∀ u, u < n → D v u ≤ r + 1 → D v u ≤ r ∨ ∃ w, w < n ∧ (A v w).isSome = true ∧ D w u ≤ r := fun u hu h => by
    by_cases c : D v u ≤ r
    · exact Or.inl c
    · obtain ⟨w, hw, hd⟩ := I.2.2.2.2.1 v u r hv hu (by omega)
      exact Or.inr ⟨w, (hB.1 v w hw).2.1, hw, by omega⟩
  rcases h with ⟨e, ha⟩ | ⟨u0, hu, ho, e, hl, ha, hb⟩
  · rw [e]
    have : lst ids F n v (nI (r + 1)) = lst ids F n v (nI r) := by
      refine lst_uni hd sp1 ⟨(sp v hv).1, by have := (sp v hv).2.1; omega, fun u hu hdu => ?_⟩
      rcases hstep u hu hdu with c | ⟨w, hw, hw2, hw3⟩
      · exact (sp v hv).2.2 u hu c
      · have a := ha w hw hw2
        have b := (sp w hw).2.2 u hu hw3
        exact Int.le_trans a b
    unfold Hl
    rw [this]
  · rw [e]
    have s0 := sp u0 hu
    have sv := sp v hv
    have hl2 : (ids (lst ids F n u0 (nI r))).toInt < (ids (lst ids F n v (nI r))).toInt := hl
    have hbb : ∀ u, u < u0 → (A v u).isSome = true → (ids (lst ids F n u0 (nI r))).toInt < (ids (lst ids F n u (nI r))).toInt := hb
    have e0 : lst ids F n v (nI (r + 1)) = lst ids F n u0 (nI r) := by
      refine lst_uni hd sp1 ⟨s0.1, ?_, fun u hu hdu => ?_⟩
      · have := I.2.2.2.1 v u0 (lst ids F n u0 (nI r)) s0.1 ho
        omega
      · rcases hstep u hu hdu with c | ⟨w, hw, hw2, hw3⟩
        · have := sv.2.2 u hu c
          omega
        · have a : (ids (lst ids F n u0 (nI r))).toInt ≤ (ids (lst ids F n w (nI r))).toInt := ha w hw hw2
          have b := (sp w hw).2.2 u hu hw3
          exact Int.le_trans a b
    have d1 : ¬ D v (lst ids F n u0 (nI r)) ≤ r := fun q => by
      have := sv.2.2 _ s0.1 q
      omega
    have d2 := I.2.2.2.1 v u0 (lst ids F n u0 (nI r)) s0.1 ho
    have d3 : D u0 (lst ids F n u0 (nI r)) = r := by have := s0.2.1; omega
    have d4 : D v (lst ids F n u0 (nI r)) = r + 1 := by omega
    unfold Hl
    rw [e0]
    simp only [hF u0 _ hu s0.1, hF v _ hv s0.1, d3, d4, nI_1]
    have hm : mnr2 A n F v (lst ids F n u0 (nI r)) = some u0 := by
      unfold mnr2
      refine fst?_some ?_ (fun u hu2 => ?_) hu
      · rw [hB.2 u0 v, ho, hF u0 _ hu s0.1, hF v _ hv s0.1, d3, d4, nI_pred, decide_eq_true rfl]
        rfl
      · cases c : (A u v).isSome with
        | false => rfl
        | true =>
          rw [Bool.true_and, decide_eq_false_iff_not]
          have hun : u < n := by omega
          rw [hF u _ hun s0.1, hF v _ hv s0.1, d4, nI_pred]
          intro q
          have hq := (nI_eq (by have := I.2.2.2.2.2 u _ hun s0.1; omega) (by omega)).mp q
          have a := (sp u hun).2.2 _ s0.1 (by omega)
          have b := hbb u hu2 (by rw [hB.2]; exact c)
          omega
    rw [hm]
    rfl
/-- a change in round r + 1: something is r + 1 far -/
theorem least_new (hn : n ≤ 12) (I : DI A n D) (hF : Fis n F D) (hd : Dis ids n) {r v : Nat} (hv : v < n) (hr : r < 100000) (h : lst ids F n v (nI (r + 1)) ≠ lst ids F n v (nI r)) : r + 1 < n := by
  have s0 := lst_spec (ids := ids) hn I hF hv (show r < 1000000 by omega)
  have s1 := lst_spec (ids := ids) hn I hF hv (show r + 1 < 1000000 by omega)
  have : ¬ D v (lst ids F n v (nI (r + 1))) ≤ r := fun q => h (lst_uni hd ⟨s1.1, q, fun u hu hdu => s1.2.2 u hu (by omega)⟩ s0)
  have := I.2.2.2.2.2 v _ hv s1.1
  omega
end LEAST
end
section
/-! a round's change, node by node -/
section LOC
variable {S : am_S0} {n : Nat} {E : Nat → Nat → Option Nat} {p : Nat → Option Nat}
theorem tri_w3_s {v : Nat} {x y z : Int32} : tri (w3 S v x y z) v = (x, y, z) := by
  show (upd (S 20) v x v, upd (S 21) v y v, upd (S 22) v z v) = _
  rw [pk_us, pk_us, pk_us]
theorem tri_w3_o {v j : Nat} {x y z : Int32} (h : j ≠ v) : tri (w3 S v x y z) j = tri S j := by
  show (upd (S 20) v x j, upd (S 21) v y j, upd (S 22) v z j) = _
  rw [pk_un h, pk_un h, pk_un h]
  rfl
theorem tri_w2_s {v : Nat} {x y : Int32} : tri (w2 S v x y) v = (x, y, (tri S v).2.2) := by
  show (upd (S 20) v x v, upd (S 21) v y v, S 22 v) = _
  rw [pk_us, pk_us]
  rfl
theorem tri_w2_o {v j : Nat} {x y : Int32} (h : j ≠ v) : tri (w2 S v x y) j = tri S j := by
  show (upd (S 20) v x j, upd (S 21) v y j, S 22 j) = _
  rw [pk_un h, pk_un h]
  rfl
theorem lrn_s (v : Nat) : ∀ k, tri (itr (lrn1 E v) k S) v = itr (lt0 E v (S 24) (S 25)) k (tri S v)
  | 0 => rfl
  | k + 1 => by
    have A : Ag S (itr (lrn1 E v) k S) := Ag.itr (lrn1_ag v) k S
    rw [itr_s, itr_s, ← lrn_s v k]
    generalize itr (lrn1 E v) k S = S1 at A
    unfold lrn1 lt0
    rw [A 24 (by decide) (by decide) (by decide), A 25 (by decide) (by decide) (by decide)]
    show tri (bif (E v k).isSome && decide (S 24 k < (tri S1 v).1) then _ else _) v = _
    cases ((E v k).isSome && decide (S 24 k < (tri S1 v).1))
    · rfl
    · exact tri_w3_s
theorem lrn_o {v j : Nat} (h : j ≠ v) : ∀ k, tri (itr (lrn1 E v) k S) j = tri S j
  | 0 => rfl
  | k + 1 => by
    rw [itr_s, ← lrn_o h k]
    generalize itr (lrn1 E v) k S = S1
    unfold lrn1
    cases ((E v k).isSome && decide (S1 24 k < S1 20 v))
    · rfl
    · exact tri_w3_o h
theorem chA0 {v : Nat} (hv : v < n) : tri (chA 0 E n p S) v = itr (lt0 E v (S 24) (S 25)) n (tri S v) := by
  show tri (itr (lrn E n) n S) v = _
  rw [tri_itr (φ := fun v t => itr (lt0 E v (S 24) (S 25)) n t) S lrn_ag (fun v S1 A => by
    show tri (itr (lrn1 E v) n S1) v = _
    rw [lrn_s, A 24 (by decide) (by decide) (by decide), A 25 (by decide) (by decide) (by decide)]) (fun v j S1 A h => lrn_o h n) n v, if_pos hv]
def sh1 (E : Nat → Nat → Option Nat) (v : Nat) (b0 w : Nat → Int32) (rr : Int32) (u : Nat) (t : T3) : T3 := match E v u with
  | none => t
  | some e => bif decide (b0 u = -1) then t else bif decide (t.1 = -1) || decide (b0 u + w e < t.1) then (b0 u + w e, nI u, rr) else t
theorem srt_s (v : Nat) : ∀ k, tri (itr (srt1 E v) k S) v = itr (sh1 E v (S 24) (S 4) (S 1 6)) k (tri S v)
  | 0 => rfl
  | k + 1 => by
    have A : Ag S (itr (srt1 E v) k S) := Ag.itr (srt1_ag v) k S
    rw [itr_s, itr_s, ← srt_s v k]
    generalize itr (srt1 E v) k S = S1 at A
    unfold srt1 sh1
    rw [A 24 (by decide) (by decide) (by decide), A 4 (by decide) (by decide) (by decide), A 1 (by decide) (by decide) (by decide)]
    cases E v k with
    | none => rfl
    | some e =>
      show tri (bif decide (S 24 k = -1) then S1 else bif decide ((tri S1 v).1 = -1) || decide (S 24 k + S 4 e < (tri S1 v).1) then _ else _) v = bif decide (S 24 k = -1) then _ else _
      cases decide (S 24 k = -1)
      · cases (decide ((tri S1 v).1 = -1) || decide (S 24 k + S 4 e < (tri S1 v).1))
        · rfl
        · exact tri_w3_s
      · rfl
theorem srt_o {v j : Nat} (h : j ≠ v) : ∀ k, tri (itr (srt1 E v) k S) j = tri S j
  | 0 => rfl
  | k + 1 => by
    rw [itr_s, ← srt_o h k]
    generalize itr (srt1 E v) k S = S1
    unfold srt1
    cases E v k with
    | none => rfl
    | some e =>
      show tri (bif decide (S1 24 k = -1) then S1 else bif decide (S1 20 v = -1) || decide (S1 24 k + S1 4 e < S1 20 v) then _ else _) j = _
      cases decide (S1 24 k = -1)
      · cases (decide (S1 20 v = -1) || decide (S1 24 k + S1 4 e < S1 20 v))
        · rfl
        · exact tri_w3_o h
      · rfl
theorem chA1 {v : Nat} (hv : v < n) : tri (chA 1 E n p S) v = itr (sh1 E v (S 24) (S 4) (S 1 6)) n (tri S v) := by
  show tri (itr (srt E n) n S) v = _
  rw [tri_itr (φ := fun v t => itr (sh1 E v (S 24) (S 4) (S 1 6)) n t) S srt_ag (fun v S1 A => by
    show tri (itr (srt1 E v) n S1) v = _
    rw [srt_s, A 24 (by decide) (by decide) (by decide), A 4 (by decide) (by decide) (by decide), A 1 (by decide) (by decide) (by decide)]) (fun v j S1 A h => srt_o h n) n v, if_pos hv]
theorem chA3 {v : Nat} (hv : v < n) : tri (chA 3 E n p S) v = (col S p v, (tri S v).2) := by
  show tri (itr (chg3 p) n S) v = _
  rw [tri_itr (φ := fun v t => (col S p v, t.2)) S (chg3_ag p) (fun v S1 A => by
    show (upd (S1 20) v (col S1 p v) v, S1 21 v, S1 22 v) = _
    rw [pk_us]
    unfold col
    rw [A 24 (by decide) (by decide) (by decide)]
    rfl) (fun v j S1 A h => by
    show (upd (S1 20) v (col S1 p v) j, S1 21 j, S1 22 j) = _
    rw [pk_un h]
    rfl) n v, if_pos hv]
def ph4 (S : am_S0) (E : Nat → Nat → Option Nat) (n v : Nat) (t : T3) : T3 := bif decide (S 24 v = 0) then (bif win S E n v then (1, S 1 6, t.2.2) else bif bes S E n v then (2, S 1 6, t.2.2) else t) else t
theorem win_ag {S1 : am_S0} (A : Ag S S1) (v : Nat) : win S1 E n v = win S E n v := by
  unfold win
  rw [A 24 (by decide) (by decide) (by decide), A 3 (by decide) (by decide) (by decide)]
theorem bes_ag {S1 : am_S0} (A : Ag S S1) (v : Nat) : bes S1 E n v = bes S E n v := by
  unfold bes
  have e : win S1 E n = win S E n := funext (win_ag A)
  rw [A 24 (by decide) (by decide) (by decide), e]
theorem chA4 {v : Nat} (hv : v < n) : tri (chA 4 E n p S) v = ph4 S E n v (tri S v) := by
  show tri (itr (chg4 E n) n S) v = _
  rw [tri_itr (φ := ph4 S E n) S chg4_ag (fun v S1 A => by
    unfold chg4 ph4 dcd
    rw [win_ag A, bes_ag A, A 24 (by decide) (by decide) (by decide), A 1 (by decide) (by decide) (by decide)]
    cases decide (S 24 v = 0)
    · rfl
    · cases win S E n v
      · cases bes S E n v
        · rfl
        · exact tri_w2_s
      · exact tri_w2_s) (fun v j S1 A h => by
    unfold chg4 dcd
    cases decide (S1 24 v = 0)
    · rfl
    · cases win S1 E n v
      · cases bes S1 E n v
        · rfl
        · exact tri_w2_o h
      · exact tri_w2_o h) n v, if_pos hv]
def ph5 (S : am_S0) (E : Nat → Nat → Option Nat) (n v : Nat) (t : T3) : T3 := match fav S E n v with
  | none => t
  | some u => bif decide (fav S E n u = some v) then (nI u, S 1 6, t.2.2) else t
theorem fav_ag {S1 : am_S0} (A : Ag S S1) (v : Nat) : fav S1 E n v = fav S E n v := by
  have e : fav1 S1 E v = fav1 S E v := by
    funext u b
    unfold fav1
    rw [A 24 (by decide) (by decide) (by decide), A 4 (by decide) (by decide) (by decide)]
  unfold fav
  rw [A 24 (by decide) (by decide) (by decide), e]
theorem chA5 {v : Nat} (hv : v < n) : tri (chA 5 E n p S) v = ph5 S E n v (tri S v) := by
  show tri (itr (chg5 E n) n S) v = _
  rw [tri_itr (φ := ph5 S E n) S chg5_ag (fun v S1 A => by
    unfold chg5 ph5
    rw [fav_ag A, A 1 (by decide) (by decide) (by decide)]
    cases fav S E n v with
    | none => rfl
    | some u =>
      show tri (bif decide (fav S1 E n u = some v) then _ else _) v = bif decide (fav S E n u = some v) then _ else _
      rw [fav_ag A]
      cases decide (fav S E n u = some v)
      · rfl
      · exact tri_w2_s) (fun v j S1 A h => by
    unfold chg5
    cases fav S1 E n v with
    | none => rfl
    | some u =>
      show tri (bif decide (fav S1 E n u = some v) then _ else _) j = _
      cases decide (fav S1 E n u = some v)
      · rfl
      · exact tri_w2_o h) n v, if_pos hv]
def ph6 (S : am_S0) (E : Nat → Nat → Option Nat) (n v : Nat) (t : T3) : T3 := bif decide (S 24 v = 1) then (bif decide (nI (nbw E n (S 24) v 1) < S 1 5) then (0, S 1 6, nI (nbw E n (S 24) v 1)) else (t.1, t.2.1, nI (nbw E n (S 24) v 1))) else t
theorem chA6 {v : Nat} (hv : v < n) : tri (chA 6 E n p S) v = ph6 S E n v (tri S v) := by
  show tri (itr (chg6 E n) n S) v = _
  rw [tri_itr (φ := ph6 S E n) S chg6_ag (fun v S1 A => by
    unfold chg6 ph6
    rw [A 24 (by decide) (by decide) (by decide), A 1 (by decide) (by decide) (by decide)]
    cases decide (S 24 v = 1)
    · rfl
    · cases decide (nI (nbw E n (S 24) v 1) < S 1 5)
      · show (S1 20 v, S1 21 v, upd (S1 22) v _ v) = _
        rw [pk_us]
        rfl
      · exact tri_w3_s) (fun v j S1 A h => by
    unfold chg6
    cases decide (S1 24 v = 1)
    · rfl
    · cases decide (nI (nbw E n (S1 24) v 1) < S1 1 5)
      · show (S1 20 j, S1 21 j, upd (S1 22) v _ j) = _
        rw [pk_un h]
        rfl
      · exact tri_w3_o h) n v, if_pos hv]
end LOC
end
section
/-! WAYS -/
section WAYS
variable {n q rt : Nat} {fa fb : Nat → Nat} {w : Nat → Int32} {W : Nat → Nat}
theorem sh1_some {E : Nat → Nat → Option Nat} {v u e : Nat} {b0 w : Nat → Int32} {rr x : Int32} {t : T3} (h : E v u = some e) (hx : b0 u = x) : sh1 E v b0 w rr u t = bif decide (x = -1) then t else bif decide (t.1 = -1) || decide (x + w e < t.1) then (x + w e, nI u, rr) else t := by
  subst hx
  unfold sh1
  rw [h]
theorem mil_t {m : Nat} (h : 1000000 ≤ m) (hb : m < 2 ^ 31) : decide ((1000000 : Int32) ≤ nI m) = true := decide_eq_true (nI_le (a := 1000000) h hb)
theorem mil_f {m : Nat} (h : m < 1000000) : decide ((1000000 : Int32) ≤ nI m) = false := decide_eq_false (fun q => absurd ((nI_leI (a := 1000000) (by decide) (by omega)).mp q) (by omega))
def ww (fa fb : Nat → Nat) (W : Nat → Nat) (rt q : Nat) : Nat → Nat → Nat
  | 0, v => if v = rt then 0 else 1000000
  | r + 1, v => min 1000000 (itr (fun e b => if isf fa fb e v = true then min b (ww fa fb W rt q r (oth fa fb e v) + W e) else b) q (if v = rt then 0 else 1000000))
theorem minf {ok : Nat → Bool} {g : Nat → Nat} (b : Nat) : ∀ k, itr (fun e b => if ok e = true then min b (g e) else b) k b ≤ b ∧ (∀ e, e < k → ok e = true → itr (fun e b => if ok e = true then min b (g e) else b) k b ≤ g e) ∧ (itr (fun e b => if ok e = true then min b (g e) else b) k b = b ∨ ∃ e, e < k ∧ ok e = true ∧ itr (fun e b => if ok e = true then min b (g e) else b) k b = g e)
  | 0 => ⟨Nat.le_refl _, fun e h => absurd h (Nat.not_lt_zero _), Or.inl rfl⟩
  | k + 1 => by
    obtain ⟨h1, h2, h3⟩ := minf (ok := ok) (g := g) b k
    rw [itr_s]
    generalize itr (fun e b => if ok e = true then min b (g e) else b) k b = m at h1 h2 h3 ⊢
    by_cases c : ok k = true
    · rw [if_pos c]
      refine ⟨Nat.le_trans (Nat.min_le_left _ _) h1, fun e he ho => ?_, ?_⟩
      · by_cases e9 : e = k
        · rw [e9]; exact Nat.min_le_right _ _
        · exact Nat.le_trans (Nat.min_le_left _ _) (h2 e (by omega) ho)
      · rcases Nat.le_total m (g k) with c2 | c2
        · rw [Nat.min_eq_left c2]
          rcases h3 with h | ⟨e, he, ho, h⟩
          · exact Or.inl h
          · exact Or.inr ⟨e, by omega, ho, h⟩
        · rw [Nat.min_eq_right c2]
          exact Or.inr ⟨k, by omega, c, rfl⟩
    · rw [if_neg c]
      refine ⟨h1, fun e he ho => ?_, ?_⟩
      · by_cases e9 : e = k
        · rw [e9] at ho; exact absurd ho c
        · exact h2 e (by omega) ho
      · rcases h3 with h | ⟨e, he, ho, h⟩
        · exact Or.inl h
        · exact Or.inr ⟨e, by omega, ho, h⟩
theorem isf_bt (G : GR n q fa fb) {e v : Nat} (he : e < q) (h : isf fa fb e v = true) : bt fa fb q v (oth fa fb e v) = some e := by
  refine bt_of G he ?_
  unfold isf at h
  unfold oth
  by_cases c : fa e = v
  · rw [decide_eq_true c]
    exact Or.inl ⟨c, rfl⟩
  · rw [decide_eq_false c, Bool.false_or] at h
    rw [decide_eq_false c]
    exact Or.inr ⟨rfl, of_decide_eq_true h⟩
theorem bt_isf (G : GR n q fa fb) {e v u : Nat} (h : bt fa fb q v u = some e) : e < q ∧ isf fa fb e v = true ∧ oth fa fb e v = u := by
  obtain ⟨he, h2⟩ := bt_some h
  have hne := G.2.2.1 e he
  refine ⟨he, ?_, ?_⟩
  · unfold isf
    rw [Bool.or_eq_true, decide_eq_true_eq, decide_eq_true_eq]
    omega
  · unfold oth
    by_cases c : fa e = v
    · rw [decide_eq_true c]
      show fb e = u
      omega
    · rw [decide_eq_false c]
      show fa e = u
      omega
def ww0 (rt v : Nat) : Nat := if v = rt then 0 else 1000000
theorem ww_a : ∀ r v, ww fa fb W rt q r v ≤ 1000000
  | 0, v => by
    show (if v = rt then 0 else 1000000) ≤ _
    split <;> omega
  | r + 1, v => Nat.min_le_left _ _
theorem ww_b (r v : Nat) : ww fa fb W rt q (r + 1) v ≤ ww0 rt v := Nat.le_trans (Nat.min_le_right _ _) (minf (ok := fun e => isf fa fb e v) (g := fun e => ww fa fb W rt q r (oth fa fb e v) + W e) _ q).1
theorem ww_c (G : GR n q fa fb) {r v u e : Nat} (h : bt fa fb q v u = some e) : ww fa fb W rt q (r + 1) v ≤ ww fa fb W rt q r u + W e := by
  obtain ⟨he, h1, h2⟩ := bt_isf G h
  refine Nat.le_trans (Nat.min_le_right _ _) ?_
  have := (minf (ok := fun e => isf fa fb e v) (g := fun e => ww fa fb W rt q r (oth fa fb e v) + W e) (if v = rt then 0 else 1000000) q).2.1 e he h1
  rw [h2] at this
  exact this
theorem ww_d (G : GR n q fa fb) {r v : Nat} (h : ww fa fb W rt q (r + 1) v < 1000000) : ww fa fb W rt q (r + 1) v = ww0 rt v ∨ ∃ u e, u < n ∧ bt fa fb q v u = some e ∧ ww fa fb W rt q (r + 1) v = ww fa fb W rt q r u + W e := by
  have h3 := (minf (ok := fun e => isf fa fb e v) (g := fun e => ww fa fb W rt q r (oth fa fb e v) + W e) (if v = rt then 0 else 1000000) q).2.2
  have e0 : ww fa fb W rt q (r + 1) v = min 1000000 (itr (fun e b => if isf fa fb e v = true then min b (ww fa fb W rt q r (oth fa fb e v) + W e) else b) q (if v = rt then 0 else 1000000)) := rfl
  rw [e0] at h ⊢
  generalize itr (fun e b => if isf fa fb e v = true then min b (ww fa fb W rt q r (oth fa fb e v) + W e) else b) q (if v = rt then 0 else 1000000) = m at h h3 ⊢
  have hm : min 1000000 m = m := by
    have : ¬ 1000000 ≤ m := fun q => by rw [Nat.min_eq_left q] at h; omega
    exact Nat.min_eq_right (by omega)
  rw [hm]
  rcases h3 with h3 | ⟨e, he, ho, h3⟩
  · exact Or.inl h3
  · have hb := isf_bt G he ho
    exact Or.inr ⟨_, e, (bt_nd G (by rw [hb]; rfl)).2.1, hb, h3⟩
theorem ww_m (G : GR n q fa fb) : ∀ r v, ww fa fb W rt q (r + 1) v ≤ ww fa fb W rt q r v
  | 0, v => ww_b 0 v
  | r + 1, v => by
    rcases Nat.lt_or_ge (ww fa fb W rt q (r + 1) v) 1000000 with h | h
    · rcases ww_d G h with e | ⟨u, e, hu, hb, e2⟩
      · rw [e]
        exact ww_b _ v
      · rw [e2]
        exact Nat.le_trans (ww_c G hb) (Nat.add_le_add_right (ww_m G r u) _)
    · exact Nat.le_trans (ww_a _ _) h
theorem ww_m0 (G : GR n q fa fb) : ∀ r v, ww fa fb W rt q r v ≤ ww0 rt v
  | 0, _ => Nat.le_refl _
  | r + 1, v => ww_b r v
theorem ww_mm (G : GR n q fa fb) (v r : Nat) : ∀ s, ww fa fb W rt q (r + s) v ≤ ww fa fb W rt q r v
  | 0 => Nat.le_refl _
  | s + 1 => Nat.le_trans (ww_m G (r + s) v) (ww_mm G v r s)
theorem ww_f (G : GR n q fa fb) (hW : ∀ e, e < q → 1 ≤ W e ∧ W e ≤ 999) : ∀ r v, ww fa fb W rt q r v < 1000000 → ww fa fb W rt q r v ≤ 999 * r
  | 0, v, h => by
    have e : ww fa fb W rt q 0 v = if v = rt then 0 else 1000000 := rfl
    rw [e] at h ⊢
    split at h <;> first | omega | (rw [if_pos (by assumption)]; omega)
  | r + 1, v, h => by
    rcases ww_d G h with e | ⟨u, e, hu, hb, e2⟩
    · rw [e] at h ⊢
      unfold ww0 at h ⊢
      split at h <;> first | omega | (rw [if_pos (by assumption)]; omega)
    · have := hW e (bt_lt hb)
      have := ww_f G hW r u (by omega)
      omega
/-- the model's sums are these -/
theorem wv_ww (G : GR n q fa fb) (hw : ∀ e, e < q → w e = nI (W e)) (hW : ∀ e, e < q → 1 ≤ W e ∧ W e ≤ 999) : ∀ r v, wv fa fb w rt q r v = nI (ww fa fb W rt q r v)
  | 0, v => by
    show wy0 rt v = nI (if v = rt then 0 else 1000000)
    unfold wy0
    by_cases c : v = rt
    · rw [decide_eq_true c, if_pos c]; rfl
    · rw [decide_eq_false c, if_neg c]; rfl
  | r + 1, v => by
    have ih := wv_ww G hw hW r
    have key : ∀ k, k ≤ q → itr (fun e b => bif isf fa fb e v then (bif decide (b ≤ wv fa fb w rt q r (oth fa fb e v) + w e) then b else wv fa fb w rt q r (oth fa fb e v) + w e) else b) k (wy0 rt v) = nI (itr (fun e b => if isf fa fb e v = true then min b (ww fa fb W rt q r (oth fa fb e v) + W e) else b) k (if v = rt then 0 else 1000000)) ∧ itr (fun e b => if isf fa fb e v = true then min b (ww fa fb W rt q r (oth fa fb e v) + W e) else b) k (if v = rt then 0 else 1000000) ≤ 1000000 := by
      intro k
      induction k with
      | zero =>
        intro _
        refine ⟨?_, ?_⟩
        · show wy0 rt v = _
          unfold wy0
          by_cases c : v = rt
          · rw [decide_eq_true c]; show (0 : Int32) = nI (if v = rt then 0 else 1000000); rw [if_pos c]; rfl
          · rw [decide_eq_false c]; show (1000000 : Int32) = nI (if v = rt then 0 else 1000000); rw [if_neg c]; rfl
        · show (if v = rt then 0 else 1000000) ≤ 1000000
          split <;> omega
      | succ k ih2 =>
        intro hk
        obtain ⟨i1, i2⟩ := ih2 (by omega)
        rw [itr_s, itr_s, i1]
        generalize itr (fun e b => if isf fa fb e v = true then min b (ww fa fb W rt q r (oth fa fb e v) + W e) else b) k (if v = rt then 0 else 1000000) = m at i2 ⊢
        cases c : isf fa fb k v with
        | false => exact ⟨rfl, i2⟩
        | true =>
          have a := ww_a (fa := fa) (fb := fb) (W := W) (rt := rt) (q := q) r (oth fa fb k v)
          have b := hW k (by omega)
          rw [if_pos rfl, cond_true, ih, hw k (by omega), nI_add]
          refine ⟨?_, Nat.le_trans (Nat.min_le_left _ _) i2⟩
          by_cases c2 : m ≤ ww fa fb W rt q r (oth fa fb k v) + W k
          · rw [decide_eq_true (nI_le c2 (by omega)), Nat.min_eq_left c2]; rfl
          · rw [decide_eq_false (fun q => c2 ((nI_leI (by omega) (by omega)).mp q)), Nat.min_eq_right (by omega)]; rfl
    obtain ⟨k1, k2⟩ := key q (Nat.le_refl _)
    show cap _ = nI (min 1000000 _)
    rw [k1]
    generalize itr (fun e b => if isf fa fb e v = true then min b (ww fa fb W rt q r (oth fa fb e v) + W e) else b) q (if v = rt then 0 else 1000000) = m at k2 ⊢
    unfold cap
    by_cases c : 1000000 ≤ m
    · rw [mil_t c (by omega), Nat.min_eq_left c]; rfl
    · rw [mil_f (by omega), Nat.min_eq_right (by omega)]; rfl
def Hw (fa fb : Nat → Nat) (w : Nat → Int32) (rt q n r v : Nat) : T3 := (hwy (bt fa fb q) (wv fa fb w rt q) w n v 0 r, hwy (bt fa fb q) (wv fa fb w rt q) w n v 1 r, hwy (bt fa fb q) (wv fa fb w rt q) w n v 2 r)
theorem Hw_0 (G : GR n q fa fb) (hw : ∀ e, e < q → w e = nI (W e)) (hW : ∀ e, e < q → 1 ≤ W e ∧ W e ≤ 999) (r v : Nat) : (Hw fa fb w rt q n r v).1 = if ww fa fb W rt q r v < 1000000 then nI (ww fa fb W rt q r v) else -1 := by
  show (bif decide (1000000 ≤ wv fa fb w rt q r v) then -1 else wv fa fb w rt q r v) = _
  rw [wv_ww G hw hW]
  have a := ww_a (fa := fa) (fb := fb) (W := W) (rt := rt) (q := q) r v
  by_cases c : ww fa fb W rt q r v < 1000000
  · rw [if_pos c, mil_f c]; rfl
  · rw [if_neg c, mil_t (by omega) (by omega)]; rfl
theorem ways_step (G : GR n q fa fb) (hw : ∀ e, e < q → w e = nI (W e)) (hW : ∀ e, e < q → 1 ≤ W e ∧ W e ≤ 999) {r v : Nat} (hr : r < 100) : itr (sh1 (bt fa fb q) v (fun u => (Hw fa fb w rt q n r u).1) w (nI (r + 1))) n (Hw fa fb w rt q n r v) = Hw fa fb w rt q n (r + 1) v := by
  have hf := fun u => ww_f (rt := rt) G hW r u
  have ha := fun u => ww_a (fa := fa) (fb := fb) (W := W) (rt := rt) (q := q) r u
  have h0 := fun u => Hw_0 (rt := rt) G hw hW r u
  have h := argmin (T := T3) (fun t => if t.1 = -1 then 1000000 else t.1.toInt) (fun u => ((ww fa fb W rt q r u + W ((bt fa fb q v u).getD 0) : Nat) : Int)) (fun u => (bt fa fb q v u).isSome && decide (ww fa fb W rt q r u < 1000000)) (fun u => (nI (ww fa fb W rt q r u + W ((bt fa fb q v u).getD 0)), nI u, nI (r + 1))) (sh1 (bt fa fb q) v (fun u => (Hw fa fb w rt q n r u).1) w (nI (r + 1))) (fun u t h1 h2 => by
      rw [Bool.and_eq_true, decide_eq_true_eq] at h1
      obtain ⟨e, he⟩ := Option.isSome_iff_exists.mp h1.1
      have hWe := hW e (bt_lt he)
      have hfu := hf u h1.2
      simp only [he, Option.getD_some] at h2 ⊢
      rw [sh1_some he ((h0 u).trans (if_pos h1.2)), hw e (bt_lt he), nI_add, decide_eq_false (fun q => neg1_nI _ (by omega) q.symm), cond_false]
      have : (decide (t.1 = -1) || decide (nI (ww fa fb W rt q r u + W e) < t.1)) = true := by
        rw [Bool.or_eq_true, decide_eq_true_eq, decide_eq_true_eq]
        by_cases c : t.1 = -1
        · exact Or.inl c
        · rw [if_neg c] at h2
          exact Or.inr (i32_lt.mpr (by rw [nI_toInt (by omega)]; exact h2))
      rw [this]
      rfl) (fun u t h => by
      cases he : bt fa fb q v u with
      | none => unfold sh1; rw [he]
      | some e =>
        have hWe := hW e (bt_lt he)
        simp only [he, Option.getD_some, Option.isSome_some, Bool.true_and, decide_eq_true_eq] at h ⊢
        by_cases c : ww fa fb W rt q r u < 1000000
        · have hfu := hf u c
          rw [sh1_some he ((h0 u).trans (if_pos c)), hw e (bt_lt he), nI_add, decide_eq_false (fun q => neg1_nI _ (by omega) q.symm), cond_false]
          have : (decide (t.1 = -1) || decide (nI (ww fa fb W rt q r u + W e) < t.1)) = false := by
            rw [Bool.or_eq_false_iff, decide_eq_false_iff_not, decide_eq_false_iff_not]
            refine ⟨fun q => h ⟨c, by rw [if_pos q]; omega⟩, fun q => ?_⟩
            by_cases c2 : t.1 = -1
            · exact h ⟨c, by rw [if_pos c2]; omega⟩
            · have := i32_lt.mp q
              rw [nI_toInt (by omega)] at this
              exact h ⟨c, by rw [if_neg c2]; exact this⟩
          rw [this]
          rfl
        · rw [sh1_some he ((h0 u).trans (if_neg c)), decide_eq_true rfl]
          rfl) (fun u hu => by
      rw [Bool.and_eq_true, decide_eq_true_eq] at hu
      obtain ⟨e, he⟩ := Option.isSome_iff_exists.mp hu.1
      have hWe := hW e (bt_lt he)
      have hfu := hf u hu.2
      simp only [he, Option.getD_some]
      rw [if_neg (fun q => neg1_nI _ (by omega) q.symm), nI_toInt (by omega)]) (Hw fa fb w rt q n r v) n
  have hcur : (if (Hw fa fb w rt q n r v).1 = -1 then (1000000 : Int) else (Hw fa fb w rt q n r v).1.toInt) = ((ww fa fb W rt q r v : Nat) : Int) := by
    rw [h0 v]
    have := ha v
    by_cases c : ww fa fb W rt q r v < 1000000
    · rw [if_pos c, if_neg (fun q => neg1_nI _ (by omega) q.symm), nI_toInt (by omega)]
    · rw [if_neg c, if_pos rfl]
      omega
  have hv := wv_ww (rt := rt) G hw hW
  rcases h with ⟨e, hm⟩ | ⟨u0, hu, ho, e, hl, hm, hb⟩
  · rw [e]
    have e9 : ww fa fb W rt q (r + 1) v = ww fa fb W rt q r v := by
      refine Nat.le_antisymm (ww_m G r v) ?_
      rcases Nat.lt_or_ge (ww fa fb W rt q (r + 1) v) 1000000 with c | c
      · rcases ww_d G c with e1 | ⟨u, e1, hu, hb, e2⟩
        · rw [e1]
          exact ww_m0 G r v
        · rw [e2]
          have := hm u hu (by rw [hb, Bool.and_eq_true, decide_eq_true_eq]; exact ⟨rfl, by omega⟩)
          simp only [hb, Option.getD_some] at this
          rw [hcur] at this
          omega
      · exact Nat.le_trans (ha v) c
    unfold Hw hwy
    simp only [lwy, hv, e9, decide_true, cond_true]
  · rw [e]
    rw [Bool.and_eq_true, decide_eq_true_eq] at ho
    obtain ⟨e0, he0⟩ := Option.isSome_iff_exists.mp ho.1
    have hWe := hW e0 (bt_lt he0)
    have hfu := hf u0 ho.2
    simp only [hcur, he0, Option.getD_some] at hl hm hb ⊢
    have e9 : ww fa fb W rt q (r + 1) v = ww fa fb W rt q r u0 + W e0 := by
      refine Nat.le_antisymm (ww_c G he0) ?_
      have c : ww fa fb W rt q (r + 1) v < 1000000 := by have := ww_c (W := W) (rt := rt) (r := r) G he0; omega
      rcases ww_d G c with e1 | ⟨u, e1, hu, hb1, e2⟩
      · rw [e1]
        have := ww_m0 (W := W) (rt := rt) G r v
        omega
      · rw [e2]
        have := hm u hu (by rw [hb1, Bool.and_eq_true, decide_eq_true_eq]; exact ⟨rfl, by omega⟩)
        simp only [hb1, Option.getD_some] at this
        omega
    have hlw : lwy (fun t => wv fa fb w rt q t v) (r + 1) = r + 1 := by
      show (bif decide (wv fa fb w rt q (r + 1) v = wv fa fb w rt q r v) then _ else _) = _
      have := ha v
      rw [hv, hv, decide_eq_false (fun q => absurd ((nI_eq (by omega) (by omega)).mp q) (by omega))]
      rfl
    unfold Hw hwy
    simp only [hlw]
    have hs0 : (bif decide (1000000 ≤ wv fa fb w rt q (r + 1) v) then -1 else wv fa fb w rt q (r + 1) v) = nI (ww fa fb W rt q r u0 + W e0) := by
      rw [hv, e9, mil_f (by omega)]
      rfl
    have hs1 : fst? (hwy1 (bt fa fb q) (wv fa fb w rt q) w v r) n = some u0 := by
      refine fst?_some ?_ (fun u hu2 => ?_) hu
      · unfold hwy1
        rw [bt_comm fa fb q u0 v, he0]
        show decide (_ = _) = true
        rw [hv, hv, hw e0 (bt_lt he0), nI_add, e9, decide_eq_true rfl]
      · unfold hwy1
        rw [bt_comm fa fb q u v]
        cases c : bt fa fb q v u with
        | none => rfl
        | some e1 =>
          show decide (_ = _) = false
          have hWe1 := hW e1 (bt_lt c)
          have hau := ha u
          rw [hv, hv, hw e1 (bt_lt c), nI_add, e9, decide_eq_false_iff_not]
          intro q9
          have q8 := (nI_eq (by omega) (by omega)).mp q9
          by_cases c2 : ww fa fb W rt q r u < 1000000
          · have := hb u hu2 (by rw [c, Bool.and_eq_true, decide_eq_true_eq]; exact ⟨rfl, c2⟩)
            simp only [c, Option.getD_some] at this
            omega
          · omega
    rw [hs0, hs1]
    rfl
/-- a change in round r needs r + 1 nodes -/
theorem ways_chain (G : GR n q fa fb) (hW : ∀ e, e < q → 1 ≤ W e ∧ W e ≤ 999) (hrt : rt < n) : ∀ r v, v < n → ww fa fb W rt q (r + 1) v < ww fa fb W rt q r v → ∃ f : Nat → Nat, f (r + 1) = v ∧ (∀ i, i ≤ r + 1 → f i < n) ∧ ∀ i, i < r + 1 → ww fa fb W rt q i (f i) < ww fa fb W rt q (i + 1) (f (i + 1))
  | 0, v, hv, h => by
    have a := ww_a (fa := fa) (fb := fb) (W := W) (rt := rt) (q := q) 0 v
    rcases ww_d G (show ww fa fb W rt q (0 + 1) v < 1000000 by omega) with e | ⟨u, e, hu, hb, e2⟩
    · have : ww fa fb W rt q 0 v = ww0 rt v := rfl
      omega
    · have hWe := hW e (bt_lt hb)
      refine ⟨fun i => if i = 0 then u else v, rfl, fun i hi => ?_, fun i hi => ?_⟩
      · show (if i = 0 then u else v) < n
        split <;> assumption
      · have : i = 0 := by omega
        subst this
        show ww fa fb W rt q 0 u < ww fa fb W rt q (0 + 1) v
        omega
  | r + 1, v, hv, h => by
    have a := ww_a (fa := fa) (fb := fb) (W := W) (rt := rt) (q := q) (r + 1) v
    rcases ww_d G (show ww fa fb W rt q (r + 1 + 1) v < 1000000 by omega) with e | ⟨u, e, hu, hb, e2⟩
    · have := ww_m0 (W := W) (rt := rt) G (r + 1) v
      omega
    · have hWe := hW e (bt_lt hb)
      have hc := ww_c (W := W) (rt := rt) (r := r) G hb
      obtain ⟨f, h1, h2, h3⟩ := ways_chain G hW hrt r u hu (by omega)
      refine ⟨fun i => if i = r + 2 then v else f i, if_pos rfl, fun i hi => ?_, fun i hi => ?_⟩
      · show (if i = r + 2 then v else f i) < n
        split
        · exact hv
        · exact h2 i (by omega)
      · show ww fa fb W rt q i (if i = r + 2 then v else f i) < ww fa fb W rt q (i + 1) (if i + 1 = r + 2 then v else f (i + 1))
        rw [if_neg (by omega)]
        by_cases c : i + 1 = r + 2
        · have : i = r + 1 := by omega
          subst this
          rw [if_pos rfl, h1]
          omega
        · rw [if_neg c]
          exact h3 i (by omega)
theorem ways_new (G : GR n q fa fb) (hW : ∀ e, e < q → 1 ≤ W e ∧ W e ≤ 999) (hrt : rt < n) {r v : Nat} (hv : v < n) (h : ww fa fb W rt q (r + 1) v < ww fa fb W rt q r v) : r + 2 ≤ n := by
  obtain ⟨f, h1, h2, h3⟩ := ways_chain G hW hrt r v hv h
  have up : ∀ s i, i + s ≤ r + 1 → 0 < s → ww fa fb W rt q i (f i) < ww fa fb W rt q (i + s) (f (i + s)) := by
    intro s
    induction s with
    | zero => intro i _ h; exact absurd h (Nat.lt_irrefl _)
    | succ s ih =>
      intro i hi _
      have a := h3 (i + s) (by omega)
      rcases Nat.eq_zero_or_pos s with e | e
      · subst e
        exact a
      · have := ih i (by omega) e
        have e9 : i + (s + 1) = i + s + 1 := by omega
        rw [e9]
        omega
  refine pigeon n (r + 2) (fun i x => f i = x) (fun i hi => ⟨f i, h2 i (by omega), rfl⟩) (fun i j x hi hj h1 h2 => ?_)
  have key : ∀ i j, i < j → j < r + 2 → f i = f j → False := fun i j hij hj e => by
    have a := up (j - i) i (by omega) (by omega)
    have e9 : i + (j - i) = j := by omega
    rw [e9, e] at a
    have b := ww_mm (W := W) (rt := rt) G (f j) i (j - i)
    rw [e9] at b
    omega
  rcases Nat.lt_trichotomy i j with c | c | c
  · exact (key i j c hj (h1.trans h2.symm)).elim
  · exact c
  · exact (key j i c hi (h2.trans h1.symm)).elim
end WAYS
end
section
/-! CHOSEN -/
theorem i32_lo (x : Int32) : -2147483648 ≤ x.toInt := by have := Int32.le_toInt x; omega
theorem i32_hi (x : Int32) : x.toInt < 2147483648 := by have := Int32.toInt_lt x; omega
theorem cnt_upd {p p2 : Nat → Bool} {x : Nat} (hx : p x = true) (hx2 : p2 x = false) (ho : ∀ u, u ≠ x → p2 u = p u) : ∀ n, x < n → cnt p2 n + 1 = cnt p n
  | 0, h => absurd h (Nat.not_lt_zero _)
  | n + 1, h => by
    unfold cnt
    by_cases e : x = n
    · subst e
      rw [hx, hx2, cnt_congr x (fun u hu => ho u (by omega))]
      rfl
    · have ih := cnt_upd hx hx2 ho n (by omega)
      rw [ho n (Ne.symm e)]
      cases p n
      · exact ih
      · show cnt p2 n + 1 + 1 = cnt p n + 1
        omega
theorem cnt_pos {p : Nat → Bool} : ∀ {n : Nat}, 0 < cnt p n → ∃ u, u < n ∧ p u = true
  | 0, h => absurd h (Nat.lt_irrefl _)
  | n + 1, h => by
    unfold cnt at h
    cases e : p n with
    | true => exact ⟨n, by omega, e⟩
    | false =>
      rw [e] at h
      obtain ⟨u, hu, hp⟩ := cnt_pos (n := n) h
      exact ⟨u, by omega, hp⟩
theorem cnt_all {p : Nat → Bool} : ∀ {n : Nat}, (∀ u, u < n → p u = true) → cnt p n = n
  | 0, _ => rfl
  | n + 1, h => by
    unfold cnt
    rw [h n (by omega), cnt_all (n := n) (fun u hu => h u (by omega))]
    rfl
theorem cnt_0 {p : Nat → Bool} {n u : Nat} (h : cnt p n = 0) (hu : u < n) : p u = false := by
  induction n with
  | zero => exact absurd hu (Nat.not_lt_zero _)
  | succ n ih =>
    unfold cnt at h
    cases e : p n with
    | true => rw [e] at h; cases h
    | false =>
      rw [e] at h
      by_cases c : u = n
      · rw [c]; exact e
      · exact ih h (by omega)
section CHOSEN
variable {n : Nat} {A : Nat → Nat → Option Nat} {ids : Nat → Int32}
/-- who is picked: the greatest of those that are left -/
theorem pkv_spec (en : Nat → Int32) : (pkv ids en n = none ∧ ∀ u, u < n → en u ≠ 0) ∨ ∃ x, x < n ∧ pkv ids en n = some x ∧ en x = 0 ∧ ∀ u, u < n → en u = 0 → (ids u).toInt ≤ (ids x).toInt := by
  have h := argmin (T := Option Nat) (fun t => match t with | none => 4294967296 | some x => -(ids x).toInt) (fun u => -(ids u).toInt) (fun u => decide (en u = 0)) (fun u => some u) (pk1 ids en) (fun u t h1 h2 => by
      unfold pk1
      rw [h1]
      cases t with
      | none => rfl
      | some x =>
        have h2' : -(ids u).toInt < -(ids x).toInt := h2
        show (bif true && !decide (ids u ≤ ids x) then some u else some x) = _
        rw [decide_eq_false (show ¬ ids u ≤ ids x from fun q => absurd (i32_le.mp q) (by omega))]
        rfl) (fun u t h => by
      unfold pk1
      cases e : decide (en u = 0) with
      | false => rfl
      | true =>
        cases t with
        | none => exact absurd ⟨e, by have := i32_lo (ids u); show -(ids u).toInt < 4294967296; omega⟩ h
        | some x =>
          have : ¬ -(ids u).toInt < -(ids x).toInt := fun q => h ⟨e, q⟩
          show (bif true && !decide (ids u ≤ ids x) then some u else some x) = _
          rw [decide_eq_true (show ids u ≤ ids x from i32_le.mpr (by omega))]
          rfl) (fun u _ => rfl) none n
  rcases h with ⟨e, ha⟩ | ⟨x, hx, ho, e, _, ha, _⟩
  · refine Or.inl ⟨e, fun u hu h0 => ?_⟩
    have := ha u hu (decide_eq_true h0)
    have b := i32_lo (ids u)
    have this' : (4294967296 : Int) ≤ -(ids u).toInt := this
    omega
  · refine Or.inr ⟨x, hx, e, of_decide_eq_true ho, fun u hu h0 => ?_⟩
    have := ha u hu (decide_eq_true h0)
    have this' : -(ids x).toInt ≤ -(ids u).toInt := this
    omega
/-- the least and the greatest hour around -/
theorem pk2_spec {en wh : Nat → Int32} {m : Nat → Nat} {x : Nat} (hm : ∀ u, u < n → en u ≠ 0 → wh u = nI (m u) ∧ m u ≤ 12) : ∀ k, k ≤ n → ∃ o l, itr (pk2 A en wh x) k (1000000, 0) = (nI o, nI l) ∧ o ≤ 1000000 ∧ l ≤ 12 ∧ (∀ u, u < k → (A u x).isSome = true → en u = 1 → o ≤ m u) ∧ (o = 1000000 ∨ ∃ u, u < k ∧ (A u x).isSome = true ∧ en u = 1 ∧ o = m u) ∧ (∀ u, u < k → (A u x).isSome = true → en u = 2 → m u ≤ l) ∧ (l = 0 ∨ ∃ u, u < k ∧ (A u x).isSome = true ∧ en u = 2 ∧ l = m u)
  | 0, _ => ⟨1000000, 0, rfl, Nat.le_refl _, by omega, fun u h => absurd h (Nat.not_lt_zero _), Or.inl rfl, fun u h => absurd h (Nat.not_lt_zero _), Or.inl rfl⟩
  | k + 1, hk => by
    obtain ⟨o, l, e, h1, h2, h3, h4, h5, h6⟩ := pk2_spec hm k (by omega)
    rw [itr_s, e]
    unfold pk2
    have lift1 : (o = 1000000 ∨ ∃ u, u < k ∧ (A u x).isSome = true ∧ en u = 1 ∧ o = m u) → (o = 1000000 ∨ ∃ u, u < k + 1 ∧ (A u x).isSome = true ∧ en u = 1 ∧ o = m u) := fun h => h.imp id (fun ⟨u, a, b⟩ => ⟨u, by omega, b⟩)
    have lift2 : (l = 0 ∨ ∃ u, u < k ∧ (A u x).isSome = true ∧ en u = 2 ∧ l = m u) → (l = 0 ∨ ∃ u, u < k + 1 ∧ (A u x).isSome = true ∧ en u = 2 ∧ l = m u) := fun h => h.imp id (fun ⟨u, a, b⟩ => ⟨u, by omega, b⟩)
    cases c : (A k x).isSome with
    | false =>
      refine ⟨o, l, rfl, h1, h2, fun u hu ha he => ?_, lift1 h4, fun u hu ha he => ?_, lift2 h6⟩
      · by_cases e9 : u = k
        · rw [e9, c] at ha; cases ha
        · exact h3 u (by omega) ha he
      · by_cases e9 : u = k
        · rw [e9, c] at ha; cases ha
        · exact h5 u (by omega) ha he
    | true =>
      by_cases c1 : en k = 1
      · have hmk := hm k (by omega) (by rw [c1]; decide)
        have c2 : ¬ en k = 2 := by rw [c1]; decide
        rw [decide_eq_true c1, decide_eq_false c2, hmk.1]
        by_cases c3 : o ≤ m k
        · refine ⟨o, l, ?_, h1, h2, fun u hu ha he => ?_, lift1 h4, fun u hu ha he => ?_, lift2 h6⟩
          · show (bif decide (nI o ≤ nI (m k)) then nI o else nI (m k), nI l) = _
            rw [decide_eq_true (nI_le c3 (by omega))]
            rfl
          · by_cases e9 : u = k
            · rw [e9]; exact c3
            · exact h3 u (by omega) ha he
          · by_cases e9 : u = k
            · rw [e9] at he; exact absurd he c2
            · exact h5 u (by omega) ha he
        · refine ⟨m k, l, ?_, by omega, h2, fun u hu ha he => ?_, Or.inr ⟨k, by omega, c, c1, rfl⟩, fun u hu ha he => ?_, lift2 h6⟩
          · show (bif decide (nI o ≤ nI (m k)) then nI o else nI (m k), nI l) = _
            rw [decide_eq_false (fun q => c3 ((nI_leI (by omega) (by omega)).mp q))]
            rfl
          · by_cases e9 : u = k
            · rw [e9]; exact Nat.le_refl _
            · have := h3 u (by omega) ha he
              omega
          · by_cases e9 : u = k
            · rw [e9] at he; exact absurd he c2
            · exact h5 u (by omega) ha he
      · rw [decide_eq_false c1]
        by_cases c2 : en k = 2
        · have hmk := hm k (by omega) (by rw [c2]; decide)
          rw [decide_eq_true c2, hmk.1]
          by_cases c3 : m k ≤ l
          · refine ⟨o, l, ?_, h1, h2, fun u hu ha he => ?_, lift1 h4, fun u hu ha he => ?_, lift2 h6⟩
            · show (nI o, bif decide (nI (m k) ≤ nI l) then nI l else nI (m k)) = _
              rw [decide_eq_true (nI_le c3 (by omega))]
              rfl
            · by_cases e9 : u = k
              · rw [e9] at he; exact absurd he c1
              · exact h3 u (by omega) ha he
            · by_cases e9 : u = k
              · rw [e9]; exact c3
              · exact h5 u (by omega) ha he
          · refine ⟨o, m k, ?_, h1, hmk.2, fun u hu ha he => ?_, lift1 h4, fun u hu ha he => ?_, Or.inr ⟨k, by omega, c, c2, rfl⟩⟩
            · show (nI o, bif decide (nI (m k) ≤ nI l) then nI l else nI (m k)) = _
              rw [decide_eq_false (fun q => c3 ((nI_leI (by omega) (by omega)).mp q))]
              rfl
            · by_cases e9 : u = k
              · rw [e9] at he; exact absurd he c1
              · exact h3 u (by omega) ha he
            · by_cases e9 : u = k
              · rw [e9]; exact Nat.le_refl _
              · have := h5 u (by omega) ha he
                omega
        · rw [decide_eq_false c2]
          refine ⟨o, l, rfl, h1, h2, fun u hu ha he => ?_, lift1 h4, fun u hu ha he => ?_, lift2 h6⟩
          · by_cases e9 : u = k
            · rw [e9] at he; exact absurd he c1
            · exact h3 u (by omega) ha he
          · by_cases e9 : u = k
            · rw [e9] at he; exact absurd he c2
            · exact h5 u (by omega) ha he
/-- when and how a node ends -/
def ChS (A : Nat → Nat → Option Nat) (n : Nat) (ids en : Nat → Int32) (m : Nat → Nat) (v : Nat) : Prop := (en v = 2 ∧ (∃ u, u < n ∧ (A v u).isSome = true ∧ (ids v).toInt < (ids u).toInt ∧ en u = 1 ∧ m u = m v) ∧ ∀ u, u < n → (A v u).isSome = true → (ids v).toInt < (ids u).toInt → en u = 1 → m v ≤ m u) ∨ (en v = 1 ∧ (∀ u, u < n → (A v u).isSome = true → (ids v).toInt < (ids u).toInt → en u = 2 ∧ m u + 1 ≤ m v) ∧ (m v = 1 ∨ ∃ u, u < n ∧ (A v u).isSome = true ∧ (ids v).toInt < (ids u).toInt ∧ m v = m u + 1))
def ChI (A : Nat → Nat → Option Nat) (n : Nat) (ids : Nat → Int32) (k : Nat) (s : (Nat → Int32) × (Nat → Int32)) : Prop := ∃ m : Nat → Nat, cnt (fun u => decide (s.1 u = 0)) n + k = n ∧ (∀ v u, v < n → u < n → s.1 v ≠ 0 → (ids v).toInt < (ids u).toInt → s.1 u ≠ 0) ∧ ∀ v, v < n → s.1 v ≠ 0 → s.2 v = nI (m v) ∧ 1 ≤ m v ∧ m v ≤ k ∧ ChS A n ids s.1 m v
theorem ChI.some {k : Nat} {s : (Nat → Int32) × (Nat → Int32)} (h : ChI A n ids k s) (hk : k < n) : ∃ x, x < n ∧ pkv ids s.1 n = some x ∧ s.1 x = 0 ∧ ∀ u, u < n → s.1 u = 0 → (ids u).toInt ≤ (ids x).toInt := by
  rcases pkv_spec (n := n) (ids := ids) s.1 with ⟨_, ha⟩ | h2
  · obtain ⟨m, h1, _⟩ := h
    obtain ⟨u, hu, hp⟩ := cnt_pos (p := fun u => decide (s.1 u = 0)) (n := n) (by omega)
    exact absurd (of_decide_eq_true hp) (ha u hu)
  · exact h2
theorem ChI.step (hn : n ≤ 12) (hB : Nb A n) (hd : Dis ids n) {k : Nat} {s : (Nat → Int32) × (Nat → Int32)} (h : ChI A n ids k s) (hk : k < n) : ChI A n ids (k + 1) (pkS A ids n s) := by
  obtain ⟨x, hx, hpk, hx0, hmax⟩ := h.some hk
  obtain ⟨m, h1, h2, h3⟩ := h
  have e0 : pkS A ids n s = pkU A n s x := by unfold pkS; rw [hpk]
  rw [e0]
  -- done nodes are higher, higher ones are done
  have up : ∀ u, u < n → s.1 u ≠ 0 → (ids x).toInt < (ids u).toInt := fun u hu h0 => by
    have hne : u ≠ x := fun e => h0 (by rw [e]; exact hx0)
    rcases Int.lt_trichotomy (ids x).toInt (ids u).toInt with c | c | c
    · exact c
    · exact absurd (hd x u hx hu (i32_eq c)).symm hne
    · exact absurd hx0 (h2 u x hu hx h0 c)
  have dn : ∀ u, u < n → (ids x).toInt < (ids u).toInt → s.1 u ≠ 0 := fun u hu hl h0 => by
    have := hmax u hu h0
    omega
  obtain ⟨o, l, e, g1, g2, g3, g4, g5, g6⟩ := pk2_spec (A := A) (en := s.1) (wh := s.2) (m := m) (x := x) (n := n) (fun u hu h0 => ⟨(h3 u hu h0).1, by have := (h3 u hu h0).2.2.1; omega⟩) n (Nat.le_refl _)
  have key : ∀ (a b : Int32) (z : Nat), a ≠ 0 → b = nI z → 1 ≤ z → z ≤ k + 1 → ChS A n ids (upd s.1 x a) (fun v => if v = x then z else m v) x → ChI A n ids (k + 1) (upd s.1 x a, upd s.2 x b) := by
    intro a b z ha hb hz1 hz2 hS
    refine ⟨fun v => if v = x then z else m v, ?_, fun v u hv hu h0 hl => ?_, fun v hv h0 => ?_⟩
    · have := cnt_upd (p := fun u => decide (s.1 u = 0)) (p2 := fun u => decide (upd s.1 x a u = 0)) (x := x) (decide_eq_true hx0) (by rw [pk_us]; exact decide_eq_false ha) (fun u hu => by rw [pk_un hu]) n hx
      show cnt (fun u => decide (upd s.1 x a u = 0)) n + (k + 1) = n
      omega
    · show upd s.1 x a u ≠ 0
      have h0' : upd s.1 x a v ≠ 0 := h0
      by_cases c : u = x
      · rw [c, pk_us]; exact ha
      · rw [pk_un c]
        by_cases c2 : v = x
        · subst c2; exact dn u hu hl
        · rw [pk_un c2] at h0'
          exact h2 v u hv hu h0' hl
    · have h0' : upd s.1 x a v ≠ 0 := h0
      by_cases c : v = x
      · subst c
        refine ⟨?_, ?_, ?_, hS⟩
        · show upd s.2 v b v = nI (if v = v then z else m v)
          rw [pk_us, if_pos rfl, hb]
        · show 1 ≤ (if v = v then z else m v)
          rw [if_pos rfl]; exact hz1
        · show (if v = v then z else m v) ≤ k + 1
          rw [if_pos rfl]; exact hz2
      · rw [pk_un c] at h0'
        obtain ⟨q1, q2, q3, q4⟩ := h3 v hv h0'
        refine ⟨?_, ?_, ?_, ?_⟩
        · show upd s.2 x b v = nI (if v = x then z else m v)
          rw [pk_un c, if_neg c]; exact q1
        · show 1 ≤ (if v = x then z else m v)
          rw [if_neg c]; exact q2
        · show (if v = x then z else m v) ≤ k + 1
          rw [if_neg c]; omega
        · have hvx := up v hv h0'
          have ne : ∀ u, (ids v).toInt < (ids u).toInt → u ≠ x := fun u hl e => by rw [e] at hl; omega
          unfold ChS
          show (upd s.1 x a v = 2 ∧ _) ∨ (upd s.1 x a v = 1 ∧ _)
          rw [pk_un c]
          simp only [if_neg c]
          rcases q4 with ⟨p1, ⟨u, u1, u2, u3, u4, u5⟩, p3⟩ | ⟨p1, p2, p3⟩
          · refine Or.inl ⟨p1, ⟨u, u1, u2, u3, by rw [pk_un (ne u u3)]; exact u4, by rw [if_neg (ne u u3)]; exact u5⟩, fun u' a1 a2 a3 a4 => ?_⟩
            rw [pk_un (ne u' a3)] at a4
            rw [if_neg (ne u' a3)]
            exact p3 u' a1 a2 a3 a4
          · refine Or.inr ⟨p1, fun u' a1 a2 a3 => ?_, ?_⟩
            · rw [pk_un (ne u' a3), if_neg (ne u' a3)]
              exact p2 u' a1 a2 a3
            · rcases p3 with p3 | ⟨u, u1, u2, u3, u4⟩
              · exact Or.inl p3
              · exact Or.inr ⟨u, u1, u2, u3, by rw [if_neg (ne u u3)]; exact u4⟩
  unfold pkU
  rw [e]
  have nx : ∀ u, (A x u).isSome = true → u ≠ x := fun u hu => (hB.1 x u hu).2.2.symm
  by_cases c : o < 1000000
  · rw [mil_f (show o < 1000000 from c)]
    rcases g4 with g4 | ⟨u, u1, u2, u3, u4⟩
    · omega
    · have hu0 : s.1 u ≠ 0 := by rw [u3]; decide
      have hmu := h3 u u1 hu0
      refine key 2 (nI o) o (by decide) rfl (by omega) (by omega) (Or.inl ⟨pk_us, ⟨u, u1, by rw [hB.2]; exact u2, up u u1 hu0, by rw [pk_un (nx u (by rw [hB.2]; exact u2))]; exact u3, ?_⟩, fun u' a1 a2 a3 a4 => ?_⟩)
      · dsimp only
        rw [if_neg (nx u (by rw [hB.2]; exact u2)), if_pos rfl]; omega
      · rw [pk_un (nx u' a2)] at a4
        dsimp only
        rw [if_pos rfl, if_neg (nx u' a2)]
        exact g3 u' a1 (by rw [hB.2]; exact a2) a4
  · rw [mil_t (show 1000000 ≤ o by omega) (by omega)]
    have no1 : ∀ u, u < n → (A x u).isSome = true → s.1 u ≠ 1 := fun u hu ha h => by
      have := g3 u hu (by rw [hB.2]; exact ha) h
      have := (h3 u hu (by rw [h]; decide)).2.2.1
      omega
    have lk : l ≤ k := by
      rcases g6 with g6 | ⟨u, u1, u2, u3, u4⟩
      · omega
      · have := (h3 u u1 (by rw [u3]; decide)).2.2.1
        omega
    have en12 : ∀ u, u < n → s.1 u ≠ 0 → s.1 u = 1 ∨ s.1 u = 2 := fun u hu h0 => by
      rcases (h3 u hu h0).2.2.2 with ⟨p, _⟩ | ⟨p, _⟩
      · exact Or.inr p
      · exact Or.inl p
    refine key 1 (nI l + 1) (l + 1) (by decide) (nI_1 l) (by omega) (by omega) (Or.inr ⟨pk_us, fun u' a1 a2 a3 => ?_, ?_⟩)
    · have hu0 := dn u' a1 a3
      have e2 : s.1 u' = 2 := (en12 u' a1 hu0).resolve_left (no1 u' a1 a2)
      dsimp only
      rw [pk_un (nx u' a2), if_pos rfl, if_neg (nx u' a2)]
      have := g5 u' a1 (by rw [hB.2]; exact a2) e2
      exact ⟨e2, by omega⟩
    · dsimp only
      rw [if_pos rfl]
      rcases g6 with g6 | ⟨u, u1, u2, u3, u4⟩
      · exact Or.inl (by omega)
      · have ha : (A x u).isSome = true := by rw [hB.2]; exact u2
        exact Or.inr ⟨u, u1, ha, up u u1 (by rw [u3]; decide), by rw [if_neg (nx u ha)]; omega⟩
theorem pck_inv (hn : n ≤ 12) (hB : Nb A n) (hd : Dis ids n) (f h : Nat → Int32) : ∀ k, k ≤ n → ChI A n ids k (pck A ids n k f h)
  | 0, _ => ⟨fun _ => 0, by
      show cnt (fun u => decide (pw n (fun _ => 0) f u = 0)) n + 0 = n
      rw [cnt_all (fun u hu => by rw [pw_lt hu]; rfl)]; rfl, fun v u hv hu h0 => absurd (show pw n (fun _ => 0) f v = 0 from pw_lt hv) h0, fun v hv h0 => absurd (show pw n (fun _ => 0) f v = 0 from pw_lt hv) h0⟩
  | k + 1, hk => (pck_inv hn hB hd f h k (by omega)).step hn hB hd (by omega)
theorem pick_some (hn : n ≤ 12) (hB : Nb A n) (hd : Dis ids n) (f h : Nat → Int32) (k : Nat) (hk : k < n) : (pkv ids (pck A ids n k f h).1 n).isSome = true := by
  obtain ⟨x, _, e, _⟩ := (pck_inv hn hB hd f h k (by omega)).some hk
  rw [e]
  rfl
theorem pick_spec (hn : n ≤ 12) (hB : Nb A n) (hd : Dis ids n) (f h : Nat → Int32) : ∃ m : Nat → Nat, ∀ v, v < n → (pck A ids n n f h).2 v = nI (m v) ∧ 1 ≤ m v ∧ m v ≤ n ∧ ChS A n ids (pck A ids n n f h).1 m v := by
  obtain ⟨m, h1, _, h3⟩ := pck_inv hn hB hd f h n (Nat.le_refl _)
  refine ⟨m, fun v hv => h3 v hv (fun e => ?_)⟩
  have := cnt_0 (p := fun u => decide ((pck A ids n n f h).1 u = 0)) (show cnt _ n = 0 by omega) hv
  rw [decide_eq_false_iff_not] at this
  exact this e
end CHOSEN
end
section
/-! CHOSEN, round by round; letters over open edges -/
theorem mov_m {wh : Nat → Int32} {v m r : Nat} (h : wh v = nI m) (h1 : 1 ≤ m) (h2 : m < 1000) (hr : r < 1000000) : mov wh v (nI r) = decide (m ≤ r) := by
  unfold mov
  rw [h, decide_eq_false (nI_nle (by omega) (by omega)), Bool.not_false, Bool.true_and, Bool.eq_iff_iff, Bool.not_eq_true', decide_eq_false_iff_not, decide_eq_true_eq, nI_ltI (by omega) (by omega)]
  omega
theorem mov_0 {wh : Nat → Int32} {v r : Nat} (h : wh v = 0) : mov wh v (nI r) = false := by
  unfold mov
  rw [h, decide_eq_true (Int32.le_refl 0)]
  rfl
section CH2
variable {n : Nat} {A : Nat → Nat → Option Nat} {ids en wh : Nat → Int32} {m : Nat → Nat} {S : am_S0}
def Hc (en wh : Nat → Int32) (r v : Nat) : T3 := (bif mov wh v (nI r) then en v else 0, bif mov wh v (nI r) then wh v else 0, -1)
theorem chosen_step (hn : n ≤ 12) (hB : Nb A n) (hd : Dis ids n) (hm : ∀ v, v < n → wh v = nI (m v) ∧ 1 ≤ m v ∧ m v ≤ n ∧ ChS A n ids en m v) {r : Nat} (hr : r < 100000) (h24 : ∀ v, v < n → S 24 v = (Hc en wh r v).1) (h3 : ∀ v, v < n → S 3 v = ids v) (h16 : S 1 6 = nI (r + 1)) {v : Nat} (hv : v < n) : ph4 S A n v (Hc en wh r v) = Hc en wh (r + 1) v := by
  have mo : ∀ u s, u < n → s < 1000000 → mov wh u (nI s) = decide (m u ≤ s) := fun u s hu hs => mov_m (hm u hu).1 (hm u hu).2.1 (by have := (hm u hu).2.2.1; omega) hs
  have en12 : ∀ u, u < n → en u = 1 ∨ en u = 2 := fun u hu => by
    rcases (hm u hu).2.2.2 with ⟨p, _⟩ | ⟨p, _⟩
    · exact Or.inr p
    · exact Or.inl p
  have op : ∀ u, u < n → (S 24 u = 0 ↔ r < m u) := fun u hu => by
    rw [h24 u hu]
    show (bif mov wh u (nI r) then en u else 0) = 0 ↔ _
    rw [mo u r hu (by omega)]
    by_cases c : m u ≤ r
    · rw [decide_eq_true c]
      show en u = 0 ↔ _
      refine ⟨fun h => ?_, fun h => absurd h (by omega)⟩
      rcases en12 u hu with e | e <;> rw [e] at h <;> exact absurd h (by decide)
    · rw [decide_eq_false c]
      exact ⟨fun _ => by omega, fun _ => rfl⟩
  have hwin : ∀ u, u < n → r < m u → (win S A n u = true ↔ en u = 1 ∧ m u = r + 1) := fun u hu ho => by
    have h1 : win S A n u = true ↔ ∀ x, x < n → (A u x).isSome = true → r < m x → (ids x).toInt < (ids u).toInt := by
      unfold win
      rw [Bool.not_eq_true']
      constructor
      · intro h x hx ha hox
        cases e : decide (S 3 x < S 3 u) with
        | true =>
          have := i32_lt.mp (of_decide_eq_true e)
          rw [h3 x hx, h3 u hu] at this
          exact this
        | false =>
          have : anyb (fun x => (A u x).isSome && (decide (S 24 x = 0) && !decide (S 3 x < S 3 u))) n = true := anyb_true.mpr ⟨x, hx, by rw [ha, decide_eq_true ((op x hx).mpr hox), e]; rfl⟩
          rw [h] at this
          cases this
      · intro h
        refine anyb_false (fun x hx => ?_)
        cases ha : (A u x).isSome with
        | false => rfl
        | true =>
          by_cases c : S 24 x = 0
          · rw [decide_eq_true c, decide_eq_true (show S 3 x < S 3 u from i32_lt.mpr (by rw [h3 x hx, h3 u hu]; exact h x hx ha ((op x hx).mp c)))]
            rfl
          · rw [decide_eq_false c]
            rfl
    rw [h1]
    obtain ⟨q1, q2, q3, q4⟩ := hm u hu
    constructor
    · intro h
      rcases q4 with ⟨p1, ⟨x, x1, x2, x3, x4, x5⟩, _⟩ | ⟨p1, p2, p3⟩
      · have := h x x1 x2 (by omega)
        omega
      · refine ⟨p1, ?_⟩
        rcases p3 with p3 | ⟨x, x1, x2, x3, x4⟩
        · omega
        · have : ¬ r < m x := fun c => by have := h x x1 x2 c; omega
          omega
    · intro ⟨e1, e2⟩ x hx ha hox
      rcases q4 with ⟨p1, _⟩ | ⟨p1, p2, p3⟩
      · rw [e1] at p1; exact absurd p1 (by decide)
      · rcases Int.lt_trichotomy (ids x).toInt (ids u).toInt with c | c | c
        · exact c
        · exact absurd (hd x u hx hu (i32_eq c)) (hB.1 u x ha).2.2.symm
        · have := (p2 x hx ha c).2
          omega
  have hHr : ∀ s, s < 1000000 → Hc en wh s v = (bif decide (m v ≤ s) then en v else 0, bif decide (m v ≤ s) then wh v else 0, -1) := fun s hs => by
    unfold Hc
    rw [mo v s hv hs]
  obtain ⟨q1, q2, q3, q4⟩ := hm v hv
  rw [hHr r (by omega), hHr (r + 1) (by omega)]
  unfold ph4
  by_cases c : r < m v
  · rw [decide_eq_true ((op v hv).mpr c), cond_true, decide_eq_false (show ¬ m v ≤ r by omega)]
    have hw := hwin v hv c
    cases e : win S A n v with
    | true =>
      obtain ⟨e1, e2⟩ := hw.mp e
      rw [decide_eq_true (show m v ≤ r + 1 by omega), e1, q1, e2, h16]
      rfl
    | false =>
      have nw : ¬ (en v = 1 ∧ m v = r + 1) := fun h => by rw [hw.mpr h] at e; cases e
      have hb : bes S A n v = true ↔ en v = 2 ∧ m v = r + 1 := by
        unfold bes
        rw [anyb_true]
        constructor
        · rintro ⟨x, hx, h⟩
          rw [Bool.and_eq_true, Bool.and_eq_true, decide_eq_true_eq] at h
          obtain ⟨ha, ho, hwx⟩ := h
          have hox := (op x hx).mp ho
          obtain ⟨x1, x2⟩ := (hwin x hx hox).mp hwx
          obtain ⟨_, _, _, qx⟩ := hm x hx
          rcases qx with ⟨p1, _⟩ | ⟨p1, p2, _⟩
          · rw [x1] at p1; exact absurd p1 (by decide)
          · have hlt : (ids v).toInt < (ids x).toInt := by
              rcases Int.lt_trichotomy (ids v).toInt (ids x).toInt with c2 | c2 | c2
              · exact c2
              · exact absurd (hd v x hv hx (i32_eq c2)) (hB.1 v x ha).2.2
              · have := (p2 v hv (by rw [hB.2]; exact ha) c2).2
                omega
            rcases q4 with ⟨p1', _, p3⟩ | ⟨p1', p2', _⟩
            · have := p3 x hx ha hlt x1
              exact ⟨p1', by omega⟩
            · have := (p2' x hx ha hlt).1
              rw [x1] at this
              exact absurd this (by decide)
        · rintro ⟨e1, e2⟩
          rcases q4 with ⟨p1, ⟨x, x1, x2, x3, x4, x5⟩, _⟩ | ⟨p1, _⟩
          · refine ⟨x, x1, ?_⟩
            rw [Bool.and_eq_true, Bool.and_eq_true, decide_eq_true_eq]
            exact ⟨x2, (op x x1).mpr (by omega), (hwin x x1 (by omega)).mpr ⟨x4, by omega⟩⟩
          · rw [e1] at p1; exact absurd p1 (by decide)
      cases e3 : bes S A n v with
      | true =>
        obtain ⟨e1, e2⟩ := hb.mp e3
        rw [decide_eq_true (show m v ≤ r + 1 by omega), e1, q1, e2, h16]
        rfl
      | false =>
        have nb : ¬ (en v = 2 ∧ m v = r + 1) := fun h => by rw [hb.mpr h] at e3; cases e3
        have : m v ≠ r + 1 := fun h => by
          rcases en12 v hv with e9 | e9
          · exact nw ⟨e9, h⟩
          · exact nb ⟨e9, h⟩
        rw [decide_eq_false (show ¬ m v ≤ r + 1 by omega)]
        rfl
  · rw [decide_eq_false (fun h => c ((op v hv).mp h)), cond_false, decide_eq_true (show m v ≤ r by omega), decide_eq_true (show m v ≤ r + 1 by omega)]
end CH2
/-- each open edge is seen from both its ends -/
theorem cnt_or {p p2 : Nat → Bool} : ∀ n, (∀ u, u < n → ¬ (p u = true ∧ p2 u = true)) → cnt (fun u => p u || p2 u) n = cnt p n + cnt p2 n
  | 0, _ => rfl
  | n + 1, h => by
    have ih := cnt_or (p := p) (p2 := p2) n (fun u hu => h u (by omega))
    have hn := h n (by omega)
    unfold cnt
    rw [ih]
    cases e1 : p n with
    | true =>
      cases e2 : p2 n with
      | true => exact absurd ⟨e1, e2⟩ hn
      | false => simp; omega
    | false =>
      cases e2 : p2 n with
      | true => simp; omega
      | false => simp
theorem cnt_one {x : Nat} {c : Bool} : ∀ n, cnt (fun u => decide (u = x) && c) n = if x < n ∧ c = true then 1 else 0
  | 0 => by rw [if_neg (by omega)]; rfl
  | n + 1 => by
    unfold cnt
    rw [cnt_one n]
    by_cases e : n = x
    · subst e
      rw [decide_eq_true rfl, if_neg (by omega)]
      cases c
      · rw [if_neg (by simp)]; rfl
      · rw [if_pos ⟨by omega, rfl⟩]; rfl
    · rw [decide_eq_false e]
      show (if x < n ∧ c = true then 1 else 0) = _
      by_cases c2 : x < n ∧ c = true
      · rw [if_pos c2, if_pos ⟨by omega, c2.2⟩]
      · rw [if_neg c2, if_neg (fun q => c2 ⟨by omega, q.2⟩)]
theorem sm_congr {f h : Nat → Nat} : ∀ n, (∀ v, v < n → f v = h v) → sm f n = sm h n
  | 0, _ => rfl
  | n + 1, e => by
    show sm f n + f n = sm h n + h n
    rw [sm_congr n (fun v hv => e v (by omega)), e n (by omega)]
theorem sm_add (f h : Nat → Nat) : ∀ n, sm (fun v => f v + h v) n = sm f n + sm h n
  | 0 => rfl
  | n + 1 => by
    show sm (fun v => f v + h v) n + (f n + h n) = sm f n + f n + (sm h n + h n)
    rw [sm_add f h n]
    omega
theorem sm_one {x : Nat} {c : Bool} : ∀ n, sm (fun v => if v = x ∧ c = true then 1 else 0) n = if x < n ∧ c = true then 1 else 0
  | 0 => by rw [if_neg (by omega)]; rfl
  | n + 1 => by
    show sm _ n + (if n = x ∧ c = true then 1 else 0) = _
    rw [sm_one n]
    by_cases e : n = x ∧ c = true
    · rw [if_pos e, if_neg (by omega), if_pos ⟨by omega, e.2⟩]
    · rw [if_neg e]
      by_cases c2 : x < n ∧ c = true
      · rw [if_pos c2, if_pos ⟨by omega, c2.2⟩]
      · rw [if_neg c2, if_neg (fun q => by
          by_cases c3 : n = x
          · exact e ⟨c3, q.2⟩
          · exact c2 ⟨by omega, q.2⟩)]
theorem bt_suc (fa fb : Nat → Nat) (q u w : Nat) : (bt fa fb (q + 1) u w).isSome = ((bt fa fb q u w).isSome || ((decide (fa q = u) && decide (fb q = w)) || (decide (fa q = w) && decide (fb q = u)))) := by
  show (match bt fa fb q u w with | some x => some x | none => bif _ then some q else none).isSome = _
  cases bt fa fb q u w with
  | some x => rfl
  | none =>
    show (bif ((decide (fa q = u) && decide (fb q = w)) || (decide (fa q = w) && decide (fb q = u))) then some q else none).isSome = _
    cases ((decide (fa q = u) && decide (fb q = w)) || (decide (fa q = w) && decide (fb q = u))) <;> rfl
theorem GR.le {n q q2 : Nat} {fa fb : Nat → Nat} (G : GR n q fa fb) (h : q2 ≤ q) : GR n q2 fa fb := ⟨G.1, by have := G.2.1; omega, fun e he => G.2.2.1 e (by omega), fun e f he hf => G.2.2.2 e f (by omega) (by omega)⟩
theorem dbl {n : Nat} {fa fb : Nat → Nat} (p : Nat → Bool) : ∀ q, GR n q fa fb → sm (fun v => cnt (fun u => (bt fa fb q v u).isSome && (p v && p u)) n) n = 2 * cnt (fun e => p (fa e) && p (fb e)) q
  | 0, _ => by
    rw [sm_congr n (h := fun _ => 0) (fun v _ => by
      rw [cnt_congr n (p := fun u => (bt fa fb 0 v u).isSome && (p v && p u)) (q := fun _ => false) (fun u _ => rfl)]
      have : ∀ n, cnt (fun _ => false) n = 0 := fun n => by induction n with
        | zero => rfl
        | succ n ih => unfold cnt; exact ih
      exact this n)]
    have : ∀ n, sm (fun _ => 0) n = 0 := fun n => by induction n with
      | zero => rfl
      | succ n ih => unfold sm; omega
    rw [this]
    rfl
  | q + 1, G => by
    have ih := dbl (fa := fa) (fb := fb) p q (G.le (by omega))
    have hq := G.2.2.1 q (by omega)
    have none : ∀ u w, (fa q = u ∧ fb q = w ∨ fa q = w ∧ fb q = u) → (bt fa fb q u w).isSome = false := fun u w h => by
      cases e : bt fa fb q u w with
      | none => rfl
      | some f =>
        obtain ⟨hf, h2⟩ := bt_some e
        have := G.2.2.2 f q (by omega) (by omega) (by omega)
        omega
    have step : ∀ v, v < n → cnt (fun u => (bt fa fb (q + 1) v u).isSome && (p v && p u)) n = cnt (fun u => (bt fa fb q v u).isSome && (p v && p u)) n + ((if v = fa q ∧ (p (fa q) && p (fb q)) = true then 1 else 0) + (if v = fb q ∧ (p (fa q) && p (fb q)) = true then 1 else 0)) := fun v hv => by
      have e1 : cnt (fun u => (bt fa fb (q + 1) v u).isSome && (p v && p u)) n = cnt (fun u => ((bt fa fb q v u).isSome && (p v && p u)) || ((decide (u = fb q) && (decide (v = fa q) && (p (fa q) && p (fb q)))) || (decide (u = fa q) && (decide (v = fb q) && (p (fa q) && p (fb q)))))) n := by
        refine cnt_congr n (fun u _ => ?_)
        rw [bt_suc]
        by_cases c1 : fa q = v ∧ fb q = u
        · rw [decide_eq_true c1.1, decide_eq_true c1.2, decide_eq_true c1.1.symm, decide_eq_true c1.2.symm, none v u (Or.inl c1), c1.1, c1.2]
          cases p v <;> cases p u <;> simp
        · by_cases c2 : fa q = u ∧ fb q = v
          · rw [decide_eq_true c2.1, decide_eq_true c2.2, decide_eq_true c2.1.symm, decide_eq_true c2.2.symm, none v u (Or.inr c2), c2.1, c2.2]
            cases p v <;> cases p u <;> simp
          · have d1 : (decide (fa q = v) && decide (fb q = u)) = false := by rw [Bool.and_eq_false_iff, decide_eq_false_iff_not, decide_eq_false_iff_not]; omega
            have d2 : (decide (fa q = u) && decide (fb q = v)) = false := by rw [Bool.and_eq_false_iff, decide_eq_false_iff_not, decide_eq_false_iff_not]; omega
            have d3 : (decide (u = fb q) && (decide (v = fa q) && (p (fa q) && p (fb q)))) = false := by
              by_cases x : u = fb q
              · rw [decide_eq_false (show ¬ v = fa q by omega)]; simp
              · rw [decide_eq_false x]; rfl
            have d4 : (decide (u = fa q) && (decide (v = fb q) && (p (fa q) && p (fb q)))) = false := by
              by_cases x : u = fa q
              · rw [decide_eq_false (show ¬ v = fb q by omega)]; simp
              · rw [decide_eq_false x]; rfl
            rw [d1, d2, d3, d4]
            simp
      rw [e1, cnt_or n (fun u _ h => by
        have h1 := h.1
        have h2 := h.2
        simp only [Bool.and_eq_true, Bool.or_eq_true, decide_eq_true_eq] at h1 h2
        have := none v u (by omega)
        rw [h1.1] at this
        cases this), cnt_or n (fun u _ h => by
        have h1 := h.1
        have h2 := h.2
        simp only [Bool.and_eq_true, decide_eq_true_eq] at h1 h2
        omega), cnt_one, cnt_one]
      congr 2
      · by_cases x : v = fa q
        · rw [decide_eq_true x, Bool.true_and]
          by_cases y : (p (fa q) && p (fb q)) = true
          · rw [if_pos ⟨hq.2.1, y⟩, if_pos ⟨x, y⟩]
          · rw [if_neg (fun z => y z.2), if_neg (fun z => y z.2)]
        · rw [decide_eq_false x, Bool.false_and, if_neg (by simp), if_neg (fun z => x z.1)]
      · by_cases x : v = fb q
        · rw [decide_eq_true x, Bool.true_and]
          by_cases y : (p (fa q) && p (fb q)) = true
          · rw [if_pos ⟨hq.1, y⟩, if_pos ⟨x, y⟩]
          · rw [if_neg (fun z => y z.2), if_neg (fun z => y z.2)]
        · rw [decide_eq_false x, Bool.false_and, if_neg (by simp), if_neg (fun z => x z.1)]
    rw [sm_congr n step, sm_add, sm_add, ih, sm_one, sm_one]
    show _ = 2 * (bif p (fa q) && p (fb q) then cnt _ q + 1 else cnt _ q)
    cases e : (p (fa q) && p (fb q)) with
    | true => rw [if_pos ⟨hq.1, rfl⟩, if_pos ⟨hq.2.1, rfl⟩]; show _ = 2 * (cnt _ q + 1); omega
    | false => rw [if_neg (by simp), if_neg (by simp)]; rfl
/-- letters among those with y, told by open edges -/
theorem lam_opn {n q : Nat} {fa fb : Nat → Nat} (G : GR n q fa fb) {f : Nat → Int32} {y : Int32} {p : Nat → Bool} (h : ∀ v, v < n → (f v = y ↔ p v = true)) : lam (bt fa fb q) n f y = 2 * cnt (fun e => p (fa e) && p (fb e)) q := by
  rw [← dbl p q G]
  unfold lam
  refine sm_congr n (fun v hv => ?_)
  have hb : ∀ u, u < n → decide (f u = y) = p u := fun u hu => by rw [Bool.eq_iff_iff, decide_eq_true_eq]; exact h u hu
  by_cases c : f v = y
  · rw [if_pos c]
    unfold nbw
    refine cnt_congr n (fun u hu => ?_)
    rw [hb u hu, (h v hv).mp c, Bool.true_and]
  · rw [if_neg c]
    have : p v = false := by
      cases e : p v with
      | false => rfl
      | true => exact absurd ((h v hv).mpr e) c
    rw [this, cnt_congr n (q := fun _ => false) (fun u _ => by rw [Bool.false_and, Bool.and_false])]
    have : ∀ n, cnt (fun _ => false) n = 0 := fun n => by induction n with
      | zero => rfl
      | succ n ih => unfold cnt; exact ih
    rw [this]
end
