section
-- ===== PART A: goes FIRST, ahead of the names: the tables' words, and 'selects' of the private methods out of them =====
/-- a private method of a class that the tables say can be made, by its rows of tables_1 -/
def lw_okq (q : MethodName × Nat) : Prop := (q.1.cls ≠ "java/lang/invoke/MethodHandle" ∧ q.1.cls ≠ "java/lang/invoke/VarHandle") ∧ Cond.instantiable q.1.cls q.2 ∈ tables_1 ∧ Cond.privateMethod q.1 ∈ tables_1 ∧ Cond.instanceMethod q.1 ∈ tables_1
theorem lw_p0 : lw_okq (⟨"StereoForms$Drawing", "singleBonds", "(II)I"⟩, 10) := ⟨⟨by decide +kernel, by decide +kernel⟩, List.mem_of_getElem? (i := 25) (by decide +kernel), List.mem_of_getElem? (i := 315) (by decide +kernel), List.mem_of_getElem? (i := 316) (by decide +kernel)⟩
theorem lw_p1 : lw_okq (⟨"StereoForms$Senses", "determinant", "(LStereoForms$Drawing;II)I"⟩, 4) := ⟨⟨by decide +kernel, by decide +kernel⟩, List.mem_of_getElem? (i := 84) (by decide +kernel), List.mem_of_getElem? (i := 320) (by decide +kernel), List.mem_of_getElem? (i := 321) (by decide +kernel)⟩
theorem lw_p2 : lw_okq (⟨"StereoForms$Drawing", "isHingeEnd", "(II)Z"⟩, 10) := ⟨⟨by decide +kernel, by decide +kernel⟩, List.mem_of_getElem? (i := 25) (by decide +kernel), List.mem_of_getElem? (i := 349) (by decide +kernel), List.mem_of_getElem? (i := 350) (by decide +kernel)⟩
theorem lw_p3 : lw_okq (⟨"StereoForms", "settle", "()V"⟩, 11) := ⟨⟨by decide +kernel, by decide +kernel⟩, List.mem_of_getElem? (i := 17) (by decide +kernel), List.mem_of_getElem? (i := 372) (by decide +kernel), List.mem_of_getElem? (i := 373) (by decide +kernel)⟩
theorem lw_p4 : lw_okq (⟨"StereoForms$Search", "place", "(LStereoForms$Drawing;LStereoForms$Senses;I)V"⟩, 5) := ⟨⟨by decide +kernel, by decide +kernel⟩, List.mem_of_getElem? (i := 107) (by decide +kernel), List.mem_of_getElem? (i := 398) (by decide +kernel), List.mem_of_getElem? (i := 399) (by decide +kernel)⟩
theorem lw_p5 : lw_okq (⟨"StereoForms$Search", "weigh", "(LStereoForms$Drawing;LStereoForms$Senses;)V"⟩, 5) := ⟨⟨by decide +kernel, by decide +kernel⟩, List.mem_of_getElem? (i := 107) (by decide +kernel), List.mem_of_getElem? (i := 402) (by decide +kernel), List.mem_of_getElem? (i := 403) (by decide +kernel)⟩
theorem lw_p6 : lw_okq (⟨"StereoForms$Numbering", "orderSign", "(LStereoForms$Drawing;II)I"⟩, 2) := ⟨⟨by decide +kernel, by decide +kernel⟩, List.mem_of_getElem? (i := 113) (by decide +kernel), List.mem_of_getElem? (i := 414) (by decide +kernel), List.mem_of_getElem? (i := 415) (by decide +kernel)⟩
theorem lw_p7 : lw_okq (⟨"StereoForms$Search", "lowestRow", "(LStereoForms$Drawing;I)I"⟩, 5) := ⟨⟨by decide +kernel, by decide +kernel⟩, List.mem_of_getElem? (i := 107) (by decide +kernel), List.mem_of_getElem? (i := 430) (by decide +kernel), List.mem_of_getElem? (i := 431) (by decide +kernel)⟩
theorem lw_p8 : lw_okq (⟨"StereoForms$Search", "rowOf", "(LStereoForms$Drawing;II)I"⟩, 5) := ⟨⟨by decide +kernel, by decide +kernel⟩, List.mem_of_getElem? (i := 107) (by decide +kernel), List.mem_of_getElem? (i := 434) (by decide +kernel), List.mem_of_getElem? (i := 435) (by decide +kernel)⟩
theorem lw_p9 : lw_okq (⟨"StereoForms$Search", "lower", "(II)V"⟩, 5) := ⟨⟨by decide +kernel, by decide +kernel⟩, List.mem_of_getElem? (i := 107) (by decide +kernel), List.mem_of_getElem? (i := 440) (by decide +kernel), List.mem_of_getElem? (i := 441) (by decide +kernel)⟩
theorem lw_p10 : lw_okq (⟨"StereoForms", "isFound", "(II)Z"⟩, 11) := ⟨⟨by decide +kernel, by decide +kernel⟩, List.mem_of_getElem? (i := 17) (by decide +kernel), List.mem_of_getElem? (i := 492) (by decide +kernel), List.mem_of_getElem? (i := 493) (by decide +kernel)⟩
theorem lw_p11 : lw_okq (⟨"StereoForms$Text", "addElement", "(I)V"⟩, 2) := ⟨⟨by decide +kernel, by decide +kernel⟩, List.mem_of_getElem? (i := 169) (by decide +kernel), List.mem_of_getElem? (i := 521) (by decide +kernel), List.mem_of_getElem? (i := 522) (by decide +kernel)⟩
theorem lw_p12 : lw_okq (⟨"StereoForms$Text", "add", "(C)V"⟩, 2) := ⟨⟨by decide +kernel, by decide +kernel⟩, List.mem_of_getElem? (i := 169) (by decide +kernel), List.mem_of_getElem? (i := 566) (by decide +kernel), List.mem_of_getElem? (i := 567) (by decide +kernel)⟩
theorem lw_p13 : lw_okq (⟨"StereoForms$Text", "addSense", "(I)V"⟩, 2) := ⟨⟨by decide +kernel, by decide +kernel⟩, List.mem_of_getElem? (i := 169) (by decide +kernel), List.mem_of_getElem? (i := 571) (by decide +kernel), List.mem_of_getElem? (i := 572) (by decide +kernel)⟩
theorem lw_p14 : lw_okq (⟨"StereoForms$Text", "addBond", "(III)V"⟩, 2) := ⟨⟨by decide +kernel, by decide +kernel⟩, List.mem_of_getElem? (i := 169) (by decide +kernel), List.mem_of_getElem? (i := 577) (by decide +kernel), List.mem_of_getElem? (i := 578) (by decide +kernel)⟩
theorem lw_p15 : lw_okq (⟨"StereoFormsModel", "isAtom", "(I)Z"⟩, 23) := ⟨⟨by decide +kernel, by decide +kernel⟩, List.mem_of_getElem? (i := 586) (by decide +kernel), List.mem_of_getElem? (i := 673) (by decide +kernel), List.mem_of_getElem? (i := 674) (by decide +kernel)⟩
def lw_privs_1 : List (MethodName × Nat) := [(⟨"StereoForms$Drawing", "singleBonds", "(II)I"⟩, 10), (⟨"StereoForms$Senses", "determinant", "(LStereoForms$Drawing;II)I"⟩, 4), (⟨"StereoForms$Drawing", "isHingeEnd", "(II)Z"⟩, 10), (⟨"StereoForms", "settle", "()V"⟩, 11), (⟨"StereoForms$Search", "place", "(LStereoForms$Drawing;LStereoForms$Senses;I)V"⟩, 5), (⟨"StereoForms$Search", "weigh", "(LStereoForms$Drawing;LStereoForms$Senses;)V"⟩, 5), (⟨"StereoForms$Numbering", "orderSign", "(LStereoForms$Drawing;II)I"⟩, 2), (⟨"StereoForms$Search", "lowestRow", "(LStereoForms$Drawing;I)I"⟩, 5), (⟨"StereoForms$Search", "rowOf", "(LStereoForms$Drawing;II)I"⟩, 5), (⟨"StereoForms$Search", "lower", "(II)V"⟩, 5), (⟨"StereoForms", "isFound", "(II)Z"⟩, 11), (⟨"StereoForms$Text", "addElement", "(I)V"⟩, 2), (⟨"StereoForms$Text", "add", "(C)V"⟩, 2), (⟨"StereoForms$Text", "addSense", "(I)V"⟩, 2), (⟨"StereoForms$Text", "addBond", "(III)V"⟩, 2), (⟨"StereoFormsModel", "isAtom", "(I)Z"⟩, 23)]
theorem lw_r1 : ∀ q ∈ lw_privs_1, lw_okq q := List.forall_mem_cons.mpr ⟨lw_p0, List.forall_mem_cons.mpr ⟨lw_p1, List.forall_mem_cons.mpr ⟨lw_p2, List.forall_mem_cons.mpr ⟨lw_p3, List.forall_mem_cons.mpr ⟨lw_p4, List.forall_mem_cons.mpr ⟨lw_p5, List.forall_mem_cons.mpr ⟨lw_p6, List.forall_mem_cons.mpr ⟨lw_p7, List.forall_mem_cons.mpr ⟨lw_p8, List.forall_mem_cons.mpr ⟨lw_p9, List.forall_mem_cons.mpr ⟨lw_p10, List.forall_mem_cons.mpr ⟨lw_p11, List.forall_mem_cons.mpr ⟨lw_p12, List.forall_mem_cons.mpr ⟨lw_p13, List.forall_mem_cons.mpr ⟨lw_p14, List.forall_mem_cons.mpr ⟨lw_p15, fun _ h => absurd h List.not_mem_nil⟩⟩⟩⟩⟩⟩⟩⟩⟩⟩⟩⟩⟩⟩⟩⟩
theorem lw_p16 : lw_okq (⟨"StereoFormsModel", "bondOf", "(II)I"⟩, 23) := ⟨⟨by decide +kernel, by decide +kernel⟩, List.mem_of_getElem? (i := 586) (by decide +kernel), List.mem_of_getElem? (i := 677) (by decide +kernel), List.mem_of_getElem? (i := 678) (by decide +kernel)⟩
theorem lw_p17 : lw_okq (⟨"StereoFormsModel", "left", "(I)I"⟩, 23) := ⟨⟨by decide +kernel, by decide +kernel⟩, List.mem_of_getElem? (i := 586) (by decide +kernel), List.mem_of_getElem? (i := 681) (by decide +kernel), List.mem_of_getElem? (i := 682) (by decide +kernel)⟩
theorem lw_p18 : lw_okq (⟨"StereoFormsModel", "isBond", "(I)Z"⟩, 23) := ⟨⟨by decide +kernel, by decide +kernel⟩, List.mem_of_getElem? (i := 586) (by decide +kernel), List.mem_of_getElem? (i := 696) (by decide +kernel), List.mem_of_getElem? (i := 697) (by decide +kernel)⟩
theorem lw_p19 : lw_okq (⟨"StereoFormsModel", "ownNumbers", "()V"⟩, 23) := ⟨⟨by decide +kernel, by decide +kernel⟩, List.mem_of_getElem? (i := 586) (by decide +kernel), List.mem_of_getElem? (i := 716) (by decide +kernel), List.mem_of_getElem? (i := 717) (by decide +kernel)⟩
theorem lw_p20 : lw_okq (⟨"StereoFormsModel", "centreSense", "(I)I"⟩, 23) := ⟨⟨by decide +kernel, by decide +kernel⟩, List.mem_of_getElem? (i := 586) (by decide +kernel), List.mem_of_getElem? (i := 720) (by decide +kernel), List.mem_of_getElem? (i := 721) (by decide +kernel)⟩
theorem lw_p21 : lw_okq (⟨"StereoFormsModel", "isCentre", "(I)Z"⟩, 23) := ⟨⟨by decide +kernel, by decide +kernel⟩, List.mem_of_getElem? (i := 586) (by decide +kernel), List.mem_of_getElem? (i := 724) (by decide +kernel), List.mem_of_getElem? (i := 725) (by decide +kernel)⟩
theorem lw_p22 : lw_okq (⟨"StereoFormsModel", "singles", "(II)I"⟩, 23) := ⟨⟨by decide +kernel, by decide +kernel⟩, List.mem_of_getElem? (i := 586) (by decide +kernel), List.mem_of_getElem? (i := 728) (by decide +kernel), List.mem_of_getElem? (i := 729) (by decide +kernel)⟩
theorem lw_p23 : lw_okq (⟨"StereoFormsModel", "points", "(I)I"⟩, 23) := ⟨⟨by decide +kernel, by decide +kernel⟩, List.mem_of_getElem? (i := 586) (by decide +kernel), List.mem_of_getElem? (i := 732) (by decide +kernel), List.mem_of_getElem? (i := 733) (by decide +kernel)⟩
theorem lw_p24 : lw_okq (⟨"StereoFormsModel", "hingeSense", "(I)I"⟩, 23) := ⟨⟨by decide +kernel, by decide +kernel⟩, List.mem_of_getElem? (i := 586) (by decide +kernel), List.mem_of_getElem? (i := 743) (by decide +kernel), List.mem_of_getElem? (i := 744) (by decide +kernel)⟩
theorem lw_p25 : lw_okq (⟨"StereoFormsModel", "isHinge", "(I)Z"⟩, 23) := ⟨⟨by decide +kernel, by decide +kernel⟩, List.mem_of_getElem? (i := 586) (by decide +kernel), List.mem_of_getElem? (i := 747) (by decide +kernel), List.mem_of_getElem? (i := 748) (by decide +kernel)⟩
theorem lw_p26 : lw_okq (⟨"StereoFormsModel", "isClear", "(IIII)Z"⟩, 23) := ⟨⟨by decide +kernel, by decide +kernel⟩, List.mem_of_getElem? (i := 586) (by decide +kernel), List.mem_of_getElem? (i := 751) (by decide +kernel), List.mem_of_getElem? (i := 752) (by decide +kernel)⟩
theorem lw_p27 : lw_okq (⟨"StereoFormsModel", "side", "(III)I"⟩, 23) := ⟨⟨by decide +kernel, by decide +kernel⟩, List.mem_of_getElem? (i := 586) (by decide +kernel), List.mem_of_getElem? (i := 755) (by decide +kernel), List.mem_of_getElem? (i := 756) (by decide +kernel)⟩
theorem lw_p28 : lw_okq (⟨"StereoFormsModel", "leastBeside", "(II)I"⟩, 23) := ⟨⟨by decide +kernel, by decide +kernel⟩, List.mem_of_getElem? (i := 586) (by decide +kernel), List.mem_of_getElem? (i := 759) (by decide +kernel), List.mem_of_getElem? (i := 760) (by decide +kernel)⟩
theorem lw_p29 : lw_okq (⟨"StereoFormsModel", "search", "()V"⟩, 23) := ⟨⟨by decide +kernel, by decide +kernel⟩, List.mem_of_getElem? (i := 586) (by decide +kernel), List.mem_of_getElem? (i := 767) (by decide +kernel), List.mem_of_getElem? (i := 768) (by decide +kernel)⟩
theorem lw_p30 : lw_okq (⟨"StereoFormsModel", "rowOf", "(I)I"⟩, 23) := ⟨⟨by decide +kernel, by decide +kernel⟩, List.mem_of_getElem? (i := 586) (by decide +kernel), List.mem_of_getElem? (i := 771) (by decide +kernel), List.mem_of_getElem? (i := 772) (by decide +kernel)⟩
theorem lw_p31 : lw_okq (⟨"StereoFormsModel", "packed", "()I"⟩, 23) := ⟨⟨by decide +kernel, by decide +kernel⟩, List.mem_of_getElem? (i := 586) (by decide +kernel), List.mem_of_getElem? (i := 776) (by decide +kernel), List.mem_of_getElem? (i := 777) (by decide +kernel)⟩
def lw_privs_2 : List (MethodName × Nat) := [(⟨"StereoFormsModel", "bondOf", "(II)I"⟩, 23), (⟨"StereoFormsModel", "left", "(I)I"⟩, 23), (⟨"StereoFormsModel", "isBond", "(I)Z"⟩, 23), (⟨"StereoFormsModel", "ownNumbers", "()V"⟩, 23), (⟨"StereoFormsModel", "centreSense", "(I)I"⟩, 23), (⟨"StereoFormsModel", "isCentre", "(I)Z"⟩, 23), (⟨"StereoFormsModel", "singles", "(II)I"⟩, 23), (⟨"StereoFormsModel", "points", "(I)I"⟩, 23), (⟨"StereoFormsModel", "hingeSense", "(I)I"⟩, 23), (⟨"StereoFormsModel", "isHinge", "(I)Z"⟩, 23), (⟨"StereoFormsModel", "isClear", "(IIII)Z"⟩, 23), (⟨"StereoFormsModel", "side", "(III)I"⟩, 23), (⟨"StereoFormsModel", "leastBeside", "(II)I"⟩, 23), (⟨"StereoFormsModel", "search", "()V"⟩, 23), (⟨"StereoFormsModel", "rowOf", "(I)I"⟩, 23), (⟨"StereoFormsModel", "packed", "()I"⟩, 23)]
theorem lw_r2 : ∀ q ∈ lw_privs_2, lw_okq q := List.forall_mem_cons.mpr ⟨lw_p16, List.forall_mem_cons.mpr ⟨lw_p17, List.forall_mem_cons.mpr ⟨lw_p18, List.forall_mem_cons.mpr ⟨lw_p19, List.forall_mem_cons.mpr ⟨lw_p20, List.forall_mem_cons.mpr ⟨lw_p21, List.forall_mem_cons.mpr ⟨lw_p22, List.forall_mem_cons.mpr ⟨lw_p23, List.forall_mem_cons.mpr ⟨lw_p24, List.forall_mem_cons.mpr ⟨lw_p25, List.forall_mem_cons.mpr ⟨lw_p26, List.forall_mem_cons.mpr ⟨lw_p27, List.forall_mem_cons.mpr ⟨lw_p28, List.forall_mem_cons.mpr ⟨lw_p29, List.forall_mem_cons.mpr ⟨lw_p30, List.forall_mem_cons.mpr ⟨lw_p31, fun _ h => absurd h List.not_mem_nil⟩⟩⟩⟩⟩⟩⟩⟩⟩⟩⟩⟩⟩⟩⟩⟩
theorem lw_p32 : lw_okq (⟨"StereoFormsModel", "nextOrder", "()Z"⟩, 23) := ⟨⟨by decide +kernel, by decide +kernel⟩, List.mem_of_getElem? (i := 586) (by decide +kernel), List.mem_of_getElem? (i := 780) (by decide +kernel), List.mem_of_getElem? (i := 781) (by decide +kernel)⟩
theorem lw_p33 : lw_okq (⟨"StereoFormsModel", "swap", "(II)V"⟩, 23) := ⟨⟨by decide +kernel, by decide +kernel⟩, List.mem_of_getElem? (i := 586) (by decide +kernel), List.mem_of_getElem? (i := 784) (by decide +kernel), List.mem_of_getElem? (i := 785) (by decide +kernel)⟩
theorem lw_p34 : lw_okq (⟨"StereoFormsModel", "leastSenses", "(I)I"⟩, 23) := ⟨⟨by decide +kernel, by decide +kernel⟩, List.mem_of_getElem? (i := 586) (by decide +kernel), List.mem_of_getElem? (i := 792) (by decide +kernel), List.mem_of_getElem? (i := 793) (by decide +kernel)⟩
theorem lw_p35 : lw_okq (⟨"StereoFormsModel", "unpack", "(I)V"⟩, 23) := ⟨⟨by decide +kernel, by decide +kernel⟩, List.mem_of_getElem? (i := 586) (by decide +kernel), List.mem_of_getElem? (i := 797) (by decide +kernel), List.mem_of_getElem? (i := 798) (by decide +kernel)⟩
theorem lw_p36 : lw_okq (⟨"StereoFormsModel", "sensesNow", "(I)I"⟩, 23) := ⟨⟨by decide +kernel, by decide +kernel⟩, List.mem_of_getElem? (i := 586) (by decide +kernel), List.mem_of_getElem? (i := 801) (by decide +kernel), List.mem_of_getElem? (i := 802) (by decide +kernel)⟩
theorem lw_p37 : lw_okq (⟨"StereoFormsModel", "putElement", "(I)V"⟩, 23) := ⟨⟨by decide +kernel, by decide +kernel⟩, List.mem_of_getElem? (i := 586) (by decide +kernel), List.mem_of_getElem? (i := 825) (by decide +kernel), List.mem_of_getElem? (i := 826) (by decide +kernel)⟩
theorem lw_p38 : lw_okq (⟨"StereoFormsModel", "put", "(I)V"⟩, 23) := ⟨⟨by decide +kernel, by decide +kernel⟩, List.mem_of_getElem? (i := 586) (by decide +kernel), List.mem_of_getElem? (i := 829) (by decide +kernel), List.mem_of_getElem? (i := 830) (by decide +kernel)⟩
theorem lw_p39 : lw_okq (⟨"StereoFormsModel", "putBond", "(II)V"⟩, 23) := ⟨⟨by decide +kernel, by decide +kernel⟩, List.mem_of_getElem? (i := 586) (by decide +kernel), List.mem_of_getElem? (i := 833) (by decide +kernel), List.mem_of_getElem? (i := 834) (by decide +kernel)⟩
def lw_privs_3 : List (MethodName × Nat) := [(⟨"StereoFormsModel", "nextOrder", "()Z"⟩, 23), (⟨"StereoFormsModel", "swap", "(II)V"⟩, 23), (⟨"StereoFormsModel", "leastSenses", "(I)I"⟩, 23), (⟨"StereoFormsModel", "unpack", "(I)V"⟩, 23), (⟨"StereoFormsModel", "sensesNow", "(I)I"⟩, 23), (⟨"StereoFormsModel", "putElement", "(I)V"⟩, 23), (⟨"StereoFormsModel", "put", "(I)V"⟩, 23), (⟨"StereoFormsModel", "putBond", "(II)V"⟩, 23)]
theorem lw_r3 : ∀ q ∈ lw_privs_3, lw_okq q := List.forall_mem_cons.mpr ⟨lw_p32, List.forall_mem_cons.mpr ⟨lw_p33, List.forall_mem_cons.mpr ⟨lw_p34, List.forall_mem_cons.mpr ⟨lw_p35, List.forall_mem_cons.mpr ⟨lw_p36, List.forall_mem_cons.mpr ⟨lw_p37, List.forall_mem_cons.mpr ⟨lw_p38, List.forall_mem_cons.mpr ⟨lw_p39, fun _ h => absurd h List.not_mem_nil⟩⟩⟩⟩⟩⟩⟩⟩
def lw_privs : List (MethodName × Nat) := lw_privs_1 ++ (lw_privs_2 ++ (lw_privs_3))
def lw_tbl : List Cond := k2_sels lw_privs ++ tables_1
theorem lw_privs_ok : ∀ q ∈ lw_privs, lw_okq q := by
  show ∀ q ∈ lw_privs_1 ++ (lw_privs_2 ++ (lw_privs_3)), lw_okq q
  exact List.forall_mem_append.mpr ⟨lw_r1, List.forall_mem_append.mpr ⟨lw_r2, lw_r3⟩⟩
end
section
def RX0 : String := "StereoForms$Drawing"
def TX0 : u_T := fun k => match k with
  | 0 => ("StereoForms$Drawing", "elements", "[I", true)
  | 1 => ("StereoForms$Drawing", "xs", "[I", true)
  | 2 => ("StereoForms$Drawing", "ys", "[I", true)
  | 3 => ("StereoForms$Drawing", "atomCount", "I", false)
  | 4 => ("StereoForms$Drawing", "firsts", "[I", true)
  | 5 => ("StereoForms$Drawing", "seconds", "[I", true)
  | 6 => ("StereoForms$Drawing", "orders", "[I", true)
  | 7 => ("StereoForms$Drawing", "marks", "[I", true)
  | 8 => ("StereoForms$Drawing", "bondCount", "I", false)
  | _ => ("StereoForms$Drawing", "links", "[[I", true)
def tyX0 : Nat → FieldType := fun k => match k with
  | 0 => .array .int
  | 1 => .array .int
  | 2 => .array .int
  | 3 => .int
  | 4 => .array .int
  | 5 => .array .int
  | 6 => .array .int
  | 7 => .array .int
  | 8 => .int
  | _ => .array (.array .int)
theorem nmX0 : ∀ a, a < 10 → ∀ b, b < 10 → a ≠ b → (TX0 a).2.1 ≠ (TX0 b).2.1 := by decide +kernel
theorem tyX0_ok : ∀ k, k < 10 → parseFieldDescriptor (TX0 k).2.2.1 = some (tyX0 k) := by decide +kernel
def RX1 : String := "StereoForms$Form"
def TX1 : u_T := fun k => match k with
  | 0 => ("StereoForms$Form", "atomCount", "I", false)
  | 1 => ("StereoForms$Form", "rows", "[I", true)
  | _ => ("StereoForms$Form", "senses", "I", false)
def tyX1 : Nat → FieldType := fun k => match k with
  | 0 => .int
  | 1 => .array .int
  | _ => .int
theorem nmX1 : ∀ a, a < 3 → ∀ b, b < 3 → a ≠ b → (TX1 a).2.1 ≠ (TX1 b).2.1 := by decide +kernel
theorem tyX1_ok : ∀ k, k < 3 → parseFieldDescriptor (TX1 k).2.2.1 = some (tyX1 k) := by decide +kernel
def RX2 : String := "StereoForms$Numbering"
def TX2 : u_T := fun k => match k with
  | 0 => ("StereoForms$Numbering", "atoms", "[I", true)
  | _ => ("StereoForms$Numbering", "numbers", "[I", true)
def tyX2 : Nat → FieldType := fun k => match k with
  | 0 => .array .int
  | _ => .array .int
theorem nmX2 : ∀ a, a < 2 → ∀ b, b < 2 → a ≠ b → (TX2 a).2.1 ≠ (TX2 b).2.1 := by decide +kernel
theorem tyX2_ok : ∀ k, k < 2 → parseFieldDescriptor (TX2 k).2.2.1 = some (tyX2 k) := by decide +kernel
def RX3 : String := "StereoForms$Search"
def TX3 : u_T := fun k => match k with
  | 0 => ("StereoForms$Search", "rows", "[I", true)
  | 1 => ("StereoForms$Search", "best", "LStereoForms$Numbering;", true)
  | 2 => ("StereoForms$Search", "trial", "LStereoForms$Numbering;", true)
  | 3 => ("StereoForms$Search", "heads", "[I", true)
  | _ => ("StereoForms$Search", "least", "I", false)
def tyX3 : Nat → FieldType := fun k => match k with
  | 0 => .array .int
  | 1 => .object "StereoForms$Numbering"
  | 2 => .object "StereoForms$Numbering"
  | 3 => .array .int
  | _ => .int
theorem nmX3 : ∀ a, a < 5 → ∀ b, b < 5 → a ≠ b → (TX3 a).2.1 ≠ (TX3 b).2.1 := by decide +kernel
theorem tyX3_ok : ∀ k, k < 5 → parseFieldDescriptor (TX3 k).2.2.1 = some (tyX3 k) := by decide +kernel
def RX4 : String := "StereoForms$Senses"
def TX4 : u_T := fun k => match k with
  | 0 => ("StereoForms$Senses", "atoms", "[I", true)
  | 1 => ("StereoForms$Senses", "bonds", "[I", true)
  | 2 => ("StereoForms$Senses", "hinges", "[Z", true)
  | _ => ("StereoForms$Senses", "around", "[I", true)
def tyX4 : Nat → FieldType := fun k => match k with
  | 0 => .array .int
  | 1 => .array .int
  | 2 => .array .boolean
  | _ => .array .int
theorem nmX4 : ∀ a, a < 4 → ∀ b, b < 4 → a ≠ b → (TX4 a).2.1 ≠ (TX4 b).2.1 := by decide +kernel
theorem tyX4_ok : ∀ k, k < 4 → parseFieldDescriptor (TX4 k).2.2.1 = some (tyX4 k) := by decide +kernel
def RX5 : String := "StereoForms$Text"
def TX5 : u_T := fun k => match k with
  | 0 => ("StereoForms$Text", "characters", "[C", true)
  | _ => ("StereoForms$Text", "length", "I", false)
def tyX5 : Nat → FieldType := fun k => match k with
  | 0 => .array .char
  | _ => .int
theorem nmX5 : ∀ a, a < 2 → ∀ b, b < 2 → a ≠ b → (TX5 a).2.1 ≠ (TX5 b).2.1 := by decide +kernel
theorem tyX5_ok : ∀ k, k < 2 → parseFieldDescriptor (TX5 k).2.2.1 = some (tyX5 k) := by decide +kernel
def RX6 : String := "StereoForms"
def TX6 : u_T := fun k => match k with
  | 0 => ("StereoForms", "drawing", "LStereoForms$Drawing;", true)
  | 1 => ("StereoForms", "own", "LStereoForms$Senses;", true)
  | 2 => ("StereoForms", "turned", "LStereoForms$Senses;", true)
  | 3 => ("StereoForms", "search", "LStereoForms$Search;", true)
  | 4 => ("StereoForms", "form", "LStereoForms$Form;", true)
  | 5 => ("StereoForms", "kept", "LStereoForms$Form;", true)
  | 6 => ("StereoForms", "formNumbering", "LStereoForms$Numbering;", true)
  | 7 => ("StereoForms", "text", "LStereoForms$Text;", true)
  | 8 => ("StereoForms", "found", "[I", true)
  | 9 => ("StereoForms", "mirroredSenses", "I", false)
  | _ => ("StereoForms", "settled", "Z", false)
def tyX6 : Nat → FieldType := fun k => match k with
  | 0 => .object "StereoForms$Drawing"
  | 1 => .object "StereoForms$Senses"
  | 2 => .object "StereoForms$Senses"
  | 3 => .object "StereoForms$Search"
  | 4 => .object "StereoForms$Form"
  | 5 => .object "StereoForms$Form"
  | 6 => .object "StereoForms$Numbering"
  | 7 => .object "StereoForms$Text"
  | 8 => .array .int
  | 9 => .int
  | _ => .boolean
theorem nmX6 : ∀ a, a < 11 → ∀ b, b < 11 → a ≠ b → (TX6 a).2.1 ≠ (TX6 b).2.1 := by decide +kernel
theorem tyX6_ok : ∀ k, k < 11 → parseFieldDescriptor (TX6 k).2.2.1 = some (tyX6 k) := by decide +kernel
def RX7 : String := "StereoFormsModel"
def TX7 : u_T := fun k => match k with
  | 0 => ("StereoFormsModel", "atoms", "I", false)
  | 1 => ("StereoFormsModel", "element", "[I", true)
  | 2 => ("StereoFormsModel", "x", "[I", true)
  | 3 => ("StereoFormsModel", "y", "[I", true)
  | 4 => ("StereoFormsModel", "bonds", "I", false)
  | 5 => ("StereoFormsModel", "first", "[I", true)
  | 6 => ("StereoFormsModel", "second", "[I", true)
  | 7 => ("StereoFormsModel", "order", "[I", true)
  | 8 => ("StereoFormsModel", "mark", "[I", true)
  | 9 => ("StereoFormsModel", "at", "[I", true)
  | 10 => ("StereoFormsModel", "number", "[I", true)
  | 11 => ("StereoFormsModel", "known", "Z", false)
  | 12 => ("StereoFormsModel", "least", "[I", true)
  | 13 => ("StereoFormsModel", "many", "I", false)
  | 14 => ("StereoFormsModel", "numberings", "[I", true)
  | 15 => ("StereoFormsModel", "some", "Z", false)
  | 16 => ("StereoFormsModel", "keptAtoms", "I", false)
  | 17 => ("StereoFormsModel", "keptRows", "[I", true)
  | 18 => ("StereoFormsModel", "keptSenses", "I", false)
  | 19 => ("StereoFormsModel", "length", "I", false)
  | 20 => ("StereoFormsModel", "text", "[I", true)
  | 21 => ("StereoFormsModel", "point", "[I", true)
  | _ => ("StereoFormsModel", "met", "[I", true)
def tyX7 : Nat → FieldType := fun k => match k with
  | 0 => .int
  | 1 => .array .int
  | 2 => .array .int
  | 3 => .array .int
  | 4 => .int
  | 5 => .array .int
  | 6 => .array .int
  | 7 => .array .int
  | 8 => .array .int
  | 9 => .array .int
  | 10 => .array .int
  | 11 => .boolean
  | 12 => .array .int
  | 13 => .int
  | 14 => .array .int
  | 15 => .boolean
  | 16 => .int
  | 17 => .array .int
  | 18 => .int
  | 19 => .int
  | 20 => .array .int
  | 21 => .array .int
  | _ => .array .int
theorem nmX7 : ∀ a, a < 23 → ∀ b, b < 23 → a ≠ b → (TX7 a).2.1 ≠ (TX7 b).2.1 := by decide +kernel
theorem tyX7_ok : ∀ k, k < 23 → parseFieldDescriptor (TX7 k).2.2.1 = some (tyX7 k) := by decide +kernel
def RL : String := "StereoFormsLaw"
def RJ9 : String := "java/lang/Math"
def RJ0 : String := "java/lang/String"
def RJ1 : String := "java/lang/StringLatin1"
def RJ2 : String := "java/lang/StringUTF16"
def RJ10 : String := "java/lang/System"
def RJ7 : String := "java/util/Arrays"
def RJ3 : String := "jdk/internal/util/Preconditions"
abbrev cX6_init : ByteArray := prog_1_method_1_code
def yX6_init : MethodName := ⟨RX6, "<init>", "()V"⟩
abbrev cX0_init : ByteArray := prog_2_method_1_code
def yX0_init : MethodName := ⟨RX0, "<init>", "()V"⟩
abbrev cX4_init : ByteArray := prog_6_method_1_code
def yX4_init : MethodName := ⟨RX4, "<init>", "()V"⟩
abbrev cX3_init : ByteArray := prog_5_method_1_code
def yX3_init : MethodName := ⟨RX3, "<init>", "()V"⟩
abbrev cX2_init : ByteArray := prog_4_method_1_code
def yX2_init : MethodName := ⟨RX2, "<init>", "()V"⟩
abbrev cX1_init : ByteArray := prog_3_method_1_code
def yX1_init : MethodName := ⟨RX1, "<init>", "()V"⟩
abbrev cX5_init : ByteArray := prog_7_method_1_code
def yX5_init : MethodName := ⟨RX5, "<init>", "()V"⟩
abbrev cX6_atom : ByteArray := prog_1_method_2_code
def yX6_atom : MethodName := ⟨RX6, "atom", "(III)I"⟩
abbrev cX6_isPlace : ByteArray := prog_1_method_19_code
def yX6_isPlace : MethodName := ⟨RX6, "isPlace", "(II)Z"⟩
abbrev cX0_addAtom : ByteArray := prog_2_method_8_code
def yX0_addAtom : MethodName := ⟨RX0, "addAtom", "(III)I"⟩
abbrev cX6_bond : ByteArray := prog_1_method_3_code
def yX6_bond : MethodName := ⟨RX6, "bond", "(IIII)I"⟩
abbrev cX0_hasAtom : ByteArray := prog_2_method_2_code
def yX0_hasAtom : MethodName := ⟨RX0, "hasAtom", "(I)Z"⟩
abbrev cX6_isMark : ByteArray := prog_1_method_20_code
def yX6_isMark : MethodName := ⟨RX6, "isMark", "(I)Z"⟩
abbrev cX0_areBonded : ByteArray := prog_2_method_6_code
def yX0_areBonded : MethodName := ⟨RX0, "areBonded", "(II)Z"⟩
abbrev cX0_freeValence : ByteArray := prog_2_method_13_code
def yX0_freeValence : MethodName := ⟨RX0, "freeValence", "(I)I"⟩
abbrev cX0_orderOf : ByteArray := prog_2_method_7_code
def yX0_orderOf : MethodName := ⟨RX0, "orderOf", "(II)I"⟩
abbrev cX0_addBond : ByteArray := prog_2_method_9_code
def yX0_addBond : MethodName := ⟨RX0, "addBond", "(IIII)I"⟩
abbrev cX6_move : ByteArray := prog_1_method_4_code
def yX6_move : MethodName := ⟨RX6, "move", "(III)Z"⟩
abbrev cX6_mark : ByteArray := prog_1_method_5_code
def yX6_mark : MethodName := ⟨RX6, "mark", "(III)Z"⟩
abbrev cX0_hasBond : ByteArray := prog_2_method_3_code
def yX0_hasBond : MethodName := ⟨RX0, "hasBond", "(I)Z"⟩
abbrev cX0_isEnd : ByteArray := prog_2_method_4_code
def yX0_isEnd : MethodName := ⟨RX0, "isEnd", "(II)Z"⟩
abbrev cX0_setMark : ByteArray := prog_2_method_10_code
def yX0_setMark : MethodName := ⟨RX0, "setMark", "(III)V"⟩
abbrev cX6_clear : ByteArray := prog_1_method_6_code
def yX6_clear : MethodName := ⟨RX6, "clear", "()I"⟩
abbrev cX0_removeAll : ByteArray := prog_2_method_12_code
def yX0_removeAll : MethodName := ⟨RX0, "removeAll", "()V"⟩
abbrev cJ7_fill : ByteArray := prog_15_method_103_code
def yJ7_fill : MethodName := ⟨RJ7, "fill", "([II)V"⟩
abbrev cX6_flip : ByteArray := prog_1_method_7_code
def yX6_flip : MethodName := ⟨RX6, "flip", "()I"⟩
abbrev cX0_swapMarks : ByteArray := prog_2_method_11_code
def yX0_swapMarks : MethodName := ⟨RX0, "swapMarks", "()I"⟩
abbrev cX6_hydrogens : ByteArray := prog_1_method_8_code
def yX6_hydrogens : MethodName := ⟨RX6, "hydrogens", "(I)I"⟩
abbrev cX6_sense : ByteArray := prog_1_method_9_code
def yX6_sense : MethodName := ⟨RX6, "sense", "(I)I"⟩
abbrev cX4_senseOfAtom : ByteArray := prog_6_method_7_code
def yX4_senseOfAtom : MethodName := ⟨RX4, "senseOfAtom", "(LStereoForms$Drawing;I)I"⟩
abbrev cX0_isCentre : ByteArray := prog_2_method_15_code
def yX0_isCentre : MethodName := ⟨RX0, "isCentre", "(I)Z"⟩
abbrev cX0_singleBonds : ByteArray := prog_2_method_18_code
def yX0_singleBonds : MethodName := ⟨RX0, "singleBonds", "(II)I"⟩
abbrev cX4_determinant : ByteArray := prog_6_method_8_code
def yX4_determinant : MethodName := ⟨RX4, "determinant", "(LStereoForms$Drawing;II)I"⟩
abbrev cX0_height : ByteArray := prog_2_method_19_code
def yX0_height : MethodName := ⟨RX0, "height", "(II)I"⟩
abbrev cX0_bondOf : ByteArray := prog_2_method_5_code
def yX0_bondOf : MethodName := ⟨RX0, "bondOf", "(II)I"⟩
abbrev cX6_sign : ByteArray := prog_1_method_21_code
def yX6_sign : MethodName := ⟨RX6, "sign", "(I)I"⟩
abbrev cX6_turn : ByteArray := prog_1_method_10_code
def yX6_turn : MethodName := ⟨RX6, "turn", "(I)I"⟩
abbrev cX4_senseOfBond : ByteArray := prog_6_method_9_code
def yX4_senseOfBond : MethodName := ⟨RX4, "senseOfBond", "(LStereoForms$Drawing;I)I"⟩
abbrev cX0_isHinge : ByteArray := prog_2_method_16_code
def yX0_isHinge : MethodName := ⟨RX0, "isHinge", "(I)Z"⟩
abbrev cX0_isHingeEnd : ByteArray := prog_2_method_17_code
def yX0_isHingeEnd : MethodName := ⟨RX0, "isHingeEnd", "(II)Z"⟩
abbrev cJ9_min : ByteArray := prog_10_method_69_code
def yJ9_min : MethodName := ⟨RJ9, "min", "(II)I"⟩
abbrev cJ9_max : ByteArray := prog_10_method_65_code
def yJ9_max : MethodName := ⟨RJ9, "max", "(II)I"⟩
abbrev cX4_sideOfEnd : ByteArray := prog_6_method_10_code
def yX4_sideOfEnd : MethodName := ⟨RX4, "sideOfEnd", "(LStereoForms$Drawing;III)I"⟩
abbrev cX0_side : ByteArray := prog_2_method_20_code
def yX0_side : MethodName := ⟨RX0, "side", "(III)I"⟩
abbrev cX6_row : ByteArray := prog_1_method_11_code
def yX6_row : MethodName := ⟨RX6, "row", "(I)I"⟩
abbrev cX6_settle : ByteArray := prog_1_method_22_code
def yX6_settle : MethodName := ⟨RX6, "settle", "()V"⟩
abbrev cX4_readFrom : ByteArray := prog_6_method_2_code
def yX4_readFrom : MethodName := ⟨RX4, "readFrom", "(LStereoForms$Drawing;)V"⟩
abbrev cX3_begin : ByteArray := prog_5_method_2_code
def yX3_begin : MethodName := ⟨RX3, "begin", "(LStereoForms$Drawing;)V"⟩
abbrev cX3_leastSenses : ByteArray := prog_5_method_3_code
def yX3_leastSenses : MethodName := ⟨RX3, "leastSenses", "(LStereoForms$Drawing;LStereoForms$Senses;)I"⟩
abbrev cX2_removeAll : ByteArray := prog_4_method_2_code
def yX2_removeAll : MethodName := ⟨RX2, "removeAll", "()V"⟩
abbrev cX3_place : ByteArray := prog_5_method_4_code
def yX3_place : MethodName := ⟨RX3, "place", "(LStereoForms$Drawing;LStereoForms$Senses;I)V"⟩
abbrev cX3_weigh : ByteArray := prog_5_method_5_code
def yX3_weigh : MethodName := ⟨RX3, "weigh", "(LStereoForms$Drawing;LStereoForms$Senses;)V"⟩
abbrev cX2_code : ByteArray := prog_4_method_6_code
def yX2_code : MethodName := ⟨RX2, "code", "(LStereoForms$Drawing;LStereoForms$Senses;)I"⟩
abbrev cX2_senseOfAtom : ByteArray := prog_4_method_7_code
def yX2_senseOfAtom : MethodName := ⟨RX2, "senseOfAtom", "(LStereoForms$Drawing;LStereoForms$Senses;I)I"⟩
abbrev cX2_orderSign : ByteArray := prog_4_method_9_code
def yX2_orderSign : MethodName := ⟨RX2, "orderSign", "(LStereoForms$Drawing;II)I"⟩
abbrev cX2_senseOfBond : ByteArray := prog_4_method_8_code
def yX2_senseOfBond : MethodName := ⟨RX2, "senseOfBond", "(LStereoForms$Drawing;LStereoForms$Senses;I)I"⟩
abbrev cX2_copyFrom : ByteArray := prog_4_method_5_code
def yX2_copyFrom : MethodName := ⟨RX2, "copyFrom", "(LStereoForms$Numbering;)V"⟩
abbrev cX3_lowestRow : ByteArray := prog_5_method_7_code
def yX3_lowestRow : MethodName := ⟨RX3, "lowestRow", "(LStereoForms$Drawing;I)I"⟩
abbrev cX3_rowOf : ByteArray := prog_5_method_8_code
def yX3_rowOf : MethodName := ⟨RX3, "rowOf", "(LStereoForms$Drawing;II)I"⟩
abbrev cX3_lower : ByteArray := prog_5_method_6_code
def yX3_lower : MethodName := ⟨RX3, "lower", "(II)V"⟩
abbrev cX2_give : ByteArray := prog_4_method_3_code
def yX2_give : MethodName := ⟨RX2, "give", "(II)V"⟩
abbrev cX2_takeBack : ByteArray := prog_4_method_4_code
def yX2_takeBack : MethodName := ⟨RX2, "takeBack", "(II)V"⟩
abbrev cX0_isAlone : ByteArray := prog_2_method_14_code
def yX0_isAlone : MethodName := ⟨RX0, "isAlone", "(I)Z"⟩
abbrev cX1_take : ByteArray := prog_3_method_2_code
def yX1_take : MethodName := ⟨RX1, "take", "([III)V"⟩
abbrev cX4_copyFrom : ByteArray := prog_6_method_3_code
def yX4_copyFrom : MethodName := ⟨RX4, "copyFrom", "(LStereoForms$Senses;)V"⟩
abbrev cX4_mirror : ByteArray := prog_6_method_4_code
def yX4_mirror : MethodName := ⟨RX4, "mirror", "()V"⟩
abbrev cX6_senses : ByteArray := prog_1_method_12_code
def yX6_senses : MethodName := ⟨RX6, "senses", "()I"⟩
abbrev cX6_chiral : ByteArray := prog_1_method_13_code
def yX6_chiral : MethodName := ⟨RX6, "chiral", "()Z"⟩
abbrev cX6_isomers : ByteArray := prog_1_method_14_code
def yX6_isomers : MethodName := ⟨RX6, "isomers", "()I"⟩
abbrev cX4_countDrawn : ByteArray := prog_6_method_5_code
def yX4_countDrawn : MethodName := ⟨RX4, "countDrawn", "(LStereoForms$Drawing;)I"⟩
abbrev cX4_turnSome : ByteArray := prog_6_method_6_code
def yX4_turnSome : MethodName := ⟨RX4, "turnSome", "(LStereoForms$Drawing;I)V"⟩
abbrev cX6_isFound : ByteArray := prog_1_method_23_code
def yX6_isFound : MethodName := ⟨RX6, "isFound", "(II)Z"⟩
abbrev cX6_keep : ByteArray := prog_1_method_15_code
def yX6_keep : MethodName := ⟨RX6, "keep", "()I"⟩
abbrev cX1_copyFrom : ByteArray := prog_3_method_3_code
def yX1_copyFrom : MethodName := ⟨RX1, "copyFrom", "(LStereoForms$Form;)V"⟩
abbrev cX6_compare : ByteArray := prog_1_method_16_code
def yX6_compare : MethodName := ⟨RX6, "compare", "()I"⟩
abbrev cX1_hasRowsOf : ByteArray := prog_3_method_4_code
def yX1_hasRowsOf : MethodName := ⟨RX1, "hasRowsOf", "(LStereoForms$Form;)Z"⟩
abbrev cX6_write : ByteArray := prog_1_method_17_code
def yX6_write : MethodName := ⟨RX6, "write", "()I"⟩
abbrev cX5_describe : ByteArray := prog_7_method_2_code
def yX5_describe : MethodName := ⟨RX5, "describe", "(LStereoForms$Drawing;LStereoForms$Senses;LStereoForms$Numbering;)V"⟩
abbrev cX5_addElement : ByteArray := prog_7_method_3_code
def yX5_addElement : MethodName := ⟨RX5, "addElement", "(I)V"⟩
abbrev cJ0_charAt : ByteArray := prog_11_method_56_code
def yJ0_charAt : MethodName := ⟨RJ0, "charAt", "(I)C"⟩
abbrev cJ0_isLatin1 : ByteArray := prog_11_method_154_code
def yJ0_isLatin1 : MethodName := ⟨RJ0, "isLatin1", "()Z"⟩
abbrev cJ1_charAt : ByteArray := prog_12_method_2_code
def yJ1_charAt : MethodName := ⟨RJ1, "charAt", "([BI)C"⟩
abbrev cJ0_checkIndex : ByteArray := prog_11_method_155_code
def yJ0_checkIndex : MethodName := ⟨RJ0, "checkIndex", "(II)V"⟩
abbrev cJ3_checkIndex : ByteArray := prog_16_method_11_code
def yJ3_checkIndex : MethodName := ⟨RJ3, "checkIndex", "(IILjava/util/function/BiFunction;)I"⟩
abbrev cJ2_charAt : ByteArray := prog_13_method_83_code
def yJ2_charAt : MethodName := ⟨RJ2, "charAt", "([BI)C"⟩
abbrev cJ2_checkIndex : ByteArray := prog_13_method_91_code
def yJ2_checkIndex : MethodName := ⟨RJ2, "checkIndex", "(I[B)V"⟩
abbrev cJ2_length : ByteArray := prog_13_method_6_code
def yJ2_length : MethodName := ⟨RJ2, "length", "([B)I"⟩
abbrev cJ2_getChar : ByteArray := prog_13_method_5_code
def yJ2_getChar : MethodName := ⟨RJ2, "getChar", "([BI)C"⟩
abbrev cX5_add : ByteArray := prog_7_method_6_code
def yX5_add : MethodName := ⟨RX5, "add", "(C)V"⟩
abbrev cX5_addSense : ByteArray := prog_7_method_4_code
def yX5_addSense : MethodName := ⟨RX5, "addSense", "(I)V"⟩
abbrev cX5_addBond : ByteArray := prog_7_method_5_code
def yX5_addBond : MethodName := ⟨RX5, "addBond", "(III)V"⟩
abbrev cX6_at : ByteArray := prog_1_method_18_code
def yX6_at : MethodName := ⟨RX6, "at", "(I)I"⟩
abbrev cX7_init : ByteArray := prog_9_method_1_code
def yX7_init : MethodName := ⟨RX7, "<init>", "()V"⟩
abbrev cX7_atom : ByteArray := prog_9_method_5_code
def yX7_atom : MethodName := ⟨RX7, "atom", "(III)I"⟩
abbrev cX7_isPlace : ByteArray := prog_9_method_2_code
def yX7_isPlace : MethodName := ⟨RX7, "isPlace", "(I)Z"⟩
abbrev cX7_bond : ByteArray := prog_9_method_9_code
def yX7_bond : MethodName := ⟨RX7, "bond", "(IIII)I"⟩
abbrev cX7_isAtom : ByteArray := prog_9_method_3_code
def yX7_isAtom : MethodName := ⟨RX7, "isAtom", "(I)Z"⟩
abbrev cX7_bondOf : ByteArray := prog_9_method_6_code
def yX7_bondOf : MethodName := ⟨RX7, "bondOf", "(II)I"⟩
abbrev cX7_left : ByteArray := prog_9_method_8_code
def yX7_left : MethodName := ⟨RX7, "left", "(I)I"⟩
abbrev cX7_valence : ByteArray := prog_9_method_7_code
def yX7_valence : MethodName := ⟨RX7, "valence", "(I)I"⟩
abbrev cX7_move : ByteArray := prog_9_method_10_code
def yX7_move : MethodName := ⟨RX7, "move", "(III)Z"⟩
abbrev cX7_mark : ByteArray := prog_9_method_11_code
def yX7_mark : MethodName := ⟨RX7, "mark", "(III)Z"⟩
abbrev cX7_isBond : ByteArray := prog_9_method_4_code
def yX7_isBond : MethodName := ⟨RX7, "isBond", "(I)Z"⟩
abbrev cX7_clear : ByteArray := prog_9_method_12_code
def yX7_clear : MethodName := ⟨RX7, "clear", "()I"⟩
abbrev cX7_flip : ByteArray := prog_9_method_13_code
def yX7_flip : MethodName := ⟨RX7, "flip", "()I"⟩
abbrev cX7_hydrogens : ByteArray := prog_9_method_14_code
def yX7_hydrogens : MethodName := ⟨RX7, "hydrogens", "(I)I"⟩
abbrev cX7_sense : ByteArray := prog_9_method_26_code
def yX7_sense : MethodName := ⟨RX7, "sense", "(I)I"⟩
abbrev cX7_ownNumbers : ByteArray := prog_9_method_25_code
def yX7_ownNumbers : MethodName := ⟨RX7, "ownNumbers", "()V"⟩
abbrev cX7_centreSense : ByteArray := prog_9_method_20_code
def yX7_centreSense : MethodName := ⟨RX7, "centreSense", "(I)I"⟩
abbrev cX7_isCentre : ByteArray := prog_9_method_17_code
def yX7_isCentre : MethodName := ⟨RX7, "isCentre", "(I)Z"⟩
abbrev cX7_singles : ByteArray := prog_9_method_16_code
def yX7_singles : MethodName := ⟨RX7, "singles", "(II)I"⟩
abbrev cX7_points : ByteArray := prog_9_method_19_code
def yX7_points : MethodName := ⟨RX7, "points", "(I)I"⟩
abbrev cX7_sign : ByteArray := prog_9_method_15_code
def yX7_sign : MethodName := ⟨RX7, "sign", "(I)I"⟩
abbrev cX7_turn : ByteArray := prog_9_method_27_code
def yX7_turn : MethodName := ⟨RX7, "turn", "(I)I"⟩
abbrev cX7_hingeSense : ByteArray := prog_9_method_23_code
def yX7_hingeSense : MethodName := ⟨RX7, "hingeSense", "(I)I"⟩
abbrev cX7_isHinge : ByteArray := prog_9_method_18_code
def yX7_isHinge : MethodName := ⟨RX7, "isHinge", "(I)Z"⟩
abbrev cX7_isClear : ByteArray := prog_9_method_24_code
def yX7_isClear : MethodName := ⟨RX7, "isClear", "(IIII)Z"⟩
abbrev cX7_side : ByteArray := prog_9_method_22_code
def yX7_side : MethodName := ⟨RX7, "side", "(III)I"⟩
abbrev cX7_leastBeside : ByteArray := prog_9_method_21_code
def yX7_leastBeside : MethodName := ⟨RX7, "leastBeside", "(II)I"⟩
abbrev cX7_row : ByteArray := prog_9_method_36_code
def yX7_row : MethodName := ⟨RX7, "row", "(I)I"⟩
abbrev cX7_search : ByteArray := prog_9_method_33_code
def yX7_search : MethodName := ⟨RX7, "search", "()V"⟩
abbrev cX7_rowOf : ByteArray := prog_9_method_28_code
def yX7_rowOf : MethodName := ⟨RX7, "rowOf", "(I)I"⟩
abbrev cX7_packed : ByteArray := prog_9_method_31_code
def yX7_packed : MethodName := ⟨RX7, "packed", "()I"⟩
abbrev cX7_nextOrder : ByteArray := prog_9_method_29_code
def yX7_nextOrder : MethodName := ⟨RX7, "nextOrder", "()Z"⟩
abbrev cX7_swap : ByteArray := prog_9_method_30_code
def yX7_swap : MethodName := ⟨RX7, "swap", "(II)V"⟩
abbrev cX7_senses : ByteArray := prog_9_method_37_code
def yX7_senses : MethodName := ⟨RX7, "senses", "()I"⟩
abbrev cX7_leastSenses : ByteArray := prog_9_method_35_code
def yX7_leastSenses : MethodName := ⟨RX7, "leastSenses", "(I)I"⟩
abbrev cX7_unpack : ByteArray := prog_9_method_32_code
def yX7_unpack : MethodName := ⟨RX7, "unpack", "(I)V"⟩
abbrev cX7_sensesNow : ByteArray := prog_9_method_34_code
def yX7_sensesNow : MethodName := ⟨RX7, "sensesNow", "(I)I"⟩
abbrev cX7_chiral : ByteArray := prog_9_method_38_code
def yX7_chiral : MethodName := ⟨RX7, "chiral", "()Z"⟩
abbrev cX7_isomers : ByteArray := prog_9_method_39_code
def yX7_isomers : MethodName := ⟨RX7, "isomers", "()I"⟩
abbrev cX7_keep : ByteArray := prog_9_method_40_code
def yX7_keep : MethodName := ⟨RX7, "keep", "()I"⟩
abbrev cX7_compare : ByteArray := prog_9_method_41_code
def yX7_compare : MethodName := ⟨RX7, "compare", "()I"⟩
abbrev cX7_write : ByteArray := prog_9_method_44_code
def yX7_write : MethodName := ⟨RX7, "write", "()I"⟩
abbrev cX7_putElement : ByteArray := prog_9_method_43_code
def yX7_putElement : MethodName := ⟨RX7, "putElement", "(I)V"⟩
abbrev cX7_put : ByteArray := prog_9_method_42_code
def yX7_put : MethodName := ⟨RX7, "put", "(I)V"⟩
abbrev cX7_putBond : ByteArray := prog_9_method_45_code
def yX7_putBond : MethodName := ⟨RX7, "putBond", "(II)V"⟩
abbrev cX7_at : ByteArray := prog_9_method_46_code
def yX7_at : MethodName := ⟨RX7, "at", "(I)I"⟩
abbrev vwCl : List vw_C := [(RX0, TX0, 10), (RX1, TX1, 3), (RX2, TX2, 2), (RX3, TX3, 5), (RX4, TX4, 4), (RX5, TX5, 2), (RX6, TX6, 11), (RX7, TX7, 23)]
/-- the tables' words that stay good: every method's words are these and its own code -/
def sf_T : List Cond := lw_tbl.filter goodWord
theorem sf_mem {w : Cond} (i : Nat) (h : lw_tbl[i]? = some w) (hg : goodWord w = true) : w ∈ sf_T := List.mem_filter.mpr ⟨List.mem_of_getElem? h, hg⟩
theorem sf_memS {w : Cond} (i : Nat) (h : (k2_sels lw_privs)[i]? = some w) (hg : goodWord w = true) : w ∈ sf_T := List.mem_filter.mpr ⟨List.mem_append_left _ (List.mem_of_getElem? h), hg⟩
theorem sf_mem1 {w : Cond} (i : Nat) (h : tables_1_1[i]? = some w) (hg : goodWord w = true) : w ∈ sf_T := List.mem_filter.mpr ⟨List.mem_append_right _ (List.mem_append_left _ (List.mem_of_getElem? h)), hg⟩
theorem sf_mem2 {w : Cond} (i : Nat) (h : tables_1_2[i]? = some w) (hg : goodWord w = true) : w ∈ sf_T := List.mem_filter.mpr ⟨List.mem_append_right _ (List.mem_append_right _ (List.mem_append_left _ (List.mem_of_getElem? h))), hg⟩
theorem sf_mem3 {w : Cond} (i : Nat) (h : tables_1_3[i]? = some w) (hg : goodWord w = true) : w ∈ sf_T := List.mem_filter.mpr ⟨List.mem_append_right _ (List.mem_append_right _ (List.mem_append_right _ (List.mem_append_left _ (List.mem_of_getElem? h)))), hg⟩
theorem sf_mem4 {w : Cond} (i : Nat) (h : tables_1_4[i]? = some w) (hg : goodWord w = true) : w ∈ sf_T := List.mem_filter.mpr ⟨List.mem_append_right _ (List.mem_append_right _ (List.mem_append_right _ (List.mem_append_right _ (List.mem_of_getElem? h)))), hg⟩
theorem sf_memc {w c : Cond} (h : w ∈ sf_T) : w ∈ c :: sf_T := List.mem_cons_of_mem _ h
theorem sf_T_good {w : Cond} (h : w ∈ sf_T) : (w.onTables && w.keeps) = true ∨ ∃ ty, w = .arrayClass ty := good_of_word (List.mem_filter.mp h).2
theorem sf_good1 {c0 c : Cond} (hc : c ∈ sf_T) : GoodIn (c0 :: sf_T) (c :: sf_T) := fun w h => by
  rcases List.mem_cons.mp h with e | h
  · subst e; exact ⟨sf_memc hc, sf_T_good hc⟩
  · exact ⟨sf_memc h, sf_T_good h⟩
theorem sf_goodA {c0 : Cond} {l ws : List Cond} (hl : ∀ w ∈ l, w ∈ sf_T) (h : GoodIn (c0 :: sf_T) ws) : GoodIn (c0 :: sf_T) (l ++ ws) := fun w hw => by
  rcases List.mem_append.mp hw with h1 | h1
  · exact ⟨sf_memc (hl w h1), sf_T_good (hl w h1)⟩
  · exact h w h1
theorem sf_gV {c0 c : Cond} {own C : String} {idx : Nat} {y : MethodName} (h1 : Cond.methodLink own idx y ∈ sf_T) (h2 : Cond.instanceMethod y ∈ sf_T) (h3 : Cond.selects C y y ∈ sf_T) (h4 : Cond.initialized C ∈ sf_T) (hc : c ∈ sf_T) : GoodIn (c0 :: sf_T) (wsV own idx C y (c :: sf_T)) :=
  sf_goodA (fun w h => by simp only [List.mem_cons, List.not_mem_nil, or_false] at h; rcases h with h | h | h | h <;> subst h <;> assumption) (sf_good1 hc)
theorem sf_gS {c0 c : Cond} {own : String} {idx : Nat} {y : MethodName} (h1 : Cond.methodLink own idx y ∈ sf_T) (h2 : Cond.static y ∈ sf_T) (h4 : Cond.initialized y.cls ∈ sf_T) (hc : c ∈ sf_T) : GoodIn (c0 :: sf_T) (va_wsS own idx y (c :: sf_T)) :=
  sf_goodA (fun w h => by simp only [List.mem_cons, List.not_mem_nil, or_false] at h; rcases h with h | h | h <;> subst h <;> assumption) (sf_good1 hc)
def wsX6_init : List Cond := .code yX6_init cX6_init 1 none :: sf_T
def wsX0_init : List Cond := .code yX0_init cX0_init 1 none :: sf_T
def wsX4_init : List Cond := .code yX4_init cX4_init 1 none :: sf_T
def wsX3_init : List Cond := .code yX3_init cX3_init 1 none :: sf_T
def wsX2_init : List Cond := .code yX2_init cX2_init 1 none :: sf_T
def wsX1_init : List Cond := .code yX1_init cX1_init 1 none :: sf_T
def wsX5_init : List Cond := .code yX5_init cX5_init 1 none :: sf_T
def wsX6_atom : List Cond := .code yX6_atom cX6_atom 4 (some .int) :: sf_T
def wsX6_isPlace : List Cond := .code yX6_isPlace cX6_isPlace 2 (some .boolean) :: sf_T
def wsX0_addAtom : List Cond := .code yX0_addAtom cX0_addAtom 5 (some .int) :: sf_T
def wsX6_bond : List Cond := .code yX6_bond cX6_bond 5 (some .int) :: sf_T
def wsX0_hasAtom : List Cond := .code yX0_hasAtom cX0_hasAtom 2 (some .boolean) :: sf_T
def wsX6_isMark : List Cond := .code yX6_isMark cX6_isMark 1 (some .boolean) :: sf_T
def wsX0_areBonded : List Cond := .code yX0_areBonded cX0_areBonded 3 (some .boolean) :: sf_T
def wsX0_freeValence : List Cond := .code yX0_freeValence cX0_freeValence 4 (some .int) :: sf_T
def wsX0_orderOf : List Cond := .code yX0_orderOf cX0_orderOf 4 (some .int) :: sf_T
def wsX0_addBond : List Cond := .code yX0_addBond cX0_addBond 6 (some .int) :: sf_T
def wsX6_move : List Cond := .code yX6_move cX6_move 4 (some .boolean) :: sf_T
def wsX6_mark : List Cond := .code yX6_mark cX6_mark 4 (some .boolean) :: sf_T
def wsX0_hasBond : List Cond := .code yX0_hasBond cX0_hasBond 2 (some .boolean) :: sf_T
def wsX0_isEnd : List Cond := .code yX0_isEnd cX0_isEnd 3 (some .boolean) :: sf_T
def wsX0_setMark : List Cond := .code yX0_setMark cX0_setMark 5 none :: sf_T
def wsX6_clear : List Cond := .code yX6_clear cX6_clear 2 (some .int) :: sf_T
def wsX0_removeAll : List Cond := .code yX0_removeAll cX0_removeAll 2 none :: sf_T
def wsJ7_fill : List Cond := .code yJ7_fill cJ7_fill 4 none :: sf_T
def wsX6_flip : List Cond := .code yX6_flip cX6_flip 1 (some .int) :: sf_T
def wsX0_swapMarks : List Cond := .code yX0_swapMarks cX0_swapMarks 3 (some .int) :: sf_T
def wsX6_hydrogens : List Cond := .code yX6_hydrogens cX6_hydrogens 2 (some .int) :: sf_T
def wsX6_sense : List Cond := .code yX6_sense cX6_sense 2 (some .int) :: sf_T
def wsX4_senseOfAtom : List Cond := .code yX4_senseOfAtom cX4_senseOfAtom 5 (some .int) :: sf_T
def wsX0_isCentre : List Cond := .code yX0_isCentre cX0_isCentre 3 (some .boolean) :: sf_T
def wsX0_singleBonds : List Cond := .code yX0_singleBonds cX0_singleBonds 6 (some .int) :: sf_T
def wsX4_determinant : List Cond := .code yX4_determinant cX4_determinant 16 (some .int) :: sf_T
def wsX0_height : List Cond := .code yX0_height cX0_height 4 (some .int) :: sf_T
def wsX0_bondOf : List Cond := .code yX0_bondOf cX0_bondOf 3 (some .int) :: sf_T
def wsX6_sign : List Cond := .code yX6_sign cX6_sign 1 (some .int) :: sf_T
def wsX6_turn : List Cond := .code yX6_turn cX6_turn 2 (some .int) :: sf_T
def wsX4_senseOfBond : List Cond := .code yX4_senseOfBond cX4_senseOfBond 5 (some .int) :: sf_T
def wsX0_isHinge : List Cond := .code yX0_isHinge cX0_isHinge 2 (some .boolean) :: sf_T
def wsX0_isHingeEnd : List Cond := .code yX0_isHingeEnd cX0_isHingeEnd 4 (some .boolean) :: sf_T
def wsJ9_min : List Cond := .code yJ9_min cJ9_min 2 (some .int) :: sf_T
def wsJ9_max : List Cond := .code yJ9_max cJ9_max 2 (some .int) :: sf_T
def wsX4_sideOfEnd : List Cond := .code yX4_sideOfEnd cX4_sideOfEnd 7 (some .int) :: sf_T
def wsX0_side : List Cond := .code yX0_side cX0_side 4 (some .int) :: sf_T
def wsX6_row : List Cond := .code yX6_row cX6_row 2 (some .int) :: sf_T
def wsX6_settle : List Cond := .code yX6_settle cX6_settle 2 none :: sf_T
def wsX4_readFrom : List Cond := .code yX4_readFrom cX4_readFrom 3 none :: sf_T
def wsX3_begin : List Cond := .code yX3_begin cX3_begin 3 none :: sf_T
def wsX3_leastSenses : List Cond := .code yX3_leastSenses cX3_leastSenses 3 (some .int) :: sf_T
def wsX2_removeAll : List Cond := .code yX2_removeAll cX2_removeAll 1 none :: sf_T
def wsX3_place : List Cond := .code yX3_place cX3_place 6 none :: sf_T
def wsX3_weigh : List Cond := .code yX3_weigh cX3_weigh 4 none :: sf_T
def wsX2_code : List Cond := .code yX2_code cX2_code 7 (some .int) :: sf_T
def wsX2_senseOfAtom : List Cond := .code yX2_senseOfAtom cX2_senseOfAtom 5 (some .int) :: sf_T
def wsX2_orderSign : List Cond := .code yX2_orderSign cX2_orderSign 8 (some .int) :: sf_T
def wsX2_senseOfBond : List Cond := .code yX2_senseOfBond cX2_senseOfBond 7 (some .int) :: sf_T
def wsX2_copyFrom : List Cond := .code yX2_copyFrom cX2_copyFrom 2 none :: sf_T
def wsX3_lowestRow : List Cond := .code yX3_lowestRow cX3_lowestRow 5 (some .int) :: sf_T
def wsX3_rowOf : List Cond := .code yX3_rowOf cX3_rowOf 6 (some .int) :: sf_T
def wsX3_lower : List Cond := .code yX3_lower cX3_lower 4 none :: sf_T
def wsX2_give : List Cond := .code yX2_give cX2_give 3 none :: sf_T
def wsX2_takeBack : List Cond := .code yX2_takeBack cX2_takeBack 3 none :: sf_T
def wsX0_isAlone : List Cond := .code yX0_isAlone cX0_isAlone 2 (some .boolean) :: sf_T
def wsX1_take : List Cond := .code yX1_take cX1_take 4 none :: sf_T
def wsX4_copyFrom : List Cond := .code yX4_copyFrom cX4_copyFrom 2 none :: sf_T
def wsX4_mirror : List Cond := .code yX4_mirror cX4_mirror 2 none :: sf_T
def wsX6_senses : List Cond := .code yX6_senses cX6_senses 1 (some .int) :: sf_T
def wsX6_chiral : List Cond := .code yX6_chiral cX6_chiral 1 (some .boolean) :: sf_T
def wsX6_isomers : List Cond := .code yX6_isomers cX6_isomers 5 (some .int) :: sf_T
def wsX4_countDrawn : List Cond := .code yX4_countDrawn cX4_countDrawn 4 (some .int) :: sf_T
def wsX4_turnSome : List Cond := .code yX4_turnSome cX4_turnSome 5 none :: sf_T
def wsX6_isFound : List Cond := .code yX6_isFound cX6_isFound 4 (some .boolean) :: sf_T
def wsX6_keep : List Cond := .code yX6_keep cX6_keep 1 (some .int) :: sf_T
def wsX1_copyFrom : List Cond := .code yX1_copyFrom cX1_copyFrom 2 none :: sf_T
def wsX6_compare : List Cond := .code yX6_compare cX6_compare 1 (some .int) :: sf_T
def wsX1_hasRowsOf : List Cond := .code yX1_hasRowsOf cX1_hasRowsOf 3 (some .boolean) :: sf_T
def wsX6_write : List Cond := .code yX6_write cX6_write 1 (some .int) :: sf_T
def wsX5_describe : List Cond := .code yX5_describe cX5_describe 9 none :: sf_T
def wsX5_addElement : List Cond := .code yX5_addElement cX5_addElement 2 none :: sf_T
def wsJ0_charAt : List Cond := .code yJ0_charAt cJ0_charAt 2 (some .char) :: sf_T
def wsJ0_isLatin1 : List Cond := .code yJ0_isLatin1 cJ0_isLatin1 1 (some .boolean) :: sf_T
def wsJ1_charAt : List Cond := .code yJ1_charAt cJ1_charAt 2 (some .char) :: sf_T
def wsJ0_checkIndex : List Cond := .code yJ0_checkIndex cJ0_checkIndex 2 none :: sf_T
def wsJ3_checkIndex : List Cond := .code yJ3_checkIndex cJ3_checkIndex 3 (some .int) :: sf_T
def wsJ2_charAt : List Cond := .code yJ2_charAt cJ2_charAt 2 (some .char) :: sf_T
def wsJ2_checkIndex : List Cond := .code yJ2_checkIndex cJ2_checkIndex 2 none :: sf_T
def wsJ2_length : List Cond := .code yJ2_length cJ2_length 1 (some .int) :: sf_T
def wsJ2_getChar : List Cond := .code yJ2_getChar cJ2_getChar 2 (some .char) :: sf_T
def wsX5_add : List Cond := .code yX5_add cX5_add 2 none :: sf_T
def wsX5_addSense : List Cond := .code yX5_addSense cX5_addSense 2 none :: sf_T
def wsX5_addBond : List Cond := .code yX5_addBond cX5_addBond 4 none :: sf_T
def wsX6_at : List Cond := .code yX6_at cX6_at 2 (some .int) :: sf_T
def wsX7_init : List Cond := .code yX7_init cX7_init 1 none :: sf_T
def wsX7_atom : List Cond := .code yX7_atom cX7_atom 4 (some .int) :: sf_T
def wsX7_isPlace : List Cond := .code yX7_isPlace cX7_isPlace 1 (some .boolean) :: sf_T
def wsX7_bond : List Cond := .code yX7_bond cX7_bond 5 (some .int) :: sf_T
def wsX7_isAtom : List Cond := .code yX7_isAtom cX7_isAtom 2 (some .boolean) :: sf_T
def wsX7_bondOf : List Cond := .code yX7_bondOf cX7_bondOf 5 (some .int) :: sf_T
def wsX7_left : List Cond := .code yX7_left cX7_left 4 (some .int) :: sf_T
def wsX7_valence : List Cond := .code yX7_valence cX7_valence 1 (some .int) :: sf_T
def wsX7_move : List Cond := .code yX7_move cX7_move 4 (some .boolean) :: sf_T
def wsX7_mark : List Cond := .code yX7_mark cX7_mark 5 (some .boolean) :: sf_T
def wsX7_isBond : List Cond := .code yX7_isBond cX7_isBond 2 (some .boolean) :: sf_T
def wsX7_clear : List Cond := .code yX7_clear cX7_clear 2 (some .int) :: sf_T
def wsX7_flip : List Cond := .code yX7_flip cX7_flip 3 (some .int) :: sf_T
def wsX7_hydrogens : List Cond := .code yX7_hydrogens cX7_hydrogens 2 (some .int) :: sf_T
def wsX7_sense : List Cond := .code yX7_sense cX7_sense 2 (some .int) :: sf_T
def wsX7_ownNumbers : List Cond := .code yX7_ownNumbers cX7_ownNumbers 2 none :: sf_T
def wsX7_centreSense : List Cond := .code yX7_centreSense cX7_centreSense 5 (some .int) :: sf_T
def wsX7_isCentre : List Cond := .code yX7_isCentre cX7_isCentre 2 (some .boolean) :: sf_T
def wsX7_singles : List Cond := .code yX7_singles cX7_singles 6 (some .int) :: sf_T
def wsX7_points : List Cond := .code yX7_points cX7_points 5 (some .int) :: sf_T
def wsX7_sign : List Cond := .code yX7_sign cX7_sign 1 (some .int) :: sf_T
def wsX7_turn : List Cond := .code yX7_turn cX7_turn 2 (some .int) :: sf_T
def wsX7_hingeSense : List Cond := .code yX7_hingeSense cX7_hingeSense 5 (some .int) :: sf_T
def wsX7_isHinge : List Cond := .code yX7_isHinge cX7_isHinge 5 (some .boolean) :: sf_T
def wsX7_isClear : List Cond := .code yX7_isClear cX7_isClear 11 (some .boolean) :: sf_T
def wsX7_side : List Cond := .code yX7_side cX7_side 4 (some .int) :: sf_T
def wsX7_leastBeside : List Cond := .code yX7_leastBeside cX7_leastBeside 5 (some .int) :: sf_T
def wsX7_row : List Cond := .code yX7_row cX7_row 2 (some .int) :: sf_T
def wsX7_search : List Cond := .code yX7_search cX7_search 5 none :: sf_T
def wsX7_rowOf : List Cond := .code yX7_rowOf cX7_rowOf 5 (some .int) :: sf_T
def wsX7_packed : List Cond := .code yX7_packed cX7_packed 3 (some .int) :: sf_T
def wsX7_nextOrder : List Cond := .code yX7_nextOrder cX7_nextOrder 4 (some .boolean) :: sf_T
def wsX7_swap : List Cond := .code yX7_swap cX7_swap 4 none :: sf_T
def wsX7_senses : List Cond := .code yX7_senses cX7_senses 1 (some .int) :: sf_T
def wsX7_leastSenses : List Cond := .code yX7_leastSenses cX7_leastSenses 5 (some .int) :: sf_T
def wsX7_unpack : List Cond := .code yX7_unpack cX7_unpack 3 none :: sf_T
def wsX7_sensesNow : List Cond := .code yX7_sensesNow cX7_sensesNow 7 (some .int) :: sf_T
def wsX7_chiral : List Cond := .code yX7_chiral cX7_chiral 1 (some .boolean) :: sf_T
def wsX7_isomers : List Cond := .code yX7_isomers cX7_isomers 9 (some .int) :: sf_T
def wsX7_keep : List Cond := .code yX7_keep cX7_keep 2 (some .int) :: sf_T
def wsX7_compare : List Cond := .code yX7_compare cX7_compare 4 (some .int) :: sf_T
def wsX7_write : List Cond := .code yX7_write cX7_write 8 (some .int) :: sf_T
def wsX7_putElement : List Cond := .code yX7_putElement cX7_putElement 2 none :: sf_T
def wsX7_put : List Cond := .code yX7_put cX7_put 2 none :: sf_T
def wsX7_putBond : List Cond := .code yX7_putBond cX7_putBond 4 none :: sf_T
def wsX7_at : List Cond := .code yX7_at cX7_at 2 (some .int) :: sf_T
theorem tw_40 : (.initialized "StereoFormsLaw" : Cond) ∈ sf_T := sf_mem1 0 rfl rfl
theorem tw_41 : (.initialized "StereoForms" : Cond) ∈ sf_T := sf_mem1 1 rfl rfl
theorem tw_42 : (.initialized "StereoForms$Drawing" : Cond) ∈ sf_T := sf_mem1 2 rfl rfl
theorem tw_43 : (.initialized "StereoForms$Senses" : Cond) ∈ sf_T := sf_mem1 3 rfl rfl
theorem tw_44 : (.initialized "StereoForms$Search" : Cond) ∈ sf_T := sf_mem1 4 rfl rfl
theorem tw_45 : (.initialized "StereoForms$Numbering" : Cond) ∈ sf_T := sf_mem1 5 rfl rfl
theorem tw_46 : (.initialized "StereoForms$Form" : Cond) ∈ sf_T := sf_mem1 6 rfl rfl
theorem tw_47 : (.initialized "StereoForms$Text" : Cond) ∈ sf_T := sf_mem1 7 rfl rfl
theorem tw_48 : (.initialized "StereoFormsModel" : Cond) ∈ sf_T := sf_mem1 8 rfl rfl
theorem tw_49 : (.initialized "java/util/Arrays" : Cond) ∈ sf_T := sf_mem1 9 rfl rfl
theorem tw_50 : (.initialized "java/lang/Math" : Cond) ∈ sf_T := sf_mem1 10 rfl rfl
theorem tw_51 : (.initialized "java/lang/System" : Cond) ∈ sf_T := sf_mem1 11 rfl rfl
theorem tw_52 : (.initialized "java/lang/String" : Cond) ∈ sf_T := sf_mem1 12 rfl rfl
theorem tw_53 : (.initialized "java/lang/StringLatin1" : Cond) ∈ sf_T := sf_mem1 13 rfl rfl
theorem tw_54 : (.initialized "jdk/internal/util/Preconditions" : Cond) ∈ sf_T := sf_mem1 14 rfl rfl
theorem tw_55 : (.initialized "java/lang/StringUTF16" : Cond) ∈ sf_T := sf_mem1 15 rfl rfl
theorem tw_56 : (.classLink "StereoFormsLaw" 7 "StereoForms" : Cond) ∈ sf_T := sf_mem1 16 rfl rfl
theorem tw_57 : (.instantiable "StereoForms" 11 : Cond) ∈ sf_T := sf_mem1 17 rfl rfl
theorem tw_58 : (.methodLink "StereoFormsLaw" 9 yX6_init : Cond) ∈ sf_T := sf_mem1 18 rfl rfl
theorem tw_59 : (.instanceMethod yX6_init : Cond) ∈ sf_T := sf_mem1 19 rfl rfl
theorem tw_60 : (.code yX6_init prog_1_method_1_code 1 (Option.none : Option Jvm.ClassFile.FieldType) : Cond) ∈ sf_T := sf_mem1 20 rfl rfl
theorem tw_61 : (.methodLink "StereoForms" 5 ⟨"java/lang/Object", "<init>", "()V"⟩ : Cond) ∈ sf_T := sf_mem1 21 rfl rfl
theorem tw_62 : (.instanceMethod ⟨"java/lang/Object", "<init>", "()V"⟩ : Cond) ∈ sf_T := sf_mem1 22 rfl rfl
theorem tw_64 : (.classLink "StereoForms" 11 "StereoForms$Drawing" : Cond) ∈ sf_T := sf_mem1 24 rfl rfl
theorem tw_65 : (.instantiable "StereoForms$Drawing" 10 : Cond) ∈ sf_T := sf_mem1 25 rfl rfl
theorem tw_67 : (.instanceMethod yX0_init : Cond) ∈ sf_T := sf_mem1 27 rfl rfl
theorem tw_68 : (.code yX0_init prog_2_method_1_code 1 (Option.none : Option Jvm.ClassFile.FieldType) : Cond) ∈ sf_T := sf_mem1 28 rfl rfl
theorem tw_69 : (.methodLink "StereoForms$Drawing" 3 ⟨"java/lang/Object", "<init>", "()V"⟩ : Cond) ∈ sf_T := sf_mem1 29 rfl rfl
theorem tw_70 : (.classLink "StereoForms$Drawing" 40 "[[I" : Cond) ∈ sf_T := sf_mem1 30 rfl rfl
theorem tw_72 : (.fieldLink "StereoForms$Drawing" 9 "StereoForms$Drawing" "elements" "[I" : Cond) ∈ sf_T := sf_mem1 32 rfl rfl
theorem tw_73 : (.fieldLink "StereoForms$Text" 30 "StereoForms$Drawing" "elements" "[I" : Cond) ∈ sf_T := sf_mem1 33 rfl rfl
theorem tw_74 : (.fieldLink "StereoForms$Search" 45 "StereoForms$Drawing" "elements" "[I" : Cond) ∈ sf_T := sf_mem1 34 rfl rfl
theorem tw_75 : (.fieldLink "StereoForms$Drawing" 15 "StereoForms$Drawing" "xs" "[I" : Cond) ∈ sf_T := sf_mem1 35 rfl rfl
theorem tw_76 : (.fieldLink "StereoForms" 106 "StereoForms$Drawing" "xs" "[I" : Cond) ∈ sf_T := sf_mem1 36 rfl rfl
theorem tw_77 : (.fieldLink "StereoForms$Senses" 66 "StereoForms$Drawing" "xs" "[I" : Cond) ∈ sf_T := sf_mem1 37 rfl rfl
theorem tw_78 : (.fieldLink "StereoForms$Drawing" 18 "StereoForms$Drawing" "ys" "[I" : Cond) ∈ sf_T := sf_mem1 38 rfl rfl
theorem tw_79 : (.fieldLink "StereoForms" 109 "StereoForms$Drawing" "ys" "[I" : Cond) ∈ sf_T := sf_mem1 39 rfl rfl
theorem tw_80 : (.fieldLink "StereoForms$Senses" 69 "StereoForms$Drawing" "ys" "[I" : Cond) ∈ sf_T := sf_mem1 40 rfl rfl
theorem tw_81 : (.fieldLink "StereoForms$Drawing" 21 "StereoForms$Drawing" "atomCount" "I" : Cond) ∈ sf_T := sf_mem1 41 rfl rfl
theorem tw_82 : (.fieldLink "StereoForms$Senses" 25 "StereoForms$Drawing" "atomCount" "I" : Cond) ∈ sf_T := sf_mem1 42 rfl rfl
theorem tw_83 : (.fieldLink "StereoForms$Text" 19 "StereoForms$Drawing" "atomCount" "I" : Cond) ∈ sf_T := sf_mem1 43 rfl rfl
theorem tw_84 : (.fieldLink "StereoForms$Search" 39 "StereoForms$Drawing" "atomCount" "I" : Cond) ∈ sf_T := sf_mem1 44 rfl rfl
theorem tw_85 : (.fieldLink "StereoForms" 78 "StereoForms$Drawing" "atomCount" "I" : Cond) ∈ sf_T := sf_mem1 45 rfl rfl
theorem tw_86 : (.fieldLink "StereoForms$Numbering" 30 "StereoForms$Drawing" "atomCount" "I" : Cond) ∈ sf_T := sf_mem1 46 rfl rfl
theorem tw_87 : (.fieldLink "StereoForms$Drawing" 25 "StereoForms$Drawing" "firsts" "[I" : Cond) ∈ sf_T := sf_mem1 47 rfl rfl
theorem tw_88 : (.fieldLink "StereoForms$Numbering" 61 "StereoForms$Drawing" "firsts" "[I" : Cond) ∈ sf_T := sf_mem1 48 rfl rfl
theorem tw_89 : (.fieldLink "StereoForms$Senses" 76 "StereoForms$Drawing" "firsts" "[I" : Cond) ∈ sf_T := sf_mem1 49 rfl rfl
theorem tw_90 : (.fieldLink "StereoForms$Drawing" 28 "StereoForms$Drawing" "seconds" "[I" : Cond) ∈ sf_T := sf_mem1 50 rfl rfl
theorem tw_91 : (.fieldLink "StereoForms$Numbering" 64 "StereoForms$Drawing" "seconds" "[I" : Cond) ∈ sf_T := sf_mem1 51 rfl rfl
theorem tw_92 : (.fieldLink "StereoForms$Senses" 79 "StereoForms$Drawing" "seconds" "[I" : Cond) ∈ sf_T := sf_mem1 52 rfl rfl
theorem tw_93 : (.fieldLink "StereoForms$Drawing" 31 "StereoForms$Drawing" "orders" "[I" : Cond) ∈ sf_T := sf_mem1 53 rfl rfl
theorem tw_94 : (.fieldLink "StereoForms$Text" 51 "StereoForms$Drawing" "orders" "[I" : Cond) ∈ sf_T := sf_mem1 54 rfl rfl
theorem tw_95 : (.fieldLink "StereoForms$Drawing" 34 "StereoForms$Drawing" "marks" "[I" : Cond) ∈ sf_T := sf_mem1 55 rfl rfl
theorem tw_96 : (.fieldLink "StereoForms$Drawing" 37 "StereoForms$Drawing" "bondCount" "I" : Cond) ∈ sf_T := sf_mem1 56 rfl rfl
theorem tw_97 : (.fieldLink "StereoForms$Senses" 35 "StereoForms$Drawing" "bondCount" "I" : Cond) ∈ sf_T := sf_mem1 57 rfl rfl
theorem tw_98 : (.fieldLink "StereoForms" 95 "StereoForms$Drawing" "bondCount" "I" : Cond) ∈ sf_T := sf_mem1 58 rfl rfl
theorem tw_99 : (.fieldLink "StereoForms$Drawing" 42 "StereoForms$Drawing" "links" "[[I" : Cond) ∈ sf_T := sf_mem1 59 rfl rfl
theorem tw_100 : (.fieldLink "StereoForms$Numbering" 67 "StereoForms$Drawing" "links" "[[I" : Cond) ∈ sf_T := sf_mem1 60 rfl rfl
theorem tw_122 : (.arrayClass Jvm.ClassFile.FieldType.int : Cond) ∈ sf_T := sf_mem1 82 rfl rfl
theorem tw_123 : (.classLink "StereoForms" 18 "StereoForms$Senses" : Cond) ∈ sf_T := sf_mem1 83 rfl rfl
theorem tw_124 : (.instantiable "StereoForms$Senses" 4 : Cond) ∈ sf_T := sf_mem1 84 rfl rfl
theorem tw_126 : (.instanceMethod yX4_init : Cond) ∈ sf_T := sf_mem1 86 rfl rfl
theorem tw_127 : (.code yX4_init prog_6_method_1_code 1 (Option.none : Option Jvm.ClassFile.FieldType) : Cond) ∈ sf_T := sf_mem1 87 rfl rfl
theorem tw_128 : (.methodLink "StereoForms$Senses" 3 ⟨"java/lang/Object", "<init>", "()V"⟩ : Cond) ∈ sf_T := sf_mem1 88 rfl rfl
theorem tw_129 : (.fieldLink "StereoForms$Senses" 9 "StereoForms$Senses" "atoms" "[I" : Cond) ∈ sf_T := sf_mem1 89 rfl rfl
theorem tw_130 : (.fieldLink "StereoForms$Numbering" 53 "StereoForms$Senses" "atoms" "[I" : Cond) ∈ sf_T := sf_mem1 90 rfl rfl
theorem tw_131 : (.fieldLink "StereoForms$Senses" 15 "StereoForms$Senses" "bonds" "[I" : Cond) ∈ sf_T := sf_mem1 91 rfl rfl
theorem tw_132 : (.fieldLink "StereoForms$Numbering" 58 "StereoForms$Senses" "bonds" "[I" : Cond) ∈ sf_T := sf_mem1 92 rfl rfl
theorem tw_133 : (.fieldLink "StereoForms$Senses" 18 "StereoForms$Senses" "hinges" "[Z" : Cond) ∈ sf_T := sf_mem1 93 rfl rfl
theorem tw_134 : (.fieldLink "StereoForms$Numbering" 44 "StereoForms$Senses" "hinges" "[Z" : Cond) ∈ sf_T := sf_mem1 94 rfl rfl
theorem tw_135 : (.fieldLink "StereoForms$Senses" 22 "StereoForms$Senses" "around" "[I" : Cond) ∈ sf_T := sf_mem1 95 rfl rfl
theorem tw_145 : (.arrayClass Jvm.ClassFile.FieldType.boolean : Cond) ∈ sf_T := sf_mem1 105 rfl rfl
theorem tw_146 : (.classLink "StereoForms" 28 "StereoForms$Search" : Cond) ∈ sf_T := sf_mem1 106 rfl rfl
theorem tw_147 : (.instantiable "StereoForms$Search" 5 : Cond) ∈ sf_T := sf_mem1 107 rfl rfl
theorem tw_149 : (.instanceMethod yX3_init : Cond) ∈ sf_T := sf_mem1 109 rfl rfl
theorem tw_150 : (.code yX3_init prog_5_method_1_code 1 (Option.none : Option Jvm.ClassFile.FieldType) : Cond) ∈ sf_T := sf_mem1 110 rfl rfl
theorem tw_151 : (.methodLink "StereoForms$Search" 3 ⟨"java/lang/Object", "<init>", "()V"⟩ : Cond) ∈ sf_T := sf_mem1 111 rfl rfl
theorem tw_152 : (.classLink "StereoForms$Search" 15 "StereoForms$Numbering" : Cond) ∈ sf_T := sf_mem1 112 rfl rfl
theorem tw_153 : (.instantiable "StereoForms$Numbering" 2 : Cond) ∈ sf_T := sf_mem1 113 rfl rfl
theorem tw_155 : (.instanceMethod yX2_init : Cond) ∈ sf_T := sf_mem1 115 rfl rfl
theorem tw_156 : (.code yX2_init prog_4_method_1_code 1 (Option.none : Option Jvm.ClassFile.FieldType) : Cond) ∈ sf_T := sf_mem1 116 rfl rfl
theorem tw_157 : (.methodLink "StereoForms$Numbering" 3 ⟨"java/lang/Object", "<init>", "()V"⟩ : Cond) ∈ sf_T := sf_mem1 117 rfl rfl
theorem tw_158 : (.fieldLink "StereoForms$Numbering" 9 "StereoForms$Numbering" "atoms" "[I" : Cond) ∈ sf_T := sf_mem1 118 rfl rfl
theorem tw_159 : (.fieldLink "StereoForms$Text" 24 "StereoForms$Numbering" "atoms" "[I" : Cond) ∈ sf_T := sf_mem1 119 rfl rfl
theorem tw_160 : (.fieldLink "StereoForms$Search" 102 "StereoForms$Numbering" "atoms" "[I" : Cond) ∈ sf_T := sf_mem1 120 rfl rfl
theorem tw_161 : (.fieldLink "StereoForms$Numbering" 15 "StereoForms$Numbering" "numbers" "[I" : Cond) ∈ sf_T := sf_mem1 121 rfl rfl
theorem tw_162 : (.fieldLink "StereoForms$Search" 71 "StereoForms$Numbering" "numbers" "[I" : Cond) ∈ sf_T := sf_mem1 122 rfl rfl
theorem tw_168 : (.constant "StereoForms$Search" 28 (2147483647 : Int32) : Cond) ∈ sf_T := sf_mem1 128 rfl rfl
theorem tw_169 : (.fieldLink "StereoForms$Search" 9 "StereoForms$Search" "rows" "[I" : Cond) ∈ sf_T := sf_mem1 129 rfl rfl
theorem tw_170 : (.fieldLink "StereoForms" 196 "StereoForms$Search" "rows" "[I" : Cond) ∈ sf_T := sf_mem1 130 rfl rfl
theorem tw_171 : (.fieldLink "StereoForms$Search" 18 "StereoForms$Search" "best" "LStereoForms$Numbering;" : Cond) ∈ sf_T := sf_mem1 131 rfl rfl
theorem tw_172 : (.fieldLink "StereoForms" 201 "StereoForms$Search" "best" "LStereoForms$Numbering;" : Cond) ∈ sf_T := sf_mem1 132 rfl rfl
theorem tw_173 : (.fieldLink "StereoForms$Search" 22 "StereoForms$Search" "trial" "LStereoForms$Numbering;" : Cond) ∈ sf_T := sf_mem1 133 rfl rfl
theorem tw_174 : (.fieldLink "StereoForms$Search" 25 "StereoForms$Search" "heads" "[I" : Cond) ∈ sf_T := sf_mem1 134 rfl rfl
theorem tw_175 : (.fieldLink "StereoForms$Search" 29 "StereoForms$Search" "least" "I" : Cond) ∈ sf_T := sf_mem1 135 rfl rfl
theorem tw_187 : (.classLink "StereoForms" 35 "StereoForms$Form" : Cond) ∈ sf_T := sf_mem1 147 rfl rfl
theorem tw_188 : (.instantiable "StereoForms$Form" 3 : Cond) ∈ sf_T := sf_mem1 148 rfl rfl
theorem tw_190 : (.instanceMethod yX1_init : Cond) ∈ sf_T := sf_mem1 150 rfl rfl
theorem tw_191 : (.code yX1_init prog_3_method_1_code 1 (Option.none : Option Jvm.ClassFile.FieldType) : Cond) ∈ sf_T := sf_mem1 151 rfl rfl
theorem tw_192 : (.methodLink "StereoForms$Form" 3 ⟨"java/lang/Object", "<init>", "()V"⟩ : Cond) ∈ sf_T := sf_mem1 152 rfl rfl
theorem tw_193 : (.fieldLink "StereoForms$Form" 9 "StereoForms$Form" "atomCount" "I" : Cond) ∈ sf_T := sf_mem1 153 rfl rfl
theorem tw_194 : (.fieldLink "StereoForms" 173 "StereoForms$Form" "atomCount" "I" : Cond) ∈ sf_T := sf_mem1 154 rfl rfl
theorem tw_195 : (.fieldLink "StereoForms$Form" 15 "StereoForms$Form" "rows" "[I" : Cond) ∈ sf_T := sf_mem1 155 rfl rfl
theorem tw_196 : (.fieldLink "StereoForms" 145 "StereoForms$Form" "rows" "[I" : Cond) ∈ sf_T := sf_mem1 156 rfl rfl
theorem tw_197 : (.fieldLink "StereoForms$Form" 19 "StereoForms$Form" "senses" "I" : Cond) ∈ sf_T := sf_mem1 157 rfl rfl
theorem tw_198 : (.fieldLink "StereoForms" 148 "StereoForms$Form" "senses" "I" : Cond) ∈ sf_T := sf_mem1 158 rfl rfl
theorem tw_206 : (.classLink "StereoForms" 45 "StereoForms$Numbering" : Cond) ∈ sf_T := sf_mem1 166 rfl rfl
theorem tw_208 : (.classLink "StereoForms" 52 "StereoForms$Text" : Cond) ∈ sf_T := sf_mem1 168 rfl rfl
theorem tw_209 : (.instantiable "StereoForms$Text" 2 : Cond) ∈ sf_T := sf_mem1 169 rfl rfl
theorem tw_211 : (.instanceMethod yX5_init : Cond) ∈ sf_T := sf_mem1 171 rfl rfl
theorem tw_212 : (.code yX5_init prog_7_method_1_code 1 (Option.none : Option Jvm.ClassFile.FieldType) : Cond) ∈ sf_T := sf_mem1 172 rfl rfl
theorem tw_213 : (.methodLink "StereoForms$Text" 3 ⟨"java/lang/Object", "<init>", "()V"⟩ : Cond) ∈ sf_T := sf_mem1 173 rfl rfl
theorem tw_214 : (.fieldLink "StereoForms$Text" 9 "StereoForms$Text" "characters" "[C" : Cond) ∈ sf_T := sf_mem1 174 rfl rfl
theorem tw_215 : (.fieldLink "StereoForms" 185 "StereoForms$Text" "characters" "[C" : Cond) ∈ sf_T := sf_mem1 175 rfl rfl
theorem tw_216 : (.fieldLink "StereoForms$Text" 15 "StereoForms$Text" "length" "I" : Cond) ∈ sf_T := sf_mem1 176 rfl rfl
theorem tw_217 : (.fieldLink "StereoForms" 182 "StereoForms$Text" "length" "I" : Cond) ∈ sf_T := sf_mem1 177 rfl rfl
theorem tw_223 : (.arrayClass Jvm.ClassFile.FieldType.char : Cond) ∈ sf_T := sf_mem1 183 rfl rfl
theorem tw_224 : (.fieldLink "StereoForms" 14 "StereoForms" "drawing" "LStereoForms$Drawing;" : Cond) ∈ sf_T := sf_mem1 184 rfl rfl
theorem tw_225 : (.fieldLink "StereoForms" 21 "StereoForms" "own" "LStereoForms$Senses;" : Cond) ∈ sf_T := sf_mem1 185 rfl rfl
theorem tw_226 : (.fieldLink "StereoForms" 25 "StereoForms" "turned" "LStereoForms$Senses;" : Cond) ∈ sf_T := sf_mem1 186 rfl rfl
theorem tw_227 : (.fieldLink "StereoForms" 31 "StereoForms" "search" "LStereoForms$Search;" : Cond) ∈ sf_T := sf_mem1 187 rfl rfl
theorem tw_228 : (.fieldLink "StereoForms" 38 "StereoForms" "form" "LStereoForms$Form;" : Cond) ∈ sf_T := sf_mem1 188 rfl rfl
theorem tw_229 : (.fieldLink "StereoForms" 42 "StereoForms" "kept" "LStereoForms$Form;" : Cond) ∈ sf_T := sf_mem1 189 rfl rfl
theorem tw_230 : (.fieldLink "StereoForms" 48 "StereoForms" "formNumbering" "LStereoForms$Numbering;" : Cond) ∈ sf_T := sf_mem1 190 rfl rfl
theorem tw_231 : (.fieldLink "StereoForms" 55 "StereoForms" "text" "LStereoForms$Text;" : Cond) ∈ sf_T := sf_mem1 191 rfl rfl
theorem tw_232 : (.fieldLink "StereoForms" 59 "StereoForms" "found" "[I" : Cond) ∈ sf_T := sf_mem1 192 rfl rfl
theorem tw_233 : (.fieldLink "StereoForms" 63 "StereoForms" "mirroredSenses" "I" : Cond) ∈ sf_T := sf_mem1 193 rfl rfl
theorem tw_234 : (.fieldLink "StereoForms" 67 "StereoForms" "settled" "Z" : Cond) ∈ sf_T := sf_mem1 194 rfl rfl
theorem tw_258 : (.methodLink "StereoFormsLaw" 13 yX6_atom : Cond) ∈ sf_T := sf_mem1 218 rfl rfl
theorem tw_259 : (.instanceMethod yX6_atom : Cond) ∈ sf_T := sf_mem1 219 rfl rfl
theorem tw_260 : (.selects "StereoForms" yX6_atom yX6_atom : Cond) ∈ sf_T := sf_mem1 220 rfl rfl
theorem tw_261 : (.code yX6_atom prog_1_method_2_code 4 (Option.some Jvm.ClassFile.FieldType.int) : Cond) ∈ sf_T := sf_mem1 221 rfl rfl
theorem tw_262 : (.fieldLink "StereoForms" 71 "StereoForms" "VALENCES" "[I" : Cond) ∈ sf_T := sf_mem1 222 rfl rfl
theorem tw_264 : (.methodLink "StereoForms" 74 yX6_isPlace : Cond) ∈ sf_T := sf_mem1 224 rfl rfl
theorem tw_265 : (.static yX6_isPlace : Cond) ∈ sf_T := sf_mem1 225 rfl rfl
theorem tw_266 : (.code yX6_isPlace prog_1_method_19_code 2 (Option.some Jvm.ClassFile.FieldType.boolean) : Cond) ∈ sf_T := sf_mem1 226 rfl rfl
theorem tw_267 : (.methodLink "StereoForms" 81 yX0_addAtom : Cond) ∈ sf_T := sf_mem1 227 rfl rfl
theorem tw_268 : (.instanceMethod yX0_addAtom : Cond) ∈ sf_T := sf_mem1 228 rfl rfl
theorem tw_269 : (.selects "StereoForms$Drawing" yX0_addAtom yX0_addAtom : Cond) ∈ sf_T := sf_mem1 229 rfl rfl
theorem tw_270 : (.code yX0_addAtom prog_2_method_8_code 5 (Option.some Jvm.ClassFile.FieldType.int) : Cond) ∈ sf_T := sf_mem1 230 rfl rfl
theorem tw_271 : (.methodLink "StereoFormsLaw" 18 yX6_bond : Cond) ∈ sf_T := sf_mem1 231 rfl rfl
theorem tw_272 : (.instanceMethod yX6_bond : Cond) ∈ sf_T := sf_mem1 232 rfl rfl
theorem tw_273 : (.selects "StereoForms" yX6_bond yX6_bond : Cond) ∈ sf_T := sf_mem1 233 rfl rfl
theorem tw_274 : (.code yX6_bond prog_1_method_3_code 5 (Option.some Jvm.ClassFile.FieldType.int) : Cond) ∈ sf_T := sf_mem1 234 rfl rfl
theorem tw_275 : (.methodLink "StereoForms" 85 yX0_hasAtom : Cond) ∈ sf_T := sf_mem1 235 rfl rfl
theorem tw_276 : (.instanceMethod yX0_hasAtom : Cond) ∈ sf_T := sf_mem1 236 rfl rfl
theorem tw_277 : (.selects "StereoForms$Drawing" yX0_hasAtom yX0_hasAtom : Cond) ∈ sf_T := sf_mem1 237 rfl rfl
theorem tw_278 : (.code yX0_hasAtom prog_2_method_2_code 2 (Option.some Jvm.ClassFile.FieldType.boolean) : Cond) ∈ sf_T := sf_mem1 238 rfl rfl
theorem tw_279 : (.methodLink "StereoForms" 89 yX6_isMark : Cond) ∈ sf_T := sf_mem1 239 rfl rfl
theorem tw_280 : (.static yX6_isMark : Cond) ∈ sf_T := sf_mem2 0 rfl rfl
theorem tw_281 : (.code yX6_isMark prog_1_method_20_code 1 (Option.some Jvm.ClassFile.FieldType.boolean) : Cond) ∈ sf_T := sf_mem2 1 rfl rfl
theorem tw_282 : (.methodLink "StereoForms" 92 yX0_areBonded : Cond) ∈ sf_T := sf_mem2 2 rfl rfl
theorem tw_283 : (.instanceMethod yX0_areBonded : Cond) ∈ sf_T := sf_mem2 3 rfl rfl
theorem tw_284 : (.selects "StereoForms$Drawing" yX0_areBonded yX0_areBonded : Cond) ∈ sf_T := sf_mem2 4 rfl rfl
theorem tw_285 : (.code yX0_areBonded prog_2_method_6_code 3 (Option.some Jvm.ClassFile.FieldType.boolean) : Cond) ∈ sf_T := sf_mem2 5 rfl rfl
theorem tw_286 : (.methodLink "StereoForms" 98 yX0_freeValence : Cond) ∈ sf_T := sf_mem2 6 rfl rfl
theorem tw_287 : (.instanceMethod yX0_freeValence : Cond) ∈ sf_T := sf_mem2 7 rfl rfl
theorem tw_288 : (.selects "StereoForms$Drawing" yX0_freeValence yX0_freeValence : Cond) ∈ sf_T := sf_mem2 8 rfl rfl
theorem tw_289 : (.code yX0_freeValence prog_2_method_13_code 4 (Option.some Jvm.ClassFile.FieldType.int) : Cond) ∈ sf_T := sf_mem2 9 rfl rfl
theorem tw_291 : (.methodLink "StereoForms$Drawing" 54 yX0_orderOf : Cond) ∈ sf_T := sf_mem2 11 rfl rfl
theorem tw_292 : (.instanceMethod yX0_orderOf : Cond) ∈ sf_T := sf_mem2 12 rfl rfl
theorem tw_293 : (.selects "StereoForms$Drawing" yX0_orderOf yX0_orderOf : Cond) ∈ sf_T := sf_mem2 13 rfl rfl
theorem tw_294 : (.code yX0_orderOf prog_2_method_7_code 4 (Option.some Jvm.ClassFile.FieldType.int) : Cond) ∈ sf_T := sf_mem2 14 rfl rfl
theorem tw_295 : (.methodLink "StereoForms" 102 yX0_addBond : Cond) ∈ sf_T := sf_mem2 15 rfl rfl
theorem tw_296 : (.instanceMethod yX0_addBond : Cond) ∈ sf_T := sf_mem2 16 rfl rfl
theorem tw_297 : (.selects "StereoForms$Drawing" yX0_addBond yX0_addBond : Cond) ∈ sf_T := sf_mem2 17 rfl rfl
theorem tw_298 : (.code yX0_addBond prog_2_method_9_code 6 (Option.some Jvm.ClassFile.FieldType.int) : Cond) ∈ sf_T := sf_mem2 18 rfl rfl
theorem tw_299 : (.methodLink "StereoFormsLaw" 23 yX6_move : Cond) ∈ sf_T := sf_mem2 19 rfl rfl
theorem tw_300 : (.instanceMethod yX6_move : Cond) ∈ sf_T := sf_mem2 20 rfl rfl
theorem tw_301 : (.selects "StereoForms" yX6_move yX6_move : Cond) ∈ sf_T := sf_mem2 21 rfl rfl
theorem tw_302 : (.code yX6_move prog_1_method_4_code 4 (Option.some Jvm.ClassFile.FieldType.boolean) : Cond) ∈ sf_T := sf_mem2 22 rfl rfl
theorem tw_303 : (.methodLink "StereoFormsLaw" 28 yX6_mark : Cond) ∈ sf_T := sf_mem2 23 rfl rfl
theorem tw_304 : (.instanceMethod yX6_mark : Cond) ∈ sf_T := sf_mem2 24 rfl rfl
theorem tw_305 : (.selects "StereoForms" yX6_mark yX6_mark : Cond) ∈ sf_T := sf_mem2 25 rfl rfl
theorem tw_306 : (.code yX6_mark prog_1_method_5_code 4 (Option.some Jvm.ClassFile.FieldType.boolean) : Cond) ∈ sf_T := sf_mem2 26 rfl rfl
theorem tw_307 : (.methodLink "StereoForms" 112 yX0_hasBond : Cond) ∈ sf_T := sf_mem2 27 rfl rfl
theorem tw_308 : (.instanceMethod yX0_hasBond : Cond) ∈ sf_T := sf_mem2 28 rfl rfl
theorem tw_309 : (.selects "StereoForms$Drawing" yX0_hasBond yX0_hasBond : Cond) ∈ sf_T := sf_mem2 29 rfl rfl
theorem tw_310 : (.code yX0_hasBond prog_2_method_3_code 2 (Option.some Jvm.ClassFile.FieldType.boolean) : Cond) ∈ sf_T := sf_mem2 30 rfl rfl
theorem tw_311 : (.methodLink "StereoForms" 115 yX0_isEnd : Cond) ∈ sf_T := sf_mem2 31 rfl rfl
theorem tw_312 : (.instanceMethod yX0_isEnd : Cond) ∈ sf_T := sf_mem2 32 rfl rfl
theorem tw_313 : (.selects "StereoForms$Drawing" yX0_isEnd yX0_isEnd : Cond) ∈ sf_T := sf_mem2 33 rfl rfl
theorem tw_314 : (.code yX0_isEnd prog_2_method_4_code 3 (Option.some Jvm.ClassFile.FieldType.boolean) : Cond) ∈ sf_T := sf_mem2 34 rfl rfl
theorem tw_315 : (.methodLink "StereoForms" 118 yX0_setMark : Cond) ∈ sf_T := sf_mem2 35 rfl rfl
theorem tw_316 : (.instanceMethod yX0_setMark : Cond) ∈ sf_T := sf_mem2 36 rfl rfl
theorem tw_317 : (.selects "StereoForms$Drawing" yX0_setMark yX0_setMark : Cond) ∈ sf_T := sf_mem2 37 rfl rfl
theorem tw_318 : (.code yX0_setMark prog_2_method_10_code 5 (Option.none : Option Jvm.ClassFile.FieldType) : Cond) ∈ sf_T := sf_mem2 38 rfl rfl
theorem tw_319 : (.methodLink "StereoFormsLaw" 32 yX6_clear : Cond) ∈ sf_T := sf_mem2 39 rfl rfl
theorem tw_320 : (.instanceMethod yX6_clear : Cond) ∈ sf_T := sf_mem2 40 rfl rfl
theorem tw_321 : (.selects "StereoForms" yX6_clear yX6_clear : Cond) ∈ sf_T := sf_mem2 41 rfl rfl
theorem tw_322 : (.code yX6_clear prog_1_method_6_code 2 (Option.some Jvm.ClassFile.FieldType.int) : Cond) ∈ sf_T := sf_mem2 42 rfl rfl
theorem tw_323 : (.methodLink "StereoForms" 122 yX0_removeAll : Cond) ∈ sf_T := sf_mem2 43 rfl rfl
theorem tw_324 : (.instanceMethod yX0_removeAll : Cond) ∈ sf_T := sf_mem2 44 rfl rfl
theorem tw_325 : (.selects "StereoForms$Drawing" yX0_removeAll yX0_removeAll : Cond) ∈ sf_T := sf_mem2 45 rfl rfl
theorem tw_326 : (.code yX0_removeAll prog_2_method_12_code 2 (Option.none : Option Jvm.ClassFile.FieldType) : Cond) ∈ sf_T := sf_mem2 46 rfl rfl
theorem tw_327 : (.methodLink "StereoForms$Drawing" 45 yJ7_fill : Cond) ∈ sf_T := sf_mem2 47 rfl rfl
theorem tw_328 : (.static yJ7_fill : Cond) ∈ sf_T := sf_mem2 48 rfl rfl
theorem tw_329 : (.code yJ7_fill prog_15_method_103_code 4 (Option.none : Option Jvm.ClassFile.FieldType) : Cond) ∈ sf_T := sf_mem2 49 rfl rfl
theorem tw_330 : (.methodLink "StereoFormsLaw" 37 yX6_flip : Cond) ∈ sf_T := sf_mem2 50 rfl rfl
theorem tw_331 : (.instanceMethod yX6_flip : Cond) ∈ sf_T := sf_mem2 51 rfl rfl
theorem tw_332 : (.selects "StereoForms" yX6_flip yX6_flip : Cond) ∈ sf_T := sf_mem2 52 rfl rfl
theorem tw_333 : (.code yX6_flip prog_1_method_7_code 1 (Option.some Jvm.ClassFile.FieldType.int) : Cond) ∈ sf_T := sf_mem2 53 rfl rfl
theorem tw_334 : (.methodLink "StereoForms" 125 yX0_swapMarks : Cond) ∈ sf_T := sf_mem2 54 rfl rfl
theorem tw_335 : (.instanceMethod yX0_swapMarks : Cond) ∈ sf_T := sf_mem2 55 rfl rfl
theorem tw_336 : (.selects "StereoForms$Drawing" yX0_swapMarks yX0_swapMarks : Cond) ∈ sf_T := sf_mem2 56 rfl rfl
theorem tw_337 : (.code yX0_swapMarks prog_2_method_11_code 3 (Option.some Jvm.ClassFile.FieldType.int) : Cond) ∈ sf_T := sf_mem2 57 rfl rfl
theorem tw_338 : (.methodLink "StereoFormsLaw" 41 yX6_hydrogens : Cond) ∈ sf_T := sf_mem2 58 rfl rfl
theorem tw_339 : (.instanceMethod yX6_hydrogens : Cond) ∈ sf_T := sf_mem2 59 rfl rfl
theorem tw_340 : (.selects "StereoForms" yX6_hydrogens yX6_hydrogens : Cond) ∈ sf_T := sf_mem2 60 rfl rfl
theorem tw_341 : (.code yX6_hydrogens prog_1_method_8_code 2 (Option.some Jvm.ClassFile.FieldType.int) : Cond) ∈ sf_T := sf_mem2 61 rfl rfl
theorem tw_342 : (.methodLink "StereoFormsLaw" 46 yX6_sense : Cond) ∈ sf_T := sf_mem2 62 rfl rfl
theorem tw_343 : (.instanceMethod yX6_sense : Cond) ∈ sf_T := sf_mem2 63 rfl rfl
theorem tw_344 : (.selects "StereoForms" yX6_sense yX6_sense : Cond) ∈ sf_T := sf_mem2 64 rfl rfl
theorem tw_345 : (.code yX6_sense prog_1_method_9_code 2 (Option.some Jvm.ClassFile.FieldType.int) : Cond) ∈ sf_T := sf_mem2 65 rfl rfl
theorem tw_346 : (.methodLink "StereoForms" 129 yX4_senseOfAtom : Cond) ∈ sf_T := sf_mem2 66 rfl rfl
theorem tw_347 : (.instanceMethod yX4_senseOfAtom : Cond) ∈ sf_T := sf_mem2 67 rfl rfl
theorem tw_348 : (.selects "StereoForms$Senses" yX4_senseOfAtom yX4_senseOfAtom : Cond) ∈ sf_T := sf_mem2 68 rfl rfl
theorem tw_349 : (.code yX4_senseOfAtom prog_6_method_7_code 5 (Option.some Jvm.ClassFile.FieldType.int) : Cond) ∈ sf_T := sf_mem2 69 rfl rfl
theorem tw_350 : (.methodLink "StereoForms$Senses" 51 yX0_isCentre : Cond) ∈ sf_T := sf_mem2 70 rfl rfl
theorem tw_351 : (.instanceMethod yX0_isCentre : Cond) ∈ sf_T := sf_mem2 71 rfl rfl
theorem tw_352 : (.selects "StereoForms$Drawing" yX0_isCentre yX0_isCentre : Cond) ∈ sf_T := sf_mem2 72 rfl rfl
theorem tw_353 : (.code yX0_isCentre prog_2_method_15_code 3 (Option.some Jvm.ClassFile.FieldType.boolean) : Cond) ∈ sf_T := sf_mem2 73 rfl rfl
theorem tw_354 : (.methodLink "StereoForms$Drawing" 62 yX0_singleBonds : Cond) ∈ sf_T := sf_mem2 74 rfl rfl
theorem tw_356 : (.instanceMethod yX0_singleBonds : Cond) ∈ sf_T := sf_mem2 76 rfl rfl
theorem tw_357 : (.code yX0_singleBonds prog_2_method_18_code 6 (Option.some Jvm.ClassFile.FieldType.int) : Cond) ∈ sf_T := sf_mem2 77 rfl rfl
theorem tw_358 : (.methodLink "StereoForms$Senses" 54 yX0_areBonded : Cond) ∈ sf_T := sf_mem2 78 rfl rfl
theorem tw_359 : (.methodLink "StereoForms$Senses" 58 yX4_determinant : Cond) ∈ sf_T := sf_mem2 79 rfl rfl
theorem tw_361 : (.instanceMethod yX4_determinant : Cond) ∈ sf_T := sf_mem2 81 rfl rfl
theorem tw_362 : (.code yX4_determinant prog_6_method_8_code 16 (Option.some Jvm.ClassFile.FieldType.int) : Cond) ∈ sf_T := sf_mem2 82 rfl rfl
theorem tw_363 : (.methodLink "StereoForms$Senses" 72 yX0_height : Cond) ∈ sf_T := sf_mem2 83 rfl rfl
theorem tw_364 : (.instanceMethod yX0_height : Cond) ∈ sf_T := sf_mem2 84 rfl rfl
theorem tw_365 : (.selects "StereoForms$Drawing" yX0_height yX0_height : Cond) ∈ sf_T := sf_mem2 85 rfl rfl
theorem tw_366 : (.code yX0_height prog_2_method_19_code 4 (Option.some Jvm.ClassFile.FieldType.int) : Cond) ∈ sf_T := sf_mem2 86 rfl rfl
theorem tw_367 : (.methodLink "StereoForms$Drawing" 69 yX0_areBonded : Cond) ∈ sf_T := sf_mem2 87 rfl rfl
theorem tw_368 : (.methodLink "StereoForms$Drawing" 72 yX0_bondOf : Cond) ∈ sf_T := sf_mem2 88 rfl rfl
theorem tw_369 : (.instanceMethod yX0_bondOf : Cond) ∈ sf_T := sf_mem2 89 rfl rfl
theorem tw_370 : (.selects "StereoForms$Drawing" yX0_bondOf yX0_bondOf : Cond) ∈ sf_T := sf_mem2 90 rfl rfl
theorem tw_371 : (.code yX0_bondOf prog_2_method_5_code 3 (Option.some Jvm.ClassFile.FieldType.int) : Cond) ∈ sf_T := sf_mem2 91 rfl rfl
theorem tw_373 : (.static yX6_sign : Cond) ∈ sf_T := sf_mem2 93 rfl rfl
theorem tw_374 : (.code yX6_sign prog_1_method_21_code 1 (Option.some Jvm.ClassFile.FieldType.int) : Cond) ∈ sf_T := sf_mem2 94 rfl rfl
theorem tw_375 : (.methodLink "StereoForms" 133 yX0_isCentre : Cond) ∈ sf_T := sf_mem2 95 rfl rfl
theorem tw_376 : (.methodLink "StereoFormsLaw" 50 yX6_turn : Cond) ∈ sf_T := sf_mem2 96 rfl rfl
theorem tw_377 : (.instanceMethod yX6_turn : Cond) ∈ sf_T := sf_mem2 97 rfl rfl
theorem tw_378 : (.selects "StereoForms" yX6_turn yX6_turn : Cond) ∈ sf_T := sf_mem2 98 rfl rfl
theorem tw_379 : (.code yX6_turn prog_1_method_10_code 2 (Option.some Jvm.ClassFile.FieldType.int) : Cond) ∈ sf_T := sf_mem2 99 rfl rfl
theorem tw_380 : (.methodLink "StereoForms" 136 yX4_senseOfBond : Cond) ∈ sf_T := sf_mem2 100 rfl rfl
theorem tw_381 : (.instanceMethod yX4_senseOfBond : Cond) ∈ sf_T := sf_mem2 101 rfl rfl
theorem tw_382 : (.selects "StereoForms$Senses" yX4_senseOfBond yX4_senseOfBond : Cond) ∈ sf_T := sf_mem2 102 rfl rfl
theorem tw_383 : (.code yX4_senseOfBond prog_6_method_9_code 5 (Option.some Jvm.ClassFile.FieldType.int) : Cond) ∈ sf_T := sf_mem2 103 rfl rfl
theorem tw_384 : (.methodLink "StereoForms$Senses" 41 yX0_isHinge : Cond) ∈ sf_T := sf_mem2 104 rfl rfl
theorem tw_385 : (.instanceMethod yX0_isHinge : Cond) ∈ sf_T := sf_mem2 105 rfl rfl
theorem tw_386 : (.selects "StereoForms$Drawing" yX0_isHinge yX0_isHinge : Cond) ∈ sf_T := sf_mem2 106 rfl rfl
theorem tw_387 : (.code yX0_isHinge prog_2_method_16_code 2 (Option.some Jvm.ClassFile.FieldType.boolean) : Cond) ∈ sf_T := sf_mem2 107 rfl rfl
theorem tw_388 : (.methodLink "StereoForms$Drawing" 65 yX0_isHingeEnd : Cond) ∈ sf_T := sf_mem2 108 rfl rfl
theorem tw_390 : (.instanceMethod yX0_isHingeEnd : Cond) ∈ sf_T := sf_mem2 110 rfl rfl
theorem tw_391 : (.code yX0_isHingeEnd prog_2_method_17_code 4 (Option.some Jvm.ClassFile.FieldType.boolean) : Cond) ∈ sf_T := sf_mem2 111 rfl rfl
theorem tw_392 : (.methodLink "StereoForms$Senses" 82 yJ9_min : Cond) ∈ sf_T := sf_mem2 112 rfl rfl
theorem tw_393 : (.static yJ9_min : Cond) ∈ sf_T := sf_mem2 113 rfl rfl
theorem tw_394 : (.code yJ9_min prog_10_method_69_code 2 (Option.some Jvm.ClassFile.FieldType.int) : Cond) ∈ sf_T := sf_mem2 114 rfl rfl
theorem tw_395 : (.methodLink "StereoForms$Senses" 87 yJ9_max : Cond) ∈ sf_T := sf_mem2 115 rfl rfl
theorem tw_396 : (.static yJ9_max : Cond) ∈ sf_T := sf_mem2 116 rfl rfl
theorem tw_397 : (.code yJ9_max prog_10_method_65_code 2 (Option.some Jvm.ClassFile.FieldType.int) : Cond) ∈ sf_T := sf_mem2 117 rfl rfl
theorem tw_398 : (.methodLink "StereoForms$Senses" 90 yX4_sideOfEnd : Cond) ∈ sf_T := sf_mem2 118 rfl rfl
theorem tw_399 : (.static yX4_sideOfEnd : Cond) ∈ sf_T := sf_mem2 119 rfl rfl
theorem tw_400 : (.code yX4_sideOfEnd prog_6_method_10_code 7 (Option.some Jvm.ClassFile.FieldType.int) : Cond) ∈ sf_T := sf_mem2 120 rfl rfl
theorem tw_401 : (.methodLink "StereoForms$Senses" 94 yX0_side : Cond) ∈ sf_T := sf_mem2 121 rfl rfl
theorem tw_402 : (.instanceMethod yX0_side : Cond) ∈ sf_T := sf_mem2 122 rfl rfl
theorem tw_403 : (.selects "StereoForms$Drawing" yX0_side yX0_side : Cond) ∈ sf_T := sf_mem2 123 rfl rfl
theorem tw_404 : (.code yX0_side prog_2_method_20_code 4 (Option.some Jvm.ClassFile.FieldType.int) : Cond) ∈ sf_T := sf_mem2 124 rfl rfl
theorem tw_406 : (.methodLink "StereoForms" 139 yX0_isHinge : Cond) ∈ sf_T := sf_mem2 126 rfl rfl
theorem tw_407 : (.methodLink "StereoFormsLaw" 54 yX6_row : Cond) ∈ sf_T := sf_mem2 127 rfl rfl
theorem tw_408 : (.instanceMethod yX6_row : Cond) ∈ sf_T := sf_mem2 128 rfl rfl
theorem tw_409 : (.selects "StereoForms" yX6_row yX6_row : Cond) ∈ sf_T := sf_mem2 129 rfl rfl
theorem tw_410 : (.code yX6_row prog_1_method_11_code 2 (Option.some Jvm.ClassFile.FieldType.int) : Cond) ∈ sf_T := sf_mem2 130 rfl rfl
theorem tw_411 : (.methodLink "StereoForms" 142 yX6_settle : Cond) ∈ sf_T := sf_mem2 131 rfl rfl
theorem tw_413 : (.instanceMethod yX6_settle : Cond) ∈ sf_T := sf_mem2 133 rfl rfl
theorem tw_414 : (.code yX6_settle prog_1_method_22_code 2 (Option.none : Option Jvm.ClassFile.FieldType) : Cond) ∈ sf_T := sf_mem2 134 rfl rfl
theorem tw_415 : (.methodLink "StereoForms" 189 yX4_readFrom : Cond) ∈ sf_T := sf_mem2 135 rfl rfl
theorem tw_416 : (.instanceMethod yX4_readFrom : Cond) ∈ sf_T := sf_mem2 136 rfl rfl
theorem tw_417 : (.selects "StereoForms$Senses" yX4_readFrom yX4_readFrom : Cond) ∈ sf_T := sf_mem2 137 rfl rfl
theorem tw_418 : (.code yX4_readFrom prog_6_method_2_code 3 (Option.none : Option Jvm.ClassFile.FieldType) : Cond) ∈ sf_T := sf_mem2 138 rfl rfl
theorem tw_419 : (.methodLink "StereoForms$Senses" 31 yX4_senseOfAtom : Cond) ∈ sf_T := sf_mem2 139 rfl rfl
theorem tw_420 : (.methodLink "StereoForms$Senses" 38 yX4_senseOfBond : Cond) ∈ sf_T := sf_mem2 140 rfl rfl
theorem tw_421 : (.methodLink "StereoForms" 193 yX3_begin : Cond) ∈ sf_T := sf_mem2 141 rfl rfl
theorem tw_422 : (.instanceMethod yX3_begin : Cond) ∈ sf_T := sf_mem2 142 rfl rfl
theorem tw_423 : (.selects "StereoForms$Search" yX3_begin yX3_begin : Cond) ∈ sf_T := sf_mem2 143 rfl rfl
theorem tw_424 : (.code yX3_begin prog_5_method_2_code 3 (Option.none : Option Jvm.ClassFile.FieldType) : Cond) ∈ sf_T := sf_mem2 144 rfl rfl
theorem tw_425 : (.methodLink "StereoForms$Search" 33 yJ7_fill : Cond) ∈ sf_T := sf_mem2 145 rfl rfl
theorem tw_426 : (.constant "StereoForms$Search" 44 (65536 : Int32) : Cond) ∈ sf_T := sf_mem2 146 rfl rfl
theorem tw_427 : (.methodLink "StereoForms$Search" 48 yX0_freeValence : Cond) ∈ sf_T := sf_mem2 147 rfl rfl
theorem tw_428 : (.methodLink "StereoForms" 163 yX3_leastSenses : Cond) ∈ sf_T := sf_mem2 148 rfl rfl
theorem tw_429 : (.instanceMethod yX3_leastSenses : Cond) ∈ sf_T := sf_mem2 149 rfl rfl
theorem tw_430 : (.selects "StereoForms$Search" yX3_leastSenses yX3_leastSenses : Cond) ∈ sf_T := sf_mem2 150 rfl rfl
theorem tw_431 : (.code yX3_leastSenses prog_5_method_3_code 3 (Option.some Jvm.ClassFile.FieldType.int) : Cond) ∈ sf_T := sf_mem2 151 rfl rfl
theorem tw_432 : (.methodLink "StereoForms$Search" 52 yX2_removeAll : Cond) ∈ sf_T := sf_mem2 152 rfl rfl
theorem tw_433 : (.instanceMethod yX2_removeAll : Cond) ∈ sf_T := sf_mem2 153 rfl rfl
theorem tw_434 : (.selects "StereoForms$Numbering" yX2_removeAll yX2_removeAll : Cond) ∈ sf_T := sf_mem2 154 rfl rfl
theorem tw_435 : (.code yX2_removeAll prog_4_method_2_code 1 (Option.none : Option Jvm.ClassFile.FieldType) : Cond) ∈ sf_T := sf_mem2 155 rfl rfl
theorem tw_436 : (.methodLink "StereoForms$Numbering" 18 yJ7_fill : Cond) ∈ sf_T := sf_mem2 156 rfl rfl
theorem tw_437 : (.methodLink "StereoForms$Search" 55 yX3_place : Cond) ∈ sf_T := sf_mem2 157 rfl rfl
theorem tw_439 : (.instanceMethod yX3_place : Cond) ∈ sf_T := sf_mem2 159 rfl rfl
theorem tw_440 : (.code yX3_place prog_5_method_4_code 6 (Option.none : Option Jvm.ClassFile.FieldType) : Cond) ∈ sf_T := sf_mem2 160 rfl rfl
theorem tw_441 : (.methodLink "StereoForms$Search" 59 yX3_weigh : Cond) ∈ sf_T := sf_mem2 161 rfl rfl
theorem tw_443 : (.instanceMethod yX3_weigh : Cond) ∈ sf_T := sf_mem2 163 rfl rfl
theorem tw_444 : (.code yX3_weigh prog_5_method_5_code 4 (Option.none : Option Jvm.ClassFile.FieldType) : Cond) ∈ sf_T := sf_mem2 164 rfl rfl
theorem tw_445 : (.methodLink "StereoForms$Search" 88 yX2_code : Cond) ∈ sf_T := sf_mem2 165 rfl rfl
theorem tw_446 : (.instanceMethod yX2_code : Cond) ∈ sf_T := sf_mem2 166 rfl rfl
theorem tw_447 : (.selects "StereoForms$Numbering" yX2_code yX2_code : Cond) ∈ sf_T := sf_mem2 167 rfl rfl
theorem tw_448 : (.code yX2_code prog_4_method_6_code 7 (Option.some Jvm.ClassFile.FieldType.int) : Cond) ∈ sf_T := sf_mem2 168 rfl rfl
theorem tw_449 : (.methodLink "StereoForms$Numbering" 36 yX2_senseOfAtom : Cond) ∈ sf_T := sf_mem2 169 rfl rfl
theorem tw_450 : (.instanceMethod yX2_senseOfAtom : Cond) ∈ sf_T := sf_mem2 170 rfl rfl
theorem tw_451 : (.selects "StereoForms$Numbering" yX2_senseOfAtom yX2_senseOfAtom : Cond) ∈ sf_T := sf_mem2 171 rfl rfl
theorem tw_452 : (.code yX2_senseOfAtom prog_4_method_7_code 5 (Option.some Jvm.ClassFile.FieldType.int) : Cond) ∈ sf_T := sf_mem2 172 rfl rfl
theorem tw_453 : (.methodLink "StereoForms$Numbering" 54 yX2_orderSign : Cond) ∈ sf_T := sf_mem2 173 rfl rfl
theorem tw_455 : (.instanceMethod yX2_orderSign : Cond) ∈ sf_T := sf_mem2 175 rfl rfl
theorem tw_456 : (.code yX2_orderSign prog_4_method_9_code 8 (Option.some Jvm.ClassFile.FieldType.int) : Cond) ∈ sf_T := sf_mem2 176 rfl rfl
theorem tw_457 : (.methodLink "StereoForms$Numbering" 40 yX0_bondOf : Cond) ∈ sf_T := sf_mem2 177 rfl rfl
theorem tw_458 : (.methodLink "StereoForms$Numbering" 50 yX2_senseOfBond : Cond) ∈ sf_T := sf_mem2 178 rfl rfl
theorem tw_459 : (.instanceMethod yX2_senseOfBond : Cond) ∈ sf_T := sf_mem2 179 rfl rfl
theorem tw_460 : (.selects "StereoForms$Numbering" yX2_senseOfBond yX2_senseOfBond : Cond) ∈ sf_T := sf_mem2 180 rfl rfl
theorem tw_461 : (.code yX2_senseOfBond prog_4_method_8_code 7 (Option.some Jvm.ClassFile.FieldType.int) : Cond) ∈ sf_T := sf_mem2 181 rfl rfl
theorem tw_462 : (.methodLink "StereoForms$Search" 92 yX2_copyFrom : Cond) ∈ sf_T := sf_mem2 182 rfl rfl
theorem tw_463 : (.instanceMethod yX2_copyFrom : Cond) ∈ sf_T := sf_mem2 183 rfl rfl
theorem tw_464 : (.selects "StereoForms$Numbering" yX2_copyFrom yX2_copyFrom : Cond) ∈ sf_T := sf_mem2 184 rfl rfl
theorem tw_465 : (.code yX2_copyFrom prog_4_method_5_code 2 (Option.none : Option Jvm.ClassFile.FieldType) : Cond) ∈ sf_T := sf_mem2 185 rfl rfl
theorem tw_466 : (.methodLink "StereoForms$Numbering" 24 ⟨"java/lang/System", "arraycopy", "(Ljava/lang/Object;ILjava/lang/Object;II)V"⟩ : Cond) ∈ sf_T := sf_mem2 186 rfl rfl
theorem tw_467 : (.static ⟨"java/lang/System", "arraycopy", "(Ljava/lang/Object;ILjava/lang/Object;II)V"⟩ : Cond) ∈ sf_T := sf_mem2 187 rfl rfl
theorem tw_468 : (.native ⟨"java/lang/System", "arraycopy", "(Ljava/lang/Object;ILjava/lang/Object;II)V"⟩ : Cond) ∈ sf_T := sf_mem2 188 rfl rfl
theorem tw_469 : (.methodLink "StereoForms$Search" 63 yX3_lowestRow : Cond) ∈ sf_T := sf_mem2 189 rfl rfl
theorem tw_471 : (.instanceMethod yX3_lowestRow : Cond) ∈ sf_T := sf_mem2 191 rfl rfl
theorem tw_472 : (.code yX3_lowestRow prog_5_method_7_code 5 (Option.some Jvm.ClassFile.FieldType.int) : Cond) ∈ sf_T := sf_mem2 192 rfl rfl
theorem tw_473 : (.methodLink "StereoForms$Search" 74 yX3_rowOf : Cond) ∈ sf_T := sf_mem2 193 rfl rfl
theorem tw_475 : (.instanceMethod yX3_rowOf : Cond) ∈ sf_T := sf_mem2 195 rfl rfl
theorem tw_476 : (.code yX3_rowOf prog_5_method_8_code 6 (Option.some Jvm.ClassFile.FieldType.int) : Cond) ∈ sf_T := sf_mem2 196 rfl rfl
theorem tw_477 : (.methodLink "StereoForms$Search" 105 yX0_orderOf : Cond) ∈ sf_T := sf_mem2 197 rfl rfl
theorem tw_478 : (.methodLink "StereoForms$Search" 96 yJ9_min : Cond) ∈ sf_T := sf_mem2 198 rfl rfl
theorem tw_479 : (.methodLink "StereoForms$Search" 67 yX3_lower : Cond) ∈ sf_T := sf_mem2 199 rfl rfl
theorem tw_481 : (.instanceMethod yX3_lower : Cond) ∈ sf_T := sf_mem2 201 rfl rfl
theorem tw_482 : (.code yX3_lower prog_5_method_6_code 4 (Option.none : Option Jvm.ClassFile.FieldType) : Cond) ∈ sf_T := sf_mem2 202 rfl rfl
theorem tw_483 : (.methodLink "StereoForms$Search" 78 yX2_give : Cond) ∈ sf_T := sf_mem2 203 rfl rfl
theorem tw_484 : (.instanceMethod yX2_give : Cond) ∈ sf_T := sf_mem2 204 rfl rfl
theorem tw_485 : (.selects "StereoForms$Numbering" yX2_give yX2_give : Cond) ∈ sf_T := sf_mem2 205 rfl rfl
theorem tw_486 : (.code yX2_give prog_4_method_3_code 3 (Option.none : Option Jvm.ClassFile.FieldType) : Cond) ∈ sf_T := sf_mem2 206 rfl rfl
theorem tw_487 : (.methodLink "StereoForms$Search" 81 yX2_takeBack : Cond) ∈ sf_T := sf_mem2 207 rfl rfl
theorem tw_488 : (.instanceMethod yX2_takeBack : Cond) ∈ sf_T := sf_mem2 208 rfl rfl
theorem tw_489 : (.selects "StereoForms$Numbering" yX2_takeBack yX2_takeBack : Cond) ∈ sf_T := sf_mem2 209 rfl rfl
theorem tw_490 : (.code yX2_takeBack prog_4_method_4_code 3 (Option.none : Option Jvm.ClassFile.FieldType) : Cond) ∈ sf_T := sf_mem2 210 rfl rfl
theorem tw_491 : (.methodLink "StereoForms$Search" 84 yX0_isAlone : Cond) ∈ sf_T := sf_mem2 211 rfl rfl
theorem tw_492 : (.instanceMethod yX0_isAlone : Cond) ∈ sf_T := sf_mem2 212 rfl rfl
theorem tw_493 : (.selects "StereoForms$Drawing" yX0_isAlone yX0_isAlone : Cond) ∈ sf_T := sf_mem2 213 rfl rfl
theorem tw_494 : (.code yX0_isAlone prog_2_method_14_code 2 (Option.some Jvm.ClassFile.FieldType.boolean) : Cond) ∈ sf_T := sf_mem2 214 rfl rfl
theorem tw_495 : (.methodLink "StereoForms$Drawing" 58 yX0_freeValence : Cond) ∈ sf_T := sf_mem2 215 rfl rfl
theorem tw_496 : (.methodLink "StereoForms" 197 yX1_take : Cond) ∈ sf_T := sf_mem2 216 rfl rfl
theorem tw_497 : (.instanceMethod yX1_take : Cond) ∈ sf_T := sf_mem2 217 rfl rfl
theorem tw_498 : (.selects "StereoForms$Form" yX1_take yX1_take : Cond) ∈ sf_T := sf_mem2 218 rfl rfl
theorem tw_499 : (.code yX1_take prog_3_method_2_code 4 (Option.none : Option Jvm.ClassFile.FieldType) : Cond) ∈ sf_T := sf_mem2 219 rfl rfl
theorem tw_500 : (.methodLink "StereoForms$Form" 22 ⟨"java/lang/System", "arraycopy", "(Ljava/lang/Object;ILjava/lang/Object;II)V"⟩ : Cond) ∈ sf_T := sf_mem2 220 rfl rfl
theorem tw_501 : (.methodLink "StereoForms" 204 yX2_copyFrom : Cond) ∈ sf_T := sf_mem2 221 rfl rfl
theorem tw_502 : (.methodLink "StereoForms" 155 yX4_copyFrom : Cond) ∈ sf_T := sf_mem2 222 rfl rfl
theorem tw_503 : (.instanceMethod yX4_copyFrom : Cond) ∈ sf_T := sf_mem2 223 rfl rfl
theorem tw_504 : (.selects "StereoForms$Senses" yX4_copyFrom yX4_copyFrom : Cond) ∈ sf_T := sf_mem2 224 rfl rfl
theorem tw_505 : (.code yX4_copyFrom prog_6_method_3_code 2 (Option.none : Option Jvm.ClassFile.FieldType) : Cond) ∈ sf_T := sf_mem2 225 rfl rfl
theorem tw_506 : (.methodLink "StereoForms$Senses" 45 ⟨"java/lang/System", "arraycopy", "(Ljava/lang/Object;ILjava/lang/Object;II)V"⟩ : Cond) ∈ sf_T := sf_mem2 226 rfl rfl
theorem tw_507 : (.methodLink "StereoForms" 207 yX4_mirror : Cond) ∈ sf_T := sf_mem2 227 rfl rfl
theorem tw_508 : (.instanceMethod yX4_mirror : Cond) ∈ sf_T := sf_mem2 228 rfl rfl
theorem tw_509 : (.selects "StereoForms$Senses" yX4_mirror yX4_mirror : Cond) ∈ sf_T := sf_mem2 229 rfl rfl
theorem tw_510 : (.code yX4_mirror prog_6_method_4_code 2 (Option.none : Option Jvm.ClassFile.FieldType) : Cond) ∈ sf_T := sf_mem2 230 rfl rfl
theorem tw_511 : (.methodLink "StereoFormsLaw" 58 yX6_senses : Cond) ∈ sf_T := sf_mem2 231 rfl rfl
theorem tw_512 : (.instanceMethod yX6_senses : Cond) ∈ sf_T := sf_mem2 232 rfl rfl
theorem tw_513 : (.selects "StereoForms" yX6_senses yX6_senses : Cond) ∈ sf_T := sf_mem2 233 rfl rfl
theorem tw_514 : (.code yX6_senses prog_1_method_12_code 1 (Option.some Jvm.ClassFile.FieldType.int) : Cond) ∈ sf_T := sf_mem2 234 rfl rfl
theorem tw_515 : (.methodLink "StereoFormsLaw" 62 yX6_chiral : Cond) ∈ sf_T := sf_mem2 235 rfl rfl
theorem tw_516 : (.instanceMethod yX6_chiral : Cond) ∈ sf_T := sf_mem2 236 rfl rfl
theorem tw_517 : (.selects "StereoForms" yX6_chiral yX6_chiral : Cond) ∈ sf_T := sf_mem2 237 rfl rfl
theorem tw_518 : (.code yX6_chiral prog_1_method_13_code 1 (Option.some Jvm.ClassFile.FieldType.boolean) : Cond) ∈ sf_T := sf_mem2 238 rfl rfl
theorem tw_519 : (.methodLink "StereoFormsLaw" 67 yX6_isomers : Cond) ∈ sf_T := sf_mem2 239 rfl rfl
theorem tw_520 : (.instanceMethod yX6_isomers : Cond) ∈ sf_T := sf_mem3 0 rfl rfl
theorem tw_521 : (.selects "StereoForms" yX6_isomers yX6_isomers : Cond) ∈ sf_T := sf_mem3 1 rfl rfl
theorem tw_522 : (.code yX6_isomers prog_1_method_14_code 5 (Option.some Jvm.ClassFile.FieldType.int) : Cond) ∈ sf_T := sf_mem3 2 rfl rfl
theorem tw_523 : (.methodLink "StereoForms" 151 yX4_countDrawn : Cond) ∈ sf_T := sf_mem3 3 rfl rfl
theorem tw_524 : (.instanceMethod yX4_countDrawn : Cond) ∈ sf_T := sf_mem3 4 rfl rfl
theorem tw_525 : (.selects "StereoForms$Senses" yX4_countDrawn yX4_countDrawn : Cond) ∈ sf_T := sf_mem3 5 rfl rfl
theorem tw_526 : (.code yX4_countDrawn prog_6_method_5_code 4 (Option.some Jvm.ClassFile.FieldType.int) : Cond) ∈ sf_T := sf_mem3 6 rfl rfl
theorem tw_527 : (.methodLink "StereoForms" 159 yX4_turnSome : Cond) ∈ sf_T := sf_mem3 7 rfl rfl
theorem tw_528 : (.instanceMethod yX4_turnSome : Cond) ∈ sf_T := sf_mem3 8 rfl rfl
theorem tw_529 : (.selects "StereoForms$Senses" yX4_turnSome yX4_turnSome : Cond) ∈ sf_T := sf_mem3 9 rfl rfl
theorem tw_530 : (.code yX4_turnSome prog_6_method_6_code 5 (Option.none : Option Jvm.ClassFile.FieldType) : Cond) ∈ sf_T := sf_mem3 10 rfl rfl
theorem tw_531 : (.methodLink "StereoForms" 167 yX6_isFound : Cond) ∈ sf_T := sf_mem3 11 rfl rfl
theorem tw_533 : (.instanceMethod yX6_isFound : Cond) ∈ sf_T := sf_mem3 13 rfl rfl
theorem tw_534 : (.code yX6_isFound prog_1_method_23_code 4 (Option.some Jvm.ClassFile.FieldType.boolean) : Cond) ∈ sf_T := sf_mem3 14 rfl rfl
theorem tw_535 : (.methodLink "StereoFormsLaw" 71 yX6_keep : Cond) ∈ sf_T := sf_mem3 15 rfl rfl
theorem tw_536 : (.instanceMethod yX6_keep : Cond) ∈ sf_T := sf_mem3 16 rfl rfl
theorem tw_537 : (.selects "StereoForms" yX6_keep yX6_keep : Cond) ∈ sf_T := sf_mem3 17 rfl rfl
theorem tw_538 : (.code yX6_keep prog_1_method_15_code 1 (Option.some Jvm.ClassFile.FieldType.int) : Cond) ∈ sf_T := sf_mem3 18 rfl rfl
theorem tw_539 : (.methodLink "StereoForms" 170 yX1_copyFrom : Cond) ∈ sf_T := sf_mem3 19 rfl rfl
theorem tw_540 : (.instanceMethod yX1_copyFrom : Cond) ∈ sf_T := sf_mem3 20 rfl rfl
theorem tw_541 : (.selects "StereoForms$Form" yX1_copyFrom yX1_copyFrom : Cond) ∈ sf_T := sf_mem3 21 rfl rfl
theorem tw_542 : (.code yX1_copyFrom prog_3_method_3_code 2 (Option.none : Option Jvm.ClassFile.FieldType) : Cond) ∈ sf_T := sf_mem3 22 rfl rfl
theorem tw_543 : (.methodLink "StereoForms$Form" 28 yX1_take : Cond) ∈ sf_T := sf_mem3 23 rfl rfl
theorem tw_544 : (.methodLink "StereoFormsLaw" 75 yX6_compare : Cond) ∈ sf_T := sf_mem3 24 rfl rfl
theorem tw_545 : (.instanceMethod yX6_compare : Cond) ∈ sf_T := sf_mem3 25 rfl rfl
theorem tw_546 : (.selects "StereoForms" yX6_compare yX6_compare : Cond) ∈ sf_T := sf_mem3 26 rfl rfl
theorem tw_547 : (.code yX6_compare prog_1_method_16_code 1 (Option.some Jvm.ClassFile.FieldType.int) : Cond) ∈ sf_T := sf_mem3 27 rfl rfl
theorem tw_548 : (.methodLink "StereoForms" 174 yX1_hasRowsOf : Cond) ∈ sf_T := sf_mem3 28 rfl rfl
theorem tw_549 : (.instanceMethod yX1_hasRowsOf : Cond) ∈ sf_T := sf_mem3 29 rfl rfl
theorem tw_550 : (.selects "StereoForms$Form" yX1_hasRowsOf yX1_hasRowsOf : Cond) ∈ sf_T := sf_mem3 30 rfl rfl
theorem tw_551 : (.code yX1_hasRowsOf prog_3_method_4_code 3 (Option.some Jvm.ClassFile.FieldType.boolean) : Cond) ∈ sf_T := sf_mem3 31 rfl rfl
theorem tw_552 : (.methodLink "StereoFormsLaw" 79 yX6_write : Cond) ∈ sf_T := sf_mem3 32 rfl rfl
theorem tw_553 : (.instanceMethod yX6_write : Cond) ∈ sf_T := sf_mem3 33 rfl rfl
theorem tw_554 : (.selects "StereoForms" yX6_write yX6_write : Cond) ∈ sf_T := sf_mem3 34 rfl rfl
theorem tw_555 : (.code yX6_write prog_1_method_17_code 1 (Option.some Jvm.ClassFile.FieldType.int) : Cond) ∈ sf_T := sf_mem3 35 rfl rfl
theorem tw_556 : (.methodLink "StereoForms" 178 yX5_describe : Cond) ∈ sf_T := sf_mem3 36 rfl rfl
theorem tw_557 : (.instanceMethod yX5_describe : Cond) ∈ sf_T := sf_mem3 37 rfl rfl
theorem tw_558 : (.selects "StereoForms$Text" yX5_describe yX5_describe : Cond) ∈ sf_T := sf_mem3 38 rfl rfl
theorem tw_559 : (.code yX5_describe prog_7_method_2_code 9 (Option.none : Option Jvm.ClassFile.FieldType) : Cond) ∈ sf_T := sf_mem3 39 rfl rfl
theorem tw_560 : (.methodLink "StereoForms$Text" 33 yX5_addElement : Cond) ∈ sf_T := sf_mem3 40 rfl rfl
theorem tw_562 : (.instanceMethod yX5_addElement : Cond) ∈ sf_T := sf_mem3 42 rfl rfl
theorem tw_563 : (.code yX5_addElement prog_7_method_3_code 2 (Option.none : Option Jvm.ClassFile.FieldType) : Cond) ∈ sf_T := sf_mem3 43 rfl rfl
theorem tw_565 : (.methodLink "StereoForms$Text" 64 yJ0_charAt : Cond) ∈ sf_T := sf_mem3 45 rfl rfl
theorem tw_566 : (.instanceMethod yJ0_charAt : Cond) ∈ sf_T := sf_mem3 46 rfl rfl
theorem tw_567 : (.selects "java/lang/String" yJ0_charAt yJ0_charAt : Cond) ∈ sf_T := sf_mem3 47 rfl rfl
theorem tw_568 : (.code yJ0_charAt prog_11_method_56_code 2 (Option.some Jvm.ClassFile.FieldType.char) : Cond) ∈ sf_T := sf_mem3 48 rfl rfl
theorem tw_569 : (.methodLink "java/lang/String" 492 yJ0_isLatin1 : Cond) ∈ sf_T := sf_mem3 49 rfl rfl
theorem tw_570 : (.instanceMethod yJ0_isLatin1 : Cond) ∈ sf_T := sf_mem3 50 rfl rfl
theorem tw_571 : (.selects "java/lang/String" yJ0_isLatin1 yJ0_isLatin1 : Cond) ∈ sf_T := sf_mem3 51 rfl rfl
theorem tw_572 : (.code yJ0_isLatin1 prog_11_method_154_code 1 (Option.some Jvm.ClassFile.FieldType.boolean) : Cond) ∈ sf_T := sf_mem3 52 rfl rfl
theorem tw_573 : (.fieldLink "java/lang/String" 38 "java/lang/String" "COMPACT_STRINGS" "Z" : Cond) ∈ sf_T := sf_mem3 53 rfl rfl
theorem tw_575 : (.methodLink "java/lang/String" 495 yJ1_charAt : Cond) ∈ sf_T := sf_mem3 55 rfl rfl
theorem tw_576 : (.static yJ1_charAt : Cond) ∈ sf_T := sf_mem3 56 rfl rfl
theorem tw_577 : (.code yJ1_charAt prog_12_method_2_code 2 (Option.some Jvm.ClassFile.FieldType.char) : Cond) ∈ sf_T := sf_mem3 57 rfl rfl
theorem tw_578 : (.methodLink "java/lang/StringLatin1" 9 yJ0_checkIndex : Cond) ∈ sf_T := sf_mem3 58 rfl rfl
theorem tw_579 : (.static yJ0_checkIndex : Cond) ∈ sf_T := sf_mem3 59 rfl rfl
theorem tw_580 : (.code yJ0_checkIndex prog_11_method_155_code 2 (Option.none : Option Jvm.ClassFile.FieldType) : Cond) ∈ sf_T := sf_mem3 60 rfl rfl
theorem tw_581 : (.fieldLink "java/lang/String" 1053 "jdk/internal/util/Preconditions" "SIOOBE_FORMATTER" "Ljava/util/function/BiFunction;" : Cond) ∈ sf_T := sf_mem3 61 rfl rfl
theorem tw_583 : (.methodLink "java/lang/String" 1059 yJ3_checkIndex : Cond) ∈ sf_T := sf_mem3 63 rfl rfl
theorem tw_584 : (.static yJ3_checkIndex : Cond) ∈ sf_T := sf_mem3 64 rfl rfl
theorem tw_585 : (.code yJ3_checkIndex prog_16_method_11_code 3 (Option.some Jvm.ClassFile.FieldType.int) : Cond) ∈ sf_T := sf_mem3 65 rfl rfl
theorem tw_586 : (.methodLink "java/lang/String" 498 yJ2_charAt : Cond) ∈ sf_T := sf_mem3 66 rfl rfl
theorem tw_587 : (.static yJ2_charAt : Cond) ∈ sf_T := sf_mem3 67 rfl rfl
theorem tw_588 : (.code yJ2_charAt prog_13_method_83_code 2 (Option.some Jvm.ClassFile.FieldType.char) : Cond) ∈ sf_T := sf_mem3 68 rfl rfl
theorem tw_589 : (.methodLink "java/lang/StringUTF16" 67 yJ2_checkIndex : Cond) ∈ sf_T := sf_mem3 69 rfl rfl
theorem tw_590 : (.static yJ2_checkIndex : Cond) ∈ sf_T := sf_mem3 70 rfl rfl
theorem tw_591 : (.code yJ2_checkIndex prog_13_method_91_code 2 (Option.none : Option Jvm.ClassFile.FieldType) : Cond) ∈ sf_T := sf_mem3 71 rfl rfl
theorem tw_592 : (.methodLink "java/lang/StringUTF16" 48 yJ2_length : Cond) ∈ sf_T := sf_mem3 72 rfl rfl
theorem tw_593 : (.static yJ2_length : Cond) ∈ sf_T := sf_mem3 73 rfl rfl
theorem tw_594 : (.code yJ2_length prog_13_method_6_code 1 (Option.some Jvm.ClassFile.FieldType.int) : Cond) ∈ sf_T := sf_mem3 74 rfl rfl
theorem tw_595 : (.methodLink "java/lang/StringUTF16" 414 yJ0_checkIndex : Cond) ∈ sf_T := sf_mem3 75 rfl rfl
theorem tw_596 : (.methodLink "java/lang/StringUTF16" 71 yJ2_getChar : Cond) ∈ sf_T := sf_mem3 76 rfl rfl
theorem tw_597 : (.static yJ2_getChar : Cond) ∈ sf_T := sf_mem3 77 rfl rfl
theorem tw_598 : (.code yJ2_getChar prog_13_method_5_code 2 (Option.some Jvm.ClassFile.FieldType.char) : Cond) ∈ sf_T := sf_mem3 78 rfl rfl
theorem tw_599 : (.fieldLink "java/lang/StringUTF16" 44 "java/lang/StringUTF16" "$assertionsDisabled" "Z" : Cond) ∈ sf_T := sf_mem3 79 rfl rfl
theorem tw_601 : (.fieldLink "java/lang/StringUTF16" 59 "java/lang/StringUTF16" "HI_BYTE_SHIFT" "I" : Cond) ∈ sf_T := sf_mem3 81 rfl rfl
theorem tw_603 : (.fieldLink "java/lang/StringUTF16" 63 "java/lang/StringUTF16" "LO_BYTE_SHIFT" "I" : Cond) ∈ sf_T := sf_mem3 83 rfl rfl
theorem tw_605 : (.methodLink "StereoForms$Text" 58 yX5_add : Cond) ∈ sf_T := sf_mem3 85 rfl rfl
theorem tw_607 : (.instanceMethod yX5_add : Cond) ∈ sf_T := sf_mem3 87 rfl rfl
theorem tw_608 : (.code yX5_add prog_7_method_6_code 2 (Option.none : Option Jvm.ClassFile.FieldType) : Cond) ∈ sf_T := sf_mem3 88 rfl rfl
theorem tw_609 : (.methodLink "StereoForms$Text" 37 yX2_senseOfAtom : Cond) ∈ sf_T := sf_mem3 89 rfl rfl
theorem tw_610 : (.methodLink "StereoForms$Text" 41 yX5_addSense : Cond) ∈ sf_T := sf_mem3 90 rfl rfl
theorem tw_612 : (.instanceMethod yX5_addSense : Cond) ∈ sf_T := sf_mem3 92 rfl rfl
theorem tw_613 : (.code yX5_addSense prog_7_method_4_code 2 (Option.none : Option Jvm.ClassFile.FieldType) : Cond) ∈ sf_T := sf_mem3 93 rfl rfl
theorem tw_614 : (.methodLink "StereoForms$Text" 44 yX0_bondOf : Cond) ∈ sf_T := sf_mem3 94 rfl rfl
theorem tw_615 : (.methodLink "StereoForms$Text" 48 yX2_senseOfBond : Cond) ∈ sf_T := sf_mem3 95 rfl rfl
theorem tw_616 : (.methodLink "StereoForms$Text" 54 yX5_addBond : Cond) ∈ sf_T := sf_mem3 96 rfl rfl
theorem tw_618 : (.instanceMethod yX5_addBond : Cond) ∈ sf_T := sf_mem3 98 rfl rfl
theorem tw_619 : (.code yX5_addBond prog_7_method_5_code 4 (Option.none : Option Jvm.ClassFile.FieldType) : Cond) ∈ sf_T := sf_mem3 99 rfl rfl
theorem tw_620 : (.arrayClass Jvm.ClassFile.FieldType.byte : Cond) ∈ sf_T := sf_mem3 100 rfl rfl
theorem tw_621 : (.methodLink "StereoFormsLaw" 83 yX6_at : Cond) ∈ sf_T := sf_mem3 101 rfl rfl
theorem tw_622 : (.instanceMethod yX6_at : Cond) ∈ sf_T := sf_mem3 102 rfl rfl
theorem tw_623 : (.selects "StereoForms" yX6_at yX6_at : Cond) ∈ sf_T := sf_mem3 103 rfl rfl
theorem tw_624 : (.code yX6_at prog_1_method_18_code 2 (Option.some Jvm.ClassFile.FieldType.int) : Cond) ∈ sf_T := sf_mem3 104 rfl rfl
theorem tw_625 : (.classLink "StereoFormsLaw" 10 "StereoFormsModel" : Cond) ∈ sf_T := sf_mem3 105 rfl rfl
theorem tw_626 : (.instantiable "StereoFormsModel" 23 : Cond) ∈ sf_T := sf_mem3 106 rfl rfl
theorem tw_627 : (.methodLink "StereoFormsLaw" 12 yX7_init : Cond) ∈ sf_T := sf_mem3 107 rfl rfl
theorem tw_628 : (.instanceMethod yX7_init : Cond) ∈ sf_T := sf_mem3 108 rfl rfl
theorem tw_629 : (.code yX7_init prog_9_method_1_code 1 (Option.none : Option Jvm.ClassFile.FieldType) : Cond) ∈ sf_T := sf_mem3 109 rfl rfl
theorem tw_630 : (.methodLink "StereoFormsModel" 1 ⟨"java/lang/Object", "<init>", "()V"⟩ : Cond) ∈ sf_T := sf_mem3 110 rfl rfl
theorem tw_631 : (.fieldLink "StereoFormsModel" 55 "StereoFormsModel" "atoms" "I" : Cond) ∈ sf_T := sf_mem3 111 rfl rfl
theorem tw_632 : (.fieldLink "StereoFormsModel" 7 "StereoFormsModel" "element" "[I" : Cond) ∈ sf_T := sf_mem3 112 rfl rfl
theorem tw_633 : (.fieldLink "StereoFormsModel" 13 "StereoFormsModel" "x" "[I" : Cond) ∈ sf_T := sf_mem3 113 rfl rfl
theorem tw_634 : (.fieldLink "StereoFormsModel" 16 "StereoFormsModel" "y" "[I" : Cond) ∈ sf_T := sf_mem3 114 rfl rfl
theorem tw_635 : (.fieldLink "StereoFormsModel" 59 "StereoFormsModel" "bonds" "I" : Cond) ∈ sf_T := sf_mem3 115 rfl rfl
theorem tw_636 : (.fieldLink "StereoFormsModel" 19 "StereoFormsModel" "first" "[I" : Cond) ∈ sf_T := sf_mem3 116 rfl rfl
theorem tw_637 : (.fieldLink "StereoFormsModel" 22 "StereoFormsModel" "second" "[I" : Cond) ∈ sf_T := sf_mem3 117 rfl rfl
theorem tw_638 : (.fieldLink "StereoFormsModel" 25 "StereoFormsModel" "order" "[I" : Cond) ∈ sf_T := sf_mem3 118 rfl rfl
theorem tw_639 : (.fieldLink "StereoFormsModel" 28 "StereoFormsModel" "mark" "[I" : Cond) ∈ sf_T := sf_mem3 119 rfl rfl
theorem tw_640 : (.fieldLink "StereoFormsModel" 31 "StereoFormsModel" "at" "[I" : Cond) ∈ sf_T := sf_mem3 120 rfl rfl
theorem tw_641 : (.fieldLink "StereoFormsModel" 34 "StereoFormsModel" "number" "[I" : Cond) ∈ sf_T := sf_mem3 121 rfl rfl
theorem tw_642 : (.fieldLink "StereoFormsModel" 66 "StereoFormsModel" "known" "Z" : Cond) ∈ sf_T := sf_mem3 122 rfl rfl
theorem tw_643 : (.fieldLink "StereoFormsModel" 37 "StereoFormsModel" "least" "[I" : Cond) ∈ sf_T := sf_mem3 123 rfl rfl
theorem tw_644 : (.fieldLink "StereoFormsModel" 127 "StereoFormsModel" "many" "I" : Cond) ∈ sf_T := sf_mem3 124 rfl rfl
theorem tw_645 : (.fieldLink "StereoFormsModel" 40 "StereoFormsModel" "numberings" "[I" : Cond) ∈ sf_T := sf_mem3 125 rfl rfl
theorem tw_646 : (.fieldLink "StereoFormsModel" 161 "StereoFormsModel" "some" "Z" : Cond) ∈ sf_T := sf_mem3 126 rfl rfl
theorem tw_647 : (.fieldLink "StereoFormsModel" 158 "StereoFormsModel" "keptAtoms" "I" : Cond) ∈ sf_T := sf_mem3 127 rfl rfl
theorem tw_648 : (.fieldLink "StereoFormsModel" 43 "StereoFormsModel" "keptRows" "[I" : Cond) ∈ sf_T := sf_mem3 128 rfl rfl
theorem tw_649 : (.fieldLink "StereoFormsModel" 155 "StereoFormsModel" "keptSenses" "I" : Cond) ∈ sf_T := sf_mem3 129 rfl rfl
theorem tw_650 : (.fieldLink "StereoFormsModel" 164 "StereoFormsModel" "length" "I" : Cond) ∈ sf_T := sf_mem3 130 rfl rfl
theorem tw_651 : (.fieldLink "StereoFormsModel" 46 "StereoFormsModel" "text" "[I" : Cond) ∈ sf_T := sf_mem3 131 rfl rfl
theorem tw_652 : (.fieldLink "StereoFormsModel" 49 "StereoFormsModel" "point" "[I" : Cond) ∈ sf_T := sf_mem3 132 rfl rfl
theorem tw_653 : (.fieldLink "StereoFormsModel" 52 "StereoFormsModel" "met" "[I" : Cond) ∈ sf_T := sf_mem3 133 rfl rfl
theorem tw_701 : (.methodLink "StereoFormsLaw" 17 yX7_atom : Cond) ∈ sf_T := sf_mem3 181 rfl rfl
theorem tw_702 : (.instanceMethod yX7_atom : Cond) ∈ sf_T := sf_mem3 182 rfl rfl
theorem tw_703 : (.selects "StereoFormsModel" yX7_atom yX7_atom : Cond) ∈ sf_T := sf_mem3 183 rfl rfl
theorem tw_704 : (.code yX7_atom prog_9_method_5_code 4 (Option.some Jvm.ClassFile.FieldType.int) : Cond) ∈ sf_T := sf_mem3 184 rfl rfl
theorem tw_705 : (.methodLink "StereoFormsModel" 62 yX7_isPlace : Cond) ∈ sf_T := sf_mem3 185 rfl rfl
theorem tw_706 : (.static yX7_isPlace : Cond) ∈ sf_T := sf_mem3 186 rfl rfl
theorem tw_707 : (.code yX7_isPlace prog_9_method_2_code 1 (Option.some Jvm.ClassFile.FieldType.boolean) : Cond) ∈ sf_T := sf_mem3 187 rfl rfl
theorem tw_708 : (.methodLink "StereoFormsLaw" 22 yX7_bond : Cond) ∈ sf_T := sf_mem3 188 rfl rfl
theorem tw_709 : (.instanceMethod yX7_bond : Cond) ∈ sf_T := sf_mem3 189 rfl rfl
theorem tw_710 : (.selects "StereoFormsModel" yX7_bond yX7_bond : Cond) ∈ sf_T := sf_mem3 190 rfl rfl
theorem tw_711 : (.code yX7_bond prog_9_method_9_code 5 (Option.some Jvm.ClassFile.FieldType.int) : Cond) ∈ sf_T := sf_mem3 191 rfl rfl
theorem tw_712 : (.methodLink "StereoFormsModel" 74 yX7_isAtom : Cond) ∈ sf_T := sf_mem3 192 rfl rfl
theorem tw_714 : (.instanceMethod yX7_isAtom : Cond) ∈ sf_T := sf_mem3 194 rfl rfl
theorem tw_715 : (.code yX7_isAtom prog_9_method_3_code 2 (Option.some Jvm.ClassFile.FieldType.boolean) : Cond) ∈ sf_T := sf_mem3 195 rfl rfl
theorem tw_716 : (.methodLink "StereoFormsModel" 77 yX7_bondOf : Cond) ∈ sf_T := sf_mem3 196 rfl rfl
theorem tw_718 : (.instanceMethod yX7_bondOf : Cond) ∈ sf_T := sf_mem3 198 rfl rfl
theorem tw_719 : (.code yX7_bondOf prog_9_method_6_code 5 (Option.some Jvm.ClassFile.FieldType.int) : Cond) ∈ sf_T := sf_mem3 199 rfl rfl
theorem tw_720 : (.methodLink "StereoFormsModel" 81 yX7_left : Cond) ∈ sf_T := sf_mem3 200 rfl rfl
theorem tw_722 : (.instanceMethod yX7_left : Cond) ∈ sf_T := sf_mem3 202 rfl rfl
theorem tw_723 : (.code yX7_left prog_9_method_8_code 4 (Option.some Jvm.ClassFile.FieldType.int) : Cond) ∈ sf_T := sf_mem3 203 rfl rfl
theorem tw_724 : (.methodLink "StereoFormsModel" 70 yX7_valence : Cond) ∈ sf_T := sf_mem3 204 rfl rfl
theorem tw_725 : (.static yX7_valence : Cond) ∈ sf_T := sf_mem3 205 rfl rfl
theorem tw_726 : (.code yX7_valence prog_9_method_7_code 1 (Option.some Jvm.ClassFile.FieldType.int) : Cond) ∈ sf_T := sf_mem3 206 rfl rfl
theorem tw_727 : (.methodLink "StereoFormsLaw" 27 yX7_move : Cond) ∈ sf_T := sf_mem3 207 rfl rfl
theorem tw_728 : (.instanceMethod yX7_move : Cond) ∈ sf_T := sf_mem3 208 rfl rfl
theorem tw_729 : (.selects "StereoFormsModel" yX7_move yX7_move : Cond) ∈ sf_T := sf_mem3 209 rfl rfl
theorem tw_730 : (.code yX7_move prog_9_method_10_code 4 (Option.some Jvm.ClassFile.FieldType.boolean) : Cond) ∈ sf_T := sf_mem3 210 rfl rfl
theorem tw_731 : (.methodLink "StereoFormsLaw" 31 yX7_mark : Cond) ∈ sf_T := sf_mem3 211 rfl rfl
theorem tw_732 : (.instanceMethod yX7_mark : Cond) ∈ sf_T := sf_mem3 212 rfl rfl
theorem tw_733 : (.selects "StereoFormsModel" yX7_mark yX7_mark : Cond) ∈ sf_T := sf_mem3 213 rfl rfl
theorem tw_734 : (.code yX7_mark prog_9_method_11_code 5 (Option.some Jvm.ClassFile.FieldType.boolean) : Cond) ∈ sf_T := sf_mem3 214 rfl rfl
theorem tw_735 : (.methodLink "StereoFormsModel" 84 yX7_isBond : Cond) ∈ sf_T := sf_mem3 215 rfl rfl
theorem tw_737 : (.instanceMethod yX7_isBond : Cond) ∈ sf_T := sf_mem3 217 rfl rfl
theorem tw_738 : (.code yX7_isBond prog_9_method_4_code 2 (Option.some Jvm.ClassFile.FieldType.boolean) : Cond) ∈ sf_T := sf_mem3 218 rfl rfl
theorem tw_739 : (.methodLink "StereoFormsLaw" 36 yX7_clear : Cond) ∈ sf_T := sf_mem3 219 rfl rfl
theorem tw_740 : (.instanceMethod yX7_clear : Cond) ∈ sf_T := sf_mem3 220 rfl rfl
theorem tw_741 : (.selects "StereoFormsModel" yX7_clear yX7_clear : Cond) ∈ sf_T := sf_mem3 221 rfl rfl
theorem tw_742 : (.code yX7_clear prog_9_method_12_code 2 (Option.some Jvm.ClassFile.FieldType.int) : Cond) ∈ sf_T := sf_mem3 222 rfl rfl
theorem tw_743 : (.methodLink "StereoFormsLaw" 40 yX7_flip : Cond) ∈ sf_T := sf_mem3 223 rfl rfl
theorem tw_744 : (.instanceMethod yX7_flip : Cond) ∈ sf_T := sf_mem3 224 rfl rfl
theorem tw_745 : (.selects "StereoFormsModel" yX7_flip yX7_flip : Cond) ∈ sf_T := sf_mem3 225 rfl rfl
theorem tw_746 : (.code yX7_flip prog_9_method_13_code 3 (Option.some Jvm.ClassFile.FieldType.int) : Cond) ∈ sf_T := sf_mem3 226 rfl rfl
theorem tw_747 : (.methodLink "StereoFormsLaw" 45 yX7_hydrogens : Cond) ∈ sf_T := sf_mem3 227 rfl rfl
theorem tw_748 : (.instanceMethod yX7_hydrogens : Cond) ∈ sf_T := sf_mem3 228 rfl rfl
theorem tw_749 : (.selects "StereoFormsModel" yX7_hydrogens yX7_hydrogens : Cond) ∈ sf_T := sf_mem3 229 rfl rfl
theorem tw_750 : (.code yX7_hydrogens prog_9_method_14_code 2 (Option.some Jvm.ClassFile.FieldType.int) : Cond) ∈ sf_T := sf_mem3 230 rfl rfl
theorem tw_751 : (.methodLink "StereoFormsLaw" 49 yX7_sense : Cond) ∈ sf_T := sf_mem3 231 rfl rfl
theorem tw_752 : (.instanceMethod yX7_sense : Cond) ∈ sf_T := sf_mem3 232 rfl rfl
theorem tw_753 : (.selects "StereoFormsModel" yX7_sense yX7_sense : Cond) ∈ sf_T := sf_mem3 233 rfl rfl
theorem tw_754 : (.code yX7_sense prog_9_method_26_code 2 (Option.some Jvm.ClassFile.FieldType.int) : Cond) ∈ sf_T := sf_mem3 234 rfl rfl
theorem tw_755 : (.methodLink "StereoFormsModel" 113 yX7_ownNumbers : Cond) ∈ sf_T := sf_mem3 235 rfl rfl
theorem tw_757 : (.instanceMethod yX7_ownNumbers : Cond) ∈ sf_T := sf_mem3 237 rfl rfl
theorem tw_758 : (.code yX7_ownNumbers prog_9_method_25_code 2 (Option.none : Option Jvm.ClassFile.FieldType) : Cond) ∈ sf_T := sf_mem3 238 rfl rfl
theorem tw_759 : (.methodLink "StereoFormsModel" 116 yX7_centreSense : Cond) ∈ sf_T := sf_mem3 239 rfl rfl
theorem tw_761 : (.instanceMethod yX7_centreSense : Cond) ∈ sf_T := sf_mem4 1 rfl rfl
theorem tw_762 : (.code yX7_centreSense prog_9_method_20_code 5 (Option.some Jvm.ClassFile.FieldType.int) : Cond) ∈ sf_T := sf_mem4 2 rfl rfl
theorem tw_763 : (.methodLink "StereoFormsModel" 90 yX7_isCentre : Cond) ∈ sf_T := sf_mem4 3 rfl rfl
theorem tw_765 : (.instanceMethod yX7_isCentre : Cond) ∈ sf_T := sf_mem4 5 rfl rfl
theorem tw_766 : (.code yX7_isCentre prog_9_method_17_code 2 (Option.some Jvm.ClassFile.FieldType.boolean) : Cond) ∈ sf_T := sf_mem4 6 rfl rfl
theorem tw_767 : (.methodLink "StereoFormsModel" 87 yX7_singles : Cond) ∈ sf_T := sf_mem4 7 rfl rfl
theorem tw_769 : (.instanceMethod yX7_singles : Cond) ∈ sf_T := sf_mem4 9 rfl rfl
theorem tw_770 : (.code yX7_singles prog_9_method_16_code 6 (Option.some Jvm.ClassFile.FieldType.int) : Cond) ∈ sf_T := sf_mem4 10 rfl rfl
theorem tw_771 : (.methodLink "StereoFormsModel" 93 yX7_points : Cond) ∈ sf_T := sf_mem4 11 rfl rfl
theorem tw_773 : (.instanceMethod yX7_points : Cond) ∈ sf_T := sf_mem4 13 rfl rfl
theorem tw_774 : (.code yX7_points prog_9_method_19_code 5 (Option.some Jvm.ClassFile.FieldType.int) : Cond) ∈ sf_T := sf_mem4 14 rfl rfl
theorem tw_775 : (.methodLink "StereoFormsModel" 96 yX7_sign : Cond) ∈ sf_T := sf_mem4 15 rfl rfl
theorem tw_776 : (.static yX7_sign : Cond) ∈ sf_T := sf_mem4 16 rfl rfl
theorem tw_777 : (.code yX7_sign prog_9_method_15_code 1 (Option.some Jvm.ClassFile.FieldType.int) : Cond) ∈ sf_T := sf_mem4 17 rfl rfl
theorem tw_778 : (.methodLink "StereoFormsLaw" 53 yX7_turn : Cond) ∈ sf_T := sf_mem4 18 rfl rfl
theorem tw_779 : (.instanceMethod yX7_turn : Cond) ∈ sf_T := sf_mem4 19 rfl rfl
theorem tw_780 : (.selects "StereoFormsModel" yX7_turn yX7_turn : Cond) ∈ sf_T := sf_mem4 20 rfl rfl
theorem tw_781 : (.code yX7_turn prog_9_method_27_code 2 (Option.some Jvm.ClassFile.FieldType.int) : Cond) ∈ sf_T := sf_mem4 21 rfl rfl
theorem tw_782 : (.methodLink "StereoFormsModel" 119 yX7_hingeSense : Cond) ∈ sf_T := sf_mem4 22 rfl rfl
theorem tw_784 : (.instanceMethod yX7_hingeSense : Cond) ∈ sf_T := sf_mem4 24 rfl rfl
theorem tw_785 : (.code yX7_hingeSense prog_9_method_23_code 5 (Option.some Jvm.ClassFile.FieldType.int) : Cond) ∈ sf_T := sf_mem4 25 rfl rfl
theorem tw_786 : (.methodLink "StereoFormsModel" 99 yX7_isHinge : Cond) ∈ sf_T := sf_mem4 26 rfl rfl
theorem tw_788 : (.instanceMethod yX7_isHinge : Cond) ∈ sf_T := sf_mem4 28 rfl rfl
theorem tw_789 : (.code yX7_isHinge prog_9_method_18_code 5 (Option.some Jvm.ClassFile.FieldType.boolean) : Cond) ∈ sf_T := sf_mem4 29 rfl rfl
theorem tw_790 : (.methodLink "StereoFormsModel" 102 yX7_isClear : Cond) ∈ sf_T := sf_mem4 30 rfl rfl
theorem tw_792 : (.instanceMethod yX7_isClear : Cond) ∈ sf_T := sf_mem4 32 rfl rfl
theorem tw_793 : (.code yX7_isClear prog_9_method_24_code 11 (Option.some Jvm.ClassFile.FieldType.boolean) : Cond) ∈ sf_T := sf_mem4 33 rfl rfl
theorem tw_794 : (.methodLink "StereoFormsModel" 109 yX7_side : Cond) ∈ sf_T := sf_mem4 34 rfl rfl
theorem tw_796 : (.instanceMethod yX7_side : Cond) ∈ sf_T := sf_mem4 36 rfl rfl
theorem tw_797 : (.code yX7_side prog_9_method_22_code 4 (Option.some Jvm.ClassFile.FieldType.int) : Cond) ∈ sf_T := sf_mem4 37 rfl rfl
theorem tw_798 : (.methodLink "StereoFormsModel" 106 yX7_leastBeside : Cond) ∈ sf_T := sf_mem4 38 rfl rfl
theorem tw_800 : (.instanceMethod yX7_leastBeside : Cond) ∈ sf_T := sf_mem4 40 rfl rfl
theorem tw_801 : (.code yX7_leastBeside prog_9_method_21_code 5 (Option.some Jvm.ClassFile.FieldType.int) : Cond) ∈ sf_T := sf_mem4 41 rfl rfl
theorem tw_802 : (.methodLink "StereoFormsLaw" 57 yX7_row : Cond) ∈ sf_T := sf_mem4 42 rfl rfl
theorem tw_803 : (.instanceMethod yX7_row : Cond) ∈ sf_T := sf_mem4 43 rfl rfl
theorem tw_804 : (.selects "StereoFormsModel" yX7_row yX7_row : Cond) ∈ sf_T := sf_mem4 44 rfl rfl
theorem tw_805 : (.code yX7_row prog_9_method_36_code 2 (Option.some Jvm.ClassFile.FieldType.int) : Cond) ∈ sf_T := sf_mem4 45 rfl rfl
theorem tw_806 : (.methodLink "StereoFormsModel" 141 yX7_search : Cond) ∈ sf_T := sf_mem4 46 rfl rfl
theorem tw_808 : (.instanceMethod yX7_search : Cond) ∈ sf_T := sf_mem4 48 rfl rfl
theorem tw_809 : (.code yX7_search prog_9_method_33_code 5 (Option.none : Option Jvm.ClassFile.FieldType) : Cond) ∈ sf_T := sf_mem4 49 rfl rfl
theorem tw_810 : (.methodLink "StereoFormsModel" 130 yX7_rowOf : Cond) ∈ sf_T := sf_mem4 50 rfl rfl
theorem tw_812 : (.instanceMethod yX7_rowOf : Cond) ∈ sf_T := sf_mem4 52 rfl rfl
theorem tw_813 : (.code yX7_rowOf prog_9_method_28_code 5 (Option.some Jvm.ClassFile.FieldType.int) : Cond) ∈ sf_T := sf_mem4 53 rfl rfl
theorem tw_814 : (.constant "StereoFormsModel" 122 (65536 : Int32) : Cond) ∈ sf_T := sf_mem4 54 rfl rfl
theorem tw_815 : (.methodLink "StereoFormsModel" 133 yX7_packed : Cond) ∈ sf_T := sf_mem4 55 rfl rfl
theorem tw_817 : (.instanceMethod yX7_packed : Cond) ∈ sf_T := sf_mem4 57 rfl rfl
theorem tw_818 : (.code yX7_packed prog_9_method_31_code 3 (Option.some Jvm.ClassFile.FieldType.int) : Cond) ∈ sf_T := sf_mem4 58 rfl rfl
theorem tw_819 : (.methodLink "StereoFormsModel" 137 yX7_nextOrder : Cond) ∈ sf_T := sf_mem4 59 rfl rfl
theorem tw_821 : (.instanceMethod yX7_nextOrder : Cond) ∈ sf_T := sf_mem4 61 rfl rfl
theorem tw_822 : (.code yX7_nextOrder prog_9_method_29_code 4 (Option.some Jvm.ClassFile.FieldType.boolean) : Cond) ∈ sf_T := sf_mem4 62 rfl rfl
theorem tw_823 : (.methodLink "StereoFormsModel" 123 yX7_swap : Cond) ∈ sf_T := sf_mem4 63 rfl rfl
theorem tw_825 : (.instanceMethod yX7_swap : Cond) ∈ sf_T := sf_mem4 65 rfl rfl
theorem tw_826 : (.code yX7_swap prog_9_method_30_code 4 (Option.none : Option Jvm.ClassFile.FieldType) : Cond) ∈ sf_T := sf_mem4 66 rfl rfl
theorem tw_827 : (.methodLink "StereoFormsLaw" 61 yX7_senses : Cond) ∈ sf_T := sf_mem4 67 rfl rfl
theorem tw_828 : (.instanceMethod yX7_senses : Cond) ∈ sf_T := sf_mem4 68 rfl rfl
theorem tw_829 : (.selects "StereoFormsModel" yX7_senses yX7_senses : Cond) ∈ sf_T := sf_mem4 69 rfl rfl
theorem tw_830 : (.code yX7_senses prog_9_method_37_code 1 (Option.some Jvm.ClassFile.FieldType.int) : Cond) ∈ sf_T := sf_mem4 70 rfl rfl
theorem tw_831 : (.methodLink "StereoFormsModel" 152 yX7_leastSenses : Cond) ∈ sf_T := sf_mem4 71 rfl rfl
theorem tw_833 : (.instanceMethod yX7_leastSenses : Cond) ∈ sf_T := sf_mem4 73 rfl rfl
theorem tw_834 : (.code yX7_leastSenses prog_9_method_35_code 5 (Option.some Jvm.ClassFile.FieldType.int) : Cond) ∈ sf_T := sf_mem4 74 rfl rfl
theorem tw_835 : (.constant "StereoFormsModel" 144 (100000 : Int32) : Cond) ∈ sf_T := sf_mem4 75 rfl rfl
theorem tw_836 : (.methodLink "StereoFormsModel" 145 yX7_unpack : Cond) ∈ sf_T := sf_mem4 76 rfl rfl
theorem tw_838 : (.instanceMethod yX7_unpack : Cond) ∈ sf_T := sf_mem4 78 rfl rfl
theorem tw_839 : (.code yX7_unpack prog_9_method_32_code 3 (Option.none : Option Jvm.ClassFile.FieldType) : Cond) ∈ sf_T := sf_mem4 79 rfl rfl
theorem tw_840 : (.methodLink "StereoFormsModel" 149 yX7_sensesNow : Cond) ∈ sf_T := sf_mem4 80 rfl rfl
theorem tw_842 : (.instanceMethod yX7_sensesNow : Cond) ∈ sf_T := sf_mem4 82 rfl rfl
theorem tw_843 : (.code yX7_sensesNow prog_9_method_34_code 7 (Option.some Jvm.ClassFile.FieldType.int) : Cond) ∈ sf_T := sf_mem4 83 rfl rfl
theorem tw_844 : (.methodLink "StereoFormsLaw" 66 yX7_chiral : Cond) ∈ sf_T := sf_mem4 84 rfl rfl
theorem tw_845 : (.instanceMethod yX7_chiral : Cond) ∈ sf_T := sf_mem4 85 rfl rfl
theorem tw_846 : (.selects "StereoFormsModel" yX7_chiral yX7_chiral : Cond) ∈ sf_T := sf_mem4 86 rfl rfl
theorem tw_847 : (.code yX7_chiral prog_9_method_38_code 1 (Option.some Jvm.ClassFile.FieldType.boolean) : Cond) ∈ sf_T := sf_mem4 87 rfl rfl
theorem tw_848 : (.methodLink "StereoFormsLaw" 70 yX7_isomers : Cond) ∈ sf_T := sf_mem4 88 rfl rfl
theorem tw_849 : (.instanceMethod yX7_isomers : Cond) ∈ sf_T := sf_mem4 89 rfl rfl
theorem tw_850 : (.selects "StereoFormsModel" yX7_isomers yX7_isomers : Cond) ∈ sf_T := sf_mem4 90 rfl rfl
theorem tw_851 : (.code yX7_isomers prog_9_method_39_code 9 (Option.some Jvm.ClassFile.FieldType.int) : Cond) ∈ sf_T := sf_mem4 91 rfl rfl
theorem tw_852 : (.methodLink "StereoFormsLaw" 74 yX7_keep : Cond) ∈ sf_T := sf_mem4 92 rfl rfl
theorem tw_853 : (.instanceMethod yX7_keep : Cond) ∈ sf_T := sf_mem4 93 rfl rfl
theorem tw_854 : (.selects "StereoFormsModel" yX7_keep yX7_keep : Cond) ∈ sf_T := sf_mem4 94 rfl rfl
theorem tw_855 : (.code yX7_keep prog_9_method_40_code 2 (Option.some Jvm.ClassFile.FieldType.int) : Cond) ∈ sf_T := sf_mem4 95 rfl rfl
theorem tw_856 : (.methodLink "StereoFormsLaw" 78 yX7_compare : Cond) ∈ sf_T := sf_mem4 96 rfl rfl
theorem tw_857 : (.instanceMethod yX7_compare : Cond) ∈ sf_T := sf_mem4 97 rfl rfl
theorem tw_858 : (.selects "StereoFormsModel" yX7_compare yX7_compare : Cond) ∈ sf_T := sf_mem4 98 rfl rfl
theorem tw_859 : (.code yX7_compare prog_9_method_41_code 4 (Option.some Jvm.ClassFile.FieldType.int) : Cond) ∈ sf_T := sf_mem4 99 rfl rfl
theorem tw_860 : (.methodLink "StereoFormsLaw" 82 yX7_write : Cond) ∈ sf_T := sf_mem4 100 rfl rfl
theorem tw_861 : (.instanceMethod yX7_write : Cond) ∈ sf_T := sf_mem4 101 rfl rfl
theorem tw_862 : (.selects "StereoFormsModel" yX7_write yX7_write : Cond) ∈ sf_T := sf_mem4 102 rfl rfl
theorem tw_863 : (.code yX7_write prog_9_method_44_code 8 (Option.some Jvm.ClassFile.FieldType.int) : Cond) ∈ sf_T := sf_mem4 103 rfl rfl
theorem tw_864 : (.methodLink "StereoFormsModel" 170 yX7_putElement : Cond) ∈ sf_T := sf_mem4 104 rfl rfl
theorem tw_866 : (.instanceMethod yX7_putElement : Cond) ∈ sf_T := sf_mem4 106 rfl rfl
theorem tw_867 : (.code yX7_putElement prog_9_method_43_code 2 (Option.none : Option Jvm.ClassFile.FieldType) : Cond) ∈ sf_T := sf_mem4 107 rfl rfl
theorem tw_868 : (.methodLink "StereoFormsModel" 167 yX7_put : Cond) ∈ sf_T := sf_mem4 108 rfl rfl
theorem tw_870 : (.instanceMethod yX7_put : Cond) ∈ sf_T := sf_mem4 110 rfl rfl
theorem tw_871 : (.code yX7_put prog_9_method_42_code 2 (Option.none : Option Jvm.ClassFile.FieldType) : Cond) ∈ sf_T := sf_mem4 111 rfl rfl
theorem tw_872 : (.methodLink "StereoFormsModel" 173 yX7_putBond : Cond) ∈ sf_T := sf_mem4 112 rfl rfl
theorem tw_874 : (.instanceMethod yX7_putBond : Cond) ∈ sf_T := sf_mem4 114 rfl rfl
theorem tw_875 : (.code yX7_putBond prog_9_method_45_code 4 (Option.none : Option Jvm.ClassFile.FieldType) : Cond) ∈ sf_T := sf_mem4 115 rfl rfl
theorem tw_876 : (.methodLink "StereoFormsLaw" 86 yX7_at : Cond) ∈ sf_T := sf_mem4 116 rfl rfl
theorem tw_877 : (.instanceMethod yX7_at : Cond) ∈ sf_T := sf_mem4 117 rfl rfl
theorem tw_878 : (.selects "StereoFormsModel" yX7_at yX7_at : Cond) ∈ sf_T := sf_mem4 118 rfl rfl
theorem tw_879 : (.code yX7_at prog_9_method_46_code 2 (Option.some Jvm.ClassFile.FieldType.int) : Cond) ∈ sf_T := sf_mem4 119 rfl rfl
theorem tw_880 : (.fieldLink "java/lang/String" 15 "java/lang/String" "coder" "B" : Cond) ∈ sf_T := sf_mem4 120 rfl rfl
theorem tw_881 : (.fieldLink "java/lang/String" 9 "java/lang/String" "value" "[B" : Cond) ∈ sf_T := sf_mem4 121 rfl rfl
theorem tw_0 : (.selects "StereoForms$Drawing" yX0_singleBonds yX0_singleBonds : Cond) ∈ sf_T := sf_memS 0 rfl rfl
theorem tw_1 : (.selects "StereoForms$Senses" yX4_determinant yX4_determinant : Cond) ∈ sf_T := sf_memS 1 rfl rfl
theorem tw_2 : (.selects "StereoForms$Drawing" yX0_isHingeEnd yX0_isHingeEnd : Cond) ∈ sf_T := sf_memS 2 rfl rfl
theorem tw_3 : (.selects "StereoForms" yX6_settle yX6_settle : Cond) ∈ sf_T := sf_memS 3 rfl rfl
theorem tw_4 : (.selects "StereoForms$Search" yX3_place yX3_place : Cond) ∈ sf_T := sf_memS 4 rfl rfl
theorem tw_5 : (.selects "StereoForms$Search" yX3_weigh yX3_weigh : Cond) ∈ sf_T := sf_memS 5 rfl rfl
theorem tw_6 : (.selects "StereoForms$Numbering" yX2_orderSign yX2_orderSign : Cond) ∈ sf_T := sf_memS 6 rfl rfl
theorem tw_7 : (.selects "StereoForms$Search" yX3_lowestRow yX3_lowestRow : Cond) ∈ sf_T := sf_memS 7 rfl rfl
theorem tw_8 : (.selects "StereoForms$Search" yX3_rowOf yX3_rowOf : Cond) ∈ sf_T := sf_memS 8 rfl rfl
theorem tw_9 : (.selects "StereoForms$Search" yX3_lower yX3_lower : Cond) ∈ sf_T := sf_memS 9 rfl rfl
theorem tw_10 : (.selects "StereoForms" yX6_isFound yX6_isFound : Cond) ∈ sf_T := sf_memS 10 rfl rfl
theorem tw_11 : (.selects "StereoForms$Text" yX5_addElement yX5_addElement : Cond) ∈ sf_T := sf_memS 11 rfl rfl
theorem tw_12 : (.selects "StereoForms$Text" yX5_add yX5_add : Cond) ∈ sf_T := sf_memS 12 rfl rfl
theorem tw_13 : (.selects "StereoForms$Text" yX5_addSense yX5_addSense : Cond) ∈ sf_T := sf_memS 13 rfl rfl
theorem tw_14 : (.selects "StereoForms$Text" yX5_addBond yX5_addBond : Cond) ∈ sf_T := sf_memS 14 rfl rfl
theorem tw_15 : (.selects "StereoFormsModel" yX7_isAtom yX7_isAtom : Cond) ∈ sf_T := sf_memS 15 rfl rfl
theorem tw_16 : (.selects "StereoFormsModel" yX7_bondOf yX7_bondOf : Cond) ∈ sf_T := sf_memS 16 rfl rfl
theorem tw_17 : (.selects "StereoFormsModel" yX7_left yX7_left : Cond) ∈ sf_T := sf_memS 17 rfl rfl
theorem tw_18 : (.selects "StereoFormsModel" yX7_isBond yX7_isBond : Cond) ∈ sf_T := sf_memS 18 rfl rfl
theorem tw_19 : (.selects "StereoFormsModel" yX7_ownNumbers yX7_ownNumbers : Cond) ∈ sf_T := sf_memS 19 rfl rfl
theorem tw_20 : (.selects "StereoFormsModel" yX7_centreSense yX7_centreSense : Cond) ∈ sf_T := sf_memS 20 rfl rfl
theorem tw_21 : (.selects "StereoFormsModel" yX7_isCentre yX7_isCentre : Cond) ∈ sf_T := sf_memS 21 rfl rfl
theorem tw_22 : (.selects "StereoFormsModel" yX7_singles yX7_singles : Cond) ∈ sf_T := sf_memS 22 rfl rfl
theorem tw_23 : (.selects "StereoFormsModel" yX7_points yX7_points : Cond) ∈ sf_T := sf_memS 23 rfl rfl
theorem tw_24 : (.selects "StereoFormsModel" yX7_hingeSense yX7_hingeSense : Cond) ∈ sf_T := sf_memS 24 rfl rfl
theorem tw_25 : (.selects "StereoFormsModel" yX7_isHinge yX7_isHinge : Cond) ∈ sf_T := sf_memS 25 rfl rfl
theorem tw_26 : (.selects "StereoFormsModel" yX7_isClear yX7_isClear : Cond) ∈ sf_T := sf_memS 26 rfl rfl
theorem tw_27 : (.selects "StereoFormsModel" yX7_side yX7_side : Cond) ∈ sf_T := sf_memS 27 rfl rfl
theorem tw_28 : (.selects "StereoFormsModel" yX7_leastBeside yX7_leastBeside : Cond) ∈ sf_T := sf_memS 28 rfl rfl
theorem tw_29 : (.selects "StereoFormsModel" yX7_search yX7_search : Cond) ∈ sf_T := sf_memS 29 rfl rfl
theorem tw_30 : (.selects "StereoFormsModel" yX7_rowOf yX7_rowOf : Cond) ∈ sf_T := sf_memS 30 rfl rfl
theorem tw_31 : (.selects "StereoFormsModel" yX7_packed yX7_packed : Cond) ∈ sf_T := sf_memS 31 rfl rfl
theorem tw_32 : (.selects "StereoFormsModel" yX7_nextOrder yX7_nextOrder : Cond) ∈ sf_T := sf_memS 32 rfl rfl
theorem tw_33 : (.selects "StereoFormsModel" yX7_swap yX7_swap : Cond) ∈ sf_T := sf_memS 33 rfl rfl
theorem tw_34 : (.selects "StereoFormsModel" yX7_leastSenses yX7_leastSenses : Cond) ∈ sf_T := sf_memS 34 rfl rfl
theorem tw_35 : (.selects "StereoFormsModel" yX7_unpack yX7_unpack : Cond) ∈ sf_T := sf_memS 35 rfl rfl
theorem tw_36 : (.selects "StereoFormsModel" yX7_sensesNow yX7_sensesNow : Cond) ∈ sf_T := sf_memS 36 rfl rfl
theorem tw_37 : (.selects "StereoFormsModel" yX7_putElement yX7_putElement : Cond) ∈ sf_T := sf_memS 37 rfl rfl
theorem tw_38 : (.selects "StereoFormsModel" yX7_put yX7_put : Cond) ∈ sf_T := sf_memS 38 rfl rfl
theorem tw_39 : (.selects "StereoFormsModel" yX7_putBond yX7_putBond : Cond) ∈ sf_T := sf_memS 39 rfl rfl
theorem inX0 : ∀ w ∈ u_ws RX0 TX0 10, w ∈ sf_T := by decide +kernel
theorem inX1 : ∀ w ∈ u_ws RX1 TX1 3, w ∈ sf_T := by decide +kernel
theorem inX2 : ∀ w ∈ u_ws RX2 TX2 2, w ∈ sf_T := by decide +kernel
theorem inX3 : ∀ w ∈ u_ws RX3 TX3 5, w ∈ sf_T := by decide +kernel
theorem inX4 : ∀ w ∈ u_ws RX4 TX4 4, w ∈ sf_T := by decide +kernel
theorem inX5 : ∀ w ∈ u_ws RX5 TX5 2, w ∈ sf_T := by decide +kernel
theorem inX6 : ∀ w ∈ u_ws RX6 TX6 11, w ∈ sf_T := by decide +kernel
theorem inX7 : ∀ w ∈ u_ws RX7 TX7 23, w ∈ sf_T := by decide +kernel
end
section
theorem dX6_init_0 : decode cX6_init 0 = .ok (.aload_n 0, 1) := by decide +kernel
theorem dX6_init_1 : decode cX6_init 1 = .ok (.invokespecial 5, 3) := by decide +kernel
theorem dX6_init_4 : decode cX6_init 4 = .ok (.aload_n 0, 1) := by decide +kernel
theorem dX6_init_5 : decode cX6_init 5 = .ok (.new 11, 3) := by decide +kernel
theorem dX6_init_8 : decode cX6_init 8 = .ok (.dup, 1) := by decide +kernel
theorem dX6_init_9 : decode cX6_init 9 = .ok (.invokespecial 13, 3) := by decide +kernel
theorem dX6_init_12 : decode cX6_init 12 = .ok (.putfield 14, 3) := by decide +kernel
theorem dX6_init_15 : decode cX6_init 15 = .ok (.aload_n 0, 1) := by decide +kernel
theorem dX6_init_16 : decode cX6_init 16 = .ok (.new 18, 3) := by decide +kernel
theorem dX6_init_19 : decode cX6_init 19 = .ok (.dup, 1) := by decide +kernel
theorem dX6_init_20 : decode cX6_init 20 = .ok (.invokespecial 20, 3) := by decide +kernel
theorem dX6_init_23 : decode cX6_init 23 = .ok (.putfield 21, 3) := by decide +kernel
theorem dX6_init_26 : decode cX6_init 26 = .ok (.aload_n 0, 1) := by decide +kernel
theorem dX6_init_27 : decode cX6_init 27 = .ok (.new 18, 3) := by decide +kernel
theorem dX6_init_30 : decode cX6_init 30 = .ok (.dup, 1) := by decide +kernel
theorem dX6_init_31 : decode cX6_init 31 = .ok (.invokespecial 20, 3) := by decide +kernel
theorem dX6_init_34 : decode cX6_init 34 = .ok (.putfield 25, 3) := by decide +kernel
theorem dX6_init_37 : decode cX6_init 37 = .ok (.aload_n 0, 1) := by decide +kernel
theorem dX6_init_38 : decode cX6_init 38 = .ok (.new 28, 3) := by decide +kernel
theorem dX6_init_41 : decode cX6_init 41 = .ok (.dup, 1) := by decide +kernel
theorem dX6_init_42 : decode cX6_init 42 = .ok (.invokespecial 30, 3) := by decide +kernel
theorem dX6_init_45 : decode cX6_init 45 = .ok (.putfield 31, 3) := by decide +kernel
theorem dX6_init_48 : decode cX6_init 48 = .ok (.aload_n 0, 1) := by decide +kernel
theorem dX6_init_49 : decode cX6_init 49 = .ok (.new 35, 3) := by decide +kernel
theorem dX6_init_52 : decode cX6_init 52 = .ok (.dup, 1) := by decide +kernel
theorem dX6_init_53 : decode cX6_init 53 = .ok (.invokespecial 37, 3) := by decide +kernel
theorem dX6_init_56 : decode cX6_init 56 = .ok (.putfield 38, 3) := by decide +kernel
theorem dX6_init_59 : decode cX6_init 59 = .ok (.aload_n 0, 1) := by decide +kernel
theorem dX6_init_60 : decode cX6_init 60 = .ok (.new 35, 3) := by decide +kernel
theorem dX6_init_63 : decode cX6_init 63 = .ok (.dup, 1) := by decide +kernel
theorem dX6_init_64 : decode cX6_init 64 = .ok (.invokespecial 37, 3) := by decide +kernel
theorem dX6_init_67 : decode cX6_init 67 = .ok (.putfield 42, 3) := by decide +kernel
theorem dX6_init_70 : decode cX6_init 70 = .ok (.aload_n 0, 1) := by decide +kernel
theorem dX6_init_71 : decode cX6_init 71 = .ok (.new 45, 3) := by decide +kernel
theorem dX6_init_74 : decode cX6_init 74 = .ok (.dup, 1) := by decide +kernel
theorem dX6_init_75 : decode cX6_init 75 = .ok (.invokespecial 47, 3) := by decide +kernel
theorem dX6_init_78 : decode cX6_init 78 = .ok (.putfield 48, 3) := by decide +kernel
theorem dX6_init_81 : decode cX6_init 81 = .ok (.aload_n 0, 1) := by decide +kernel
theorem dX6_init_82 : decode cX6_init 82 = .ok (.new 52, 3) := by decide +kernel
theorem dX6_init_85 : decode cX6_init 85 = .ok (.dup, 1) := by decide +kernel
theorem dX6_init_86 : decode cX6_init 86 = .ok (.invokespecial 54, 3) := by decide +kernel
theorem dX6_init_89 : decode cX6_init 89 = .ok (.putfield 55, 3) := by decide +kernel
theorem dX6_init_92 : decode cX6_init 92 = .ok (.aload_n 0, 1) := by decide +kernel
theorem dX6_init_93 : decode cX6_init 93 = .ok (.bipush 16, 2) := by decide +kernel
theorem dX6_init_95 : decode cX6_init 95 = .ok (.newarray .int, 2) := by decide +kernel
theorem dX6_init_97 : decode cX6_init 97 = .ok (.putfield 59, 3) := by decide +kernel
theorem dX6_init_100 : decode cX6_init 100 = .ok (.aload_n 0, 1) := by decide +kernel
theorem dX6_init_101 : decode cX6_init 101 = .ok (.iconst 0, 1) := by decide +kernel
theorem dX6_init_102 : decode cX6_init 102 = .ok (.putfield 63, 3) := by decide +kernel
theorem dX6_init_105 : decode cX6_init 105 = .ok (.aload_n 0, 1) := by decide +kernel
theorem dX6_init_106 : decode cX6_init 106 = .ok (.iconst 0, 1) := by decide +kernel
theorem dX6_init_107 : decode cX6_init 107 = .ok (.putfield 67, 3) := by decide +kernel
theorem dX6_init_110 : decode cX6_init 110 = .ok (.return_, 1) := by decide +kernel
theorem dX0_init_0 : decode cX0_init 0 = .ok (.aload_n 0, 1) := by decide +kernel
theorem dX0_init_1 : decode cX0_init 1 = .ok (.invokespecial 3, 3) := by decide +kernel
theorem dX0_init_4 : decode cX0_init 4 = .ok (.aload_n 0, 1) := by decide +kernel
theorem dX0_init_5 : decode cX0_init 5 = .ok (.bipush 7, 2) := by decide +kernel
theorem dX0_init_7 : decode cX0_init 7 = .ok (.newarray .int, 2) := by decide +kernel
theorem dX0_init_9 : decode cX0_init 9 = .ok (.putfield 9, 3) := by decide +kernel
theorem dX0_init_12 : decode cX0_init 12 = .ok (.aload_n 0, 1) := by decide +kernel
theorem dX0_init_13 : decode cX0_init 13 = .ok (.bipush 7, 2) := by decide +kernel
theorem dX0_init_15 : decode cX0_init 15 = .ok (.newarray .int, 2) := by decide +kernel
theorem dX0_init_17 : decode cX0_init 17 = .ok (.putfield 15, 3) := by decide +kernel
theorem dX0_init_20 : decode cX0_init 20 = .ok (.aload_n 0, 1) := by decide +kernel
theorem dX0_init_21 : decode cX0_init 21 = .ok (.bipush 7, 2) := by decide +kernel
theorem dX0_init_23 : decode cX0_init 23 = .ok (.newarray .int, 2) := by decide +kernel
theorem dX0_init_25 : decode cX0_init 25 = .ok (.putfield 18, 3) := by decide +kernel
theorem dX0_init_28 : decode cX0_init 28 = .ok (.aload_n 0, 1) := by decide +kernel
theorem dX0_init_29 : decode cX0_init 29 = .ok (.iconst 0, 1) := by decide +kernel
theorem dX0_init_30 : decode cX0_init 30 = .ok (.putfield 21, 3) := by decide +kernel
theorem dX0_init_33 : decode cX0_init 33 = .ok (.aload_n 0, 1) := by decide +kernel
theorem dX0_init_34 : decode cX0_init 34 = .ok (.bipush 9, 2) := by decide +kernel
theorem dX0_init_36 : decode cX0_init 36 = .ok (.newarray .int, 2) := by decide +kernel
theorem dX0_init_38 : decode cX0_init 38 = .ok (.putfield 25, 3) := by decide +kernel
theorem dX0_init_41 : decode cX0_init 41 = .ok (.aload_n 0, 1) := by decide +kernel
theorem dX0_init_42 : decode cX0_init 42 = .ok (.bipush 9, 2) := by decide +kernel
theorem dX0_init_44 : decode cX0_init 44 = .ok (.newarray .int, 2) := by decide +kernel
theorem dX0_init_46 : decode cX0_init 46 = .ok (.putfield 28, 3) := by decide +kernel
theorem dX0_init_49 : decode cX0_init 49 = .ok (.aload_n 0, 1) := by decide +kernel
theorem dX0_init_50 : decode cX0_init 50 = .ok (.bipush 9, 2) := by decide +kernel
theorem dX0_init_52 : decode cX0_init 52 = .ok (.newarray .int, 2) := by decide +kernel
theorem dX0_init_54 : decode cX0_init 54 = .ok (.putfield 31, 3) := by decide +kernel
theorem dX0_init_57 : decode cX0_init 57 = .ok (.aload_n 0, 1) := by decide +kernel
theorem dX0_init_58 : decode cX0_init 58 = .ok (.bipush 9, 2) := by decide +kernel
theorem dX0_init_60 : decode cX0_init 60 = .ok (.newarray .int, 2) := by decide +kernel
theorem dX0_init_62 : decode cX0_init 62 = .ok (.putfield 34, 3) := by decide +kernel
theorem dX0_init_65 : decode cX0_init 65 = .ok (.aload_n 0, 1) := by decide +kernel
theorem dX0_init_66 : decode cX0_init 66 = .ok (.iconst 0, 1) := by decide +kernel
theorem dX0_init_67 : decode cX0_init 67 = .ok (.putfield 37, 3) := by decide +kernel
theorem dX0_init_70 : decode cX0_init 70 = .ok (.aload_n 0, 1) := by decide +kernel
theorem dX0_init_71 : decode cX0_init 71 = .ok (.bipush 7, 2) := by decide +kernel
theorem dX0_init_73 : decode cX0_init 73 = .ok (.bipush 7, 2) := by decide +kernel
theorem dX0_init_75 : decode cX0_init 75 = .ok (.multianewarray 40 2, 4) := by decide +kernel
theorem dX0_init_79 : decode cX0_init 79 = .ok (.putfield 42, 3) := by decide +kernel
theorem dX0_init_82 : decode cX0_init 82 = .ok (.return_, 1) := by decide +kernel
theorem dX4_init_0 : decode cX4_init 0 = .ok (.aload_n 0, 1) := by decide +kernel
theorem dX4_init_1 : decode cX4_init 1 = .ok (.invokespecial 3, 3) := by decide +kernel
theorem dX4_init_4 : decode cX4_init 4 = .ok (.aload_n 0, 1) := by decide +kernel
theorem dX4_init_5 : decode cX4_init 5 = .ok (.bipush 7, 2) := by decide +kernel
theorem dX4_init_7 : decode cX4_init 7 = .ok (.newarray .int, 2) := by decide +kernel
theorem dX4_init_9 : decode cX4_init 9 = .ok (.putfield 9, 3) := by decide +kernel
theorem dX4_init_12 : decode cX4_init 12 = .ok (.aload_n 0, 1) := by decide +kernel
theorem dX4_init_13 : decode cX4_init 13 = .ok (.bipush 9, 2) := by decide +kernel
theorem dX4_init_15 : decode cX4_init 15 = .ok (.newarray .int, 2) := by decide +kernel
theorem dX4_init_17 : decode cX4_init 17 = .ok (.putfield 15, 3) := by decide +kernel
theorem dX4_init_20 : decode cX4_init 20 = .ok (.aload_n 0, 1) := by decide +kernel
theorem dX4_init_21 : decode cX4_init 21 = .ok (.bipush 9, 2) := by decide +kernel
theorem dX4_init_23 : decode cX4_init 23 = .ok (.newarray .boolean, 2) := by decide +kernel
theorem dX4_init_25 : decode cX4_init 25 = .ok (.putfield 18, 3) := by decide +kernel
theorem dX4_init_28 : decode cX4_init 28 = .ok (.aload_n 0, 1) := by decide +kernel
theorem dX4_init_29 : decode cX4_init 29 = .ok (.iconst 4, 1) := by decide +kernel
theorem dX4_init_30 : decode cX4_init 30 = .ok (.newarray .int, 2) := by decide +kernel
theorem dX4_init_32 : decode cX4_init 32 = .ok (.putfield 22, 3) := by decide +kernel
theorem dX4_init_35 : decode cX4_init 35 = .ok (.return_, 1) := by decide +kernel
theorem dX3_init_0 : decode cX3_init 0 = .ok (.aload_n 0, 1) := by decide +kernel
theorem dX3_init_1 : decode cX3_init 1 = .ok (.invokespecial 3, 3) := by decide +kernel
theorem dX3_init_4 : decode cX3_init 4 = .ok (.aload_n 0, 1) := by decide +kernel
theorem dX3_init_5 : decode cX3_init 5 = .ok (.bipush 7, 2) := by decide +kernel
theorem dX3_init_7 : decode cX3_init 7 = .ok (.newarray .int, 2) := by decide +kernel
theorem dX3_init_9 : decode cX3_init 9 = .ok (.putfield 9, 3) := by decide +kernel
theorem dX3_init_12 : decode cX3_init 12 = .ok (.aload_n 0, 1) := by decide +kernel
theorem dX3_init_13 : decode cX3_init 13 = .ok (.new 15, 3) := by decide +kernel
theorem dX3_init_16 : decode cX3_init 16 = .ok (.dup, 1) := by decide +kernel
theorem dX3_init_17 : decode cX3_init 17 = .ok (.invokespecial 17, 3) := by decide +kernel
theorem dX3_init_20 : decode cX3_init 20 = .ok (.putfield 18, 3) := by decide +kernel
theorem dX3_init_23 : decode cX3_init 23 = .ok (.aload_n 0, 1) := by decide +kernel
theorem dX3_init_24 : decode cX3_init 24 = .ok (.new 15, 3) := by decide +kernel
theorem dX3_init_27 : decode cX3_init 27 = .ok (.dup, 1) := by decide +kernel
theorem dX3_init_28 : decode cX3_init 28 = .ok (.invokespecial 17, 3) := by decide +kernel
theorem dX3_init_31 : decode cX3_init 31 = .ok (.putfield 22, 3) := by decide +kernel
theorem dX3_init_34 : decode cX3_init 34 = .ok (.aload_n 0, 1) := by decide +kernel
theorem dX3_init_35 : decode cX3_init 35 = .ok (.bipush 7, 2) := by decide +kernel
theorem dX3_init_37 : decode cX3_init 37 = .ok (.newarray .int, 2) := by decide +kernel
theorem dX3_init_39 : decode cX3_init 39 = .ok (.putfield 25, 3) := by decide +kernel
theorem dX3_init_42 : decode cX3_init 42 = .ok (.aload_n 0, 1) := by decide +kernel
theorem dX3_init_43 : decode cX3_init 43 = .ok (.ldc 28, 2) := by decide +kernel
theorem dX3_init_45 : decode cX3_init 45 = .ok (.putfield 29, 3) := by decide +kernel
theorem dX3_init_48 : decode cX3_init 48 = .ok (.return_, 1) := by decide +kernel
theorem dX2_init_0 : decode cX2_init 0 = .ok (.aload_n 0, 1) := by decide +kernel
theorem dX2_init_1 : decode cX2_init 1 = .ok (.invokespecial 3, 3) := by decide +kernel
theorem dX2_init_4 : decode cX2_init 4 = .ok (.aload_n 0, 1) := by decide +kernel
theorem dX2_init_5 : decode cX2_init 5 = .ok (.bipush 7, 2) := by decide +kernel
theorem dX2_init_7 : decode cX2_init 7 = .ok (.newarray .int, 2) := by decide +kernel
theorem dX2_init_9 : decode cX2_init 9 = .ok (.putfield 9, 3) := by decide +kernel
theorem dX2_init_12 : decode cX2_init 12 = .ok (.aload_n 0, 1) := by decide +kernel
theorem dX2_init_13 : decode cX2_init 13 = .ok (.bipush 7, 2) := by decide +kernel
theorem dX2_init_15 : decode cX2_init 15 = .ok (.newarray .int, 2) := by decide +kernel
theorem dX2_init_17 : decode cX2_init 17 = .ok (.putfield 15, 3) := by decide +kernel
theorem dX2_init_20 : decode cX2_init 20 = .ok (.return_, 1) := by decide +kernel
theorem dX1_init_0 : decode cX1_init 0 = .ok (.aload_n 0, 1) := by decide +kernel
theorem dX1_init_1 : decode cX1_init 1 = .ok (.invokespecial 3, 3) := by decide +kernel
theorem dX1_init_4 : decode cX1_init 4 = .ok (.aload_n 0, 1) := by decide +kernel
theorem dX1_init_5 : decode cX1_init 5 = .ok (.iconst (-1), 1) := by decide +kernel
theorem dX1_init_6 : decode cX1_init 6 = .ok (.putfield 9, 3) := by decide +kernel
theorem dX1_init_9 : decode cX1_init 9 = .ok (.aload_n 0, 1) := by decide +kernel
theorem dX1_init_10 : decode cX1_init 10 = .ok (.bipush 7, 2) := by decide +kernel
theorem dX1_init_12 : decode cX1_init 12 = .ok (.newarray .int, 2) := by decide +kernel
theorem dX1_init_14 : decode cX1_init 14 = .ok (.putfield 15, 3) := by decide +kernel
theorem dX1_init_17 : decode cX1_init 17 = .ok (.aload_n 0, 1) := by decide +kernel
theorem dX1_init_18 : decode cX1_init 18 = .ok (.iconst 0, 1) := by decide +kernel
theorem dX1_init_19 : decode cX1_init 19 = .ok (.putfield 19, 3) := by decide +kernel
theorem dX1_init_22 : decode cX1_init 22 = .ok (.return_, 1) := by decide +kernel
theorem dX5_init_0 : decode cX5_init 0 = .ok (.aload_n 0, 1) := by decide +kernel
theorem dX5_init_1 : decode cX5_init 1 = .ok (.invokespecial 3, 3) := by decide +kernel
theorem dX5_init_4 : decode cX5_init 4 = .ok (.aload_n 0, 1) := by decide +kernel
theorem dX5_init_5 : decode cX5_init 5 = .ok (.bipush 80, 2) := by decide +kernel
theorem dX5_init_7 : decode cX5_init 7 = .ok (.newarray .char, 2) := by decide +kernel
theorem dX5_init_9 : decode cX5_init 9 = .ok (.putfield 9, 3) := by decide +kernel
theorem dX5_init_12 : decode cX5_init 12 = .ok (.aload_n 0, 1) := by decide +kernel
theorem dX5_init_13 : decode cX5_init 13 = .ok (.iconst 0, 1) := by decide +kernel
theorem dX5_init_14 : decode cX5_init 14 = .ok (.putfield 15, 3) := by decide +kernel
theorem dX5_init_17 : decode cX5_init 17 = .ok (.return_, 1) := by decide +kernel
theorem dX6_atom_0 : decode cX6_atom 0 = .ok (.iload_n 1, 1) := by decide +kernel
theorem dX6_atom_1 : decode cX6_atom 1 = .ok (.ifCond .lt 19, 3) := by decide +kernel
theorem dX6_atom_4 : decode cX6_atom 4 = .ok (.iload_n 1, 1) := by decide +kernel
theorem dX6_atom_5 : decode cX6_atom 5 = .ok (.getstatic 71, 3) := by decide +kernel
theorem dX6_atom_8 : decode cX6_atom 8 = .ok (.arraylength, 1) := by decide +kernel
theorem dX6_atom_9 : decode cX6_atom 9 = .ok (.if_icmp .ge 11, 3) := by decide +kernel
theorem dX6_atom_12 : decode cX6_atom 12 = .ok (.iload_n 2, 1) := by decide +kernel
theorem dX6_atom_13 : decode cX6_atom 13 = .ok (.iload_n 3, 1) := by decide +kernel
theorem dX6_atom_14 : decode cX6_atom 14 = .ok (.invokestatic 74, 3) := by decide +kernel
theorem dX6_atom_17 : decode cX6_atom 17 = .ok (.ifCond .ne 5, 3) := by decide +kernel
theorem dX6_atom_20 : decode cX6_atom 20 = .ok (.iconst (-1), 1) := by decide +kernel
theorem dX6_atom_21 : decode cX6_atom 21 = .ok (.ireturn, 1) := by decide +kernel
theorem dX6_atom_22 : decode cX6_atom 22 = .ok (.aload_n 0, 1) := by decide +kernel
theorem dX6_atom_23 : decode cX6_atom 23 = .ok (.getfield 14, 3) := by decide +kernel
theorem dX6_atom_26 : decode cX6_atom 26 = .ok (.getfield 78, 3) := by decide +kernel
theorem dX6_atom_29 : decode cX6_atom 29 = .ok (.bipush 7, 2) := by decide +kernel
theorem dX6_atom_31 : decode cX6_atom 31 = .ok (.if_icmp .lt 6, 3) := by decide +kernel
theorem dX6_atom_34 : decode cX6_atom 34 = .ok (.bipush (-2), 2) := by decide +kernel
theorem dX6_atom_36 : decode cX6_atom 36 = .ok (.ireturn, 1) := by decide +kernel
theorem dX6_atom_37 : decode cX6_atom 37 = .ok (.aload_n 0, 1) := by decide +kernel
theorem dX6_atom_38 : decode cX6_atom 38 = .ok (.iconst 0, 1) := by decide +kernel
theorem dX6_atom_39 : decode cX6_atom 39 = .ok (.putfield 67, 3) := by decide +kernel
theorem dX6_atom_42 : decode cX6_atom 42 = .ok (.aload_n 0, 1) := by decide +kernel
theorem dX6_atom_43 : decode cX6_atom 43 = .ok (.getfield 14, 3) := by decide +kernel
theorem dX6_atom_46 : decode cX6_atom 46 = .ok (.iload_n 1, 1) := by decide +kernel
theorem dX6_atom_47 : decode cX6_atom 47 = .ok (.iload_n 2, 1) := by decide +kernel
theorem dX6_atom_48 : decode cX6_atom 48 = .ok (.iload_n 3, 1) := by decide +kernel
theorem dX6_atom_49 : decode cX6_atom 49 = .ok (.invokevirtual 81, 3) := by decide +kernel
theorem dX6_atom_52 : decode cX6_atom 52 = .ok (.ireturn, 1) := by decide +kernel
theorem dX6_isPlace_0 : decode cX6_isPlace 0 = .ok (.iload_n 0, 1) := by decide +kernel
theorem dX6_isPlace_1 : decode cX6_isPlace 1 = .ok (.sipush (-1000), 3) := by decide +kernel
theorem dX6_isPlace_4 : decode cX6_isPlace 4 = .ok (.if_icmp .lt 28, 3) := by decide +kernel
theorem dX6_isPlace_7 : decode cX6_isPlace 7 = .ok (.iload_n 0, 1) := by decide +kernel
theorem dX6_isPlace_8 : decode cX6_isPlace 8 = .ok (.sipush 1000, 3) := by decide +kernel
theorem dX6_isPlace_11 : decode cX6_isPlace 11 = .ok (.if_icmp .gt 21, 3) := by decide +kernel
theorem dX6_isPlace_14 : decode cX6_isPlace 14 = .ok (.iload_n 1, 1) := by decide +kernel
theorem dX6_isPlace_15 : decode cX6_isPlace 15 = .ok (.sipush (-1000), 3) := by decide +kernel
theorem dX6_isPlace_18 : decode cX6_isPlace 18 = .ok (.if_icmp .lt 14, 3) := by decide +kernel
theorem dX6_isPlace_21 : decode cX6_isPlace 21 = .ok (.iload_n 1, 1) := by decide +kernel
theorem dX6_isPlace_22 : decode cX6_isPlace 22 = .ok (.sipush 1000, 3) := by decide +kernel
theorem dX6_isPlace_25 : decode cX6_isPlace 25 = .ok (.if_icmp .gt 7, 3) := by decide +kernel
theorem dX6_isPlace_28 : decode cX6_isPlace 28 = .ok (.iconst 1, 1) := by decide +kernel
theorem dX6_isPlace_29 : decode cX6_isPlace 29 = .ok (.goto 4, 3) := by decide +kernel
theorem dX6_isPlace_32 : decode cX6_isPlace 32 = .ok (.iconst 0, 1) := by decide +kernel
theorem dX6_isPlace_33 : decode cX6_isPlace 33 = .ok (.ireturn, 1) := by decide +kernel
theorem dX0_addAtom_0 : decode cX0_addAtom 0 = .ok (.aload_n 0, 1) := by decide +kernel
theorem dX0_addAtom_1 : decode cX0_addAtom 1 = .ok (.getfield 21, 3) := by decide +kernel
theorem dX0_addAtom_4 : decode cX0_addAtom 4 = .ok (.istore 4, 2) := by decide +kernel
theorem dX0_addAtom_6 : decode cX0_addAtom 6 = .ok (.aload_n 0, 1) := by decide +kernel
theorem dX0_addAtom_7 : decode cX0_addAtom 7 = .ok (.getfield 9, 3) := by decide +kernel
theorem dX0_addAtom_10 : decode cX0_addAtom 10 = .ok (.iload 4, 2) := by decide +kernel
theorem dX0_addAtom_12 : decode cX0_addAtom 12 = .ok (.iload_n 1, 1) := by decide +kernel
theorem dX0_addAtom_13 : decode cX0_addAtom 13 = .ok (.iastore, 1) := by decide +kernel
theorem dX0_addAtom_14 : decode cX0_addAtom 14 = .ok (.aload_n 0, 1) := by decide +kernel
theorem dX0_addAtom_15 : decode cX0_addAtom 15 = .ok (.getfield 15, 3) := by decide +kernel
theorem dX0_addAtom_18 : decode cX0_addAtom 18 = .ok (.iload 4, 2) := by decide +kernel
theorem dX0_addAtom_20 : decode cX0_addAtom 20 = .ok (.iload_n 2, 1) := by decide +kernel
theorem dX0_addAtom_21 : decode cX0_addAtom 21 = .ok (.iastore, 1) := by decide +kernel
theorem dX0_addAtom_22 : decode cX0_addAtom 22 = .ok (.aload_n 0, 1) := by decide +kernel
theorem dX0_addAtom_23 : decode cX0_addAtom 23 = .ok (.getfield 18, 3) := by decide +kernel
theorem dX0_addAtom_26 : decode cX0_addAtom 26 = .ok (.iload 4, 2) := by decide +kernel
theorem dX0_addAtom_28 : decode cX0_addAtom 28 = .ok (.iload_n 3, 1) := by decide +kernel
theorem dX0_addAtom_29 : decode cX0_addAtom 29 = .ok (.iastore, 1) := by decide +kernel
theorem dX0_addAtom_30 : decode cX0_addAtom 30 = .ok (.aload_n 0, 1) := by decide +kernel
theorem dX0_addAtom_31 : decode cX0_addAtom 31 = .ok (.dup, 1) := by decide +kernel
theorem dX0_addAtom_32 : decode cX0_addAtom 32 = .ok (.getfield 21, 3) := by decide +kernel
theorem dX0_addAtom_35 : decode cX0_addAtom 35 = .ok (.iconst 1, 1) := by decide +kernel
theorem dX0_addAtom_36 : decode cX0_addAtom 36 = .ok (.iadd, 1) := by decide +kernel
theorem dX0_addAtom_37 : decode cX0_addAtom 37 = .ok (.putfield 21, 3) := by decide +kernel
theorem dX0_addAtom_40 : decode cX0_addAtom 40 = .ok (.iload 4, 2) := by decide +kernel
theorem dX0_addAtom_42 : decode cX0_addAtom 42 = .ok (.ireturn, 1) := by decide +kernel
theorem dX6_bond_0 : decode cX6_bond 0 = .ok (.aload_n 0, 1) := by decide +kernel
theorem dX6_bond_1 : decode cX6_bond 1 = .ok (.getfield 14, 3) := by decide +kernel
theorem dX6_bond_4 : decode cX6_bond 4 = .ok (.iload_n 1, 1) := by decide +kernel
theorem dX6_bond_5 : decode cX6_bond 5 = .ok (.invokevirtual 85, 3) := by decide +kernel
theorem dX6_bond_8 : decode cX6_bond 8 = .ok (.ifCond .eq 19, 3) := by decide +kernel
theorem dX6_bond_11 : decode cX6_bond 11 = .ok (.aload_n 0, 1) := by decide +kernel
theorem dX6_bond_12 : decode cX6_bond 12 = .ok (.getfield 14, 3) := by decide +kernel
theorem dX6_bond_15 : decode cX6_bond 15 = .ok (.iload_n 2, 1) := by decide +kernel
theorem dX6_bond_16 : decode cX6_bond 16 = .ok (.invokevirtual 85, 3) := by decide +kernel
theorem dX6_bond_19 : decode cX6_bond 19 = .ok (.ifCond .eq 8, 3) := by decide +kernel
theorem dX6_bond_22 : decode cX6_bond 22 = .ok (.iload_n 1, 1) := by decide +kernel
theorem dX6_bond_23 : decode cX6_bond 23 = .ok (.iload_n 2, 1) := by decide +kernel
theorem dX6_bond_24 : decode cX6_bond 24 = .ok (.if_icmp .ne 5, 3) := by decide +kernel
theorem dX6_bond_27 : decode cX6_bond 27 = .ok (.iconst (-1), 1) := by decide +kernel
theorem dX6_bond_28 : decode cX6_bond 28 = .ok (.ireturn, 1) := by decide +kernel
theorem dX6_bond_29 : decode cX6_bond 29 = .ok (.iload_n 3, 1) := by decide +kernel
theorem dX6_bond_30 : decode cX6_bond 30 = .ok (.iconst 1, 1) := by decide +kernel
theorem dX6_bond_31 : decode cX6_bond 31 = .ok (.if_icmp .lt 28, 3) := by decide +kernel
theorem dX6_bond_34 : decode cX6_bond 34 = .ok (.iload_n 3, 1) := by decide +kernel
theorem dX6_bond_35 : decode cX6_bond 35 = .ok (.iconst 3, 1) := by decide +kernel
theorem dX6_bond_36 : decode cX6_bond 36 = .ok (.if_icmp .gt 23, 3) := by decide +kernel
theorem dX6_bond_39 : decode cX6_bond 39 = .ok (.iload 4, 2) := by decide +kernel
theorem dX6_bond_41 : decode cX6_bond 41 = .ok (.invokestatic 89, 3) := by decide +kernel
theorem dX6_bond_44 : decode cX6_bond 44 = .ok (.ifCond .eq 15, 3) := by decide +kernel
theorem dX6_bond_47 : decode cX6_bond 47 = .ok (.aload_n 0, 1) := by decide +kernel
theorem dX6_bond_48 : decode cX6_bond 48 = .ok (.getfield 14, 3) := by decide +kernel
theorem dX6_bond_51 : decode cX6_bond 51 = .ok (.iload_n 1, 1) := by decide +kernel
theorem dX6_bond_52 : decode cX6_bond 52 = .ok (.iload_n 2, 1) := by decide +kernel
theorem dX6_bond_53 : decode cX6_bond 53 = .ok (.invokevirtual 92, 3) := by decide +kernel
theorem dX6_bond_56 : decode cX6_bond 56 = .ok (.ifCond .eq 5, 3) := by decide +kernel
theorem dX6_bond_59 : decode cX6_bond 59 = .ok (.iconst (-1), 1) := by decide +kernel
theorem dX6_bond_60 : decode cX6_bond 60 = .ok (.ireturn, 1) := by decide +kernel
theorem dX6_bond_61 : decode cX6_bond 61 = .ok (.aload_n 0, 1) := by decide +kernel
theorem dX6_bond_62 : decode cX6_bond 62 = .ok (.getfield 14, 3) := by decide +kernel
theorem dX6_bond_65 : decode cX6_bond 65 = .ok (.getfield 95, 3) := by decide +kernel
theorem dX6_bond_68 : decode cX6_bond 68 = .ok (.bipush 9, 2) := by decide +kernel
theorem dX6_bond_70 : decode cX6_bond 70 = .ok (.if_icmp .lt 6, 3) := by decide +kernel
theorem dX6_bond_73 : decode cX6_bond 73 = .ok (.bipush (-2), 2) := by decide +kernel
theorem dX6_bond_75 : decode cX6_bond 75 = .ok (.ireturn, 1) := by decide +kernel
theorem dX6_bond_76 : decode cX6_bond 76 = .ok (.iload_n 3, 1) := by decide +kernel
theorem dX6_bond_77 : decode cX6_bond 77 = .ok (.aload_n 0, 1) := by decide +kernel
theorem dX6_bond_78 : decode cX6_bond 78 = .ok (.getfield 14, 3) := by decide +kernel
theorem dX6_bond_81 : decode cX6_bond 81 = .ok (.iload_n 1, 1) := by decide +kernel
theorem dX6_bond_82 : decode cX6_bond 82 = .ok (.invokevirtual 98, 3) := by decide +kernel
theorem dX6_bond_85 : decode cX6_bond 85 = .ok (.if_icmp .gt 15, 3) := by decide +kernel
theorem dX6_bond_88 : decode cX6_bond 88 = .ok (.iload_n 3, 1) := by decide +kernel
theorem dX6_bond_89 : decode cX6_bond 89 = .ok (.aload_n 0, 1) := by decide +kernel
theorem dX6_bond_90 : decode cX6_bond 90 = .ok (.getfield 14, 3) := by decide +kernel
theorem dX6_bond_93 : decode cX6_bond 93 = .ok (.iload_n 2, 1) := by decide +kernel
theorem dX6_bond_94 : decode cX6_bond 94 = .ok (.invokevirtual 98, 3) := by decide +kernel
theorem dX6_bond_97 : decode cX6_bond 97 = .ok (.if_icmp .le 6, 3) := by decide +kernel
theorem dX6_bond_100 : decode cX6_bond 100 = .ok (.bipush (-3), 2) := by decide +kernel
theorem dX6_bond_102 : decode cX6_bond 102 = .ok (.ireturn, 1) := by decide +kernel
theorem dX6_bond_103 : decode cX6_bond 103 = .ok (.aload_n 0, 1) := by decide +kernel
theorem dX6_bond_104 : decode cX6_bond 104 = .ok (.iconst 0, 1) := by decide +kernel
theorem dX6_bond_105 : decode cX6_bond 105 = .ok (.putfield 67, 3) := by decide +kernel
theorem dX6_bond_108 : decode cX6_bond 108 = .ok (.aload_n 0, 1) := by decide +kernel
theorem dX6_bond_109 : decode cX6_bond 109 = .ok (.getfield 14, 3) := by decide +kernel
theorem dX6_bond_112 : decode cX6_bond 112 = .ok (.iload_n 1, 1) := by decide +kernel
theorem dX6_bond_113 : decode cX6_bond 113 = .ok (.iload_n 2, 1) := by decide +kernel
theorem dX6_bond_114 : decode cX6_bond 114 = .ok (.iload_n 3, 1) := by decide +kernel
theorem dX6_bond_115 : decode cX6_bond 115 = .ok (.iload 4, 2) := by decide +kernel
theorem dX6_bond_117 : decode cX6_bond 117 = .ok (.invokevirtual 102, 3) := by decide +kernel
theorem dX6_bond_120 : decode cX6_bond 120 = .ok (.ireturn, 1) := by decide +kernel
theorem dX0_hasAtom_0 : decode cX0_hasAtom 0 = .ok (.iload_n 1, 1) := by decide +kernel
theorem dX0_hasAtom_1 : decode cX0_hasAtom 1 = .ok (.ifCond .lt 15, 3) := by decide +kernel
theorem dX0_hasAtom_4 : decode cX0_hasAtom 4 = .ok (.iload_n 1, 1) := by decide +kernel
theorem dX0_hasAtom_5 : decode cX0_hasAtom 5 = .ok (.aload_n 0, 1) := by decide +kernel
theorem dX0_hasAtom_6 : decode cX0_hasAtom 6 = .ok (.getfield 21, 3) := by decide +kernel
theorem dX0_hasAtom_9 : decode cX0_hasAtom 9 = .ok (.if_icmp .ge 7, 3) := by decide +kernel
theorem dX0_hasAtom_12 : decode cX0_hasAtom 12 = .ok (.iconst 1, 1) := by decide +kernel
theorem dX0_hasAtom_13 : decode cX0_hasAtom 13 = .ok (.goto 4, 3) := by decide +kernel
theorem dX0_hasAtom_16 : decode cX0_hasAtom 16 = .ok (.iconst 0, 1) := by decide +kernel
theorem dX0_hasAtom_17 : decode cX0_hasAtom 17 = .ok (.ireturn, 1) := by decide +kernel
theorem dX6_isMark_0 : decode cX6_isMark 0 = .ok (.iload_n 0, 1) := by decide +kernel
theorem dX6_isMark_1 : decode cX6_isMark 1 = .ok (.ifCond .lt 12, 3) := by decide +kernel
theorem dX6_isMark_4 : decode cX6_isMark 4 = .ok (.iload_n 0, 1) := by decide +kernel
theorem dX6_isMark_5 : decode cX6_isMark 5 = .ok (.iconst 2, 1) := by decide +kernel
theorem dX6_isMark_6 : decode cX6_isMark 6 = .ok (.if_icmp .gt 7, 3) := by decide +kernel
theorem dX6_isMark_9 : decode cX6_isMark 9 = .ok (.iconst 1, 1) := by decide +kernel
theorem dX6_isMark_10 : decode cX6_isMark 10 = .ok (.goto 4, 3) := by decide +kernel
theorem dX6_isMark_13 : decode cX6_isMark 13 = .ok (.iconst 0, 1) := by decide +kernel
theorem dX6_isMark_14 : decode cX6_isMark 14 = .ok (.ireturn, 1) := by decide +kernel
theorem dX0_areBonded_0 : decode cX0_areBonded 0 = .ok (.aload_n 0, 1) := by decide +kernel
theorem dX0_areBonded_1 : decode cX0_areBonded 1 = .ok (.getfield 42, 3) := by decide +kernel
theorem dX0_areBonded_4 : decode cX0_areBonded 4 = .ok (.iload_n 1, 1) := by decide +kernel
theorem dX0_areBonded_5 : decode cX0_areBonded 5 = .ok (.aaload, 1) := by decide +kernel
theorem dX0_areBonded_6 : decode cX0_areBonded 6 = .ok (.iload_n 2, 1) := by decide +kernel
theorem dX0_areBonded_7 : decode cX0_areBonded 7 = .ok (.iaload, 1) := by decide +kernel
theorem dX0_areBonded_8 : decode cX0_areBonded 8 = .ok (.ifCond .eq 7, 3) := by decide +kernel
theorem dX0_areBonded_11 : decode cX0_areBonded 11 = .ok (.iconst 1, 1) := by decide +kernel
theorem dX0_areBonded_12 : decode cX0_areBonded 12 = .ok (.goto 4, 3) := by decide +kernel
theorem dX0_areBonded_15 : decode cX0_areBonded 15 = .ok (.iconst 0, 1) := by decide +kernel
theorem dX0_areBonded_16 : decode cX0_areBonded 16 = .ok (.ireturn, 1) := by decide +kernel
theorem dX0_freeValence_0 : decode cX0_freeValence 0 = .ok (.getstatic 51, 3) := by decide +kernel
theorem dX0_freeValence_3 : decode cX0_freeValence 3 = .ok (.aload_n 0, 1) := by decide +kernel
theorem dX0_freeValence_4 : decode cX0_freeValence 4 = .ok (.getfield 9, 3) := by decide +kernel
theorem dX0_freeValence_7 : decode cX0_freeValence 7 = .ok (.iload_n 1, 1) := by decide +kernel
theorem dX0_freeValence_8 : decode cX0_freeValence 8 = .ok (.iaload, 1) := by decide +kernel
theorem dX0_freeValence_9 : decode cX0_freeValence 9 = .ok (.iaload, 1) := by decide +kernel
theorem dX0_freeValence_10 : decode cX0_freeValence 10 = .ok (.istore_n 2, 1) := by decide +kernel
theorem dX0_freeValence_11 : decode cX0_freeValence 11 = .ok (.iconst 0, 1) := by decide +kernel
theorem dX0_freeValence_12 : decode cX0_freeValence 12 = .ok (.istore_n 3, 1) := by decide +kernel
theorem dX0_freeValence_13 : decode cX0_freeValence 13 = .ok (.iload_n 3, 1) := by decide +kernel
theorem dX0_freeValence_14 : decode cX0_freeValence 14 = .ok (.aload_n 0, 1) := by decide +kernel
theorem dX0_freeValence_15 : decode cX0_freeValence 15 = .ok (.getfield 21, 3) := by decide +kernel
theorem dX0_freeValence_18 : decode cX0_freeValence 18 = .ok (.if_icmp .ge 18, 3) := by decide +kernel
theorem dX0_freeValence_21 : decode cX0_freeValence 21 = .ok (.iload_n 2, 1) := by decide +kernel
theorem dX0_freeValence_22 : decode cX0_freeValence 22 = .ok (.aload_n 0, 1) := by decide +kernel
theorem dX0_freeValence_23 : decode cX0_freeValence 23 = .ok (.iload_n 1, 1) := by decide +kernel
theorem dX0_freeValence_24 : decode cX0_freeValence 24 = .ok (.iload_n 3, 1) := by decide +kernel
theorem dX0_freeValence_25 : decode cX0_freeValence 25 = .ok (.invokevirtual 54, 3) := by decide +kernel
theorem dX0_freeValence_28 : decode cX0_freeValence 28 = .ok (.isub, 1) := by decide +kernel
theorem dX0_freeValence_29 : decode cX0_freeValence 29 = .ok (.istore_n 2, 1) := by decide +kernel
theorem dX0_freeValence_30 : decode cX0_freeValence 30 = .ok (.iinc 3 1, 3) := by decide +kernel
theorem dX0_freeValence_33 : decode cX0_freeValence 33 = .ok (.goto (-20), 3) := by decide +kernel
theorem dX0_freeValence_36 : decode cX0_freeValence 36 = .ok (.iload_n 2, 1) := by decide +kernel
theorem dX0_freeValence_37 : decode cX0_freeValence 37 = .ok (.ireturn, 1) := by decide +kernel
theorem dX0_orderOf_0 : decode cX0_orderOf 0 = .ok (.aload_n 0, 1) := by decide +kernel
theorem dX0_orderOf_1 : decode cX0_orderOf 1 = .ok (.getfield 42, 3) := by decide +kernel
theorem dX0_orderOf_4 : decode cX0_orderOf 4 = .ok (.iload_n 1, 1) := by decide +kernel
theorem dX0_orderOf_5 : decode cX0_orderOf 5 = .ok (.aaload, 1) := by decide +kernel
theorem dX0_orderOf_6 : decode cX0_orderOf 6 = .ok (.iload_n 2, 1) := by decide +kernel
theorem dX0_orderOf_7 : decode cX0_orderOf 7 = .ok (.iaload, 1) := by decide +kernel
theorem dX0_orderOf_8 : decode cX0_orderOf 8 = .ok (.istore_n 3, 1) := by decide +kernel
theorem dX0_orderOf_9 : decode cX0_orderOf 9 = .ok (.iload_n 3, 1) := by decide +kernel
theorem dX0_orderOf_10 : decode cX0_orderOf 10 = .ok (.ifCond .eq 14, 3) := by decide +kernel
theorem dX0_orderOf_13 : decode cX0_orderOf 13 = .ok (.aload_n 0, 1) := by decide +kernel
theorem dX0_orderOf_14 : decode cX0_orderOf 14 = .ok (.getfield 31, 3) := by decide +kernel
theorem dX0_orderOf_17 : decode cX0_orderOf 17 = .ok (.iload_n 3, 1) := by decide +kernel
theorem dX0_orderOf_18 : decode cX0_orderOf 18 = .ok (.iconst 1, 1) := by decide +kernel
theorem dX0_orderOf_19 : decode cX0_orderOf 19 = .ok (.isub, 1) := by decide +kernel
theorem dX0_orderOf_20 : decode cX0_orderOf 20 = .ok (.iaload, 1) := by decide +kernel
theorem dX0_orderOf_21 : decode cX0_orderOf 21 = .ok (.goto 4, 3) := by decide +kernel
theorem dX0_orderOf_24 : decode cX0_orderOf 24 = .ok (.iconst 0, 1) := by decide +kernel
theorem dX0_orderOf_25 : decode cX0_orderOf 25 = .ok (.ireturn, 1) := by decide +kernel
theorem dX0_addBond_0 : decode cX0_addBond 0 = .ok (.aload_n 0, 1) := by decide +kernel
theorem dX0_addBond_1 : decode cX0_addBond 1 = .ok (.getfield 37, 3) := by decide +kernel
theorem dX0_addBond_4 : decode cX0_addBond 4 = .ok (.istore 5, 2) := by decide +kernel
theorem dX0_addBond_6 : decode cX0_addBond 6 = .ok (.aload_n 0, 1) := by decide +kernel
theorem dX0_addBond_7 : decode cX0_addBond 7 = .ok (.getfield 25, 3) := by decide +kernel
theorem dX0_addBond_10 : decode cX0_addBond 10 = .ok (.iload 5, 2) := by decide +kernel
theorem dX0_addBond_12 : decode cX0_addBond 12 = .ok (.iload_n 1, 1) := by decide +kernel
theorem dX0_addBond_13 : decode cX0_addBond 13 = .ok (.iastore, 1) := by decide +kernel
theorem dX0_addBond_14 : decode cX0_addBond 14 = .ok (.aload_n 0, 1) := by decide +kernel
theorem dX0_addBond_15 : decode cX0_addBond 15 = .ok (.getfield 28, 3) := by decide +kernel
theorem dX0_addBond_18 : decode cX0_addBond 18 = .ok (.iload 5, 2) := by decide +kernel
theorem dX0_addBond_20 : decode cX0_addBond 20 = .ok (.iload_n 2, 1) := by decide +kernel
theorem dX0_addBond_21 : decode cX0_addBond 21 = .ok (.iastore, 1) := by decide +kernel
theorem dX0_addBond_22 : decode cX0_addBond 22 = .ok (.aload_n 0, 1) := by decide +kernel
theorem dX0_addBond_23 : decode cX0_addBond 23 = .ok (.getfield 31, 3) := by decide +kernel
theorem dX0_addBond_26 : decode cX0_addBond 26 = .ok (.iload 5, 2) := by decide +kernel
theorem dX0_addBond_28 : decode cX0_addBond 28 = .ok (.iload_n 3, 1) := by decide +kernel
theorem dX0_addBond_29 : decode cX0_addBond 29 = .ok (.iastore, 1) := by decide +kernel
theorem dX0_addBond_30 : decode cX0_addBond 30 = .ok (.aload_n 0, 1) := by decide +kernel
theorem dX0_addBond_31 : decode cX0_addBond 31 = .ok (.getfield 34, 3) := by decide +kernel
theorem dX0_addBond_34 : decode cX0_addBond 34 = .ok (.iload 5, 2) := by decide +kernel
theorem dX0_addBond_36 : decode cX0_addBond 36 = .ok (.iload 4, 2) := by decide +kernel
theorem dX0_addBond_38 : decode cX0_addBond 38 = .ok (.iastore, 1) := by decide +kernel
theorem dX0_addBond_39 : decode cX0_addBond 39 = .ok (.aload_n 0, 1) := by decide +kernel
theorem dX0_addBond_40 : decode cX0_addBond 40 = .ok (.dup, 1) := by decide +kernel
theorem dX0_addBond_41 : decode cX0_addBond 41 = .ok (.getfield 37, 3) := by decide +kernel
theorem dX0_addBond_44 : decode cX0_addBond 44 = .ok (.iconst 1, 1) := by decide +kernel
theorem dX0_addBond_45 : decode cX0_addBond 45 = .ok (.iadd, 1) := by decide +kernel
theorem dX0_addBond_46 : decode cX0_addBond 46 = .ok (.putfield 37, 3) := by decide +kernel
theorem dX0_addBond_49 : decode cX0_addBond 49 = .ok (.aload_n 0, 1) := by decide +kernel
theorem dX0_addBond_50 : decode cX0_addBond 50 = .ok (.getfield 42, 3) := by decide +kernel
theorem dX0_addBond_53 : decode cX0_addBond 53 = .ok (.iload_n 1, 1) := by decide +kernel
theorem dX0_addBond_54 : decode cX0_addBond 54 = .ok (.aaload, 1) := by decide +kernel
theorem dX0_addBond_55 : decode cX0_addBond 55 = .ok (.iload_n 2, 1) := by decide +kernel
theorem dX0_addBond_56 : decode cX0_addBond 56 = .ok (.aload_n 0, 1) := by decide +kernel
theorem dX0_addBond_57 : decode cX0_addBond 57 = .ok (.getfield 37, 3) := by decide +kernel
theorem dX0_addBond_60 : decode cX0_addBond 60 = .ok (.iastore, 1) := by decide +kernel
theorem dX0_addBond_61 : decode cX0_addBond 61 = .ok (.aload_n 0, 1) := by decide +kernel
theorem dX0_addBond_62 : decode cX0_addBond 62 = .ok (.getfield 42, 3) := by decide +kernel
theorem dX0_addBond_65 : decode cX0_addBond 65 = .ok (.iload_n 2, 1) := by decide +kernel
theorem dX0_addBond_66 : decode cX0_addBond 66 = .ok (.aaload, 1) := by decide +kernel
theorem dX0_addBond_67 : decode cX0_addBond 67 = .ok (.iload_n 1, 1) := by decide +kernel
theorem dX0_addBond_68 : decode cX0_addBond 68 = .ok (.aload_n 0, 1) := by decide +kernel
theorem dX0_addBond_69 : decode cX0_addBond 69 = .ok (.getfield 37, 3) := by decide +kernel
theorem dX0_addBond_72 : decode cX0_addBond 72 = .ok (.iastore, 1) := by decide +kernel
theorem dX0_addBond_73 : decode cX0_addBond 73 = .ok (.iload 5, 2) := by decide +kernel
theorem dX0_addBond_75 : decode cX0_addBond 75 = .ok (.ireturn, 1) := by decide +kernel
theorem dX6_move_0 : decode cX6_move 0 = .ok (.aload_n 0, 1) := by decide +kernel
theorem dX6_move_1 : decode cX6_move 1 = .ok (.getfield 14, 3) := by decide +kernel
theorem dX6_move_4 : decode cX6_move 4 = .ok (.iload_n 1, 1) := by decide +kernel
theorem dX6_move_5 : decode cX6_move 5 = .ok (.invokevirtual 85, 3) := by decide +kernel
theorem dX6_move_8 : decode cX6_move 8 = .ok (.ifCond .eq 11, 3) := by decide +kernel
theorem dX6_move_11 : decode cX6_move 11 = .ok (.iload_n 2, 1) := by decide +kernel
theorem dX6_move_12 : decode cX6_move 12 = .ok (.iload_n 3, 1) := by decide +kernel
theorem dX6_move_13 : decode cX6_move 13 = .ok (.invokestatic 74, 3) := by decide +kernel
theorem dX6_move_16 : decode cX6_move 16 = .ok (.ifCond .ne 5, 3) := by decide +kernel
theorem dX6_move_19 : decode cX6_move 19 = .ok (.iconst 0, 1) := by decide +kernel
theorem dX6_move_20 : decode cX6_move 20 = .ok (.ireturn, 1) := by decide +kernel
theorem dX6_move_21 : decode cX6_move 21 = .ok (.aload_n 0, 1) := by decide +kernel
theorem dX6_move_22 : decode cX6_move 22 = .ok (.iconst 0, 1) := by decide +kernel
theorem dX6_move_23 : decode cX6_move 23 = .ok (.putfield 67, 3) := by decide +kernel
theorem dX6_move_26 : decode cX6_move 26 = .ok (.aload_n 0, 1) := by decide +kernel
theorem dX6_move_27 : decode cX6_move 27 = .ok (.getfield 14, 3) := by decide +kernel
theorem dX6_move_30 : decode cX6_move 30 = .ok (.getfield 106, 3) := by decide +kernel
theorem dX6_move_33 : decode cX6_move 33 = .ok (.iload_n 1, 1) := by decide +kernel
theorem dX6_move_34 : decode cX6_move 34 = .ok (.iload_n 2, 1) := by decide +kernel
theorem dX6_move_35 : decode cX6_move 35 = .ok (.iastore, 1) := by decide +kernel
theorem dX6_move_36 : decode cX6_move 36 = .ok (.aload_n 0, 1) := by decide +kernel
theorem dX6_move_37 : decode cX6_move 37 = .ok (.getfield 14, 3) := by decide +kernel
theorem dX6_move_40 : decode cX6_move 40 = .ok (.getfield 109, 3) := by decide +kernel
theorem dX6_move_43 : decode cX6_move 43 = .ok (.iload_n 1, 1) := by decide +kernel
theorem dX6_move_44 : decode cX6_move 44 = .ok (.iload_n 3, 1) := by decide +kernel
theorem dX6_move_45 : decode cX6_move 45 = .ok (.iastore, 1) := by decide +kernel
theorem dX6_move_46 : decode cX6_move 46 = .ok (.iconst 1, 1) := by decide +kernel
theorem dX6_move_47 : decode cX6_move 47 = .ok (.ireturn, 1) := by decide +kernel
theorem dX6_mark_0 : decode cX6_mark 0 = .ok (.aload_n 0, 1) := by decide +kernel
theorem dX6_mark_1 : decode cX6_mark 1 = .ok (.getfield 14, 3) := by decide +kernel
theorem dX6_mark_4 : decode cX6_mark 4 = .ok (.iload_n 1, 1) := by decide +kernel
theorem dX6_mark_5 : decode cX6_mark 5 = .ok (.invokevirtual 112, 3) := by decide +kernel
theorem dX6_mark_8 : decode cX6_mark 8 = .ok (.ifCond .eq 22, 3) := by decide +kernel
theorem dX6_mark_11 : decode cX6_mark 11 = .ok (.iload_n 2, 1) := by decide +kernel
theorem dX6_mark_12 : decode cX6_mark 12 = .ok (.invokestatic 89, 3) := by decide +kernel
theorem dX6_mark_15 : decode cX6_mark 15 = .ok (.ifCond .eq 15, 3) := by decide +kernel
theorem dX6_mark_18 : decode cX6_mark 18 = .ok (.aload_n 0, 1) := by decide +kernel
theorem dX6_mark_19 : decode cX6_mark 19 = .ok (.getfield 14, 3) := by decide +kernel
theorem dX6_mark_22 : decode cX6_mark 22 = .ok (.iload_n 1, 1) := by decide +kernel
theorem dX6_mark_23 : decode cX6_mark 23 = .ok (.iload_n 3, 1) := by decide +kernel
theorem dX6_mark_24 : decode cX6_mark 24 = .ok (.invokevirtual 115, 3) := by decide +kernel
theorem dX6_mark_27 : decode cX6_mark 27 = .ok (.ifCond .ne 5, 3) := by decide +kernel
theorem dX6_mark_30 : decode cX6_mark 30 = .ok (.iconst 0, 1) := by decide +kernel
theorem dX6_mark_31 : decode cX6_mark 31 = .ok (.ireturn, 1) := by decide +kernel
theorem dX6_mark_32 : decode cX6_mark 32 = .ok (.aload_n 0, 1) := by decide +kernel
theorem dX6_mark_33 : decode cX6_mark 33 = .ok (.iconst 0, 1) := by decide +kernel
theorem dX6_mark_34 : decode cX6_mark 34 = .ok (.putfield 67, 3) := by decide +kernel
theorem dX6_mark_37 : decode cX6_mark 37 = .ok (.aload_n 0, 1) := by decide +kernel
theorem dX6_mark_38 : decode cX6_mark 38 = .ok (.getfield 14, 3) := by decide +kernel
theorem dX6_mark_41 : decode cX6_mark 41 = .ok (.iload_n 1, 1) := by decide +kernel
theorem dX6_mark_42 : decode cX6_mark 42 = .ok (.iload_n 2, 1) := by decide +kernel
theorem dX6_mark_43 : decode cX6_mark 43 = .ok (.iload_n 3, 1) := by decide +kernel
theorem dX6_mark_44 : decode cX6_mark 44 = .ok (.invokevirtual 118, 3) := by decide +kernel
theorem dX6_mark_47 : decode cX6_mark 47 = .ok (.iconst 1, 1) := by decide +kernel
theorem dX6_mark_48 : decode cX6_mark 48 = .ok (.ireturn, 1) := by decide +kernel
theorem dX0_hasBond_0 : decode cX0_hasBond 0 = .ok (.iload_n 1, 1) := by decide +kernel
theorem dX0_hasBond_1 : decode cX0_hasBond 1 = .ok (.ifCond .lt 15, 3) := by decide +kernel
theorem dX0_hasBond_4 : decode cX0_hasBond 4 = .ok (.iload_n 1, 1) := by decide +kernel
theorem dX0_hasBond_5 : decode cX0_hasBond 5 = .ok (.aload_n 0, 1) := by decide +kernel
theorem dX0_hasBond_6 : decode cX0_hasBond 6 = .ok (.getfield 37, 3) := by decide +kernel
theorem dX0_hasBond_9 : decode cX0_hasBond 9 = .ok (.if_icmp .ge 7, 3) := by decide +kernel
theorem dX0_hasBond_12 : decode cX0_hasBond 12 = .ok (.iconst 1, 1) := by decide +kernel
theorem dX0_hasBond_13 : decode cX0_hasBond 13 = .ok (.goto 4, 3) := by decide +kernel
theorem dX0_hasBond_16 : decode cX0_hasBond 16 = .ok (.iconst 0, 1) := by decide +kernel
theorem dX0_hasBond_17 : decode cX0_hasBond 17 = .ok (.ireturn, 1) := by decide +kernel
theorem dX0_isEnd_0 : decode cX0_isEnd 0 = .ok (.aload_n 0, 1) := by decide +kernel
theorem dX0_isEnd_1 : decode cX0_isEnd 1 = .ok (.getfield 25, 3) := by decide +kernel
theorem dX0_isEnd_4 : decode cX0_isEnd 4 = .ok (.iload_n 1, 1) := by decide +kernel
theorem dX0_isEnd_5 : decode cX0_isEnd 5 = .ok (.iaload, 1) := by decide +kernel
theorem dX0_isEnd_6 : decode cX0_isEnd 6 = .ok (.iload_n 2, 1) := by decide +kernel
theorem dX0_isEnd_7 : decode cX0_isEnd 7 = .ok (.if_icmp .eq 13, 3) := by decide +kernel
theorem dX0_isEnd_10 : decode cX0_isEnd 10 = .ok (.aload_n 0, 1) := by decide +kernel
theorem dX0_isEnd_11 : decode cX0_isEnd 11 = .ok (.getfield 28, 3) := by decide +kernel
theorem dX0_isEnd_14 : decode cX0_isEnd 14 = .ok (.iload_n 1, 1) := by decide +kernel
theorem dX0_isEnd_15 : decode cX0_isEnd 15 = .ok (.iaload, 1) := by decide +kernel
theorem dX0_isEnd_16 : decode cX0_isEnd 16 = .ok (.iload_n 2, 1) := by decide +kernel
theorem dX0_isEnd_17 : decode cX0_isEnd 17 = .ok (.if_icmp .ne 7, 3) := by decide +kernel
theorem dX0_isEnd_20 : decode cX0_isEnd 20 = .ok (.iconst 1, 1) := by decide +kernel
theorem dX0_isEnd_21 : decode cX0_isEnd 21 = .ok (.goto 4, 3) := by decide +kernel
theorem dX0_isEnd_24 : decode cX0_isEnd 24 = .ok (.iconst 0, 1) := by decide +kernel
theorem dX0_isEnd_25 : decode cX0_isEnd 25 = .ok (.ireturn, 1) := by decide +kernel
theorem dX0_setMark_0 : decode cX0_setMark 0 = .ok (.aload_n 0, 1) := by decide +kernel
theorem dX0_setMark_1 : decode cX0_setMark 1 = .ok (.getfield 25, 3) := by decide +kernel
theorem dX0_setMark_4 : decode cX0_setMark 4 = .ok (.iload_n 1, 1) := by decide +kernel
theorem dX0_setMark_5 : decode cX0_setMark 5 = .ok (.iaload, 1) := by decide +kernel
theorem dX0_setMark_6 : decode cX0_setMark 6 = .ok (.iload_n 3, 1) := by decide +kernel
theorem dX0_setMark_7 : decode cX0_setMark 7 = .ok (.if_icmp .ne 12, 3) := by decide +kernel
theorem dX0_setMark_10 : decode cX0_setMark 10 = .ok (.aload_n 0, 1) := by decide +kernel
theorem dX0_setMark_11 : decode cX0_setMark 11 = .ok (.getfield 28, 3) := by decide +kernel
theorem dX0_setMark_14 : decode cX0_setMark 14 = .ok (.iload_n 1, 1) := by decide +kernel
theorem dX0_setMark_15 : decode cX0_setMark 15 = .ok (.iaload, 1) := by decide +kernel
theorem dX0_setMark_16 : decode cX0_setMark 16 = .ok (.goto 9, 3) := by decide +kernel
theorem dX0_setMark_19 : decode cX0_setMark 19 = .ok (.aload_n 0, 1) := by decide +kernel
theorem dX0_setMark_20 : decode cX0_setMark 20 = .ok (.getfield 25, 3) := by decide +kernel
theorem dX0_setMark_23 : decode cX0_setMark 23 = .ok (.iload_n 1, 1) := by decide +kernel
theorem dX0_setMark_24 : decode cX0_setMark 24 = .ok (.iaload, 1) := by decide +kernel
theorem dX0_setMark_25 : decode cX0_setMark 25 = .ok (.istore 4, 2) := by decide +kernel
theorem dX0_setMark_27 : decode cX0_setMark 27 = .ok (.aload_n 0, 1) := by decide +kernel
theorem dX0_setMark_28 : decode cX0_setMark 28 = .ok (.getfield 25, 3) := by decide +kernel
theorem dX0_setMark_31 : decode cX0_setMark 31 = .ok (.iload_n 1, 1) := by decide +kernel
theorem dX0_setMark_32 : decode cX0_setMark 32 = .ok (.iload_n 3, 1) := by decide +kernel
theorem dX0_setMark_33 : decode cX0_setMark 33 = .ok (.iastore, 1) := by decide +kernel
theorem dX0_setMark_34 : decode cX0_setMark 34 = .ok (.aload_n 0, 1) := by decide +kernel
theorem dX0_setMark_35 : decode cX0_setMark 35 = .ok (.getfield 28, 3) := by decide +kernel
theorem dX0_setMark_38 : decode cX0_setMark 38 = .ok (.iload_n 1, 1) := by decide +kernel
theorem dX0_setMark_39 : decode cX0_setMark 39 = .ok (.iload 4, 2) := by decide +kernel
theorem dX0_setMark_41 : decode cX0_setMark 41 = .ok (.iastore, 1) := by decide +kernel
theorem dX0_setMark_42 : decode cX0_setMark 42 = .ok (.aload_n 0, 1) := by decide +kernel
theorem dX0_setMark_43 : decode cX0_setMark 43 = .ok (.getfield 34, 3) := by decide +kernel
theorem dX0_setMark_46 : decode cX0_setMark 46 = .ok (.iload_n 1, 1) := by decide +kernel
theorem dX0_setMark_47 : decode cX0_setMark 47 = .ok (.iload_n 2, 1) := by decide +kernel
theorem dX0_setMark_48 : decode cX0_setMark 48 = .ok (.iastore, 1) := by decide +kernel
theorem dX0_setMark_49 : decode cX0_setMark 49 = .ok (.return_, 1) := by decide +kernel
theorem dX6_clear_0 : decode cX6_clear 0 = .ok (.aload_n 0, 1) := by decide +kernel
theorem dX6_clear_1 : decode cX6_clear 1 = .ok (.iconst 0, 1) := by decide +kernel
theorem dX6_clear_2 : decode cX6_clear 2 = .ok (.putfield 67, 3) := by decide +kernel
theorem dX6_clear_5 : decode cX6_clear 5 = .ok (.aload_n 0, 1) := by decide +kernel
theorem dX6_clear_6 : decode cX6_clear 6 = .ok (.getfield 14, 3) := by decide +kernel
theorem dX6_clear_9 : decode cX6_clear 9 = .ok (.getfield 78, 3) := by decide +kernel
theorem dX6_clear_12 : decode cX6_clear 12 = .ok (.istore_n 1, 1) := by decide +kernel
theorem dX6_clear_13 : decode cX6_clear 13 = .ok (.aload_n 0, 1) := by decide +kernel
theorem dX6_clear_14 : decode cX6_clear 14 = .ok (.getfield 14, 3) := by decide +kernel
theorem dX6_clear_17 : decode cX6_clear 17 = .ok (.invokevirtual 122, 3) := by decide +kernel
theorem dX6_clear_20 : decode cX6_clear 20 = .ok (.iload_n 1, 1) := by decide +kernel
theorem dX6_clear_21 : decode cX6_clear 21 = .ok (.ireturn, 1) := by decide +kernel
theorem dX0_removeAll_0 : decode cX0_removeAll 0 = .ok (.iconst 0, 1) := by decide +kernel
theorem dX0_removeAll_1 : decode cX0_removeAll 1 = .ok (.istore_n 1, 1) := by decide +kernel
theorem dX0_removeAll_2 : decode cX0_removeAll 2 = .ok (.iload_n 1, 1) := by decide +kernel
theorem dX0_removeAll_3 : decode cX0_removeAll 3 = .ok (.aload_n 0, 1) := by decide +kernel
theorem dX0_removeAll_4 : decode cX0_removeAll 4 = .ok (.getfield 21, 3) := by decide +kernel
theorem dX0_removeAll_7 : decode cX0_removeAll 7 = .ok (.if_icmp .ge 19, 3) := by decide +kernel
theorem dX0_removeAll_10 : decode cX0_removeAll 10 = .ok (.aload_n 0, 1) := by decide +kernel
theorem dX0_removeAll_11 : decode cX0_removeAll 11 = .ok (.getfield 42, 3) := by decide +kernel
theorem dX0_removeAll_14 : decode cX0_removeAll 14 = .ok (.iload_n 1, 1) := by decide +kernel
theorem dX0_removeAll_15 : decode cX0_removeAll 15 = .ok (.aaload, 1) := by decide +kernel
theorem dX0_removeAll_16 : decode cX0_removeAll 16 = .ok (.iconst 0, 1) := by decide +kernel
theorem dX0_removeAll_17 : decode cX0_removeAll 17 = .ok (.invokestatic 45, 3) := by decide +kernel
theorem dX0_removeAll_20 : decode cX0_removeAll 20 = .ok (.iinc 1 1, 3) := by decide +kernel
theorem dX0_removeAll_23 : decode cX0_removeAll 23 = .ok (.goto (-21), 3) := by decide +kernel
theorem dX0_removeAll_26 : decode cX0_removeAll 26 = .ok (.aload_n 0, 1) := by decide +kernel
theorem dX0_removeAll_27 : decode cX0_removeAll 27 = .ok (.iconst 0, 1) := by decide +kernel
theorem dX0_removeAll_28 : decode cX0_removeAll 28 = .ok (.putfield 21, 3) := by decide +kernel
theorem dX0_removeAll_31 : decode cX0_removeAll 31 = .ok (.aload_n 0, 1) := by decide +kernel
theorem dX0_removeAll_32 : decode cX0_removeAll 32 = .ok (.iconst 0, 1) := by decide +kernel
theorem dX0_removeAll_33 : decode cX0_removeAll 33 = .ok (.putfield 37, 3) := by decide +kernel
theorem dX0_removeAll_36 : decode cX0_removeAll 36 = .ok (.return_, 1) := by decide +kernel
theorem dJ7_fill_0 : decode cJ7_fill 0 = .ok (.iconst 0, 1) := by decide +kernel
theorem dJ7_fill_1 : decode cJ7_fill 1 = .ok (.istore_n 2, 1) := by decide +kernel
theorem dJ7_fill_2 : decode cJ7_fill 2 = .ok (.aload_n 0, 1) := by decide +kernel
theorem dJ7_fill_3 : decode cJ7_fill 3 = .ok (.arraylength, 1) := by decide +kernel
theorem dJ7_fill_4 : decode cJ7_fill 4 = .ok (.istore_n 3, 1) := by decide +kernel
theorem dJ7_fill_5 : decode cJ7_fill 5 = .ok (.iload_n 2, 1) := by decide +kernel
theorem dJ7_fill_6 : decode cJ7_fill 6 = .ok (.iload_n 3, 1) := by decide +kernel
theorem dJ7_fill_7 : decode cJ7_fill 7 = .ok (.if_icmp .ge 13, 3) := by decide +kernel
theorem dJ7_fill_10 : decode cJ7_fill 10 = .ok (.aload_n 0, 1) := by decide +kernel
theorem dJ7_fill_11 : decode cJ7_fill 11 = .ok (.iload_n 2, 1) := by decide +kernel
theorem dJ7_fill_12 : decode cJ7_fill 12 = .ok (.iload_n 1, 1) := by decide +kernel
theorem dJ7_fill_13 : decode cJ7_fill 13 = .ok (.iastore, 1) := by decide +kernel
theorem dJ7_fill_14 : decode cJ7_fill 14 = .ok (.iinc 2 1, 3) := by decide +kernel
theorem dJ7_fill_17 : decode cJ7_fill 17 = .ok (.goto (-12), 3) := by decide +kernel
theorem dJ7_fill_20 : decode cJ7_fill 20 = .ok (.return_, 1) := by decide +kernel
theorem dX6_flip_0 : decode cX6_flip 0 = .ok (.aload_n 0, 1) := by decide +kernel
theorem dX6_flip_1 : decode cX6_flip 1 = .ok (.iconst 0, 1) := by decide +kernel
theorem dX6_flip_2 : decode cX6_flip 2 = .ok (.putfield 67, 3) := by decide +kernel
theorem dX6_flip_5 : decode cX6_flip 5 = .ok (.aload_n 0, 1) := by decide +kernel
theorem dX6_flip_6 : decode cX6_flip 6 = .ok (.getfield 14, 3) := by decide +kernel
theorem dX6_flip_9 : decode cX6_flip 9 = .ok (.invokevirtual 125, 3) := by decide +kernel
theorem dX6_flip_12 : decode cX6_flip 12 = .ok (.ireturn, 1) := by decide +kernel
theorem dX0_swapMarks_0 : decode cX0_swapMarks 0 = .ok (.iconst 0, 1) := by decide +kernel
theorem dX0_swapMarks_1 : decode cX0_swapMarks 1 = .ok (.istore_n 1, 1) := by decide +kernel
theorem dX0_swapMarks_2 : decode cX0_swapMarks 2 = .ok (.iconst 0, 1) := by decide +kernel
theorem dX0_swapMarks_3 : decode cX0_swapMarks 3 = .ok (.istore_n 2, 1) := by decide +kernel
theorem dX0_swapMarks_4 : decode cX0_swapMarks 4 = .ok (.iload_n 2, 1) := by decide +kernel
theorem dX0_swapMarks_5 : decode cX0_swapMarks 5 = .ok (.aload_n 0, 1) := by decide +kernel
theorem dX0_swapMarks_6 : decode cX0_swapMarks 6 = .ok (.getfield 37, 3) := by decide +kernel
theorem dX0_swapMarks_9 : decode cX0_swapMarks 9 = .ok (.if_icmp .ge 42, 3) := by decide +kernel
theorem dX0_swapMarks_12 : decode cX0_swapMarks 12 = .ok (.aload_n 0, 1) := by decide +kernel
theorem dX0_swapMarks_13 : decode cX0_swapMarks 13 = .ok (.getfield 34, 3) := by decide +kernel
theorem dX0_swapMarks_16 : decode cX0_swapMarks 16 = .ok (.iload_n 2, 1) := by decide +kernel
theorem dX0_swapMarks_17 : decode cX0_swapMarks 17 = .ok (.iaload, 1) := by decide +kernel
theorem dX0_swapMarks_18 : decode cX0_swapMarks 18 = .ok (.ifCond .eq 27, 3) := by decide +kernel
theorem dX0_swapMarks_21 : decode cX0_swapMarks 21 = .ok (.aload_n 0, 1) := by decide +kernel
theorem dX0_swapMarks_22 : decode cX0_swapMarks 22 = .ok (.getfield 34, 3) := by decide +kernel
theorem dX0_swapMarks_25 : decode cX0_swapMarks 25 = .ok (.iload_n 2, 1) := by decide +kernel
theorem dX0_swapMarks_26 : decode cX0_swapMarks 26 = .ok (.aload_n 0, 1) := by decide +kernel
theorem dX0_swapMarks_27 : decode cX0_swapMarks 27 = .ok (.getfield 34, 3) := by decide +kernel
theorem dX0_swapMarks_30 : decode cX0_swapMarks 30 = .ok (.iload_n 2, 1) := by decide +kernel
theorem dX0_swapMarks_31 : decode cX0_swapMarks 31 = .ok (.iaload, 1) := by decide +kernel
theorem dX0_swapMarks_32 : decode cX0_swapMarks 32 = .ok (.iconst 1, 1) := by decide +kernel
theorem dX0_swapMarks_33 : decode cX0_swapMarks 33 = .ok (.if_icmp .ne 7, 3) := by decide +kernel
theorem dX0_swapMarks_36 : decode cX0_swapMarks 36 = .ok (.iconst 2, 1) := by decide +kernel
theorem dX0_swapMarks_37 : decode cX0_swapMarks 37 = .ok (.goto 4, 3) := by decide +kernel
theorem dX0_swapMarks_40 : decode cX0_swapMarks 40 = .ok (.iconst 1, 1) := by decide +kernel
theorem dX0_swapMarks_41 : decode cX0_swapMarks 41 = .ok (.iastore, 1) := by decide +kernel
theorem dX0_swapMarks_42 : decode cX0_swapMarks 42 = .ok (.iinc 1 1, 3) := by decide +kernel
theorem dX0_swapMarks_45 : decode cX0_swapMarks 45 = .ok (.iinc 2 1, 3) := by decide +kernel
theorem dX0_swapMarks_48 : decode cX0_swapMarks 48 = .ok (.goto (-44), 3) := by decide +kernel
theorem dX0_swapMarks_51 : decode cX0_swapMarks 51 = .ok (.iload_n 1, 1) := by decide +kernel
theorem dX0_swapMarks_52 : decode cX0_swapMarks 52 = .ok (.ireturn, 1) := by decide +kernel
theorem dX6_hydrogens_0 : decode cX6_hydrogens 0 = .ok (.aload_n 0, 1) := by decide +kernel
theorem dX6_hydrogens_1 : decode cX6_hydrogens 1 = .ok (.getfield 14, 3) := by decide +kernel
theorem dX6_hydrogens_4 : decode cX6_hydrogens 4 = .ok (.iload_n 1, 1) := by decide +kernel
theorem dX6_hydrogens_5 : decode cX6_hydrogens 5 = .ok (.invokevirtual 85, 3) := by decide +kernel
theorem dX6_hydrogens_8 : decode cX6_hydrogens 8 = .ok (.ifCond .eq 14, 3) := by decide +kernel
theorem dX6_hydrogens_11 : decode cX6_hydrogens 11 = .ok (.aload_n 0, 1) := by decide +kernel
theorem dX6_hydrogens_12 : decode cX6_hydrogens 12 = .ok (.getfield 14, 3) := by decide +kernel
theorem dX6_hydrogens_15 : decode cX6_hydrogens 15 = .ok (.iload_n 1, 1) := by decide +kernel
theorem dX6_hydrogens_16 : decode cX6_hydrogens 16 = .ok (.invokevirtual 98, 3) := by decide +kernel
theorem dX6_hydrogens_19 : decode cX6_hydrogens 19 = .ok (.goto 4, 3) := by decide +kernel
theorem dX6_hydrogens_22 : decode cX6_hydrogens 22 = .ok (.iconst (-1), 1) := by decide +kernel
theorem dX6_hydrogens_23 : decode cX6_hydrogens 23 = .ok (.ireturn, 1) := by decide +kernel
theorem dX6_sense_0 : decode cX6_sense 0 = .ok (.aload_n 0, 1) := by decide +kernel
theorem dX6_sense_1 : decode cX6_sense 1 = .ok (.getfield 14, 3) := by decide +kernel
theorem dX6_sense_4 : decode cX6_sense 4 = .ok (.iload_n 1, 1) := by decide +kernel
theorem dX6_sense_5 : decode cX6_sense 5 = .ok (.invokevirtual 85, 3) := by decide +kernel
theorem dX6_sense_8 : decode cX6_sense 8 = .ok (.ifCond .ne 5, 3) := by decide +kernel
theorem dX6_sense_11 : decode cX6_sense 11 = .ok (.iconst (-1), 1) := by decide +kernel
theorem dX6_sense_12 : decode cX6_sense 12 = .ok (.ireturn, 1) := by decide +kernel
theorem dX6_sense_13 : decode cX6_sense 13 = .ok (.aload_n 0, 1) := by decide +kernel
theorem dX6_sense_14 : decode cX6_sense 14 = .ok (.getfield 21, 3) := by decide +kernel
theorem dX6_sense_17 : decode cX6_sense 17 = .ok (.aload_n 0, 1) := by decide +kernel
theorem dX6_sense_18 : decode cX6_sense 18 = .ok (.getfield 14, 3) := by decide +kernel
theorem dX6_sense_21 : decode cX6_sense 21 = .ok (.iload_n 1, 1) := by decide +kernel
theorem dX6_sense_22 : decode cX6_sense 22 = .ok (.invokevirtual 129, 3) := by decide +kernel
theorem dX6_sense_25 : decode cX6_sense 25 = .ok (.iconst 1, 1) := by decide +kernel
theorem dX6_sense_26 : decode cX6_sense 26 = .ok (.iadd, 1) := by decide +kernel
theorem dX6_sense_27 : decode cX6_sense 27 = .ok (.aload_n 0, 1) := by decide +kernel
theorem dX6_sense_28 : decode cX6_sense 28 = .ok (.getfield 14, 3) := by decide +kernel
theorem dX6_sense_31 : decode cX6_sense 31 = .ok (.iload_n 1, 1) := by decide +kernel
theorem dX6_sense_32 : decode cX6_sense 32 = .ok (.invokevirtual 133, 3) := by decide +kernel
theorem dX6_sense_35 : decode cX6_sense 35 = .ok (.ifCond .eq 7, 3) := by decide +kernel
theorem dX6_sense_38 : decode cX6_sense 38 = .ok (.iconst 4, 1) := by decide +kernel
theorem dX6_sense_39 : decode cX6_sense 39 = .ok (.goto 4, 3) := by decide +kernel
theorem dX6_sense_42 : decode cX6_sense 42 = .ok (.iconst 0, 1) := by decide +kernel
theorem dX6_sense_43 : decode cX6_sense 43 = .ok (.iadd, 1) := by decide +kernel
theorem dX6_sense_44 : decode cX6_sense 44 = .ok (.ireturn, 1) := by decide +kernel
theorem dX4_senseOfAtom_0 : decode cX4_senseOfAtom 0 = .ok (.aload_n 1, 1) := by decide +kernel
theorem dX4_senseOfAtom_1 : decode cX4_senseOfAtom 1 = .ok (.iload_n 2, 1) := by decide +kernel
theorem dX4_senseOfAtom_2 : decode cX4_senseOfAtom 2 = .ok (.invokevirtual 51, 3) := by decide +kernel
theorem dX4_senseOfAtom_5 : decode cX4_senseOfAtom 5 = .ok (.ifCond .ne 5, 3) := by decide +kernel
theorem dX4_senseOfAtom_8 : decode cX4_senseOfAtom 8 = .ok (.iconst 0, 1) := by decide +kernel
theorem dX4_senseOfAtom_9 : decode cX4_senseOfAtom 9 = .ok (.ireturn, 1) := by decide +kernel
theorem dX4_senseOfAtom_10 : decode cX4_senseOfAtom 10 = .ok (.iconst 0, 1) := by decide +kernel
theorem dX4_senseOfAtom_11 : decode cX4_senseOfAtom 11 = .ok (.istore_n 3, 1) := by decide +kernel
theorem dX4_senseOfAtom_12 : decode cX4_senseOfAtom 12 = .ok (.iconst 0, 1) := by decide +kernel
theorem dX4_senseOfAtom_13 : decode cX4_senseOfAtom 13 = .ok (.istore 4, 2) := by decide +kernel
theorem dX4_senseOfAtom_15 : decode cX4_senseOfAtom 15 = .ok (.iload 4, 2) := by decide +kernel
theorem dX4_senseOfAtom_17 : decode cX4_senseOfAtom 17 = .ok (.aload_n 1, 1) := by decide +kernel
theorem dX4_senseOfAtom_18 : decode cX4_senseOfAtom 18 = .ok (.getfield 25, 3) := by decide +kernel
theorem dX4_senseOfAtom_21 : decode cX4_senseOfAtom 21 = .ok (.if_icmp .ge 39, 3) := by decide +kernel
theorem dX4_senseOfAtom_24 : decode cX4_senseOfAtom 24 = .ok (.aload_n 1, 1) := by decide +kernel
theorem dX4_senseOfAtom_25 : decode cX4_senseOfAtom 25 = .ok (.iload_n 2, 1) := by decide +kernel
theorem dX4_senseOfAtom_26 : decode cX4_senseOfAtom 26 = .ok (.iload 4, 2) := by decide +kernel
theorem dX4_senseOfAtom_28 : decode cX4_senseOfAtom 28 = .ok (.invokevirtual 54, 3) := by decide +kernel
theorem dX4_senseOfAtom_31 : decode cX4_senseOfAtom 31 = .ok (.ifCond .eq 23, 3) := by decide +kernel
theorem dX4_senseOfAtom_34 : decode cX4_senseOfAtom 34 = .ok (.iload_n 3, 1) := by decide +kernel
theorem dX4_senseOfAtom_35 : decode cX4_senseOfAtom 35 = .ok (.aload_n 0, 1) := by decide +kernel
theorem dX4_senseOfAtom_36 : decode cX4_senseOfAtom 36 = .ok (.getfield 22, 3) := by decide +kernel
theorem dX4_senseOfAtom_39 : decode cX4_senseOfAtom 39 = .ok (.arraylength, 1) := by decide +kernel
theorem dX4_senseOfAtom_40 : decode cX4_senseOfAtom 40 = .ok (.if_icmp .ge 14, 3) := by decide +kernel
theorem dX4_senseOfAtom_43 : decode cX4_senseOfAtom 43 = .ok (.aload_n 0, 1) := by decide +kernel
theorem dX4_senseOfAtom_44 : decode cX4_senseOfAtom 44 = .ok (.getfield 22, 3) := by decide +kernel
theorem dX4_senseOfAtom_47 : decode cX4_senseOfAtom 47 = .ok (.iload_n 3, 1) := by decide +kernel
theorem dX4_senseOfAtom_48 : decode cX4_senseOfAtom 48 = .ok (.iload 4, 2) := by decide +kernel
theorem dX4_senseOfAtom_50 : decode cX4_senseOfAtom 50 = .ok (.iastore, 1) := by decide +kernel
theorem dX4_senseOfAtom_51 : decode cX4_senseOfAtom 51 = .ok (.iinc 3 1, 3) := by decide +kernel
theorem dX4_senseOfAtom_54 : decode cX4_senseOfAtom 54 = .ok (.iinc 4 1, 3) := by decide +kernel
theorem dX4_senseOfAtom_57 : decode cX4_senseOfAtom 57 = .ok (.goto (-42), 3) := by decide +kernel
theorem dX4_senseOfAtom_60 : decode cX4_senseOfAtom 60 = .ok (.aload_n 0, 1) := by decide +kernel
theorem dX4_senseOfAtom_61 : decode cX4_senseOfAtom 61 = .ok (.aload_n 1, 1) := by decide +kernel
theorem dX4_senseOfAtom_62 : decode cX4_senseOfAtom 62 = .ok (.iload_n 2, 1) := by decide +kernel
theorem dX4_senseOfAtom_63 : decode cX4_senseOfAtom 63 = .ok (.iload_n 3, 1) := by decide +kernel
theorem dX4_senseOfAtom_64 : decode cX4_senseOfAtom 64 = .ok (.iconst 4, 1) := by decide +kernel
theorem dX4_senseOfAtom_65 : decode cX4_senseOfAtom 65 = .ok (.if_icmp .ne 12, 3) := by decide +kernel
theorem dX4_senseOfAtom_68 : decode cX4_senseOfAtom 68 = .ok (.aload_n 0, 1) := by decide +kernel
theorem dX4_senseOfAtom_69 : decode cX4_senseOfAtom 69 = .ok (.getfield 22, 3) := by decide +kernel
theorem dX4_senseOfAtom_72 : decode cX4_senseOfAtom 72 = .ok (.iconst 3, 1) := by decide +kernel
theorem dX4_senseOfAtom_73 : decode cX4_senseOfAtom 73 = .ok (.iaload, 1) := by decide +kernel
theorem dX4_senseOfAtom_74 : decode cX4_senseOfAtom 74 = .ok (.goto 4, 3) := by decide +kernel
theorem dX4_senseOfAtom_77 : decode cX4_senseOfAtom 77 = .ok (.iload_n 2, 1) := by decide +kernel
theorem dX4_senseOfAtom_78 : decode cX4_senseOfAtom 78 = .ok (.invokevirtual 58, 3) := by decide +kernel
theorem dX4_senseOfAtom_81 : decode cX4_senseOfAtom 81 = .ok (.invokestatic 62, 3) := by decide +kernel
theorem dX4_senseOfAtom_84 : decode cX4_senseOfAtom 84 = .ok (.ireturn, 1) := by decide +kernel
theorem dX0_isCentre_0 : decode cX0_isCentre 0 = .ok (.aload_n 0, 1) := by decide +kernel
theorem dX0_isCentre_1 : decode cX0_isCentre 1 = .ok (.iload_n 1, 1) := by decide +kernel
theorem dX0_isCentre_2 : decode cX0_isCentre 2 = .ok (.iconst (-1), 1) := by decide +kernel
theorem dX0_isCentre_3 : decode cX0_isCentre 3 = .ok (.invokevirtual 62, 3) := by decide +kernel
theorem dX0_isCentre_6 : decode cX0_isCentre 6 = .ok (.istore_n 2, 1) := by decide +kernel
theorem dX0_isCentre_7 : decode cX0_isCentre 7 = .ok (.aload_n 0, 1) := by decide +kernel
theorem dX0_isCentre_8 : decode cX0_isCentre 8 = .ok (.getfield 9, 3) := by decide +kernel
theorem dX0_isCentre_11 : decode cX0_isCentre 11 = .ok (.iload_n 1, 1) := by decide +kernel
theorem dX0_isCentre_12 : decode cX0_isCentre 12 = .ok (.iaload, 1) := by decide +kernel
theorem dX0_isCentre_13 : decode cX0_isCentre 13 = .ok (.ifCond .ne 17, 3) := by decide +kernel
theorem dX0_isCentre_16 : decode cX0_isCentre 16 = .ok (.iload_n 2, 1) := by decide +kernel
theorem dX0_isCentre_17 : decode cX0_isCentre 17 = .ok (.iconst 3, 1) := by decide +kernel
theorem dX0_isCentre_18 : decode cX0_isCentre 18 = .ok (.if_icmp .eq 8, 3) := by decide +kernel
theorem dX0_isCentre_21 : decode cX0_isCentre 21 = .ok (.iload_n 2, 1) := by decide +kernel
theorem dX0_isCentre_22 : decode cX0_isCentre 22 = .ok (.iconst 4, 1) := by decide +kernel
theorem dX0_isCentre_23 : decode cX0_isCentre 23 = .ok (.if_icmp .ne 7, 3) := by decide +kernel
theorem dX0_isCentre_26 : decode cX0_isCentre 26 = .ok (.iconst 1, 1) := by decide +kernel
theorem dX0_isCentre_27 : decode cX0_isCentre 27 = .ok (.goto 4, 3) := by decide +kernel
theorem dX0_isCentre_30 : decode cX0_isCentre 30 = .ok (.iconst 0, 1) := by decide +kernel
theorem dX0_isCentre_31 : decode cX0_isCentre 31 = .ok (.ireturn, 1) := by decide +kernel
theorem dX0_singleBonds_0 : decode cX0_singleBonds 0 = .ok (.iconst 0, 1) := by decide +kernel
theorem dX0_singleBonds_1 : decode cX0_singleBonds 1 = .ok (.istore_n 3, 1) := by decide +kernel
theorem dX0_singleBonds_2 : decode cX0_singleBonds 2 = .ok (.iconst 0, 1) := by decide +kernel
theorem dX0_singleBonds_3 : decode cX0_singleBonds 3 = .ok (.istore 4, 2) := by decide +kernel
theorem dX0_singleBonds_5 : decode cX0_singleBonds 5 = .ok (.iload 4, 2) := by decide +kernel
theorem dX0_singleBonds_7 : decode cX0_singleBonds 7 = .ok (.aload_n 0, 1) := by decide +kernel
theorem dX0_singleBonds_8 : decode cX0_singleBonds 8 = .ok (.getfield 21, 3) := by decide +kernel
theorem dX0_singleBonds_11 : decode cX0_singleBonds 11 = .ok (.if_icmp .ge 41, 3) := by decide +kernel
theorem dX0_singleBonds_14 : decode cX0_singleBonds 14 = .ok (.iload 4, 2) := by decide +kernel
theorem dX0_singleBonds_16 : decode cX0_singleBonds 16 = .ok (.iload_n 2, 1) := by decide +kernel
theorem dX0_singleBonds_17 : decode cX0_singleBonds 17 = .ok (.if_icmp .ne 7, 3) := by decide +kernel
theorem dX0_singleBonds_20 : decode cX0_singleBonds 20 = .ok (.iconst 0, 1) := by decide +kernel
theorem dX0_singleBonds_21 : decode cX0_singleBonds 21 = .ok (.goto 10, 3) := by decide +kernel
theorem dX0_singleBonds_24 : decode cX0_singleBonds 24 = .ok (.aload_n 0, 1) := by decide +kernel
theorem dX0_singleBonds_25 : decode cX0_singleBonds 25 = .ok (.iload_n 1, 1) := by decide +kernel
theorem dX0_singleBonds_26 : decode cX0_singleBonds 26 = .ok (.iload 4, 2) := by decide +kernel
theorem dX0_singleBonds_28 : decode cX0_singleBonds 28 = .ok (.invokevirtual 54, 3) := by decide +kernel
theorem dX0_singleBonds_31 : decode cX0_singleBonds 31 = .ok (.istore 5, 2) := by decide +kernel
theorem dX0_singleBonds_33 : decode cX0_singleBonds 33 = .ok (.iload 5, 2) := by decide +kernel
theorem dX0_singleBonds_35 : decode cX0_singleBonds 35 = .ok (.iconst 1, 1) := by decide +kernel
theorem dX0_singleBonds_36 : decode cX0_singleBonds 36 = .ok (.if_icmp .le 5, 3) := by decide +kernel
theorem dX0_singleBonds_39 : decode cX0_singleBonds 39 = .ok (.iconst (-1), 1) := by decide +kernel
theorem dX0_singleBonds_40 : decode cX0_singleBonds 40 = .ok (.ireturn, 1) := by decide +kernel
theorem dX0_singleBonds_41 : decode cX0_singleBonds 41 = .ok (.iload_n 3, 1) := by decide +kernel
theorem dX0_singleBonds_42 : decode cX0_singleBonds 42 = .ok (.iload 5, 2) := by decide +kernel
theorem dX0_singleBonds_44 : decode cX0_singleBonds 44 = .ok (.iadd, 1) := by decide +kernel
theorem dX0_singleBonds_45 : decode cX0_singleBonds 45 = .ok (.istore_n 3, 1) := by decide +kernel
theorem dX0_singleBonds_46 : decode cX0_singleBonds 46 = .ok (.iinc 4 1, 3) := by decide +kernel
theorem dX0_singleBonds_49 : decode cX0_singleBonds 49 = .ok (.goto (-44), 3) := by decide +kernel
theorem dX0_singleBonds_52 : decode cX0_singleBonds 52 = .ok (.iload_n 3, 1) := by decide +kernel
theorem dX0_singleBonds_53 : decode cX0_singleBonds 53 = .ok (.ireturn, 1) := by decide +kernel
theorem dX4_determinant_0 : decode cX4_determinant 0 = .ok (.aload_n 1, 1) := by decide +kernel
theorem dX4_determinant_1 : decode cX4_determinant 1 = .ok (.getfield 66, 3) := by decide +kernel
theorem dX4_determinant_4 : decode cX4_determinant 4 = .ok (.iload_n 3, 1) := by decide +kernel
theorem dX4_determinant_5 : decode cX4_determinant 5 = .ok (.iaload, 1) := by decide +kernel
theorem dX4_determinant_6 : decode cX4_determinant 6 = .ok (.istore 4, 2) := by decide +kernel
theorem dX4_determinant_8 : decode cX4_determinant 8 = .ok (.aload_n 1, 1) := by decide +kernel
theorem dX4_determinant_9 : decode cX4_determinant 9 = .ok (.getfield 69, 3) := by decide +kernel
theorem dX4_determinant_12 : decode cX4_determinant 12 = .ok (.iload_n 3, 1) := by decide +kernel
theorem dX4_determinant_13 : decode cX4_determinant 13 = .ok (.iaload, 1) := by decide +kernel
theorem dX4_determinant_14 : decode cX4_determinant 14 = .ok (.istore 5, 2) := by decide +kernel
theorem dX4_determinant_16 : decode cX4_determinant 16 = .ok (.aload_n 1, 1) := by decide +kernel
theorem dX4_determinant_17 : decode cX4_determinant 17 = .ok (.iload_n 2, 1) := by decide +kernel
theorem dX4_determinant_18 : decode cX4_determinant 18 = .ok (.iload_n 3, 1) := by decide +kernel
theorem dX4_determinant_19 : decode cX4_determinant 19 = .ok (.invokevirtual 72, 3) := by decide +kernel
theorem dX4_determinant_22 : decode cX4_determinant 22 = .ok (.istore 6, 2) := by decide +kernel
theorem dX4_determinant_24 : decode cX4_determinant 24 = .ok (.aload_n 1, 1) := by decide +kernel
theorem dX4_determinant_25 : decode cX4_determinant 25 = .ok (.getfield 66, 3) := by decide +kernel
theorem dX4_determinant_28 : decode cX4_determinant 28 = .ok (.aload_n 0, 1) := by decide +kernel
theorem dX4_determinant_29 : decode cX4_determinant 29 = .ok (.getfield 22, 3) := by decide +kernel
theorem dX4_determinant_32 : decode cX4_determinant 32 = .ok (.iconst 0, 1) := by decide +kernel
theorem dX4_determinant_33 : decode cX4_determinant 33 = .ok (.iaload, 1) := by decide +kernel
theorem dX4_determinant_34 : decode cX4_determinant 34 = .ok (.iaload, 1) := by decide +kernel
theorem dX4_determinant_35 : decode cX4_determinant 35 = .ok (.iload 4, 2) := by decide +kernel
theorem dX4_determinant_37 : decode cX4_determinant 37 = .ok (.isub, 1) := by decide +kernel
theorem dX4_determinant_38 : decode cX4_determinant 38 = .ok (.istore 7, 2) := by decide +kernel
theorem dX4_determinant_40 : decode cX4_determinant 40 = .ok (.aload_n 1, 1) := by decide +kernel
theorem dX4_determinant_41 : decode cX4_determinant 41 = .ok (.getfield 69, 3) := by decide +kernel
theorem dX4_determinant_44 : decode cX4_determinant 44 = .ok (.aload_n 0, 1) := by decide +kernel
theorem dX4_determinant_45 : decode cX4_determinant 45 = .ok (.getfield 22, 3) := by decide +kernel
theorem dX4_determinant_48 : decode cX4_determinant 48 = .ok (.iconst 0, 1) := by decide +kernel
theorem dX4_determinant_49 : decode cX4_determinant 49 = .ok (.iaload, 1) := by decide +kernel
theorem dX4_determinant_50 : decode cX4_determinant 50 = .ok (.iaload, 1) := by decide +kernel
theorem dX4_determinant_51 : decode cX4_determinant 51 = .ok (.iload 5, 2) := by decide +kernel
theorem dX4_determinant_53 : decode cX4_determinant 53 = .ok (.isub, 1) := by decide +kernel
theorem dX4_determinant_54 : decode cX4_determinant 54 = .ok (.istore 8, 2) := by decide +kernel
theorem dX4_determinant_56 : decode cX4_determinant 56 = .ok (.aload_n 1, 1) := by decide +kernel
theorem dX4_determinant_57 : decode cX4_determinant 57 = .ok (.iload_n 2, 1) := by decide +kernel
theorem dX4_determinant_58 : decode cX4_determinant 58 = .ok (.aload_n 0, 1) := by decide +kernel
theorem dX4_determinant_59 : decode cX4_determinant 59 = .ok (.getfield 22, 3) := by decide +kernel
theorem dX4_determinant_62 : decode cX4_determinant 62 = .ok (.iconst 0, 1) := by decide +kernel
theorem dX4_determinant_63 : decode cX4_determinant 63 = .ok (.iaload, 1) := by decide +kernel
theorem dX4_determinant_64 : decode cX4_determinant 64 = .ok (.invokevirtual 72, 3) := by decide +kernel
theorem dX4_determinant_67 : decode cX4_determinant 67 = .ok (.iload 6, 2) := by decide +kernel
theorem dX4_determinant_69 : decode cX4_determinant 69 = .ok (.isub, 1) := by decide +kernel
theorem dX4_determinant_70 : decode cX4_determinant 70 = .ok (.istore 9, 2) := by decide +kernel
theorem dX4_determinant_72 : decode cX4_determinant 72 = .ok (.aload_n 1, 1) := by decide +kernel
theorem dX4_determinant_73 : decode cX4_determinant 73 = .ok (.getfield 66, 3) := by decide +kernel
theorem dX4_determinant_76 : decode cX4_determinant 76 = .ok (.aload_n 0, 1) := by decide +kernel
theorem dX4_determinant_77 : decode cX4_determinant 77 = .ok (.getfield 22, 3) := by decide +kernel
theorem dX4_determinant_80 : decode cX4_determinant 80 = .ok (.iconst 1, 1) := by decide +kernel
theorem dX4_determinant_81 : decode cX4_determinant 81 = .ok (.iaload, 1) := by decide +kernel
theorem dX4_determinant_82 : decode cX4_determinant 82 = .ok (.iaload, 1) := by decide +kernel
theorem dX4_determinant_83 : decode cX4_determinant 83 = .ok (.iload 4, 2) := by decide +kernel
theorem dX4_determinant_85 : decode cX4_determinant 85 = .ok (.isub, 1) := by decide +kernel
theorem dX4_determinant_86 : decode cX4_determinant 86 = .ok (.istore 10, 2) := by decide +kernel
theorem dX4_determinant_88 : decode cX4_determinant 88 = .ok (.aload_n 1, 1) := by decide +kernel
theorem dX4_determinant_89 : decode cX4_determinant 89 = .ok (.getfield 69, 3) := by decide +kernel
theorem dX4_determinant_92 : decode cX4_determinant 92 = .ok (.aload_n 0, 1) := by decide +kernel
theorem dX4_determinant_93 : decode cX4_determinant 93 = .ok (.getfield 22, 3) := by decide +kernel
theorem dX4_determinant_96 : decode cX4_determinant 96 = .ok (.iconst 1, 1) := by decide +kernel
theorem dX4_determinant_97 : decode cX4_determinant 97 = .ok (.iaload, 1) := by decide +kernel
theorem dX4_determinant_98 : decode cX4_determinant 98 = .ok (.iaload, 1) := by decide +kernel
theorem dX4_determinant_99 : decode cX4_determinant 99 = .ok (.iload 5, 2) := by decide +kernel
theorem dX4_determinant_101 : decode cX4_determinant 101 = .ok (.isub, 1) := by decide +kernel
theorem dX4_determinant_102 : decode cX4_determinant 102 = .ok (.istore 11, 2) := by decide +kernel
theorem dX4_determinant_104 : decode cX4_determinant 104 = .ok (.aload_n 1, 1) := by decide +kernel
theorem dX4_determinant_105 : decode cX4_determinant 105 = .ok (.iload_n 2, 1) := by decide +kernel
theorem dX4_determinant_106 : decode cX4_determinant 106 = .ok (.aload_n 0, 1) := by decide +kernel
theorem dX4_determinant_107 : decode cX4_determinant 107 = .ok (.getfield 22, 3) := by decide +kernel
theorem dX4_determinant_110 : decode cX4_determinant 110 = .ok (.iconst 1, 1) := by decide +kernel
theorem dX4_determinant_111 : decode cX4_determinant 111 = .ok (.iaload, 1) := by decide +kernel
theorem dX4_determinant_112 : decode cX4_determinant 112 = .ok (.invokevirtual 72, 3) := by decide +kernel
theorem dX4_determinant_115 : decode cX4_determinant 115 = .ok (.iload 6, 2) := by decide +kernel
theorem dX4_determinant_117 : decode cX4_determinant 117 = .ok (.isub, 1) := by decide +kernel
theorem dX4_determinant_118 : decode cX4_determinant 118 = .ok (.istore 12, 2) := by decide +kernel
theorem dX4_determinant_120 : decode cX4_determinant 120 = .ok (.aload_n 1, 1) := by decide +kernel
theorem dX4_determinant_121 : decode cX4_determinant 121 = .ok (.getfield 66, 3) := by decide +kernel
theorem dX4_determinant_124 : decode cX4_determinant 124 = .ok (.aload_n 0, 1) := by decide +kernel
theorem dX4_determinant_125 : decode cX4_determinant 125 = .ok (.getfield 22, 3) := by decide +kernel
theorem dX4_determinant_128 : decode cX4_determinant 128 = .ok (.iconst 2, 1) := by decide +kernel
theorem dX4_determinant_129 : decode cX4_determinant 129 = .ok (.iaload, 1) := by decide +kernel
theorem dX4_determinant_130 : decode cX4_determinant 130 = .ok (.iaload, 1) := by decide +kernel
theorem dX4_determinant_131 : decode cX4_determinant 131 = .ok (.iload 4, 2) := by decide +kernel
theorem dX4_determinant_133 : decode cX4_determinant 133 = .ok (.isub, 1) := by decide +kernel
theorem dX4_determinant_134 : decode cX4_determinant 134 = .ok (.istore 13, 2) := by decide +kernel
theorem dX4_determinant_136 : decode cX4_determinant 136 = .ok (.aload_n 1, 1) := by decide +kernel
theorem dX4_determinant_137 : decode cX4_determinant 137 = .ok (.getfield 69, 3) := by decide +kernel
theorem dX4_determinant_140 : decode cX4_determinant 140 = .ok (.aload_n 0, 1) := by decide +kernel
theorem dX4_determinant_141 : decode cX4_determinant 141 = .ok (.getfield 22, 3) := by decide +kernel
theorem dX4_determinant_144 : decode cX4_determinant 144 = .ok (.iconst 2, 1) := by decide +kernel
theorem dX4_determinant_145 : decode cX4_determinant 145 = .ok (.iaload, 1) := by decide +kernel
theorem dX4_determinant_146 : decode cX4_determinant 146 = .ok (.iaload, 1) := by decide +kernel
theorem dX4_determinant_147 : decode cX4_determinant 147 = .ok (.iload 5, 2) := by decide +kernel
theorem dX4_determinant_149 : decode cX4_determinant 149 = .ok (.isub, 1) := by decide +kernel
theorem dX4_determinant_150 : decode cX4_determinant 150 = .ok (.istore 14, 2) := by decide +kernel
theorem dX4_determinant_152 : decode cX4_determinant 152 = .ok (.aload_n 1, 1) := by decide +kernel
theorem dX4_determinant_153 : decode cX4_determinant 153 = .ok (.iload_n 2, 1) := by decide +kernel
theorem dX4_determinant_154 : decode cX4_determinant 154 = .ok (.aload_n 0, 1) := by decide +kernel
theorem dX4_determinant_155 : decode cX4_determinant 155 = .ok (.getfield 22, 3) := by decide +kernel
theorem dX4_determinant_158 : decode cX4_determinant 158 = .ok (.iconst 2, 1) := by decide +kernel
theorem dX4_determinant_159 : decode cX4_determinant 159 = .ok (.iaload, 1) := by decide +kernel
theorem dX4_determinant_160 : decode cX4_determinant 160 = .ok (.invokevirtual 72, 3) := by decide +kernel
theorem dX4_determinant_163 : decode cX4_determinant 163 = .ok (.iload 6, 2) := by decide +kernel
theorem dX4_determinant_165 : decode cX4_determinant 165 = .ok (.isub, 1) := by decide +kernel
theorem dX4_determinant_166 : decode cX4_determinant 166 = .ok (.istore 15, 2) := by decide +kernel
theorem dX4_determinant_168 : decode cX4_determinant 168 = .ok (.iload 7, 2) := by decide +kernel
theorem dX4_determinant_170 : decode cX4_determinant 170 = .ok (.iload 11, 2) := by decide +kernel
theorem dX4_determinant_172 : decode cX4_determinant 172 = .ok (.iload 15, 2) := by decide +kernel
theorem dX4_determinant_174 : decode cX4_determinant 174 = .ok (.imul, 1) := by decide +kernel
theorem dX4_determinant_175 : decode cX4_determinant 175 = .ok (.iload 12, 2) := by decide +kernel
theorem dX4_determinant_177 : decode cX4_determinant 177 = .ok (.iload 14, 2) := by decide +kernel
theorem dX4_determinant_179 : decode cX4_determinant 179 = .ok (.imul, 1) := by decide +kernel
theorem dX4_determinant_180 : decode cX4_determinant 180 = .ok (.isub, 1) := by decide +kernel
theorem dX4_determinant_181 : decode cX4_determinant 181 = .ok (.imul, 1) := by decide +kernel
theorem dX4_determinant_182 : decode cX4_determinant 182 = .ok (.iload 8, 2) := by decide +kernel
theorem dX4_determinant_184 : decode cX4_determinant 184 = .ok (.iload 10, 2) := by decide +kernel
theorem dX4_determinant_186 : decode cX4_determinant 186 = .ok (.iload 15, 2) := by decide +kernel
theorem dX4_determinant_188 : decode cX4_determinant 188 = .ok (.imul, 1) := by decide +kernel
theorem dX4_determinant_189 : decode cX4_determinant 189 = .ok (.iload 12, 2) := by decide +kernel
theorem dX4_determinant_191 : decode cX4_determinant 191 = .ok (.iload 13, 2) := by decide +kernel
theorem dX4_determinant_193 : decode cX4_determinant 193 = .ok (.imul, 1) := by decide +kernel
theorem dX4_determinant_194 : decode cX4_determinant 194 = .ok (.isub, 1) := by decide +kernel
theorem dX4_determinant_195 : decode cX4_determinant 195 = .ok (.imul, 1) := by decide +kernel
theorem dX4_determinant_196 : decode cX4_determinant 196 = .ok (.isub, 1) := by decide +kernel
theorem dX4_determinant_197 : decode cX4_determinant 197 = .ok (.iload 9, 2) := by decide +kernel
theorem dX4_determinant_199 : decode cX4_determinant 199 = .ok (.iload 10, 2) := by decide +kernel
theorem dX4_determinant_201 : decode cX4_determinant 201 = .ok (.iload 14, 2) := by decide +kernel
theorem dX4_determinant_203 : decode cX4_determinant 203 = .ok (.imul, 1) := by decide +kernel
theorem dX4_determinant_204 : decode cX4_determinant 204 = .ok (.iload 11, 2) := by decide +kernel
theorem dX4_determinant_206 : decode cX4_determinant 206 = .ok (.iload 13, 2) := by decide +kernel
theorem dX4_determinant_208 : decode cX4_determinant 208 = .ok (.imul, 1) := by decide +kernel
theorem dX4_determinant_209 : decode cX4_determinant 209 = .ok (.isub, 1) := by decide +kernel
theorem dX4_determinant_210 : decode cX4_determinant 210 = .ok (.imul, 1) := by decide +kernel
theorem dX4_determinant_211 : decode cX4_determinant 211 = .ok (.iadd, 1) := by decide +kernel
theorem dX4_determinant_212 : decode cX4_determinant 212 = .ok (.ireturn, 1) := by decide +kernel
theorem dX0_height_0 : decode cX0_height 0 = .ok (.aload_n 0, 1) := by decide +kernel
theorem dX0_height_1 : decode cX0_height 1 = .ok (.iload_n 1, 1) := by decide +kernel
theorem dX0_height_2 : decode cX0_height 2 = .ok (.iload_n 2, 1) := by decide +kernel
theorem dX0_height_3 : decode cX0_height 3 = .ok (.invokevirtual 69, 3) := by decide +kernel
theorem dX0_height_6 : decode cX0_height 6 = .ok (.ifCond .ne 5, 3) := by decide +kernel
theorem dX0_height_9 : decode cX0_height 9 = .ok (.iconst 0, 1) := by decide +kernel
theorem dX0_height_10 : decode cX0_height 10 = .ok (.ireturn, 1) := by decide +kernel
theorem dX0_height_11 : decode cX0_height 11 = .ok (.aload_n 0, 1) := by decide +kernel
theorem dX0_height_12 : decode cX0_height 12 = .ok (.iload_n 1, 1) := by decide +kernel
theorem dX0_height_13 : decode cX0_height 13 = .ok (.iload_n 2, 1) := by decide +kernel
theorem dX0_height_14 : decode cX0_height 14 = .ok (.invokevirtual 72, 3) := by decide +kernel
theorem dX0_height_17 : decode cX0_height 17 = .ok (.istore_n 3, 1) := by decide +kernel
theorem dX0_height_18 : decode cX0_height 18 = .ok (.aload_n 0, 1) := by decide +kernel
theorem dX0_height_19 : decode cX0_height 19 = .ok (.getfield 25, 3) := by decide +kernel
theorem dX0_height_22 : decode cX0_height 22 = .ok (.iload_n 3, 1) := by decide +kernel
theorem dX0_height_23 : decode cX0_height 23 = .ok (.iaload, 1) := by decide +kernel
theorem dX0_height_24 : decode cX0_height 24 = .ok (.iload_n 1, 1) := by decide +kernel
theorem dX0_height_25 : decode cX0_height 25 = .ok (.if_icmp .ne 12, 3) := by decide +kernel
theorem dX0_height_28 : decode cX0_height 28 = .ok (.aload_n 0, 1) := by decide +kernel
theorem dX0_height_29 : decode cX0_height 29 = .ok (.getfield 34, 3) := by decide +kernel
theorem dX0_height_32 : decode cX0_height 32 = .ok (.iload_n 3, 1) := by decide +kernel
theorem dX0_height_33 : decode cX0_height 33 = .ok (.iaload, 1) := by decide +kernel
theorem dX0_height_34 : decode cX0_height 34 = .ok (.ifCond .ne 5, 3) := by decide +kernel
theorem dX0_height_37 : decode cX0_height 37 = .ok (.iconst 0, 1) := by decide +kernel
theorem dX0_height_38 : decode cX0_height 38 = .ok (.ireturn, 1) := by decide +kernel
theorem dX0_height_39 : decode cX0_height 39 = .ok (.aload_n 0, 1) := by decide +kernel
theorem dX0_height_40 : decode cX0_height 40 = .ok (.getfield 34, 3) := by decide +kernel
theorem dX0_height_43 : decode cX0_height 43 = .ok (.iload_n 3, 1) := by decide +kernel
theorem dX0_height_44 : decode cX0_height 44 = .ok (.iaload, 1) := by decide +kernel
theorem dX0_height_45 : decode cX0_height 45 = .ok (.iconst 1, 1) := by decide +kernel
theorem dX0_height_46 : decode cX0_height 46 = .ok (.if_icmp .ne 7, 3) := by decide +kernel
theorem dX0_height_49 : decode cX0_height 49 = .ok (.iconst 1, 1) := by decide +kernel
theorem dX0_height_50 : decode cX0_height 50 = .ok (.goto 4, 3) := by decide +kernel
theorem dX0_height_53 : decode cX0_height 53 = .ok (.iconst (-1), 1) := by decide +kernel
theorem dX0_height_54 : decode cX0_height 54 = .ok (.ireturn, 1) := by decide +kernel
theorem dX0_bondOf_0 : decode cX0_bondOf 0 = .ok (.aload_n 0, 1) := by decide +kernel
theorem dX0_bondOf_1 : decode cX0_bondOf 1 = .ok (.getfield 42, 3) := by decide +kernel
theorem dX0_bondOf_4 : decode cX0_bondOf 4 = .ok (.iload_n 1, 1) := by decide +kernel
theorem dX0_bondOf_5 : decode cX0_bondOf 5 = .ok (.aaload, 1) := by decide +kernel
theorem dX0_bondOf_6 : decode cX0_bondOf 6 = .ok (.iload_n 2, 1) := by decide +kernel
theorem dX0_bondOf_7 : decode cX0_bondOf 7 = .ok (.iaload, 1) := by decide +kernel
theorem dX0_bondOf_8 : decode cX0_bondOf 8 = .ok (.iconst 1, 1) := by decide +kernel
theorem dX0_bondOf_9 : decode cX0_bondOf 9 = .ok (.isub, 1) := by decide +kernel
theorem dX0_bondOf_10 : decode cX0_bondOf 10 = .ok (.ireturn, 1) := by decide +kernel
theorem dX6_sign_0 : decode cX6_sign 0 = .ok (.iload_n 0, 1) := by decide +kernel
theorem dX6_sign_1 : decode cX6_sign 1 = .ok (.ifCond .le 7, 3) := by decide +kernel
theorem dX6_sign_4 : decode cX6_sign 4 = .ok (.iconst 1, 1) := by decide +kernel
theorem dX6_sign_5 : decode cX6_sign 5 = .ok (.goto 12, 3) := by decide +kernel
theorem dX6_sign_8 : decode cX6_sign 8 = .ok (.iload_n 0, 1) := by decide +kernel
theorem dX6_sign_9 : decode cX6_sign 9 = .ok (.ifCond .ge 7, 3) := by decide +kernel
theorem dX6_sign_12 : decode cX6_sign 12 = .ok (.iconst (-1), 1) := by decide +kernel
theorem dX6_sign_13 : decode cX6_sign 13 = .ok (.goto 4, 3) := by decide +kernel
theorem dX6_sign_16 : decode cX6_sign 16 = .ok (.iconst 0, 1) := by decide +kernel
theorem dX6_sign_17 : decode cX6_sign 17 = .ok (.ireturn, 1) := by decide +kernel
theorem dX6_turn_0 : decode cX6_turn 0 = .ok (.aload_n 0, 1) := by decide +kernel
theorem dX6_turn_1 : decode cX6_turn 1 = .ok (.getfield 14, 3) := by decide +kernel
theorem dX6_turn_4 : decode cX6_turn 4 = .ok (.iload_n 1, 1) := by decide +kernel
theorem dX6_turn_5 : decode cX6_turn 5 = .ok (.invokevirtual 112, 3) := by decide +kernel
theorem dX6_turn_8 : decode cX6_turn 8 = .ok (.ifCond .ne 5, 3) := by decide +kernel
theorem dX6_turn_11 : decode cX6_turn 11 = .ok (.iconst (-1), 1) := by decide +kernel
theorem dX6_turn_12 : decode cX6_turn 12 = .ok (.ireturn, 1) := by decide +kernel
theorem dX6_turn_13 : decode cX6_turn 13 = .ok (.aload_n 0, 1) := by decide +kernel
theorem dX6_turn_14 : decode cX6_turn 14 = .ok (.getfield 21, 3) := by decide +kernel
theorem dX6_turn_17 : decode cX6_turn 17 = .ok (.aload_n 0, 1) := by decide +kernel
theorem dX6_turn_18 : decode cX6_turn 18 = .ok (.getfield 14, 3) := by decide +kernel
theorem dX6_turn_21 : decode cX6_turn 21 = .ok (.iload_n 1, 1) := by decide +kernel
theorem dX6_turn_22 : decode cX6_turn 22 = .ok (.invokevirtual 136, 3) := by decide +kernel
theorem dX6_turn_25 : decode cX6_turn 25 = .ok (.iconst 1, 1) := by decide +kernel
theorem dX6_turn_26 : decode cX6_turn 26 = .ok (.iadd, 1) := by decide +kernel
theorem dX6_turn_27 : decode cX6_turn 27 = .ok (.aload_n 0, 1) := by decide +kernel
theorem dX6_turn_28 : decode cX6_turn 28 = .ok (.getfield 14, 3) := by decide +kernel
theorem dX6_turn_31 : decode cX6_turn 31 = .ok (.iload_n 1, 1) := by decide +kernel
theorem dX6_turn_32 : decode cX6_turn 32 = .ok (.invokevirtual 139, 3) := by decide +kernel
theorem dX6_turn_35 : decode cX6_turn 35 = .ok (.ifCond .eq 7, 3) := by decide +kernel
theorem dX6_turn_38 : decode cX6_turn 38 = .ok (.iconst 4, 1) := by decide +kernel
theorem dX6_turn_39 : decode cX6_turn 39 = .ok (.goto 4, 3) := by decide +kernel
theorem dX6_turn_42 : decode cX6_turn 42 = .ok (.iconst 0, 1) := by decide +kernel
theorem dX6_turn_43 : decode cX6_turn 43 = .ok (.iadd, 1) := by decide +kernel
theorem dX6_turn_44 : decode cX6_turn 44 = .ok (.ireturn, 1) := by decide +kernel
theorem dX4_senseOfBond_0 : decode cX4_senseOfBond 0 = .ok (.aload_n 1, 1) := by decide +kernel
theorem dX4_senseOfBond_1 : decode cX4_senseOfBond 1 = .ok (.iload_n 2, 1) := by decide +kernel
theorem dX4_senseOfBond_2 : decode cX4_senseOfBond 2 = .ok (.invokevirtual 41, 3) := by decide +kernel
theorem dX4_senseOfBond_5 : decode cX4_senseOfBond 5 = .ok (.ifCond .ne 5, 3) := by decide +kernel
theorem dX4_senseOfBond_8 : decode cX4_senseOfBond 8 = .ok (.iconst 0, 1) := by decide +kernel
theorem dX4_senseOfBond_9 : decode cX4_senseOfBond 9 = .ok (.ireturn, 1) := by decide +kernel
theorem dX4_senseOfBond_10 : decode cX4_senseOfBond 10 = .ok (.aload_n 1, 1) := by decide +kernel
theorem dX4_senseOfBond_11 : decode cX4_senseOfBond 11 = .ok (.getfield 76, 3) := by decide +kernel
theorem dX4_senseOfBond_14 : decode cX4_senseOfBond 14 = .ok (.iload_n 2, 1) := by decide +kernel
theorem dX4_senseOfBond_15 : decode cX4_senseOfBond 15 = .ok (.iaload, 1) := by decide +kernel
theorem dX4_senseOfBond_16 : decode cX4_senseOfBond 16 = .ok (.aload_n 1, 1) := by decide +kernel
theorem dX4_senseOfBond_17 : decode cX4_senseOfBond 17 = .ok (.getfield 79, 3) := by decide +kernel
theorem dX4_senseOfBond_20 : decode cX4_senseOfBond 20 = .ok (.iload_n 2, 1) := by decide +kernel
theorem dX4_senseOfBond_21 : decode cX4_senseOfBond 21 = .ok (.iaload, 1) := by decide +kernel
theorem dX4_senseOfBond_22 : decode cX4_senseOfBond 22 = .ok (.invokestatic 82, 3) := by decide +kernel
theorem dX4_senseOfBond_25 : decode cX4_senseOfBond 25 = .ok (.istore_n 3, 1) := by decide +kernel
theorem dX4_senseOfBond_26 : decode cX4_senseOfBond 26 = .ok (.aload_n 1, 1) := by decide +kernel
theorem dX4_senseOfBond_27 : decode cX4_senseOfBond 27 = .ok (.getfield 76, 3) := by decide +kernel
theorem dX4_senseOfBond_30 : decode cX4_senseOfBond 30 = .ok (.iload_n 2, 1) := by decide +kernel
theorem dX4_senseOfBond_31 : decode cX4_senseOfBond 31 = .ok (.iaload, 1) := by decide +kernel
theorem dX4_senseOfBond_32 : decode cX4_senseOfBond 32 = .ok (.aload_n 1, 1) := by decide +kernel
theorem dX4_senseOfBond_33 : decode cX4_senseOfBond 33 = .ok (.getfield 79, 3) := by decide +kernel
theorem dX4_senseOfBond_36 : decode cX4_senseOfBond 36 = .ok (.iload_n 2, 1) := by decide +kernel
theorem dX4_senseOfBond_37 : decode cX4_senseOfBond 37 = .ok (.iaload, 1) := by decide +kernel
theorem dX4_senseOfBond_38 : decode cX4_senseOfBond 38 = .ok (.invokestatic 87, 3) := by decide +kernel
theorem dX4_senseOfBond_41 : decode cX4_senseOfBond 41 = .ok (.istore 4, 2) := by decide +kernel
theorem dX4_senseOfBond_43 : decode cX4_senseOfBond 43 = .ok (.aload_n 1, 1) := by decide +kernel
theorem dX4_senseOfBond_44 : decode cX4_senseOfBond 44 = .ok (.iload_n 3, 1) := by decide +kernel
theorem dX4_senseOfBond_45 : decode cX4_senseOfBond 45 = .ok (.iload 4, 2) := by decide +kernel
theorem dX4_senseOfBond_47 : decode cX4_senseOfBond 47 = .ok (.iload_n 3, 1) := by decide +kernel
theorem dX4_senseOfBond_48 : decode cX4_senseOfBond 48 = .ok (.invokestatic 90, 3) := by decide +kernel
theorem dX4_senseOfBond_51 : decode cX4_senseOfBond 51 = .ok (.aload_n 1, 1) := by decide +kernel
theorem dX4_senseOfBond_52 : decode cX4_senseOfBond 52 = .ok (.iload_n 3, 1) := by decide +kernel
theorem dX4_senseOfBond_53 : decode cX4_senseOfBond 53 = .ok (.iload 4, 2) := by decide +kernel
theorem dX4_senseOfBond_55 : decode cX4_senseOfBond 55 = .ok (.iload 4, 2) := by decide +kernel
theorem dX4_senseOfBond_57 : decode cX4_senseOfBond 57 = .ok (.invokestatic 90, 3) := by decide +kernel
theorem dX4_senseOfBond_60 : decode cX4_senseOfBond 60 = .ok (.imul, 1) := by decide +kernel
theorem dX4_senseOfBond_61 : decode cX4_senseOfBond 61 = .ok (.ireturn, 1) := by decide +kernel
theorem dX0_isHinge_0 : decode cX0_isHinge 0 = .ok (.aload_n 0, 1) := by decide +kernel
theorem dX0_isHinge_1 : decode cX0_isHinge 1 = .ok (.getfield 31, 3) := by decide +kernel
theorem dX0_isHinge_4 : decode cX0_isHinge 4 = .ok (.iload_n 1, 1) := by decide +kernel
theorem dX0_isHinge_5 : decode cX0_isHinge 5 = .ok (.iaload, 1) := by decide +kernel
theorem dX0_isHinge_6 : decode cX0_isHinge 6 = .ok (.iconst 2, 1) := by decide +kernel
theorem dX0_isHinge_7 : decode cX0_isHinge 7 = .ok (.if_icmp .ne 45, 3) := by decide +kernel
theorem dX0_isHinge_10 : decode cX0_isHinge 10 = .ok (.aload_n 0, 1) := by decide +kernel
theorem dX0_isHinge_11 : decode cX0_isHinge 11 = .ok (.aload_n 0, 1) := by decide +kernel
theorem dX0_isHinge_12 : decode cX0_isHinge 12 = .ok (.getfield 25, 3) := by decide +kernel
theorem dX0_isHinge_15 : decode cX0_isHinge 15 = .ok (.iload_n 1, 1) := by decide +kernel
theorem dX0_isHinge_16 : decode cX0_isHinge 16 = .ok (.iaload, 1) := by decide +kernel
theorem dX0_isHinge_17 : decode cX0_isHinge 17 = .ok (.aload_n 0, 1) := by decide +kernel
theorem dX0_isHinge_18 : decode cX0_isHinge 18 = .ok (.getfield 28, 3) := by decide +kernel
theorem dX0_isHinge_21 : decode cX0_isHinge 21 = .ok (.iload_n 1, 1) := by decide +kernel
theorem dX0_isHinge_22 : decode cX0_isHinge 22 = .ok (.iaload, 1) := by decide +kernel
theorem dX0_isHinge_23 : decode cX0_isHinge 23 = .ok (.invokevirtual 65, 3) := by decide +kernel
theorem dX0_isHinge_26 : decode cX0_isHinge 26 = .ok (.ifCond .eq 26, 3) := by decide +kernel
theorem dX0_isHinge_29 : decode cX0_isHinge 29 = .ok (.aload_n 0, 1) := by decide +kernel
theorem dX0_isHinge_30 : decode cX0_isHinge 30 = .ok (.aload_n 0, 1) := by decide +kernel
theorem dX0_isHinge_31 : decode cX0_isHinge 31 = .ok (.getfield 28, 3) := by decide +kernel
theorem dX0_isHinge_34 : decode cX0_isHinge 34 = .ok (.iload_n 1, 1) := by decide +kernel
theorem dX0_isHinge_35 : decode cX0_isHinge 35 = .ok (.iaload, 1) := by decide +kernel
theorem dX0_isHinge_36 : decode cX0_isHinge 36 = .ok (.aload_n 0, 1) := by decide +kernel
theorem dX0_isHinge_37 : decode cX0_isHinge 37 = .ok (.getfield 25, 3) := by decide +kernel
theorem dX0_isHinge_40 : decode cX0_isHinge 40 = .ok (.iload_n 1, 1) := by decide +kernel
theorem dX0_isHinge_41 : decode cX0_isHinge 41 = .ok (.iaload, 1) := by decide +kernel
theorem dX0_isHinge_42 : decode cX0_isHinge 42 = .ok (.invokevirtual 65, 3) := by decide +kernel
theorem dX0_isHinge_45 : decode cX0_isHinge 45 = .ok (.ifCond .eq 7, 3) := by decide +kernel
theorem dX0_isHinge_48 : decode cX0_isHinge 48 = .ok (.iconst 1, 1) := by decide +kernel
theorem dX0_isHinge_49 : decode cX0_isHinge 49 = .ok (.goto 4, 3) := by decide +kernel
theorem dX0_isHinge_52 : decode cX0_isHinge 52 = .ok (.iconst 0, 1) := by decide +kernel
theorem dX0_isHinge_53 : decode cX0_isHinge 53 = .ok (.ireturn, 1) := by decide +kernel
theorem dX0_isHingeEnd_0 : decode cX0_isHingeEnd 0 = .ok (.aload_n 0, 1) := by decide +kernel
theorem dX0_isHingeEnd_1 : decode cX0_isHingeEnd 1 = .ok (.iload_n 1, 1) := by decide +kernel
theorem dX0_isHingeEnd_2 : decode cX0_isHingeEnd 2 = .ok (.iload_n 2, 1) := by decide +kernel
theorem dX0_isHingeEnd_3 : decode cX0_isHingeEnd 3 = .ok (.invokevirtual 62, 3) := by decide +kernel
theorem dX0_isHingeEnd_6 : decode cX0_isHingeEnd 6 = .ok (.istore_n 3, 1) := by decide +kernel
theorem dX0_isHingeEnd_7 : decode cX0_isHingeEnd 7 = .ok (.aload_n 0, 1) := by decide +kernel
theorem dX0_isHingeEnd_8 : decode cX0_isHingeEnd 8 = .ok (.getfield 9, 3) := by decide +kernel
theorem dX0_isHingeEnd_11 : decode cX0_isHingeEnd 11 = .ok (.iload_n 1, 1) := by decide +kernel
theorem dX0_isHingeEnd_12 : decode cX0_isHingeEnd 12 = .ok (.iaload, 1) := by decide +kernel
theorem dX0_isHingeEnd_13 : decode cX0_isHingeEnd 13 = .ok (.ifCond .eq 13, 3) := by decide +kernel
theorem dX0_isHingeEnd_16 : decode cX0_isHingeEnd 16 = .ok (.aload_n 0, 1) := by decide +kernel
theorem dX0_isHingeEnd_17 : decode cX0_isHingeEnd 17 = .ok (.getfield 9, 3) := by decide +kernel
theorem dX0_isHingeEnd_20 : decode cX0_isHingeEnd 20 = .ok (.iload_n 1, 1) := by decide +kernel
theorem dX0_isHingeEnd_21 : decode cX0_isHingeEnd 21 = .ok (.iaload, 1) := by decide +kernel
theorem dX0_isHingeEnd_22 : decode cX0_isHingeEnd 22 = .ok (.iconst 1, 1) := by decide +kernel
theorem dX0_isHingeEnd_23 : decode cX0_isHingeEnd 23 = .ok (.if_icmp .ne 17, 3) := by decide +kernel
theorem dX0_isHingeEnd_26 : decode cX0_isHingeEnd 26 = .ok (.iload_n 3, 1) := by decide +kernel
theorem dX0_isHingeEnd_27 : decode cX0_isHingeEnd 27 = .ok (.iconst 1, 1) := by decide +kernel
theorem dX0_isHingeEnd_28 : decode cX0_isHingeEnd 28 = .ok (.if_icmp .eq 8, 3) := by decide +kernel
theorem dX0_isHingeEnd_31 : decode cX0_isHingeEnd 31 = .ok (.iload_n 3, 1) := by decide +kernel
theorem dX0_isHingeEnd_32 : decode cX0_isHingeEnd 32 = .ok (.iconst 2, 1) := by decide +kernel
theorem dX0_isHingeEnd_33 : decode cX0_isHingeEnd 33 = .ok (.if_icmp .ne 7, 3) := by decide +kernel
theorem dX0_isHingeEnd_36 : decode cX0_isHingeEnd 36 = .ok (.iconst 1, 1) := by decide +kernel
theorem dX0_isHingeEnd_37 : decode cX0_isHingeEnd 37 = .ok (.goto 4, 3) := by decide +kernel
theorem dX0_isHingeEnd_40 : decode cX0_isHingeEnd 40 = .ok (.iconst 0, 1) := by decide +kernel
theorem dX0_isHingeEnd_41 : decode cX0_isHingeEnd 41 = .ok (.ireturn, 1) := by decide +kernel
theorem dJ9_min_0 : decode cJ9_min 0 = .ok (.iload_n 0, 1) := by decide +kernel
theorem dJ9_min_1 : decode cJ9_min 1 = .ok (.iload_n 1, 1) := by decide +kernel
theorem dJ9_min_2 : decode cJ9_min 2 = .ok (.if_icmp .gt 7, 3) := by decide +kernel
theorem dJ9_min_5 : decode cJ9_min 5 = .ok (.iload_n 0, 1) := by decide +kernel
theorem dJ9_min_6 : decode cJ9_min 6 = .ok (.goto 4, 3) := by decide +kernel
theorem dJ9_min_9 : decode cJ9_min 9 = .ok (.iload_n 1, 1) := by decide +kernel
theorem dJ9_min_10 : decode cJ9_min 10 = .ok (.ireturn, 1) := by decide +kernel
theorem dJ9_max_0 : decode cJ9_max 0 = .ok (.iload_n 0, 1) := by decide +kernel
theorem dJ9_max_1 : decode cJ9_max 1 = .ok (.iload_n 1, 1) := by decide +kernel
theorem dJ9_max_2 : decode cJ9_max 2 = .ok (.if_icmp .lt 7, 3) := by decide +kernel
theorem dJ9_max_5 : decode cJ9_max 5 = .ok (.iload_n 0, 1) := by decide +kernel
theorem dJ9_max_6 : decode cJ9_max 6 = .ok (.goto 4, 3) := by decide +kernel
theorem dJ9_max_9 : decode cJ9_max 9 = .ok (.iload_n 1, 1) := by decide +kernel
theorem dJ9_max_10 : decode cJ9_max 10 = .ok (.ireturn, 1) := by decide +kernel
theorem dX4_sideOfEnd_0 : decode cX4_sideOfEnd 0 = .ok (.iconst 0, 1) := by decide +kernel
theorem dX4_sideOfEnd_1 : decode cX4_sideOfEnd 1 = .ok (.istore 4, 2) := by decide +kernel
theorem dX4_sideOfEnd_3 : decode cX4_sideOfEnd 3 = .ok (.iconst 0, 1) := by decide +kernel
theorem dX4_sideOfEnd_4 : decode cX4_sideOfEnd 4 = .ok (.istore 5, 2) := by decide +kernel
theorem dX4_sideOfEnd_6 : decode cX4_sideOfEnd 6 = .ok (.iload 5, 2) := by decide +kernel
theorem dX4_sideOfEnd_8 : decode cX4_sideOfEnd 8 = .ok (.aload_n 0, 1) := by decide +kernel
theorem dX4_sideOfEnd_9 : decode cX4_sideOfEnd 9 = .ok (.getfield 25, 3) := by decide +kernel
theorem dX4_sideOfEnd_12 : decode cX4_sideOfEnd 12 = .ok (.if_icmp .ge 69, 3) := by decide +kernel
theorem dX4_sideOfEnd_15 : decode cX4_sideOfEnd 15 = .ok (.iload 5, 2) := by decide +kernel
theorem dX4_sideOfEnd_17 : decode cX4_sideOfEnd 17 = .ok (.iload_n 1, 1) := by decide +kernel
theorem dX4_sideOfEnd_18 : decode cX4_sideOfEnd 18 = .ok (.if_icmp .eq 57, 3) := by decide +kernel
theorem dX4_sideOfEnd_21 : decode cX4_sideOfEnd 21 = .ok (.iload 5, 2) := by decide +kernel
theorem dX4_sideOfEnd_23 : decode cX4_sideOfEnd 23 = .ok (.iload_n 2, 1) := by decide +kernel
theorem dX4_sideOfEnd_24 : decode cX4_sideOfEnd 24 = .ok (.if_icmp .eq 51, 3) := by decide +kernel
theorem dX4_sideOfEnd_27 : decode cX4_sideOfEnd 27 = .ok (.aload_n 0, 1) := by decide +kernel
theorem dX4_sideOfEnd_28 : decode cX4_sideOfEnd 28 = .ok (.iload_n 3, 1) := by decide +kernel
theorem dX4_sideOfEnd_29 : decode cX4_sideOfEnd 29 = .ok (.iload 5, 2) := by decide +kernel
theorem dX4_sideOfEnd_31 : decode cX4_sideOfEnd 31 = .ok (.invokevirtual 54, 3) := by decide +kernel
theorem dX4_sideOfEnd_34 : decode cX4_sideOfEnd 34 = .ok (.ifCond .eq 41, 3) := by decide +kernel
theorem dX4_sideOfEnd_37 : decode cX4_sideOfEnd 37 = .ok (.aload_n 0, 1) := by decide +kernel
theorem dX4_sideOfEnd_38 : decode cX4_sideOfEnd 38 = .ok (.iload_n 1, 1) := by decide +kernel
theorem dX4_sideOfEnd_39 : decode cX4_sideOfEnd 39 = .ok (.iload_n 2, 1) := by decide +kernel
theorem dX4_sideOfEnd_40 : decode cX4_sideOfEnd 40 = .ok (.iload 5, 2) := by decide +kernel
theorem dX4_sideOfEnd_42 : decode cX4_sideOfEnd 42 = .ok (.invokevirtual 94, 3) := by decide +kernel
theorem dX4_sideOfEnd_45 : decode cX4_sideOfEnd 45 = .ok (.istore 6, 2) := by decide +kernel
theorem dX4_sideOfEnd_47 : decode cX4_sideOfEnd 47 = .ok (.iload 6, 2) := by decide +kernel
theorem dX4_sideOfEnd_49 : decode cX4_sideOfEnd 49 = .ok (.ifCond .eq 10, 3) := by decide +kernel
theorem dX4_sideOfEnd_52 : decode cX4_sideOfEnd 52 = .ok (.iload 6, 2) := by decide +kernel
theorem dX4_sideOfEnd_54 : decode cX4_sideOfEnd 54 = .ok (.iload 4, 2) := by decide +kernel
theorem dX4_sideOfEnd_56 : decode cX4_sideOfEnd 56 = .ok (.if_icmp .ne 5, 3) := by decide +kernel
theorem dX4_sideOfEnd_59 : decode cX4_sideOfEnd 59 = .ok (.iconst 0, 1) := by decide +kernel
theorem dX4_sideOfEnd_60 : decode cX4_sideOfEnd 60 = .ok (.ireturn, 1) := by decide +kernel
theorem dX4_sideOfEnd_61 : decode cX4_sideOfEnd 61 = .ok (.iload 4, 2) := by decide +kernel
theorem dX4_sideOfEnd_63 : decode cX4_sideOfEnd 63 = .ok (.ifCond .ne 8, 3) := by decide +kernel
theorem dX4_sideOfEnd_66 : decode cX4_sideOfEnd 66 = .ok (.iload 6, 2) := by decide +kernel
theorem dX4_sideOfEnd_68 : decode cX4_sideOfEnd 68 = .ok (.goto 5, 3) := by decide +kernel
theorem dX4_sideOfEnd_71 : decode cX4_sideOfEnd 71 = .ok (.iload 4, 2) := by decide +kernel
theorem dX4_sideOfEnd_73 : decode cX4_sideOfEnd 73 = .ok (.istore 4, 2) := by decide +kernel
theorem dX4_sideOfEnd_75 : decode cX4_sideOfEnd 75 = .ok (.iinc 5 1, 3) := by decide +kernel
theorem dX4_sideOfEnd_78 : decode cX4_sideOfEnd 78 = .ok (.goto (-72), 3) := by decide +kernel
theorem dX4_sideOfEnd_81 : decode cX4_sideOfEnd 81 = .ok (.iload 4, 2) := by decide +kernel
theorem dX4_sideOfEnd_83 : decode cX4_sideOfEnd 83 = .ok (.ireturn, 1) := by decide +kernel
theorem dX0_side_0 : decode cX0_side 0 = .ok (.aload_n 0, 1) := by decide +kernel
theorem dX0_side_1 : decode cX0_side 1 = .ok (.getfield 15, 3) := by decide +kernel
theorem dX0_side_4 : decode cX0_side 4 = .ok (.iload_n 2, 1) := by decide +kernel
theorem dX0_side_5 : decode cX0_side 5 = .ok (.iaload, 1) := by decide +kernel
theorem dX0_side_6 : decode cX0_side 6 = .ok (.aload_n 0, 1) := by decide +kernel
theorem dX0_side_7 : decode cX0_side 7 = .ok (.getfield 15, 3) := by decide +kernel
theorem dX0_side_10 : decode cX0_side 10 = .ok (.iload_n 1, 1) := by decide +kernel
theorem dX0_side_11 : decode cX0_side 11 = .ok (.iaload, 1) := by decide +kernel
theorem dX0_side_12 : decode cX0_side 12 = .ok (.isub, 1) := by decide +kernel
theorem dX0_side_13 : decode cX0_side 13 = .ok (.aload_n 0, 1) := by decide +kernel
theorem dX0_side_14 : decode cX0_side 14 = .ok (.getfield 18, 3) := by decide +kernel
theorem dX0_side_17 : decode cX0_side 17 = .ok (.iload_n 3, 1) := by decide +kernel
theorem dX0_side_18 : decode cX0_side 18 = .ok (.iaload, 1) := by decide +kernel
theorem dX0_side_19 : decode cX0_side 19 = .ok (.aload_n 0, 1) := by decide +kernel
theorem dX0_side_20 : decode cX0_side 20 = .ok (.getfield 18, 3) := by decide +kernel
theorem dX0_side_23 : decode cX0_side 23 = .ok (.iload_n 1, 1) := by decide +kernel
theorem dX0_side_24 : decode cX0_side 24 = .ok (.iaload, 1) := by decide +kernel
theorem dX0_side_25 : decode cX0_side 25 = .ok (.isub, 1) := by decide +kernel
theorem dX0_side_26 : decode cX0_side 26 = .ok (.imul, 1) := by decide +kernel
theorem dX0_side_27 : decode cX0_side 27 = .ok (.aload_n 0, 1) := by decide +kernel
theorem dX0_side_28 : decode cX0_side 28 = .ok (.getfield 18, 3) := by decide +kernel
theorem dX0_side_31 : decode cX0_side 31 = .ok (.iload_n 2, 1) := by decide +kernel
theorem dX0_side_32 : decode cX0_side 32 = .ok (.iaload, 1) := by decide +kernel
theorem dX0_side_33 : decode cX0_side 33 = .ok (.aload_n 0, 1) := by decide +kernel
theorem dX0_side_34 : decode cX0_side 34 = .ok (.getfield 18, 3) := by decide +kernel
theorem dX0_side_37 : decode cX0_side 37 = .ok (.iload_n 1, 1) := by decide +kernel
theorem dX0_side_38 : decode cX0_side 38 = .ok (.iaload, 1) := by decide +kernel
theorem dX0_side_39 : decode cX0_side 39 = .ok (.isub, 1) := by decide +kernel
theorem dX0_side_40 : decode cX0_side 40 = .ok (.aload_n 0, 1) := by decide +kernel
theorem dX0_side_41 : decode cX0_side 41 = .ok (.getfield 15, 3) := by decide +kernel
theorem dX0_side_44 : decode cX0_side 44 = .ok (.iload_n 3, 1) := by decide +kernel
theorem dX0_side_45 : decode cX0_side 45 = .ok (.iaload, 1) := by decide +kernel
theorem dX0_side_46 : decode cX0_side 46 = .ok (.aload_n 0, 1) := by decide +kernel
theorem dX0_side_47 : decode cX0_side 47 = .ok (.getfield 15, 3) := by decide +kernel
theorem dX0_side_50 : decode cX0_side 50 = .ok (.iload_n 1, 1) := by decide +kernel
theorem dX0_side_51 : decode cX0_side 51 = .ok (.iaload, 1) := by decide +kernel
theorem dX0_side_52 : decode cX0_side 52 = .ok (.isub, 1) := by decide +kernel
theorem dX0_side_53 : decode cX0_side 53 = .ok (.imul, 1) := by decide +kernel
theorem dX0_side_54 : decode cX0_side 54 = .ok (.isub, 1) := by decide +kernel
theorem dX0_side_55 : decode cX0_side 55 = .ok (.invokestatic 75, 3) := by decide +kernel
theorem dX0_side_58 : decode cX0_side 58 = .ok (.ireturn, 1) := by decide +kernel
theorem dX6_row_0 : decode cX6_row 0 = .ok (.aload_n 0, 1) := by decide +kernel
theorem dX6_row_1 : decode cX6_row 1 = .ok (.getfield 14, 3) := by decide +kernel
theorem dX6_row_4 : decode cX6_row 4 = .ok (.iload_n 1, 1) := by decide +kernel
theorem dX6_row_5 : decode cX6_row 5 = .ok (.invokevirtual 85, 3) := by decide +kernel
theorem dX6_row_8 : decode cX6_row 8 = .ok (.ifCond .ne 5, 3) := by decide +kernel
theorem dX6_row_11 : decode cX6_row 11 = .ok (.iconst (-1), 1) := by decide +kernel
theorem dX6_row_12 : decode cX6_row 12 = .ok (.ireturn, 1) := by decide +kernel
theorem dX6_row_13 : decode cX6_row 13 = .ok (.aload_n 0, 1) := by decide +kernel
theorem dX6_row_14 : decode cX6_row 14 = .ok (.invokevirtual 142, 3) := by decide +kernel
theorem dX6_row_17 : decode cX6_row 17 = .ok (.aload_n 0, 1) := by decide +kernel
theorem dX6_row_18 : decode cX6_row 18 = .ok (.getfield 38, 3) := by decide +kernel
theorem dX6_row_21 : decode cX6_row 21 = .ok (.getfield 145, 3) := by decide +kernel
theorem dX6_row_24 : decode cX6_row 24 = .ok (.iload_n 1, 1) := by decide +kernel
theorem dX6_row_25 : decode cX6_row 25 = .ok (.iaload, 1) := by decide +kernel
theorem dX6_row_26 : decode cX6_row 26 = .ok (.ireturn, 1) := by decide +kernel
theorem dX6_settle_0 : decode cX6_settle 0 = .ok (.aload_n 0, 1) := by decide +kernel
theorem dX6_settle_1 : decode cX6_settle 1 = .ok (.getfield 67, 3) := by decide +kernel
theorem dX6_settle_4 : decode cX6_settle 4 = .ok (.ifCond .eq 4, 3) := by decide +kernel
theorem dX6_settle_7 : decode cX6_settle 7 = .ok (.return_, 1) := by decide +kernel
theorem dX6_settle_8 : decode cX6_settle 8 = .ok (.aload_n 0, 1) := by decide +kernel
theorem dX6_settle_9 : decode cX6_settle 9 = .ok (.getfield 21, 3) := by decide +kernel
theorem dX6_settle_12 : decode cX6_settle 12 = .ok (.aload_n 0, 1) := by decide +kernel
theorem dX6_settle_13 : decode cX6_settle 13 = .ok (.getfield 14, 3) := by decide +kernel
theorem dX6_settle_16 : decode cX6_settle 16 = .ok (.invokevirtual 189, 3) := by decide +kernel
theorem dX6_settle_19 : decode cX6_settle 19 = .ok (.aload_n 0, 1) := by decide +kernel
theorem dX6_settle_20 : decode cX6_settle 20 = .ok (.getfield 31, 3) := by decide +kernel
theorem dX6_settle_23 : decode cX6_settle 23 = .ok (.aload_n 0, 1) := by decide +kernel
theorem dX6_settle_24 : decode cX6_settle 24 = .ok (.getfield 14, 3) := by decide +kernel
theorem dX6_settle_27 : decode cX6_settle 27 = .ok (.invokevirtual 193, 3) := by decide +kernel
theorem dX6_settle_30 : decode cX6_settle 30 = .ok (.aload_n 0, 1) := by decide +kernel
theorem dX6_settle_31 : decode cX6_settle 31 = .ok (.getfield 31, 3) := by decide +kernel
theorem dX6_settle_34 : decode cX6_settle 34 = .ok (.aload_n 0, 1) := by decide +kernel
theorem dX6_settle_35 : decode cX6_settle 35 = .ok (.getfield 14, 3) := by decide +kernel
theorem dX6_settle_38 : decode cX6_settle 38 = .ok (.aload_n 0, 1) := by decide +kernel
theorem dX6_settle_39 : decode cX6_settle 39 = .ok (.getfield 21, 3) := by decide +kernel
theorem dX6_settle_42 : decode cX6_settle 42 = .ok (.invokevirtual 163, 3) := by decide +kernel
theorem dX6_settle_45 : decode cX6_settle 45 = .ok (.istore_n 1, 1) := by decide +kernel
theorem dX6_settle_46 : decode cX6_settle 46 = .ok (.aload_n 0, 1) := by decide +kernel
theorem dX6_settle_47 : decode cX6_settle 47 = .ok (.getfield 38, 3) := by decide +kernel
theorem dX6_settle_50 : decode cX6_settle 50 = .ok (.aload_n 0, 1) := by decide +kernel
theorem dX6_settle_51 : decode cX6_settle 51 = .ok (.getfield 31, 3) := by decide +kernel
theorem dX6_settle_54 : decode cX6_settle 54 = .ok (.getfield 196, 3) := by decide +kernel
theorem dX6_settle_57 : decode cX6_settle 57 = .ok (.aload_n 0, 1) := by decide +kernel
theorem dX6_settle_58 : decode cX6_settle 58 = .ok (.getfield 14, 3) := by decide +kernel
theorem dX6_settle_61 : decode cX6_settle 61 = .ok (.getfield 78, 3) := by decide +kernel
theorem dX6_settle_64 : decode cX6_settle 64 = .ok (.iload_n 1, 1) := by decide +kernel
theorem dX6_settle_65 : decode cX6_settle 65 = .ok (.invokevirtual 197, 3) := by decide +kernel
theorem dX6_settle_68 : decode cX6_settle 68 = .ok (.aload_n 0, 1) := by decide +kernel
theorem dX6_settle_69 : decode cX6_settle 69 = .ok (.getfield 48, 3) := by decide +kernel
theorem dX6_settle_72 : decode cX6_settle 72 = .ok (.aload_n 0, 1) := by decide +kernel
theorem dX6_settle_73 : decode cX6_settle 73 = .ok (.getfield 31, 3) := by decide +kernel
theorem dX6_settle_76 : decode cX6_settle 76 = .ok (.getfield 201, 3) := by decide +kernel
theorem dX6_settle_79 : decode cX6_settle 79 = .ok (.invokevirtual 204, 3) := by decide +kernel
theorem dX6_settle_82 : decode cX6_settle 82 = .ok (.aload_n 0, 1) := by decide +kernel
theorem dX6_settle_83 : decode cX6_settle 83 = .ok (.getfield 25, 3) := by decide +kernel
theorem dX6_settle_86 : decode cX6_settle 86 = .ok (.aload_n 0, 1) := by decide +kernel
theorem dX6_settle_87 : decode cX6_settle 87 = .ok (.getfield 21, 3) := by decide +kernel
theorem dX6_settle_90 : decode cX6_settle 90 = .ok (.invokevirtual 155, 3) := by decide +kernel
theorem dX6_settle_93 : decode cX6_settle 93 = .ok (.aload_n 0, 1) := by decide +kernel
theorem dX6_settle_94 : decode cX6_settle 94 = .ok (.getfield 25, 3) := by decide +kernel
theorem dX6_settle_97 : decode cX6_settle 97 = .ok (.invokevirtual 207, 3) := by decide +kernel
theorem dX6_settle_100 : decode cX6_settle 100 = .ok (.aload_n 0, 1) := by decide +kernel
theorem dX6_settle_101 : decode cX6_settle 101 = .ok (.aload_n 0, 1) := by decide +kernel
theorem dX6_settle_102 : decode cX6_settle 102 = .ok (.getfield 31, 3) := by decide +kernel
theorem dX6_settle_105 : decode cX6_settle 105 = .ok (.aload_n 0, 1) := by decide +kernel
theorem dX6_settle_106 : decode cX6_settle 106 = .ok (.getfield 14, 3) := by decide +kernel
theorem dX6_settle_109 : decode cX6_settle 109 = .ok (.aload_n 0, 1) := by decide +kernel
theorem dX6_settle_110 : decode cX6_settle 110 = .ok (.getfield 25, 3) := by decide +kernel
theorem dX6_settle_113 : decode cX6_settle 113 = .ok (.invokevirtual 163, 3) := by decide +kernel
theorem dX6_settle_116 : decode cX6_settle 116 = .ok (.putfield 63, 3) := by decide +kernel
theorem dX6_settle_119 : decode cX6_settle 119 = .ok (.aload_n 0, 1) := by decide +kernel
theorem dX6_settle_120 : decode cX6_settle 120 = .ok (.iconst 1, 1) := by decide +kernel
theorem dX6_settle_121 : decode cX6_settle 121 = .ok (.putfield 67, 3) := by decide +kernel
theorem dX6_settle_124 : decode cX6_settle 124 = .ok (.return_, 1) := by decide +kernel
theorem dX4_readFrom_0 : decode cX4_readFrom 0 = .ok (.iconst 0, 1) := by decide +kernel
theorem dX4_readFrom_1 : decode cX4_readFrom 1 = .ok (.istore_n 2, 1) := by decide +kernel
theorem dX4_readFrom_2 : decode cX4_readFrom 2 = .ok (.iload_n 2, 1) := by decide +kernel
theorem dX4_readFrom_3 : decode cX4_readFrom 3 = .ok (.aload_n 1, 1) := by decide +kernel
theorem dX4_readFrom_4 : decode cX4_readFrom 4 = .ok (.getfield 25, 3) := by decide +kernel
theorem dX4_readFrom_7 : decode cX4_readFrom 7 = .ok (.if_icmp .ge 21, 3) := by decide +kernel
theorem dX4_readFrom_10 : decode cX4_readFrom 10 = .ok (.aload_n 0, 1) := by decide +kernel
theorem dX4_readFrom_11 : decode cX4_readFrom 11 = .ok (.getfield 9, 3) := by decide +kernel
theorem dX4_readFrom_14 : decode cX4_readFrom 14 = .ok (.iload_n 2, 1) := by decide +kernel
theorem dX4_readFrom_15 : decode cX4_readFrom 15 = .ok (.aload_n 0, 1) := by decide +kernel
theorem dX4_readFrom_16 : decode cX4_readFrom 16 = .ok (.aload_n 1, 1) := by decide +kernel
theorem dX4_readFrom_17 : decode cX4_readFrom 17 = .ok (.iload_n 2, 1) := by decide +kernel
theorem dX4_readFrom_18 : decode cX4_readFrom 18 = .ok (.invokevirtual 31, 3) := by decide +kernel
theorem dX4_readFrom_21 : decode cX4_readFrom 21 = .ok (.iastore, 1) := by decide +kernel
theorem dX4_readFrom_22 : decode cX4_readFrom 22 = .ok (.iinc 2 1, 3) := by decide +kernel
theorem dX4_readFrom_25 : decode cX4_readFrom 25 = .ok (.goto (-23), 3) := by decide +kernel
theorem dX4_readFrom_28 : decode cX4_readFrom 28 = .ok (.iconst 0, 1) := by decide +kernel
theorem dX4_readFrom_29 : decode cX4_readFrom 29 = .ok (.istore_n 2, 1) := by decide +kernel
theorem dX4_readFrom_30 : decode cX4_readFrom 30 = .ok (.iload_n 2, 1) := by decide +kernel
theorem dX4_readFrom_31 : decode cX4_readFrom 31 = .ok (.aload_n 1, 1) := by decide +kernel
theorem dX4_readFrom_32 : decode cX4_readFrom 32 = .ok (.getfield 35, 3) := by decide +kernel
theorem dX4_readFrom_35 : decode cX4_readFrom 35 = .ok (.if_icmp .ge 32, 3) := by decide +kernel
theorem dX4_readFrom_38 : decode cX4_readFrom 38 = .ok (.aload_n 0, 1) := by decide +kernel
theorem dX4_readFrom_39 : decode cX4_readFrom 39 = .ok (.getfield 15, 3) := by decide +kernel
theorem dX4_readFrom_42 : decode cX4_readFrom 42 = .ok (.iload_n 2, 1) := by decide +kernel
theorem dX4_readFrom_43 : decode cX4_readFrom 43 = .ok (.aload_n 0, 1) := by decide +kernel
theorem dX4_readFrom_44 : decode cX4_readFrom 44 = .ok (.aload_n 1, 1) := by decide +kernel
theorem dX4_readFrom_45 : decode cX4_readFrom 45 = .ok (.iload_n 2, 1) := by decide +kernel
theorem dX4_readFrom_46 : decode cX4_readFrom 46 = .ok (.invokevirtual 38, 3) := by decide +kernel
theorem dX4_readFrom_49 : decode cX4_readFrom 49 = .ok (.iastore, 1) := by decide +kernel
theorem dX4_readFrom_50 : decode cX4_readFrom 50 = .ok (.aload_n 0, 1) := by decide +kernel
theorem dX4_readFrom_51 : decode cX4_readFrom 51 = .ok (.getfield 18, 3) := by decide +kernel
theorem dX4_readFrom_54 : decode cX4_readFrom 54 = .ok (.iload_n 2, 1) := by decide +kernel
theorem dX4_readFrom_55 : decode cX4_readFrom 55 = .ok (.aload_n 1, 1) := by decide +kernel
theorem dX4_readFrom_56 : decode cX4_readFrom 56 = .ok (.iload_n 2, 1) := by decide +kernel
theorem dX4_readFrom_57 : decode cX4_readFrom 57 = .ok (.invokevirtual 41, 3) := by decide +kernel
theorem dX4_readFrom_60 : decode cX4_readFrom 60 = .ok (.bastore, 1) := by decide +kernel
theorem dX4_readFrom_61 : decode cX4_readFrom 61 = .ok (.iinc 2 1, 3) := by decide +kernel
theorem dX4_readFrom_64 : decode cX4_readFrom 64 = .ok (.goto (-34), 3) := by decide +kernel
theorem dX4_readFrom_67 : decode cX4_readFrom 67 = .ok (.return_, 1) := by decide +kernel
theorem dX3_begin_0 : decode cX3_begin 0 = .ok (.aload_n 0, 1) := by decide +kernel
theorem dX3_begin_1 : decode cX3_begin 1 = .ok (.getfield 9, 3) := by decide +kernel
theorem dX3_begin_4 : decode cX3_begin 4 = .ok (.ldc 28, 2) := by decide +kernel
theorem dX3_begin_6 : decode cX3_begin 6 = .ok (.invokestatic 33, 3) := by decide +kernel
theorem dX3_begin_9 : decode cX3_begin 9 = .ok (.iconst 0, 1) := by decide +kernel
theorem dX3_begin_10 : decode cX3_begin 10 = .ok (.istore_n 2, 1) := by decide +kernel
theorem dX3_begin_11 : decode cX3_begin 11 = .ok (.iload_n 2, 1) := by decide +kernel
theorem dX3_begin_12 : decode cX3_begin 12 = .ok (.aload_n 1, 1) := by decide +kernel
theorem dX3_begin_13 : decode cX3_begin 13 = .ok (.getfield 39, 3) := by decide +kernel
theorem dX3_begin_16 : decode cX3_begin 16 = .ok (.if_icmp .ge 33, 3) := by decide +kernel
theorem dX3_begin_19 : decode cX3_begin 19 = .ok (.aload_n 0, 1) := by decide +kernel
theorem dX3_begin_20 : decode cX3_begin 20 = .ok (.getfield 25, 3) := by decide +kernel
theorem dX3_begin_23 : decode cX3_begin 23 = .ok (.iload_n 2, 1) := by decide +kernel
theorem dX3_begin_24 : decode cX3_begin 24 = .ok (.ldc 44, 2) := by decide +kernel
theorem dX3_begin_26 : decode cX3_begin 26 = .ok (.bipush 8, 2) := by decide +kernel
theorem dX3_begin_28 : decode cX3_begin 28 = .ok (.aload_n 1, 1) := by decide +kernel
theorem dX3_begin_29 : decode cX3_begin 29 = .ok (.getfield 45, 3) := by decide +kernel
theorem dX3_begin_32 : decode cX3_begin 32 = .ok (.iload_n 2, 1) := by decide +kernel
theorem dX3_begin_33 : decode cX3_begin 33 = .ok (.iaload, 1) := by decide +kernel
theorem dX3_begin_34 : decode cX3_begin 34 = .ok (.imul, 1) := by decide +kernel
theorem dX3_begin_35 : decode cX3_begin 35 = .ok (.aload_n 1, 1) := by decide +kernel
theorem dX3_begin_36 : decode cX3_begin 36 = .ok (.iload_n 2, 1) := by decide +kernel
theorem dX3_begin_37 : decode cX3_begin 37 = .ok (.invokevirtual 48, 3) := by decide +kernel
theorem dX3_begin_40 : decode cX3_begin 40 = .ok (.iadd, 1) := by decide +kernel
theorem dX3_begin_41 : decode cX3_begin 41 = .ok (.imul, 1) := by decide +kernel
theorem dX3_begin_42 : decode cX3_begin 42 = .ok (.iastore, 1) := by decide +kernel
theorem dX3_begin_43 : decode cX3_begin 43 = .ok (.iinc 2 1, 3) := by decide +kernel
theorem dX3_begin_46 : decode cX3_begin 46 = .ok (.goto (-35), 3) := by decide +kernel
theorem dX3_begin_49 : decode cX3_begin 49 = .ok (.return_, 1) := by decide +kernel
theorem dX3_leastSenses_0 : decode cX3_leastSenses 0 = .ok (.aload_n 0, 1) := by decide +kernel
theorem dX3_leastSenses_1 : decode cX3_leastSenses 1 = .ok (.ldc 28, 2) := by decide +kernel
theorem dX3_leastSenses_3 : decode cX3_leastSenses 3 = .ok (.putfield 29, 3) := by decide +kernel
theorem dX3_leastSenses_6 : decode cX3_leastSenses 6 = .ok (.aload_n 0, 1) := by decide +kernel
theorem dX3_leastSenses_7 : decode cX3_leastSenses 7 = .ok (.getfield 22, 3) := by decide +kernel
theorem dX3_leastSenses_10 : decode cX3_leastSenses 10 = .ok (.invokevirtual 52, 3) := by decide +kernel
theorem dX3_leastSenses_13 : decode cX3_leastSenses 13 = .ok (.aload_n 0, 1) := by decide +kernel
theorem dX3_leastSenses_14 : decode cX3_leastSenses 14 = .ok (.aload_n 1, 1) := by decide +kernel
theorem dX3_leastSenses_15 : decode cX3_leastSenses 15 = .ok (.aload_n 2, 1) := by decide +kernel
theorem dX3_leastSenses_16 : decode cX3_leastSenses 16 = .ok (.iconst 0, 1) := by decide +kernel
theorem dX3_leastSenses_17 : decode cX3_leastSenses 17 = .ok (.invokevirtual 55, 3) := by decide +kernel
theorem dX3_leastSenses_20 : decode cX3_leastSenses 20 = .ok (.aload_n 0, 1) := by decide +kernel
theorem dX3_leastSenses_21 : decode cX3_leastSenses 21 = .ok (.getfield 29, 3) := by decide +kernel
theorem dX3_leastSenses_24 : decode cX3_leastSenses 24 = .ok (.ireturn, 1) := by decide +kernel
theorem dX2_removeAll_0 : decode cX2_removeAll 0 = .ok (.aload_n 0, 1) := by decide +kernel
theorem dX2_removeAll_1 : decode cX2_removeAll 1 = .ok (.getfield 9, 3) := by decide +kernel
theorem dX2_removeAll_4 : decode cX2_removeAll 4 = .ok (.iconst (-1), 1) := by decide +kernel
theorem dX2_removeAll_5 : decode cX2_removeAll 5 = .ok (.invokestatic 18, 3) := by decide +kernel
theorem dX2_removeAll_8 : decode cX2_removeAll 8 = .ok (.aload_n 0, 1) := by decide +kernel
theorem dX2_removeAll_9 : decode cX2_removeAll 9 = .ok (.getfield 15, 3) := by decide +kernel
theorem dX2_removeAll_12 : decode cX2_removeAll 12 = .ok (.iconst (-1), 1) := by decide +kernel
theorem dX2_removeAll_13 : decode cX2_removeAll 13 = .ok (.invokestatic 18, 3) := by decide +kernel
theorem dX2_removeAll_16 : decode cX2_removeAll 16 = .ok (.return_, 1) := by decide +kernel
theorem dX3_place_0 : decode cX3_place 0 = .ok (.iload_n 3, 1) := by decide +kernel
theorem dX3_place_1 : decode cX3_place 1 = .ok (.aload_n 1, 1) := by decide +kernel
theorem dX3_place_2 : decode cX3_place 2 = .ok (.getfield 39, 3) := by decide +kernel
theorem dX3_place_5 : decode cX3_place 5 = .ok (.if_icmp .lt 10, 3) := by decide +kernel
theorem dX3_place_8 : decode cX3_place 8 = .ok (.aload_n 0, 1) := by decide +kernel
theorem dX3_place_9 : decode cX3_place 9 = .ok (.aload_n 1, 1) := by decide +kernel
theorem dX3_place_10 : decode cX3_place 10 = .ok (.aload_n 2, 1) := by decide +kernel
theorem dX3_place_11 : decode cX3_place 11 = .ok (.invokevirtual 59, 3) := by decide +kernel
theorem dX3_place_14 : decode cX3_place 14 = .ok (.return_, 1) := by decide +kernel
theorem dX3_place_15 : decode cX3_place 15 = .ok (.aload_n 0, 1) := by decide +kernel
theorem dX3_place_16 : decode cX3_place 16 = .ok (.aload_n 1, 1) := by decide +kernel
theorem dX3_place_17 : decode cX3_place 17 = .ok (.iload_n 3, 1) := by decide +kernel
theorem dX3_place_18 : decode cX3_place 18 = .ok (.invokevirtual 63, 3) := by decide +kernel
theorem dX3_place_21 : decode cX3_place 21 = .ok (.istore 4, 2) := by decide +kernel
theorem dX3_place_23 : decode cX3_place 23 = .ok (.iload 4, 2) := by decide +kernel
theorem dX3_place_25 : decode cX3_place 25 = .ok (.aload_n 0, 1) := by decide +kernel
theorem dX3_place_26 : decode cX3_place 26 = .ok (.getfield 9, 3) := by decide +kernel
theorem dX3_place_29 : decode cX3_place 29 = .ok (.iload_n 3, 1) := by decide +kernel
theorem dX3_place_30 : decode cX3_place 30 = .ok (.iaload, 1) := by decide +kernel
theorem dX3_place_31 : decode cX3_place 31 = .ok (.if_icmp .le 4, 3) := by decide +kernel
theorem dX3_place_34 : decode cX3_place 34 = .ok (.return_, 1) := by decide +kernel
theorem dX3_place_35 : decode cX3_place 35 = .ok (.iload 4, 2) := by decide +kernel
theorem dX3_place_37 : decode cX3_place 37 = .ok (.aload_n 0, 1) := by decide +kernel
theorem dX3_place_38 : decode cX3_place 38 = .ok (.getfield 9, 3) := by decide +kernel
theorem dX3_place_41 : decode cX3_place 41 = .ok (.iload_n 3, 1) := by decide +kernel
theorem dX3_place_42 : decode cX3_place 42 = .ok (.iaload, 1) := by decide +kernel
theorem dX3_place_43 : decode cX3_place 43 = .ok (.if_icmp .ge 10, 3) := by decide +kernel
theorem dX3_place_46 : decode cX3_place 46 = .ok (.aload_n 0, 1) := by decide +kernel
theorem dX3_place_47 : decode cX3_place 47 = .ok (.iload_n 3, 1) := by decide +kernel
theorem dX3_place_48 : decode cX3_place 48 = .ok (.iload 4, 2) := by decide +kernel
theorem dX3_place_50 : decode cX3_place 50 = .ok (.invokevirtual 67, 3) := by decide +kernel
theorem dX3_place_53 : decode cX3_place 53 = .ok (.iconst 0, 1) := by decide +kernel
theorem dX3_place_54 : decode cX3_place 54 = .ok (.istore 5, 2) := by decide +kernel
theorem dX3_place_56 : decode cX3_place 56 = .ok (.iload 5, 2) := by decide +kernel
theorem dX3_place_58 : decode cX3_place 58 = .ok (.aload_n 1, 1) := by decide +kernel
theorem dX3_place_59 : decode cX3_place 59 = .ok (.getfield 39, 3) := by decide +kernel
theorem dX3_place_62 : decode cX3_place 62 = .ok (.if_icmp .ge 75, 3) := by decide +kernel
theorem dX3_place_65 : decode cX3_place 65 = .ok (.aload_n 0, 1) := by decide +kernel
theorem dX3_place_66 : decode cX3_place 66 = .ok (.getfield 22, 3) := by decide +kernel
theorem dX3_place_69 : decode cX3_place 69 = .ok (.getfield 71, 3) := by decide +kernel
theorem dX3_place_72 : decode cX3_place 72 = .ok (.iload 5, 2) := by decide +kernel
theorem dX3_place_74 : decode cX3_place 74 = .ok (.iaload, 1) := by decide +kernel
theorem dX3_place_75 : decode cX3_place 75 = .ok (.iconst (-1), 1) := by decide +kernel
theorem dX3_place_76 : decode cX3_place 76 = .ok (.if_icmp .ne 55, 3) := by decide +kernel
theorem dX3_place_79 : decode cX3_place 79 = .ok (.aload_n 0, 1) := by decide +kernel
theorem dX3_place_80 : decode cX3_place 80 = .ok (.aload_n 1, 1) := by decide +kernel
theorem dX3_place_81 : decode cX3_place 81 = .ok (.iload 5, 2) := by decide +kernel
theorem dX3_place_83 : decode cX3_place 83 = .ok (.iload_n 3, 1) := by decide +kernel
theorem dX3_place_84 : decode cX3_place 84 = .ok (.invokevirtual 74, 3) := by decide +kernel
theorem dX3_place_87 : decode cX3_place 87 = .ok (.iload 4, 2) := by decide +kernel
theorem dX3_place_89 : decode cX3_place 89 = .ok (.if_icmp .ne 42, 3) := by decide +kernel
theorem dX3_place_92 : decode cX3_place 92 = .ok (.aload_n 0, 1) := by decide +kernel
theorem dX3_place_93 : decode cX3_place 93 = .ok (.getfield 22, 3) := by decide +kernel
theorem dX3_place_96 : decode cX3_place 96 = .ok (.iload 5, 2) := by decide +kernel
theorem dX3_place_98 : decode cX3_place 98 = .ok (.iload_n 3, 1) := by decide +kernel
theorem dX3_place_99 : decode cX3_place 99 = .ok (.invokevirtual 78, 3) := by decide +kernel
theorem dX3_place_102 : decode cX3_place 102 = .ok (.aload_n 0, 1) := by decide +kernel
theorem dX3_place_103 : decode cX3_place 103 = .ok (.aload_n 1, 1) := by decide +kernel
theorem dX3_place_104 : decode cX3_place 104 = .ok (.aload_n 2, 1) := by decide +kernel
theorem dX3_place_105 : decode cX3_place 105 = .ok (.iload_n 3, 1) := by decide +kernel
theorem dX3_place_106 : decode cX3_place 106 = .ok (.iconst 1, 1) := by decide +kernel
theorem dX3_place_107 : decode cX3_place 107 = .ok (.iadd, 1) := by decide +kernel
theorem dX3_place_108 : decode cX3_place 108 = .ok (.invokevirtual 55, 3) := by decide +kernel
theorem dX3_place_111 : decode cX3_place 111 = .ok (.aload_n 0, 1) := by decide +kernel
theorem dX3_place_112 : decode cX3_place 112 = .ok (.getfield 22, 3) := by decide +kernel
theorem dX3_place_115 : decode cX3_place 115 = .ok (.iload 5, 2) := by decide +kernel
theorem dX3_place_117 : decode cX3_place 117 = .ok (.iload_n 3, 1) := by decide +kernel
theorem dX3_place_118 : decode cX3_place 118 = .ok (.invokevirtual 81, 3) := by decide +kernel
theorem dX3_place_121 : decode cX3_place 121 = .ok (.aload_n 1, 1) := by decide +kernel
theorem dX3_place_122 : decode cX3_place 122 = .ok (.iload 5, 2) := by decide +kernel
theorem dX3_place_124 : decode cX3_place 124 = .ok (.invokevirtual 84, 3) := by decide +kernel
theorem dX3_place_127 : decode cX3_place 127 = .ok (.ifCond .eq 4, 3) := by decide +kernel
theorem dX3_place_130 : decode cX3_place 130 = .ok (.return_, 1) := by decide +kernel
theorem dX3_place_131 : decode cX3_place 131 = .ok (.iinc 5 1, 3) := by decide +kernel
theorem dX3_place_134 : decode cX3_place 134 = .ok (.goto (-78), 3) := by decide +kernel
theorem dX3_place_137 : decode cX3_place 137 = .ok (.return_, 1) := by decide +kernel
theorem dX3_weigh_0 : decode cX3_weigh 0 = .ok (.aload_n 0, 1) := by decide +kernel
theorem dX3_weigh_1 : decode cX3_weigh 1 = .ok (.getfield 22, 3) := by decide +kernel
theorem dX3_weigh_4 : decode cX3_weigh 4 = .ok (.aload_n 1, 1) := by decide +kernel
theorem dX3_weigh_5 : decode cX3_weigh 5 = .ok (.aload_n 2, 1) := by decide +kernel
theorem dX3_weigh_6 : decode cX3_weigh 6 = .ok (.invokevirtual 88, 3) := by decide +kernel
theorem dX3_weigh_9 : decode cX3_weigh 9 = .ok (.istore_n 3, 1) := by decide +kernel
theorem dX3_weigh_10 : decode cX3_weigh 10 = .ok (.iload_n 3, 1) := by decide +kernel
theorem dX3_weigh_11 : decode cX3_weigh 11 = .ok (.aload_n 0, 1) := by decide +kernel
theorem dX3_weigh_12 : decode cX3_weigh 12 = .ok (.getfield 29, 3) := by decide +kernel
theorem dX3_weigh_15 : decode cX3_weigh 15 = .ok (.if_icmp .ge 19, 3) := by decide +kernel
theorem dX3_weigh_18 : decode cX3_weigh 18 = .ok (.aload_n 0, 1) := by decide +kernel
theorem dX3_weigh_19 : decode cX3_weigh 19 = .ok (.iload_n 3, 1) := by decide +kernel
theorem dX3_weigh_20 : decode cX3_weigh 20 = .ok (.putfield 29, 3) := by decide +kernel
theorem dX3_weigh_23 : decode cX3_weigh 23 = .ok (.aload_n 0, 1) := by decide +kernel
theorem dX3_weigh_24 : decode cX3_weigh 24 = .ok (.getfield 18, 3) := by decide +kernel
theorem dX3_weigh_27 : decode cX3_weigh 27 = .ok (.aload_n 0, 1) := by decide +kernel
theorem dX3_weigh_28 : decode cX3_weigh 28 = .ok (.getfield 22, 3) := by decide +kernel
theorem dX3_weigh_31 : decode cX3_weigh 31 = .ok (.invokevirtual 92, 3) := by decide +kernel
theorem dX3_weigh_34 : decode cX3_weigh 34 = .ok (.return_, 1) := by decide +kernel
theorem dX2_code_0 : decode cX2_code 0 = .ok (.iconst 0, 1) := by decide +kernel
theorem dX2_code_1 : decode cX2_code 1 = .ok (.istore_n 3, 1) := by decide +kernel
theorem dX2_code_2 : decode cX2_code 2 = .ok (.iconst 0, 1) := by decide +kernel
theorem dX2_code_3 : decode cX2_code 3 = .ok (.istore 4, 2) := by decide +kernel
theorem dX2_code_5 : decode cX2_code 5 = .ok (.iload 4, 2) := by decide +kernel
theorem dX2_code_7 : decode cX2_code 7 = .ok (.aload_n 1, 1) := by decide +kernel
theorem dX2_code_8 : decode cX2_code 8 = .ok (.getfield 30, 3) := by decide +kernel
theorem dX2_code_11 : decode cX2_code 11 = .ok (.if_icmp .ge 29, 3) := by decide +kernel
theorem dX2_code_14 : decode cX2_code 14 = .ok (.iconst 3, 1) := by decide +kernel
theorem dX2_code_15 : decode cX2_code 15 = .ok (.iload_n 3, 1) := by decide +kernel
theorem dX2_code_16 : decode cX2_code 16 = .ok (.imul, 1) := by decide +kernel
theorem dX2_code_17 : decode cX2_code 17 = .ok (.aload_n 0, 1) := by decide +kernel
theorem dX2_code_18 : decode cX2_code 18 = .ok (.aload_n 1, 1) := by decide +kernel
theorem dX2_code_19 : decode cX2_code 19 = .ok (.aload_n 2, 1) := by decide +kernel
theorem dX2_code_20 : decode cX2_code 20 = .ok (.aload_n 0, 1) := by decide +kernel
theorem dX2_code_21 : decode cX2_code 21 = .ok (.getfield 9, 3) := by decide +kernel
theorem dX2_code_24 : decode cX2_code 24 = .ok (.iload 4, 2) := by decide +kernel
theorem dX2_code_26 : decode cX2_code 26 = .ok (.iaload, 1) := by decide +kernel
theorem dX2_code_27 : decode cX2_code 27 = .ok (.invokevirtual 36, 3) := by decide +kernel
theorem dX2_code_30 : decode cX2_code 30 = .ok (.iadd, 1) := by decide +kernel
theorem dX2_code_31 : decode cX2_code 31 = .ok (.iconst 1, 1) := by decide +kernel
theorem dX2_code_32 : decode cX2_code 32 = .ok (.iadd, 1) := by decide +kernel
theorem dX2_code_33 : decode cX2_code 33 = .ok (.istore_n 3, 1) := by decide +kernel
theorem dX2_code_34 : decode cX2_code 34 = .ok (.iinc 4 1, 3) := by decide +kernel
theorem dX2_code_37 : decode cX2_code 37 = .ok (.goto (-32), 3) := by decide +kernel
theorem dX2_code_40 : decode cX2_code 40 = .ok (.iconst 0, 1) := by decide +kernel
theorem dX2_code_41 : decode cX2_code 41 = .ok (.istore 4, 2) := by decide +kernel
theorem dX2_code_43 : decode cX2_code 43 = .ok (.iload 4, 2) := by decide +kernel
theorem dX2_code_45 : decode cX2_code 45 = .ok (.aload_n 1, 1) := by decide +kernel
theorem dX2_code_46 : decode cX2_code 46 = .ok (.getfield 30, 3) := by decide +kernel
theorem dX2_code_49 : decode cX2_code 49 = .ok (.if_icmp .ge 76, 3) := by decide +kernel
theorem dX2_code_52 : decode cX2_code 52 = .ok (.iconst 0, 1) := by decide +kernel
theorem dX2_code_53 : decode cX2_code 53 = .ok (.istore 5, 2) := by decide +kernel
theorem dX2_code_55 : decode cX2_code 55 = .ok (.iload 5, 2) := by decide +kernel
theorem dX2_code_57 : decode cX2_code 57 = .ok (.iload 4, 2) := by decide +kernel
theorem dX2_code_59 : decode cX2_code 59 = .ok (.if_icmp .ge 60, 3) := by decide +kernel
theorem dX2_code_62 : decode cX2_code 62 = .ok (.aload_n 1, 1) := by decide +kernel
theorem dX2_code_63 : decode cX2_code 63 = .ok (.aload_n 0, 1) := by decide +kernel
theorem dX2_code_64 : decode cX2_code 64 = .ok (.getfield 9, 3) := by decide +kernel
theorem dX2_code_67 : decode cX2_code 67 = .ok (.iload 4, 2) := by decide +kernel
theorem dX2_code_69 : decode cX2_code 69 = .ok (.iaload, 1) := by decide +kernel
theorem dX2_code_70 : decode cX2_code 70 = .ok (.aload_n 0, 1) := by decide +kernel
theorem dX2_code_71 : decode cX2_code 71 = .ok (.getfield 9, 3) := by decide +kernel
theorem dX2_code_74 : decode cX2_code 74 = .ok (.iload 5, 2) := by decide +kernel
theorem dX2_code_76 : decode cX2_code 76 = .ok (.iaload, 1) := by decide +kernel
theorem dX2_code_77 : decode cX2_code 77 = .ok (.invokevirtual 40, 3) := by decide +kernel
theorem dX2_code_80 : decode cX2_code 80 = .ok (.istore 6, 2) := by decide +kernel
theorem dX2_code_82 : decode cX2_code 82 = .ok (.iload 6, 2) := by decide +kernel
theorem dX2_code_84 : decode cX2_code 84 = .ok (.iconst (-1), 1) := by decide +kernel
theorem dX2_code_85 : decode cX2_code 85 = .ok (.if_icmp .eq 28, 3) := by decide +kernel
theorem dX2_code_88 : decode cX2_code 88 = .ok (.aload_n 2, 1) := by decide +kernel
theorem dX2_code_89 : decode cX2_code 89 = .ok (.getfield 44, 3) := by decide +kernel
theorem dX2_code_92 : decode cX2_code 92 = .ok (.iload 6, 2) := by decide +kernel
theorem dX2_code_94 : decode cX2_code 94 = .ok (.baload, 1) := by decide +kernel
theorem dX2_code_95 : decode cX2_code 95 = .ok (.ifCond .eq 18, 3) := by decide +kernel
theorem dX2_code_98 : decode cX2_code 98 = .ok (.iconst 3, 1) := by decide +kernel
theorem dX2_code_99 : decode cX2_code 99 = .ok (.iload_n 3, 1) := by decide +kernel
theorem dX2_code_100 : decode cX2_code 100 = .ok (.imul, 1) := by decide +kernel
theorem dX2_code_101 : decode cX2_code 101 = .ok (.aload_n 0, 1) := by decide +kernel
theorem dX2_code_102 : decode cX2_code 102 = .ok (.aload_n 1, 1) := by decide +kernel
theorem dX2_code_103 : decode cX2_code 103 = .ok (.aload_n 2, 1) := by decide +kernel
theorem dX2_code_104 : decode cX2_code 104 = .ok (.iload 6, 2) := by decide +kernel
theorem dX2_code_106 : decode cX2_code 106 = .ok (.invokevirtual 50, 3) := by decide +kernel
theorem dX2_code_109 : decode cX2_code 109 = .ok (.iadd, 1) := by decide +kernel
theorem dX2_code_110 : decode cX2_code 110 = .ok (.iconst 1, 1) := by decide +kernel
theorem dX2_code_111 : decode cX2_code 111 = .ok (.iadd, 1) := by decide +kernel
theorem dX2_code_112 : decode cX2_code 112 = .ok (.istore_n 3, 1) := by decide +kernel
theorem dX2_code_113 : decode cX2_code 113 = .ok (.iinc 5 1, 3) := by decide +kernel
theorem dX2_code_116 : decode cX2_code 116 = .ok (.goto (-61), 3) := by decide +kernel
theorem dX2_code_119 : decode cX2_code 119 = .ok (.iinc 4 1, 3) := by decide +kernel
theorem dX2_code_122 : decode cX2_code 122 = .ok (.goto (-79), 3) := by decide +kernel
theorem dX2_code_125 : decode cX2_code 125 = .ok (.iload_n 3, 1) := by decide +kernel
theorem dX2_code_126 : decode cX2_code 126 = .ok (.ireturn, 1) := by decide +kernel
theorem dX2_senseOfAtom_0 : decode cX2_senseOfAtom 0 = .ok (.aload_n 2, 1) := by decide +kernel
theorem dX2_senseOfAtom_1 : decode cX2_senseOfAtom 1 = .ok (.getfield 53, 3) := by decide +kernel
theorem dX2_senseOfAtom_4 : decode cX2_senseOfAtom 4 = .ok (.iload_n 3, 1) := by decide +kernel
theorem dX2_senseOfAtom_5 : decode cX2_senseOfAtom 5 = .ok (.iaload, 1) := by decide +kernel
theorem dX2_senseOfAtom_6 : decode cX2_senseOfAtom 6 = .ok (.istore 4, 2) := by decide +kernel
theorem dX2_senseOfAtom_8 : decode cX2_senseOfAtom 8 = .ok (.iload 4, 2) := by decide +kernel
theorem dX2_senseOfAtom_10 : decode cX2_senseOfAtom 10 = .ok (.ifCond .ne 7, 3) := by decide +kernel
theorem dX2_senseOfAtom_13 : decode cX2_senseOfAtom 13 = .ok (.iconst 0, 1) := by decide +kernel
theorem dX2_senseOfAtom_14 : decode cX2_senseOfAtom 14 = .ok (.goto 13, 3) := by decide +kernel
theorem dX2_senseOfAtom_17 : decode cX2_senseOfAtom 17 = .ok (.iload 4, 2) := by decide +kernel
theorem dX2_senseOfAtom_19 : decode cX2_senseOfAtom 19 = .ok (.aload_n 0, 1) := by decide +kernel
theorem dX2_senseOfAtom_20 : decode cX2_senseOfAtom 20 = .ok (.aload_n 1, 1) := by decide +kernel
theorem dX2_senseOfAtom_21 : decode cX2_senseOfAtom 21 = .ok (.iload_n 3, 1) := by decide +kernel
theorem dX2_senseOfAtom_22 : decode cX2_senseOfAtom 22 = .ok (.iconst (-1), 1) := by decide +kernel
theorem dX2_senseOfAtom_23 : decode cX2_senseOfAtom 23 = .ok (.invokevirtual 54, 3) := by decide +kernel
theorem dX2_senseOfAtom_26 : decode cX2_senseOfAtom 26 = .ok (.imul, 1) := by decide +kernel
theorem dX2_senseOfAtom_27 : decode cX2_senseOfAtom 27 = .ok (.ireturn, 1) := by decide +kernel
theorem dX2_orderSign_0 : decode cX2_orderSign 0 = .ok (.aload_n 1, 1) := by decide +kernel
theorem dX2_orderSign_1 : decode cX2_orderSign 1 = .ok (.getfield 67, 3) := by decide +kernel
theorem dX2_orderSign_4 : decode cX2_orderSign 4 = .ok (.iload_n 2, 1) := by decide +kernel
theorem dX2_orderSign_5 : decode cX2_orderSign 5 = .ok (.aaload, 1) := by decide +kernel
theorem dX2_orderSign_6 : decode cX2_orderSign 6 = .ok (.astore 4, 2) := by decide +kernel
theorem dX2_orderSign_8 : decode cX2_orderSign 8 = .ok (.iconst 1, 1) := by decide +kernel
theorem dX2_orderSign_9 : decode cX2_orderSign 9 = .ok (.istore 5, 2) := by decide +kernel
theorem dX2_orderSign_11 : decode cX2_orderSign 11 = .ok (.iconst 0, 1) := by decide +kernel
theorem dX2_orderSign_12 : decode cX2_orderSign 12 = .ok (.istore 6, 2) := by decide +kernel
theorem dX2_orderSign_14 : decode cX2_orderSign 14 = .ok (.iload 6, 2) := by decide +kernel
theorem dX2_orderSign_16 : decode cX2_orderSign 16 = .ok (.aload_n 1, 1) := by decide +kernel
theorem dX2_orderSign_17 : decode cX2_orderSign 17 = .ok (.getfield 30, 3) := by decide +kernel
theorem dX2_orderSign_20 : decode cX2_orderSign 20 = .ok (.if_icmp .ge 78, 3) := by decide +kernel
theorem dX2_orderSign_23 : decode cX2_orderSign 23 = .ok (.iload 6, 2) := by decide +kernel
theorem dX2_orderSign_25 : decode cX2_orderSign 25 = .ok (.iload_n 3, 1) := by decide +kernel
theorem dX2_orderSign_26 : decode cX2_orderSign 26 = .ok (.if_icmp .eq 66, 3) := by decide +kernel
theorem dX2_orderSign_29 : decode cX2_orderSign 29 = .ok (.aload 4, 2) := by decide +kernel
theorem dX2_orderSign_31 : decode cX2_orderSign 31 = .ok (.iload 6, 2) := by decide +kernel
theorem dX2_orderSign_33 : decode cX2_orderSign 33 = .ok (.iaload, 1) := by decide +kernel
theorem dX2_orderSign_34 : decode cX2_orderSign 34 = .ok (.ifCond .ne 6, 3) := by decide +kernel
theorem dX2_orderSign_37 : decode cX2_orderSign 37 = .ok (.goto 55, 3) := by decide +kernel
theorem dX2_orderSign_40 : decode cX2_orderSign 40 = .ok (.iconst 0, 1) := by decide +kernel
theorem dX2_orderSign_41 : decode cX2_orderSign 41 = .ok (.istore 7, 2) := by decide +kernel
theorem dX2_orderSign_43 : decode cX2_orderSign 43 = .ok (.iload 7, 2) := by decide +kernel
theorem dX2_orderSign_45 : decode cX2_orderSign 45 = .ok (.iload 6, 2) := by decide +kernel
theorem dX2_orderSign_47 : decode cX2_orderSign 47 = .ok (.if_icmp .ge 45, 3) := by decide +kernel
theorem dX2_orderSign_50 : decode cX2_orderSign 50 = .ok (.iload 7, 2) := by decide +kernel
theorem dX2_orderSign_52 : decode cX2_orderSign 52 = .ok (.iload_n 3, 1) := by decide +kernel
theorem dX2_orderSign_53 : decode cX2_orderSign 53 = .ok (.if_icmp .eq 33, 3) := by decide +kernel
theorem dX2_orderSign_56 : decode cX2_orderSign 56 = .ok (.aload 4, 2) := by decide +kernel
theorem dX2_orderSign_58 : decode cX2_orderSign 58 = .ok (.iload 7, 2) := by decide +kernel
theorem dX2_orderSign_60 : decode cX2_orderSign 60 = .ok (.iaload, 1) := by decide +kernel
theorem dX2_orderSign_61 : decode cX2_orderSign 61 = .ok (.ifCond .eq 25, 3) := by decide +kernel
theorem dX2_orderSign_64 : decode cX2_orderSign 64 = .ok (.aload_n 0, 1) := by decide +kernel
theorem dX2_orderSign_65 : decode cX2_orderSign 65 = .ok (.getfield 15, 3) := by decide +kernel
theorem dX2_orderSign_68 : decode cX2_orderSign 68 = .ok (.iload 7, 2) := by decide +kernel
theorem dX2_orderSign_70 : decode cX2_orderSign 70 = .ok (.iaload, 1) := by decide +kernel
theorem dX2_orderSign_71 : decode cX2_orderSign 71 = .ok (.aload_n 0, 1) := by decide +kernel
theorem dX2_orderSign_72 : decode cX2_orderSign 72 = .ok (.getfield 15, 3) := by decide +kernel
theorem dX2_orderSign_75 : decode cX2_orderSign 75 = .ok (.iload 6, 2) := by decide +kernel
theorem dX2_orderSign_77 : decode cX2_orderSign 77 = .ok (.iaload, 1) := by decide +kernel
theorem dX2_orderSign_78 : decode cX2_orderSign 78 = .ok (.if_icmp .le 8, 3) := by decide +kernel
theorem dX2_orderSign_81 : decode cX2_orderSign 81 = .ok (.iload 5, 2) := by decide +kernel
theorem dX2_orderSign_83 : decode cX2_orderSign 83 = .ok (.ineg, 1) := by decide +kernel
theorem dX2_orderSign_84 : decode cX2_orderSign 84 = .ok (.istore 5, 2) := by decide +kernel
theorem dX2_orderSign_86 : decode cX2_orderSign 86 = .ok (.iinc 7 1, 3) := by decide +kernel
theorem dX2_orderSign_89 : decode cX2_orderSign 89 = .ok (.goto (-46), 3) := by decide +kernel
theorem dX2_orderSign_92 : decode cX2_orderSign 92 = .ok (.iinc 6 1, 3) := by decide +kernel
theorem dX2_orderSign_95 : decode cX2_orderSign 95 = .ok (.goto (-81), 3) := by decide +kernel
theorem dX2_orderSign_98 : decode cX2_orderSign 98 = .ok (.iload 5, 2) := by decide +kernel
theorem dX2_orderSign_100 : decode cX2_orderSign 100 = .ok (.ireturn, 1) := by decide +kernel
theorem dX2_senseOfBond_0 : decode cX2_senseOfBond 0 = .ok (.aload_n 2, 1) := by decide +kernel
theorem dX2_senseOfBond_1 : decode cX2_senseOfBond 1 = .ok (.getfield 58, 3) := by decide +kernel
theorem dX2_senseOfBond_4 : decode cX2_senseOfBond 4 = .ok (.iload_n 3, 1) := by decide +kernel
theorem dX2_senseOfBond_5 : decode cX2_senseOfBond 5 = .ok (.iaload, 1) := by decide +kernel
theorem dX2_senseOfBond_6 : decode cX2_senseOfBond 6 = .ok (.istore 4, 2) := by decide +kernel
theorem dX2_senseOfBond_8 : decode cX2_senseOfBond 8 = .ok (.iload 4, 2) := by decide +kernel
theorem dX2_senseOfBond_10 : decode cX2_senseOfBond 10 = .ok (.ifCond .ne 5, 3) := by decide +kernel
theorem dX2_senseOfBond_13 : decode cX2_senseOfBond 13 = .ok (.iconst 0, 1) := by decide +kernel
theorem dX2_senseOfBond_14 : decode cX2_senseOfBond 14 = .ok (.ireturn, 1) := by decide +kernel
theorem dX2_senseOfBond_15 : decode cX2_senseOfBond 15 = .ok (.aload_n 1, 1) := by decide +kernel
theorem dX2_senseOfBond_16 : decode cX2_senseOfBond 16 = .ok (.getfield 61, 3) := by decide +kernel
theorem dX2_senseOfBond_19 : decode cX2_senseOfBond 19 = .ok (.iload_n 3, 1) := by decide +kernel
theorem dX2_senseOfBond_20 : decode cX2_senseOfBond 20 = .ok (.iaload, 1) := by decide +kernel
theorem dX2_senseOfBond_21 : decode cX2_senseOfBond 21 = .ok (.istore 5, 2) := by decide +kernel
theorem dX2_senseOfBond_23 : decode cX2_senseOfBond 23 = .ok (.aload_n 1, 1) := by decide +kernel
theorem dX2_senseOfBond_24 : decode cX2_senseOfBond 24 = .ok (.getfield 64, 3) := by decide +kernel
theorem dX2_senseOfBond_27 : decode cX2_senseOfBond 27 = .ok (.iload_n 3, 1) := by decide +kernel
theorem dX2_senseOfBond_28 : decode cX2_senseOfBond 28 = .ok (.iaload, 1) := by decide +kernel
theorem dX2_senseOfBond_29 : decode cX2_senseOfBond 29 = .ok (.istore 6, 2) := by decide +kernel
theorem dX2_senseOfBond_31 : decode cX2_senseOfBond 31 = .ok (.iload 4, 2) := by decide +kernel
theorem dX2_senseOfBond_33 : decode cX2_senseOfBond 33 = .ok (.aload_n 0, 1) := by decide +kernel
theorem dX2_senseOfBond_34 : decode cX2_senseOfBond 34 = .ok (.aload_n 1, 1) := by decide +kernel
theorem dX2_senseOfBond_35 : decode cX2_senseOfBond 35 = .ok (.iload 5, 2) := by decide +kernel
theorem dX2_senseOfBond_37 : decode cX2_senseOfBond 37 = .ok (.iload 6, 2) := by decide +kernel
theorem dX2_senseOfBond_39 : decode cX2_senseOfBond 39 = .ok (.invokevirtual 54, 3) := by decide +kernel
theorem dX2_senseOfBond_42 : decode cX2_senseOfBond 42 = .ok (.imul, 1) := by decide +kernel
theorem dX2_senseOfBond_43 : decode cX2_senseOfBond 43 = .ok (.aload_n 0, 1) := by decide +kernel
theorem dX2_senseOfBond_44 : decode cX2_senseOfBond 44 = .ok (.aload_n 1, 1) := by decide +kernel
theorem dX2_senseOfBond_45 : decode cX2_senseOfBond 45 = .ok (.iload 6, 2) := by decide +kernel
theorem dX2_senseOfBond_47 : decode cX2_senseOfBond 47 = .ok (.iload 5, 2) := by decide +kernel
theorem dX2_senseOfBond_49 : decode cX2_senseOfBond 49 = .ok (.invokevirtual 54, 3) := by decide +kernel
theorem dX2_senseOfBond_52 : decode cX2_senseOfBond 52 = .ok (.imul, 1) := by decide +kernel
theorem dX2_senseOfBond_53 : decode cX2_senseOfBond 53 = .ok (.ireturn, 1) := by decide +kernel
theorem dX2_copyFrom_0 : decode cX2_copyFrom 0 = .ok (.aload_n 1, 1) := by decide +kernel
theorem dX2_copyFrom_1 : decode cX2_copyFrom 1 = .ok (.getfield 9, 3) := by decide +kernel
theorem dX2_copyFrom_4 : decode cX2_copyFrom 4 = .ok (.iconst 0, 1) := by decide +kernel
theorem dX2_copyFrom_5 : decode cX2_copyFrom 5 = .ok (.aload_n 0, 1) := by decide +kernel
theorem dX2_copyFrom_6 : decode cX2_copyFrom 6 = .ok (.getfield 9, 3) := by decide +kernel
theorem dX2_copyFrom_9 : decode cX2_copyFrom 9 = .ok (.iconst 0, 1) := by decide +kernel
theorem dX2_copyFrom_10 : decode cX2_copyFrom 10 = .ok (.bipush 7, 2) := by decide +kernel
theorem dX2_copyFrom_12 : decode cX2_copyFrom 12 = .ok (.invokestatic 24, 3) := by decide +kernel
theorem dX2_copyFrom_15 : decode cX2_copyFrom 15 = .ok (.aload_n 1, 1) := by decide +kernel
theorem dX2_copyFrom_16 : decode cX2_copyFrom 16 = .ok (.getfield 15, 3) := by decide +kernel
theorem dX2_copyFrom_19 : decode cX2_copyFrom 19 = .ok (.iconst 0, 1) := by decide +kernel
theorem dX2_copyFrom_20 : decode cX2_copyFrom 20 = .ok (.aload_n 0, 1) := by decide +kernel
theorem dX2_copyFrom_21 : decode cX2_copyFrom 21 = .ok (.getfield 15, 3) := by decide +kernel
theorem dX2_copyFrom_24 : decode cX2_copyFrom 24 = .ok (.iconst 0, 1) := by decide +kernel
theorem dX2_copyFrom_25 : decode cX2_copyFrom 25 = .ok (.bipush 7, 2) := by decide +kernel
theorem dX2_copyFrom_27 : decode cX2_copyFrom 27 = .ok (.invokestatic 24, 3) := by decide +kernel
theorem dX2_copyFrom_30 : decode cX2_copyFrom 30 = .ok (.return_, 1) := by decide +kernel
theorem dX3_lowestRow_0 : decode cX3_lowestRow 0 = .ok (.ldc 28, 2) := by decide +kernel
theorem dX3_lowestRow_2 : decode cX3_lowestRow 2 = .ok (.istore_n 3, 1) := by decide +kernel
theorem dX3_lowestRow_3 : decode cX3_lowestRow 3 = .ok (.iconst 0, 1) := by decide +kernel
theorem dX3_lowestRow_4 : decode cX3_lowestRow 4 = .ok (.istore 4, 2) := by decide +kernel
theorem dX3_lowestRow_6 : decode cX3_lowestRow 6 = .ok (.iload 4, 2) := by decide +kernel
theorem dX3_lowestRow_8 : decode cX3_lowestRow 8 = .ok (.aload_n 1, 1) := by decide +kernel
theorem dX3_lowestRow_9 : decode cX3_lowestRow 9 = .ok (.getfield 39, 3) := by decide +kernel
theorem dX3_lowestRow_12 : decode cX3_lowestRow 12 = .ok (.if_icmp .ge 36, 3) := by decide +kernel
theorem dX3_lowestRow_15 : decode cX3_lowestRow 15 = .ok (.aload_n 0, 1) := by decide +kernel
theorem dX3_lowestRow_16 : decode cX3_lowestRow 16 = .ok (.getfield 22, 3) := by decide +kernel
theorem dX3_lowestRow_19 : decode cX3_lowestRow 19 = .ok (.getfield 71, 3) := by decide +kernel
theorem dX3_lowestRow_22 : decode cX3_lowestRow 22 = .ok (.iload 4, 2) := by decide +kernel
theorem dX3_lowestRow_24 : decode cX3_lowestRow 24 = .ok (.iaload, 1) := by decide +kernel
theorem dX3_lowestRow_25 : decode cX3_lowestRow 25 = .ok (.iconst (-1), 1) := by decide +kernel
theorem dX3_lowestRow_26 : decode cX3_lowestRow 26 = .ok (.if_icmp .ne 16, 3) := by decide +kernel
theorem dX3_lowestRow_29 : decode cX3_lowestRow 29 = .ok (.iload_n 3, 1) := by decide +kernel
theorem dX3_lowestRow_30 : decode cX3_lowestRow 30 = .ok (.aload_n 0, 1) := by decide +kernel
theorem dX3_lowestRow_31 : decode cX3_lowestRow 31 = .ok (.aload_n 1, 1) := by decide +kernel
theorem dX3_lowestRow_32 : decode cX3_lowestRow 32 = .ok (.iload 4, 2) := by decide +kernel
theorem dX3_lowestRow_34 : decode cX3_lowestRow 34 = .ok (.iload_n 2, 1) := by decide +kernel
theorem dX3_lowestRow_35 : decode cX3_lowestRow 35 = .ok (.invokevirtual 74, 3) := by decide +kernel
theorem dX3_lowestRow_38 : decode cX3_lowestRow 38 = .ok (.invokestatic 96, 3) := by decide +kernel
theorem dX3_lowestRow_41 : decode cX3_lowestRow 41 = .ok (.istore_n 3, 1) := by decide +kernel
theorem dX3_lowestRow_42 : decode cX3_lowestRow 42 = .ok (.iinc 4 1, 3) := by decide +kernel
theorem dX3_lowestRow_45 : decode cX3_lowestRow 45 = .ok (.goto (-39), 3) := by decide +kernel
theorem dX3_lowestRow_48 : decode cX3_lowestRow 48 = .ok (.iload_n 3, 1) := by decide +kernel
theorem dX3_lowestRow_49 : decode cX3_lowestRow 49 = .ok (.ireturn, 1) := by decide +kernel
theorem dX3_rowOf_0 : decode cX3_rowOf 0 = .ok (.aload_n 0, 1) := by decide +kernel
theorem dX3_rowOf_1 : decode cX3_rowOf 1 = .ok (.getfield 25, 3) := by decide +kernel
theorem dX3_rowOf_4 : decode cX3_rowOf 4 = .ok (.iload_n 2, 1) := by decide +kernel
theorem dX3_rowOf_5 : decode cX3_rowOf 5 = .ok (.iaload, 1) := by decide +kernel
theorem dX3_rowOf_6 : decode cX3_rowOf 6 = .ok (.istore 4, 2) := by decide +kernel
theorem dX3_rowOf_8 : decode cX3_rowOf 8 = .ok (.iconst 0, 1) := by decide +kernel
theorem dX3_rowOf_9 : decode cX3_rowOf 9 = .ok (.istore 5, 2) := by decide +kernel
theorem dX3_rowOf_11 : decode cX3_rowOf 11 = .ok (.iload 5, 2) := by decide +kernel
theorem dX3_rowOf_13 : decode cX3_rowOf 13 = .ok (.iload_n 3, 1) := by decide +kernel
theorem dX3_rowOf_14 : decode cX3_rowOf 14 = .ok (.if_icmp .ge 34, 3) := by decide +kernel
theorem dX3_rowOf_17 : decode cX3_rowOf 17 = .ok (.iload 4, 2) := by decide +kernel
theorem dX3_rowOf_19 : decode cX3_rowOf 19 = .ok (.aload_n 1, 1) := by decide +kernel
theorem dX3_rowOf_20 : decode cX3_rowOf 20 = .ok (.iload_n 2, 1) := by decide +kernel
theorem dX3_rowOf_21 : decode cX3_rowOf 21 = .ok (.aload_n 0, 1) := by decide +kernel
theorem dX3_rowOf_22 : decode cX3_rowOf 22 = .ok (.getfield 22, 3) := by decide +kernel
theorem dX3_rowOf_25 : decode cX3_rowOf 25 = .ok (.getfield 102, 3) := by decide +kernel
theorem dX3_rowOf_28 : decode cX3_rowOf 28 = .ok (.iload 5, 2) := by decide +kernel
theorem dX3_rowOf_30 : decode cX3_rowOf 30 = .ok (.iaload, 1) := by decide +kernel
theorem dX3_rowOf_31 : decode cX3_rowOf 31 = .ok (.invokevirtual 105, 3) := by decide +kernel
theorem dX3_rowOf_34 : decode cX3_rowOf 34 = .ok (.iconst 2, 1) := by decide +kernel
theorem dX3_rowOf_35 : decode cX3_rowOf 35 = .ok (.iload 5, 2) := by decide +kernel
theorem dX3_rowOf_37 : decode cX3_rowOf 37 = .ok (.imul, 1) := by decide +kernel
theorem dX3_rowOf_38 : decode cX3_rowOf 38 = .ok (.ishl, 1) := by decide +kernel
theorem dX3_rowOf_39 : decode cX3_rowOf 39 = .ok (.iadd, 1) := by decide +kernel
theorem dX3_rowOf_40 : decode cX3_rowOf 40 = .ok (.istore 4, 2) := by decide +kernel
theorem dX3_rowOf_42 : decode cX3_rowOf 42 = .ok (.iinc 5 1, 3) := by decide +kernel
theorem dX3_rowOf_45 : decode cX3_rowOf 45 = .ok (.goto (-34), 3) := by decide +kernel
theorem dX3_rowOf_48 : decode cX3_rowOf 48 = .ok (.iload 4, 2) := by decide +kernel
theorem dX3_rowOf_50 : decode cX3_rowOf 50 = .ok (.ireturn, 1) := by decide +kernel
theorem dX3_lower_0 : decode cX3_lower 0 = .ok (.aload_n 0, 1) := by decide +kernel
theorem dX3_lower_1 : decode cX3_lower 1 = .ok (.getfield 9, 3) := by decide +kernel
theorem dX3_lower_4 : decode cX3_lower 4 = .ok (.iload_n 1, 1) := by decide +kernel
theorem dX3_lower_5 : decode cX3_lower 5 = .ok (.iload_n 2, 1) := by decide +kernel
theorem dX3_lower_6 : decode cX3_lower 6 = .ok (.iastore, 1) := by decide +kernel
theorem dX3_lower_7 : decode cX3_lower 7 = .ok (.iload_n 1, 1) := by decide +kernel
theorem dX3_lower_8 : decode cX3_lower 8 = .ok (.iconst 1, 1) := by decide +kernel
theorem dX3_lower_9 : decode cX3_lower 9 = .ok (.iadd, 1) := by decide +kernel
theorem dX3_lower_10 : decode cX3_lower 10 = .ok (.istore_n 3, 1) := by decide +kernel
theorem dX3_lower_11 : decode cX3_lower 11 = .ok (.iload_n 3, 1) := by decide +kernel
theorem dX3_lower_12 : decode cX3_lower 12 = .ok (.bipush 7, 2) := by decide +kernel
theorem dX3_lower_14 : decode cX3_lower 14 = .ok (.if_icmp .ge 17, 3) := by decide +kernel
theorem dX3_lower_17 : decode cX3_lower 17 = .ok (.aload_n 0, 1) := by decide +kernel
theorem dX3_lower_18 : decode cX3_lower 18 = .ok (.getfield 9, 3) := by decide +kernel
theorem dX3_lower_21 : decode cX3_lower 21 = .ok (.iload_n 3, 1) := by decide +kernel
theorem dX3_lower_22 : decode cX3_lower 22 = .ok (.ldc 28, 2) := by decide +kernel
theorem dX3_lower_24 : decode cX3_lower 24 = .ok (.iastore, 1) := by decide +kernel
theorem dX3_lower_25 : decode cX3_lower 25 = .ok (.iinc 3 1, 3) := by decide +kernel
theorem dX3_lower_28 : decode cX3_lower 28 = .ok (.goto (-17), 3) := by decide +kernel
theorem dX3_lower_31 : decode cX3_lower 31 = .ok (.aload_n 0, 1) := by decide +kernel
theorem dX3_lower_32 : decode cX3_lower 32 = .ok (.ldc 28, 2) := by decide +kernel
theorem dX3_lower_34 : decode cX3_lower 34 = .ok (.putfield 29, 3) := by decide +kernel
theorem dX3_lower_37 : decode cX3_lower 37 = .ok (.return_, 1) := by decide +kernel
theorem dX2_give_0 : decode cX2_give 0 = .ok (.aload_n 0, 1) := by decide +kernel
theorem dX2_give_1 : decode cX2_give 1 = .ok (.getfield 9, 3) := by decide +kernel
theorem dX2_give_4 : decode cX2_give 4 = .ok (.iload_n 2, 1) := by decide +kernel
theorem dX2_give_5 : decode cX2_give 5 = .ok (.iload_n 1, 1) := by decide +kernel
theorem dX2_give_6 : decode cX2_give 6 = .ok (.iastore, 1) := by decide +kernel
theorem dX2_give_7 : decode cX2_give 7 = .ok (.aload_n 0, 1) := by decide +kernel
theorem dX2_give_8 : decode cX2_give 8 = .ok (.getfield 15, 3) := by decide +kernel
theorem dX2_give_11 : decode cX2_give 11 = .ok (.iload_n 1, 1) := by decide +kernel
theorem dX2_give_12 : decode cX2_give 12 = .ok (.iload_n 2, 1) := by decide +kernel
theorem dX2_give_13 : decode cX2_give 13 = .ok (.iastore, 1) := by decide +kernel
theorem dX2_give_14 : decode cX2_give 14 = .ok (.return_, 1) := by decide +kernel
theorem dX2_takeBack_0 : decode cX2_takeBack 0 = .ok (.aload_n 0, 1) := by decide +kernel
theorem dX2_takeBack_1 : decode cX2_takeBack 1 = .ok (.getfield 9, 3) := by decide +kernel
theorem dX2_takeBack_4 : decode cX2_takeBack 4 = .ok (.iload_n 2, 1) := by decide +kernel
theorem dX2_takeBack_5 : decode cX2_takeBack 5 = .ok (.iconst (-1), 1) := by decide +kernel
theorem dX2_takeBack_6 : decode cX2_takeBack 6 = .ok (.iastore, 1) := by decide +kernel
theorem dX2_takeBack_7 : decode cX2_takeBack 7 = .ok (.aload_n 0, 1) := by decide +kernel
theorem dX2_takeBack_8 : decode cX2_takeBack 8 = .ok (.getfield 15, 3) := by decide +kernel
theorem dX2_takeBack_11 : decode cX2_takeBack 11 = .ok (.iload_n 1, 1) := by decide +kernel
theorem dX2_takeBack_12 : decode cX2_takeBack 12 = .ok (.iconst (-1), 1) := by decide +kernel
theorem dX2_takeBack_13 : decode cX2_takeBack 13 = .ok (.iastore, 1) := by decide +kernel
theorem dX2_takeBack_14 : decode cX2_takeBack 14 = .ok (.return_, 1) := by decide +kernel
theorem dX0_isAlone_0 : decode cX0_isAlone 0 = .ok (.aload_n 0, 1) := by decide +kernel
theorem dX0_isAlone_1 : decode cX0_isAlone 1 = .ok (.iload_n 1, 1) := by decide +kernel
theorem dX0_isAlone_2 : decode cX0_isAlone 2 = .ok (.invokevirtual 58, 3) := by decide +kernel
theorem dX0_isAlone_5 : decode cX0_isAlone 5 = .ok (.getstatic 51, 3) := by decide +kernel
theorem dX0_isAlone_8 : decode cX0_isAlone 8 = .ok (.aload_n 0, 1) := by decide +kernel
theorem dX0_isAlone_9 : decode cX0_isAlone 9 = .ok (.getfield 9, 3) := by decide +kernel
theorem dX0_isAlone_12 : decode cX0_isAlone 12 = .ok (.iload_n 1, 1) := by decide +kernel
theorem dX0_isAlone_13 : decode cX0_isAlone 13 = .ok (.iaload, 1) := by decide +kernel
theorem dX0_isAlone_14 : decode cX0_isAlone 14 = .ok (.iaload, 1) := by decide +kernel
theorem dX0_isAlone_15 : decode cX0_isAlone 15 = .ok (.if_icmp .ne 7, 3) := by decide +kernel
theorem dX0_isAlone_18 : decode cX0_isAlone 18 = .ok (.iconst 1, 1) := by decide +kernel
theorem dX0_isAlone_19 : decode cX0_isAlone 19 = .ok (.goto 4, 3) := by decide +kernel
theorem dX0_isAlone_22 : decode cX0_isAlone 22 = .ok (.iconst 0, 1) := by decide +kernel
theorem dX0_isAlone_23 : decode cX0_isAlone 23 = .ok (.ireturn, 1) := by decide +kernel
theorem dX1_take_0 : decode cX1_take 0 = .ok (.aload_n 1, 1) := by decide +kernel
theorem dX1_take_1 : decode cX1_take 1 = .ok (.iconst 0, 1) := by decide +kernel
theorem dX1_take_2 : decode cX1_take 2 = .ok (.aload_n 0, 1) := by decide +kernel
theorem dX1_take_3 : decode cX1_take 3 = .ok (.getfield 15, 3) := by decide +kernel
theorem dX1_take_6 : decode cX1_take 6 = .ok (.iconst 0, 1) := by decide +kernel
theorem dX1_take_7 : decode cX1_take 7 = .ok (.bipush 7, 2) := by decide +kernel
theorem dX1_take_9 : decode cX1_take 9 = .ok (.invokestatic 22, 3) := by decide +kernel
theorem dX1_take_12 : decode cX1_take 12 = .ok (.aload_n 0, 1) := by decide +kernel
theorem dX1_take_13 : decode cX1_take 13 = .ok (.iload_n 2, 1) := by decide +kernel
theorem dX1_take_14 : decode cX1_take 14 = .ok (.putfield 9, 3) := by decide +kernel
theorem dX1_take_17 : decode cX1_take 17 = .ok (.aload_n 0, 1) := by decide +kernel
theorem dX1_take_18 : decode cX1_take 18 = .ok (.iload_n 3, 1) := by decide +kernel
theorem dX1_take_19 : decode cX1_take 19 = .ok (.putfield 19, 3) := by decide +kernel
theorem dX1_take_22 : decode cX1_take 22 = .ok (.return_, 1) := by decide +kernel
theorem dX4_copyFrom_0 : decode cX4_copyFrom 0 = .ok (.aload_n 1, 1) := by decide +kernel
theorem dX4_copyFrom_1 : decode cX4_copyFrom 1 = .ok (.getfield 9, 3) := by decide +kernel
theorem dX4_copyFrom_4 : decode cX4_copyFrom 4 = .ok (.iconst 0, 1) := by decide +kernel
theorem dX4_copyFrom_5 : decode cX4_copyFrom 5 = .ok (.aload_n 0, 1) := by decide +kernel
theorem dX4_copyFrom_6 : decode cX4_copyFrom 6 = .ok (.getfield 9, 3) := by decide +kernel
theorem dX4_copyFrom_9 : decode cX4_copyFrom 9 = .ok (.iconst 0, 1) := by decide +kernel
theorem dX4_copyFrom_10 : decode cX4_copyFrom 10 = .ok (.bipush 7, 2) := by decide +kernel
theorem dX4_copyFrom_12 : decode cX4_copyFrom 12 = .ok (.invokestatic 45, 3) := by decide +kernel
theorem dX4_copyFrom_15 : decode cX4_copyFrom 15 = .ok (.aload_n 1, 1) := by decide +kernel
theorem dX4_copyFrom_16 : decode cX4_copyFrom 16 = .ok (.getfield 15, 3) := by decide +kernel
theorem dX4_copyFrom_19 : decode cX4_copyFrom 19 = .ok (.iconst 0, 1) := by decide +kernel
theorem dX4_copyFrom_20 : decode cX4_copyFrom 20 = .ok (.aload_n 0, 1) := by decide +kernel
theorem dX4_copyFrom_21 : decode cX4_copyFrom 21 = .ok (.getfield 15, 3) := by decide +kernel
theorem dX4_copyFrom_24 : decode cX4_copyFrom 24 = .ok (.iconst 0, 1) := by decide +kernel
theorem dX4_copyFrom_25 : decode cX4_copyFrom 25 = .ok (.bipush 9, 2) := by decide +kernel
theorem dX4_copyFrom_27 : decode cX4_copyFrom 27 = .ok (.invokestatic 45, 3) := by decide +kernel
theorem dX4_copyFrom_30 : decode cX4_copyFrom 30 = .ok (.aload_n 1, 1) := by decide +kernel
theorem dX4_copyFrom_31 : decode cX4_copyFrom 31 = .ok (.getfield 18, 3) := by decide +kernel
theorem dX4_copyFrom_34 : decode cX4_copyFrom 34 = .ok (.iconst 0, 1) := by decide +kernel
theorem dX4_copyFrom_35 : decode cX4_copyFrom 35 = .ok (.aload_n 0, 1) := by decide +kernel
theorem dX4_copyFrom_36 : decode cX4_copyFrom 36 = .ok (.getfield 18, 3) := by decide +kernel
theorem dX4_copyFrom_39 : decode cX4_copyFrom 39 = .ok (.iconst 0, 1) := by decide +kernel
theorem dX4_copyFrom_40 : decode cX4_copyFrom 40 = .ok (.bipush 9, 2) := by decide +kernel
theorem dX4_copyFrom_42 : decode cX4_copyFrom 42 = .ok (.invokestatic 45, 3) := by decide +kernel
theorem dX4_copyFrom_45 : decode cX4_copyFrom 45 = .ok (.return_, 1) := by decide +kernel
theorem dX4_mirror_0 : decode cX4_mirror 0 = .ok (.iconst 0, 1) := by decide +kernel
theorem dX4_mirror_1 : decode cX4_mirror 1 = .ok (.istore_n 1, 1) := by decide +kernel
theorem dX4_mirror_2 : decode cX4_mirror 2 = .ok (.iload_n 1, 1) := by decide +kernel
theorem dX4_mirror_3 : decode cX4_mirror 3 = .ok (.bipush 7, 2) := by decide +kernel
theorem dX4_mirror_5 : decode cX4_mirror 5 = .ok (.if_icmp .ge 22, 3) := by decide +kernel
theorem dX4_mirror_8 : decode cX4_mirror 8 = .ok (.aload_n 0, 1) := by decide +kernel
theorem dX4_mirror_9 : decode cX4_mirror 9 = .ok (.getfield 9, 3) := by decide +kernel
theorem dX4_mirror_12 : decode cX4_mirror 12 = .ok (.iload_n 1, 1) := by decide +kernel
theorem dX4_mirror_13 : decode cX4_mirror 13 = .ok (.aload_n 0, 1) := by decide +kernel
theorem dX4_mirror_14 : decode cX4_mirror 14 = .ok (.getfield 9, 3) := by decide +kernel
theorem dX4_mirror_17 : decode cX4_mirror 17 = .ok (.iload_n 1, 1) := by decide +kernel
theorem dX4_mirror_18 : decode cX4_mirror 18 = .ok (.iaload, 1) := by decide +kernel
theorem dX4_mirror_19 : decode cX4_mirror 19 = .ok (.ineg, 1) := by decide +kernel
theorem dX4_mirror_20 : decode cX4_mirror 20 = .ok (.iastore, 1) := by decide +kernel
theorem dX4_mirror_21 : decode cX4_mirror 21 = .ok (.iinc 1 1, 3) := by decide +kernel
theorem dX4_mirror_24 : decode cX4_mirror 24 = .ok (.goto (-22), 3) := by decide +kernel
theorem dX4_mirror_27 : decode cX4_mirror 27 = .ok (.return_, 1) := by decide +kernel
theorem dX6_senses_0 : decode cX6_senses 0 = .ok (.aload_n 0, 1) := by decide +kernel
theorem dX6_senses_1 : decode cX6_senses 1 = .ok (.invokevirtual 142, 3) := by decide +kernel
theorem dX6_senses_4 : decode cX6_senses 4 = .ok (.aload_n 0, 1) := by decide +kernel
theorem dX6_senses_5 : decode cX6_senses 5 = .ok (.getfield 38, 3) := by decide +kernel
theorem dX6_senses_8 : decode cX6_senses 8 = .ok (.getfield 148, 3) := by decide +kernel
theorem dX6_senses_11 : decode cX6_senses 11 = .ok (.ireturn, 1) := by decide +kernel
theorem dX6_chiral_0 : decode cX6_chiral 0 = .ok (.aload_n 0, 1) := by decide +kernel
theorem dX6_chiral_1 : decode cX6_chiral 1 = .ok (.invokevirtual 142, 3) := by decide +kernel
theorem dX6_chiral_4 : decode cX6_chiral 4 = .ok (.aload_n 0, 1) := by decide +kernel
theorem dX6_chiral_5 : decode cX6_chiral 5 = .ok (.getfield 63, 3) := by decide +kernel
theorem dX6_chiral_8 : decode cX6_chiral 8 = .ok (.aload_n 0, 1) := by decide +kernel
theorem dX6_chiral_9 : decode cX6_chiral 9 = .ok (.getfield 38, 3) := by decide +kernel
theorem dX6_chiral_12 : decode cX6_chiral 12 = .ok (.getfield 148, 3) := by decide +kernel
theorem dX6_chiral_15 : decode cX6_chiral 15 = .ok (.if_icmp .eq 7, 3) := by decide +kernel
theorem dX6_chiral_18 : decode cX6_chiral 18 = .ok (.iconst 1, 1) := by decide +kernel
theorem dX6_chiral_19 : decode cX6_chiral 19 = .ok (.goto 4, 3) := by decide +kernel
theorem dX6_chiral_22 : decode cX6_chiral 22 = .ok (.iconst 0, 1) := by decide +kernel
theorem dX6_chiral_23 : decode cX6_chiral 23 = .ok (.ireturn, 1) := by decide +kernel
theorem dX6_isomers_0 : decode cX6_isomers 0 = .ok (.aload_n 0, 1) := by decide +kernel
theorem dX6_isomers_1 : decode cX6_isomers 1 = .ok (.invokevirtual 142, 3) := by decide +kernel
theorem dX6_isomers_4 : decode cX6_isomers 4 = .ok (.aload_n 0, 1) := by decide +kernel
theorem dX6_isomers_5 : decode cX6_isomers 5 = .ok (.getfield 21, 3) := by decide +kernel
theorem dX6_isomers_8 : decode cX6_isomers 8 = .ok (.aload_n 0, 1) := by decide +kernel
theorem dX6_isomers_9 : decode cX6_isomers 9 = .ok (.getfield 14, 3) := by decide +kernel
theorem dX6_isomers_12 : decode cX6_isomers 12 = .ok (.invokevirtual 151, 3) := by decide +kernel
theorem dX6_isomers_15 : decode cX6_isomers 15 = .ok (.istore_n 1, 1) := by decide +kernel
theorem dX6_isomers_16 : decode cX6_isomers 16 = .ok (.iload_n 1, 1) := by decide +kernel
theorem dX6_isomers_17 : decode cX6_isomers 17 = .ok (.iconst 4, 1) := by decide +kernel
theorem dX6_isomers_18 : decode cX6_isomers 18 = .ok (.if_icmp .le 5, 3) := by decide +kernel
theorem dX6_isomers_21 : decode cX6_isomers 21 = .ok (.iconst (-1), 1) := by decide +kernel
theorem dX6_isomers_22 : decode cX6_isomers 22 = .ok (.ireturn, 1) := by decide +kernel
theorem dX6_isomers_23 : decode cX6_isomers 23 = .ok (.iconst 0, 1) := by decide +kernel
theorem dX6_isomers_24 : decode cX6_isomers 24 = .ok (.istore_n 2, 1) := by decide +kernel
theorem dX6_isomers_25 : decode cX6_isomers 25 = .ok (.iconst 0, 1) := by decide +kernel
theorem dX6_isomers_26 : decode cX6_isomers 26 = .ok (.istore_n 3, 1) := by decide +kernel
theorem dX6_isomers_27 : decode cX6_isomers 27 = .ok (.iload_n 3, 1) := by decide +kernel
theorem dX6_isomers_28 : decode cX6_isomers 28 = .ok (.iconst 1, 1) := by decide +kernel
theorem dX6_isomers_29 : decode cX6_isomers 29 = .ok (.iload_n 1, 1) := by decide +kernel
theorem dX6_isomers_30 : decode cX6_isomers 30 = .ok (.ishl, 1) := by decide +kernel
theorem dX6_isomers_31 : decode cX6_isomers 31 = .ok (.if_icmp .ge 70, 3) := by decide +kernel
theorem dX6_isomers_34 : decode cX6_isomers 34 = .ok (.aload_n 0, 1) := by decide +kernel
theorem dX6_isomers_35 : decode cX6_isomers 35 = .ok (.getfield 25, 3) := by decide +kernel
theorem dX6_isomers_38 : decode cX6_isomers 38 = .ok (.aload_n 0, 1) := by decide +kernel
theorem dX6_isomers_39 : decode cX6_isomers 39 = .ok (.getfield 21, 3) := by decide +kernel
theorem dX6_isomers_42 : decode cX6_isomers 42 = .ok (.invokevirtual 155, 3) := by decide +kernel
theorem dX6_isomers_45 : decode cX6_isomers 45 = .ok (.aload_n 0, 1) := by decide +kernel
theorem dX6_isomers_46 : decode cX6_isomers 46 = .ok (.getfield 25, 3) := by decide +kernel
theorem dX6_isomers_49 : decode cX6_isomers 49 = .ok (.aload_n 0, 1) := by decide +kernel
theorem dX6_isomers_50 : decode cX6_isomers 50 = .ok (.getfield 14, 3) := by decide +kernel
theorem dX6_isomers_53 : decode cX6_isomers 53 = .ok (.iload_n 3, 1) := by decide +kernel
theorem dX6_isomers_54 : decode cX6_isomers 54 = .ok (.invokevirtual 159, 3) := by decide +kernel
theorem dX6_isomers_57 : decode cX6_isomers 57 = .ok (.aload_n 0, 1) := by decide +kernel
theorem dX6_isomers_58 : decode cX6_isomers 58 = .ok (.getfield 31, 3) := by decide +kernel
theorem dX6_isomers_61 : decode cX6_isomers 61 = .ok (.aload_n 0, 1) := by decide +kernel
theorem dX6_isomers_62 : decode cX6_isomers 62 = .ok (.getfield 14, 3) := by decide +kernel
theorem dX6_isomers_65 : decode cX6_isomers 65 = .ok (.aload_n 0, 1) := by decide +kernel
theorem dX6_isomers_66 : decode cX6_isomers 66 = .ok (.getfield 25, 3) := by decide +kernel
theorem dX6_isomers_69 : decode cX6_isomers 69 = .ok (.invokevirtual 163, 3) := by decide +kernel
theorem dX6_isomers_72 : decode cX6_isomers 72 = .ok (.istore 4, 2) := by decide +kernel
theorem dX6_isomers_74 : decode cX6_isomers 74 = .ok (.aload_n 0, 1) := by decide +kernel
theorem dX6_isomers_75 : decode cX6_isomers 75 = .ok (.iload 4, 2) := by decide +kernel
theorem dX6_isomers_77 : decode cX6_isomers 77 = .ok (.iload_n 2, 1) := by decide +kernel
theorem dX6_isomers_78 : decode cX6_isomers 78 = .ok (.invokevirtual 167, 3) := by decide +kernel
theorem dX6_isomers_81 : decode cX6_isomers 81 = .ok (.ifCond .ne 14, 3) := by decide +kernel
theorem dX6_isomers_84 : decode cX6_isomers 84 = .ok (.aload_n 0, 1) := by decide +kernel
theorem dX6_isomers_85 : decode cX6_isomers 85 = .ok (.getfield 59, 3) := by decide +kernel
theorem dX6_isomers_88 : decode cX6_isomers 88 = .ok (.iload_n 2, 1) := by decide +kernel
theorem dX6_isomers_89 : decode cX6_isomers 89 = .ok (.iload 4, 2) := by decide +kernel
theorem dX6_isomers_91 : decode cX6_isomers 91 = .ok (.iastore, 1) := by decide +kernel
theorem dX6_isomers_92 : decode cX6_isomers 92 = .ok (.iinc 2 1, 3) := by decide +kernel
theorem dX6_isomers_95 : decode cX6_isomers 95 = .ok (.iinc 3 1, 3) := by decide +kernel
theorem dX6_isomers_98 : decode cX6_isomers 98 = .ok (.goto (-71), 3) := by decide +kernel
theorem dX6_isomers_101 : decode cX6_isomers 101 = .ok (.iload_n 2, 1) := by decide +kernel
theorem dX6_isomers_102 : decode cX6_isomers 102 = .ok (.ireturn, 1) := by decide +kernel
theorem dX4_countDrawn_0 : decode cX4_countDrawn 0 = .ok (.iconst 0, 1) := by decide +kernel
theorem dX4_countDrawn_1 : decode cX4_countDrawn 1 = .ok (.istore_n 2, 1) := by decide +kernel
theorem dX4_countDrawn_2 : decode cX4_countDrawn 2 = .ok (.iconst 0, 1) := by decide +kernel
theorem dX4_countDrawn_3 : decode cX4_countDrawn 3 = .ok (.istore_n 3, 1) := by decide +kernel
theorem dX4_countDrawn_4 : decode cX4_countDrawn 4 = .ok (.iload_n 3, 1) := by decide +kernel
theorem dX4_countDrawn_5 : decode cX4_countDrawn 5 = .ok (.aload_n 1, 1) := by decide +kernel
theorem dX4_countDrawn_6 : decode cX4_countDrawn 6 = .ok (.getfield 25, 3) := by decide +kernel
theorem dX4_countDrawn_9 : decode cX4_countDrawn 9 = .ok (.if_icmp .ge 26, 3) := by decide +kernel
theorem dX4_countDrawn_12 : decode cX4_countDrawn 12 = .ok (.iload_n 2, 1) := by decide +kernel
theorem dX4_countDrawn_13 : decode cX4_countDrawn 13 = .ok (.aload_n 0, 1) := by decide +kernel
theorem dX4_countDrawn_14 : decode cX4_countDrawn 14 = .ok (.getfield 9, 3) := by decide +kernel
theorem dX4_countDrawn_17 : decode cX4_countDrawn 17 = .ok (.iload_n 3, 1) := by decide +kernel
theorem dX4_countDrawn_18 : decode cX4_countDrawn 18 = .ok (.iaload, 1) := by decide +kernel
theorem dX4_countDrawn_19 : decode cX4_countDrawn 19 = .ok (.ifCond .eq 7, 3) := by decide +kernel
theorem dX4_countDrawn_22 : decode cX4_countDrawn 22 = .ok (.iconst 1, 1) := by decide +kernel
theorem dX4_countDrawn_23 : decode cX4_countDrawn 23 = .ok (.goto 4, 3) := by decide +kernel
theorem dX4_countDrawn_26 : decode cX4_countDrawn 26 = .ok (.iconst 0, 1) := by decide +kernel
theorem dX4_countDrawn_27 : decode cX4_countDrawn 27 = .ok (.iadd, 1) := by decide +kernel
theorem dX4_countDrawn_28 : decode cX4_countDrawn 28 = .ok (.istore_n 2, 1) := by decide +kernel
theorem dX4_countDrawn_29 : decode cX4_countDrawn 29 = .ok (.iinc 3 1, 3) := by decide +kernel
theorem dX4_countDrawn_32 : decode cX4_countDrawn 32 = .ok (.goto (-28), 3) := by decide +kernel
theorem dX4_countDrawn_35 : decode cX4_countDrawn 35 = .ok (.iconst 0, 1) := by decide +kernel
theorem dX4_countDrawn_36 : decode cX4_countDrawn 36 = .ok (.istore_n 3, 1) := by decide +kernel
theorem dX4_countDrawn_37 : decode cX4_countDrawn 37 = .ok (.iload_n 3, 1) := by decide +kernel
theorem dX4_countDrawn_38 : decode cX4_countDrawn 38 = .ok (.aload_n 1, 1) := by decide +kernel
theorem dX4_countDrawn_39 : decode cX4_countDrawn 39 = .ok (.getfield 35, 3) := by decide +kernel
theorem dX4_countDrawn_42 : decode cX4_countDrawn 42 = .ok (.if_icmp .ge 26, 3) := by decide +kernel
theorem dX4_countDrawn_45 : decode cX4_countDrawn 45 = .ok (.iload_n 2, 1) := by decide +kernel
theorem dX4_countDrawn_46 : decode cX4_countDrawn 46 = .ok (.aload_n 0, 1) := by decide +kernel
theorem dX4_countDrawn_47 : decode cX4_countDrawn 47 = .ok (.getfield 15, 3) := by decide +kernel
theorem dX4_countDrawn_50 : decode cX4_countDrawn 50 = .ok (.iload_n 3, 1) := by decide +kernel
theorem dX4_countDrawn_51 : decode cX4_countDrawn 51 = .ok (.iaload, 1) := by decide +kernel
theorem dX4_countDrawn_52 : decode cX4_countDrawn 52 = .ok (.ifCond .eq 7, 3) := by decide +kernel
theorem dX4_countDrawn_55 : decode cX4_countDrawn 55 = .ok (.iconst 1, 1) := by decide +kernel
theorem dX4_countDrawn_56 : decode cX4_countDrawn 56 = .ok (.goto 4, 3) := by decide +kernel
theorem dX4_countDrawn_59 : decode cX4_countDrawn 59 = .ok (.iconst 0, 1) := by decide +kernel
theorem dX4_countDrawn_60 : decode cX4_countDrawn 60 = .ok (.iadd, 1) := by decide +kernel
theorem dX4_countDrawn_61 : decode cX4_countDrawn 61 = .ok (.istore_n 2, 1) := by decide +kernel
theorem dX4_countDrawn_62 : decode cX4_countDrawn 62 = .ok (.iinc 3 1, 3) := by decide +kernel
theorem dX4_countDrawn_65 : decode cX4_countDrawn 65 = .ok (.goto (-28), 3) := by decide +kernel
theorem dX4_countDrawn_68 : decode cX4_countDrawn 68 = .ok (.iload_n 2, 1) := by decide +kernel
theorem dX4_countDrawn_69 : decode cX4_countDrawn 69 = .ok (.ireturn, 1) := by decide +kernel
theorem dX4_turnSome_0 : decode cX4_turnSome 0 = .ok (.iload_n 2, 1) := by decide +kernel
theorem dX4_turnSome_1 : decode cX4_turnSome 1 = .ok (.istore_n 3, 1) := by decide +kernel
theorem dX4_turnSome_2 : decode cX4_turnSome 2 = .ok (.iconst 0, 1) := by decide +kernel
theorem dX4_turnSome_3 : decode cX4_turnSome 3 = .ok (.istore 4, 2) := by decide +kernel
theorem dX4_turnSome_5 : decode cX4_turnSome 5 = .ok (.iload 4, 2) := by decide +kernel
theorem dX4_turnSome_7 : decode cX4_turnSome 7 = .ok (.aload_n 1, 1) := by decide +kernel
theorem dX4_turnSome_8 : decode cX4_turnSome 8 = .ok (.getfield 25, 3) := by decide +kernel
theorem dX4_turnSome_11 : decode cX4_turnSome 11 = .ok (.if_icmp .ge 54, 3) := by decide +kernel
theorem dX4_turnSome_14 : decode cX4_turnSome 14 = .ok (.aload_n 0, 1) := by decide +kernel
theorem dX4_turnSome_15 : decode cX4_turnSome 15 = .ok (.getfield 9, 3) := by decide +kernel
theorem dX4_turnSome_18 : decode cX4_turnSome 18 = .ok (.iload 4, 2) := by decide +kernel
theorem dX4_turnSome_20 : decode cX4_turnSome 20 = .ok (.iaload, 1) := by decide +kernel
theorem dX4_turnSome_21 : decode cX4_turnSome 21 = .ok (.ifCond .eq 38, 3) := by decide +kernel
theorem dX4_turnSome_24 : decode cX4_turnSome 24 = .ok (.aload_n 0, 1) := by decide +kernel
theorem dX4_turnSome_25 : decode cX4_turnSome 25 = .ok (.getfield 9, 3) := by decide +kernel
theorem dX4_turnSome_28 : decode cX4_turnSome 28 = .ok (.iload 4, 2) := by decide +kernel
theorem dX4_turnSome_30 : decode cX4_turnSome 30 = .ok (.iload_n 3, 1) := by decide +kernel
theorem dX4_turnSome_31 : decode cX4_turnSome 31 = .ok (.iconst 1, 1) := by decide +kernel
theorem dX4_turnSome_32 : decode cX4_turnSome 32 = .ok (.iand, 1) := by decide +kernel
theorem dX4_turnSome_33 : decode cX4_turnSome 33 = .ok (.ifCond .eq 14, 3) := by decide +kernel
theorem dX4_turnSome_36 : decode cX4_turnSome 36 = .ok (.aload_n 0, 1) := by decide +kernel
theorem dX4_turnSome_37 : decode cX4_turnSome 37 = .ok (.getfield 9, 3) := by decide +kernel
theorem dX4_turnSome_40 : decode cX4_turnSome 40 = .ok (.iload 4, 2) := by decide +kernel
theorem dX4_turnSome_42 : decode cX4_turnSome 42 = .ok (.iaload, 1) := by decide +kernel
theorem dX4_turnSome_43 : decode cX4_turnSome 43 = .ok (.ineg, 1) := by decide +kernel
theorem dX4_turnSome_44 : decode cX4_turnSome 44 = .ok (.goto 10, 3) := by decide +kernel
theorem dX4_turnSome_47 : decode cX4_turnSome 47 = .ok (.aload_n 0, 1) := by decide +kernel
theorem dX4_turnSome_48 : decode cX4_turnSome 48 = .ok (.getfield 9, 3) := by decide +kernel
theorem dX4_turnSome_51 : decode cX4_turnSome 51 = .ok (.iload 4, 2) := by decide +kernel
theorem dX4_turnSome_53 : decode cX4_turnSome 53 = .ok (.iaload, 1) := by decide +kernel
theorem dX4_turnSome_54 : decode cX4_turnSome 54 = .ok (.iastore, 1) := by decide +kernel
theorem dX4_turnSome_55 : decode cX4_turnSome 55 = .ok (.iload_n 3, 1) := by decide +kernel
theorem dX4_turnSome_56 : decode cX4_turnSome 56 = .ok (.iconst 1, 1) := by decide +kernel
theorem dX4_turnSome_57 : decode cX4_turnSome 57 = .ok (.ishr, 1) := by decide +kernel
theorem dX4_turnSome_58 : decode cX4_turnSome 58 = .ok (.istore_n 3, 1) := by decide +kernel
theorem dX4_turnSome_59 : decode cX4_turnSome 59 = .ok (.iinc 4 1, 3) := by decide +kernel
theorem dX4_turnSome_62 : decode cX4_turnSome 62 = .ok (.goto (-57), 3) := by decide +kernel
theorem dX4_turnSome_65 : decode cX4_turnSome 65 = .ok (.iconst 0, 1) := by decide +kernel
theorem dX4_turnSome_66 : decode cX4_turnSome 66 = .ok (.istore 4, 2) := by decide +kernel
theorem dX4_turnSome_68 : decode cX4_turnSome 68 = .ok (.iload 4, 2) := by decide +kernel
theorem dX4_turnSome_70 : decode cX4_turnSome 70 = .ok (.aload_n 1, 1) := by decide +kernel
theorem dX4_turnSome_71 : decode cX4_turnSome 71 = .ok (.getfield 35, 3) := by decide +kernel
theorem dX4_turnSome_74 : decode cX4_turnSome 74 = .ok (.if_icmp .ge 54, 3) := by decide +kernel
theorem dX4_turnSome_77 : decode cX4_turnSome 77 = .ok (.aload_n 0, 1) := by decide +kernel
theorem dX4_turnSome_78 : decode cX4_turnSome 78 = .ok (.getfield 15, 3) := by decide +kernel
theorem dX4_turnSome_81 : decode cX4_turnSome 81 = .ok (.iload 4, 2) := by decide +kernel
theorem dX4_turnSome_83 : decode cX4_turnSome 83 = .ok (.iaload, 1) := by decide +kernel
theorem dX4_turnSome_84 : decode cX4_turnSome 84 = .ok (.ifCond .eq 38, 3) := by decide +kernel
theorem dX4_turnSome_87 : decode cX4_turnSome 87 = .ok (.aload_n 0, 1) := by decide +kernel
theorem dX4_turnSome_88 : decode cX4_turnSome 88 = .ok (.getfield 15, 3) := by decide +kernel
theorem dX4_turnSome_91 : decode cX4_turnSome 91 = .ok (.iload 4, 2) := by decide +kernel
theorem dX4_turnSome_93 : decode cX4_turnSome 93 = .ok (.iload_n 3, 1) := by decide +kernel
theorem dX4_turnSome_94 : decode cX4_turnSome 94 = .ok (.iconst 1, 1) := by decide +kernel
theorem dX4_turnSome_95 : decode cX4_turnSome 95 = .ok (.iand, 1) := by decide +kernel
theorem dX4_turnSome_96 : decode cX4_turnSome 96 = .ok (.ifCond .eq 14, 3) := by decide +kernel
theorem dX4_turnSome_99 : decode cX4_turnSome 99 = .ok (.aload_n 0, 1) := by decide +kernel
theorem dX4_turnSome_100 : decode cX4_turnSome 100 = .ok (.getfield 15, 3) := by decide +kernel
theorem dX4_turnSome_103 : decode cX4_turnSome 103 = .ok (.iload 4, 2) := by decide +kernel
theorem dX4_turnSome_105 : decode cX4_turnSome 105 = .ok (.iaload, 1) := by decide +kernel
theorem dX4_turnSome_106 : decode cX4_turnSome 106 = .ok (.ineg, 1) := by decide +kernel
theorem dX4_turnSome_107 : decode cX4_turnSome 107 = .ok (.goto 10, 3) := by decide +kernel
theorem dX4_turnSome_110 : decode cX4_turnSome 110 = .ok (.aload_n 0, 1) := by decide +kernel
theorem dX4_turnSome_111 : decode cX4_turnSome 111 = .ok (.getfield 15, 3) := by decide +kernel
theorem dX4_turnSome_114 : decode cX4_turnSome 114 = .ok (.iload 4, 2) := by decide +kernel
theorem dX4_turnSome_116 : decode cX4_turnSome 116 = .ok (.iaload, 1) := by decide +kernel
theorem dX4_turnSome_117 : decode cX4_turnSome 117 = .ok (.iastore, 1) := by decide +kernel
theorem dX4_turnSome_118 : decode cX4_turnSome 118 = .ok (.iload_n 3, 1) := by decide +kernel
theorem dX4_turnSome_119 : decode cX4_turnSome 119 = .ok (.iconst 1, 1) := by decide +kernel
theorem dX4_turnSome_120 : decode cX4_turnSome 120 = .ok (.ishr, 1) := by decide +kernel
theorem dX4_turnSome_121 : decode cX4_turnSome 121 = .ok (.istore_n 3, 1) := by decide +kernel
theorem dX4_turnSome_122 : decode cX4_turnSome 122 = .ok (.iinc 4 1, 3) := by decide +kernel
theorem dX4_turnSome_125 : decode cX4_turnSome 125 = .ok (.goto (-57), 3) := by decide +kernel
theorem dX4_turnSome_128 : decode cX4_turnSome 128 = .ok (.return_, 1) := by decide +kernel
theorem dX6_isFound_0 : decode cX6_isFound 0 = .ok (.iconst 0, 1) := by decide +kernel
theorem dX6_isFound_1 : decode cX6_isFound 1 = .ok (.istore_n 3, 1) := by decide +kernel
theorem dX6_isFound_2 : decode cX6_isFound 2 = .ok (.iload_n 3, 1) := by decide +kernel
theorem dX6_isFound_3 : decode cX6_isFound 3 = .ok (.iload_n 2, 1) := by decide +kernel
theorem dX6_isFound_4 : decode cX6_isFound 4 = .ok (.if_icmp .ge 21, 3) := by decide +kernel
theorem dX6_isFound_7 : decode cX6_isFound 7 = .ok (.aload_n 0, 1) := by decide +kernel
theorem dX6_isFound_8 : decode cX6_isFound 8 = .ok (.getfield 59, 3) := by decide +kernel
theorem dX6_isFound_11 : decode cX6_isFound 11 = .ok (.iload_n 3, 1) := by decide +kernel
theorem dX6_isFound_12 : decode cX6_isFound 12 = .ok (.iaload, 1) := by decide +kernel
theorem dX6_isFound_13 : decode cX6_isFound 13 = .ok (.iload_n 1, 1) := by decide +kernel
theorem dX6_isFound_14 : decode cX6_isFound 14 = .ok (.if_icmp .ne 5, 3) := by decide +kernel
theorem dX6_isFound_17 : decode cX6_isFound 17 = .ok (.iconst 1, 1) := by decide +kernel
theorem dX6_isFound_18 : decode cX6_isFound 18 = .ok (.ireturn, 1) := by decide +kernel
theorem dX6_isFound_19 : decode cX6_isFound 19 = .ok (.iinc 3 1, 3) := by decide +kernel
theorem dX6_isFound_22 : decode cX6_isFound 22 = .ok (.goto (-20), 3) := by decide +kernel
theorem dX6_isFound_25 : decode cX6_isFound 25 = .ok (.iconst 0, 1) := by decide +kernel
theorem dX6_isFound_26 : decode cX6_isFound 26 = .ok (.ireturn, 1) := by decide +kernel
theorem dX6_keep_0 : decode cX6_keep 0 = .ok (.aload_n 0, 1) := by decide +kernel
theorem dX6_keep_1 : decode cX6_keep 1 = .ok (.invokevirtual 142, 3) := by decide +kernel
theorem dX6_keep_4 : decode cX6_keep 4 = .ok (.aload_n 0, 1) := by decide +kernel
theorem dX6_keep_5 : decode cX6_keep 5 = .ok (.getfield 42, 3) := by decide +kernel
theorem dX6_keep_8 : decode cX6_keep 8 = .ok (.aload_n 0, 1) := by decide +kernel
theorem dX6_keep_9 : decode cX6_keep 9 = .ok (.getfield 38, 3) := by decide +kernel
theorem dX6_keep_12 : decode cX6_keep 12 = .ok (.invokevirtual 170, 3) := by decide +kernel
theorem dX6_keep_15 : decode cX6_keep 15 = .ok (.aload_n 0, 1) := by decide +kernel
theorem dX6_keep_16 : decode cX6_keep 16 = .ok (.getfield 42, 3) := by decide +kernel
theorem dX6_keep_19 : decode cX6_keep 19 = .ok (.getfield 173, 3) := by decide +kernel
theorem dX6_keep_22 : decode cX6_keep 22 = .ok (.ireturn, 1) := by decide +kernel
theorem dX1_copyFrom_0 : decode cX1_copyFrom 0 = .ok (.aload_n 0, 1) := by decide +kernel
theorem dX1_copyFrom_1 : decode cX1_copyFrom 1 = .ok (.aload_n 1, 1) := by decide +kernel
theorem dX1_copyFrom_2 : decode cX1_copyFrom 2 = .ok (.getfield 15, 3) := by decide +kernel
theorem dX1_copyFrom_5 : decode cX1_copyFrom 5 = .ok (.aload_n 1, 1) := by decide +kernel
theorem dX1_copyFrom_6 : decode cX1_copyFrom 6 = .ok (.getfield 9, 3) := by decide +kernel
theorem dX1_copyFrom_9 : decode cX1_copyFrom 9 = .ok (.aload_n 1, 1) := by decide +kernel
theorem dX1_copyFrom_10 : decode cX1_copyFrom 10 = .ok (.getfield 19, 3) := by decide +kernel
theorem dX1_copyFrom_13 : decode cX1_copyFrom 13 = .ok (.invokevirtual 28, 3) := by decide +kernel
theorem dX1_copyFrom_16 : decode cX1_copyFrom 16 = .ok (.return_, 1) := by decide +kernel
theorem dX6_compare_0 : decode cX6_compare 0 = .ok (.aload_n 0, 1) := by decide +kernel
theorem dX6_compare_1 : decode cX6_compare 1 = .ok (.invokevirtual 142, 3) := by decide +kernel
theorem dX6_compare_4 : decode cX6_compare 4 = .ok (.aload_n 0, 1) := by decide +kernel
theorem dX6_compare_5 : decode cX6_compare 5 = .ok (.getfield 38, 3) := by decide +kernel
theorem dX6_compare_8 : decode cX6_compare 8 = .ok (.aload_n 0, 1) := by decide +kernel
theorem dX6_compare_9 : decode cX6_compare 9 = .ok (.getfield 42, 3) := by decide +kernel
theorem dX6_compare_12 : decode cX6_compare 12 = .ok (.invokevirtual 174, 3) := by decide +kernel
theorem dX6_compare_15 : decode cX6_compare 15 = .ok (.ifCond .ne 5, 3) := by decide +kernel
theorem dX6_compare_18 : decode cX6_compare 18 = .ok (.iconst 3, 1) := by decide +kernel
theorem dX6_compare_19 : decode cX6_compare 19 = .ok (.ireturn, 1) := by decide +kernel
theorem dX6_compare_20 : decode cX6_compare 20 = .ok (.aload_n 0, 1) := by decide +kernel
theorem dX6_compare_21 : decode cX6_compare 21 = .ok (.getfield 38, 3) := by decide +kernel
theorem dX6_compare_24 : decode cX6_compare 24 = .ok (.getfield 148, 3) := by decide +kernel
theorem dX6_compare_27 : decode cX6_compare 27 = .ok (.aload_n 0, 1) := by decide +kernel
theorem dX6_compare_28 : decode cX6_compare 28 = .ok (.getfield 42, 3) := by decide +kernel
theorem dX6_compare_31 : decode cX6_compare 31 = .ok (.getfield 148, 3) := by decide +kernel
theorem dX6_compare_34 : decode cX6_compare 34 = .ok (.if_icmp .ne 5, 3) := by decide +kernel
theorem dX6_compare_37 : decode cX6_compare 37 = .ok (.iconst 0, 1) := by decide +kernel
theorem dX6_compare_38 : decode cX6_compare 38 = .ok (.ireturn, 1) := by decide +kernel
theorem dX6_compare_39 : decode cX6_compare 39 = .ok (.aload_n 0, 1) := by decide +kernel
theorem dX6_compare_40 : decode cX6_compare 40 = .ok (.getfield 63, 3) := by decide +kernel
theorem dX6_compare_43 : decode cX6_compare 43 = .ok (.aload_n 0, 1) := by decide +kernel
theorem dX6_compare_44 : decode cX6_compare 44 = .ok (.getfield 42, 3) := by decide +kernel
theorem dX6_compare_47 : decode cX6_compare 47 = .ok (.getfield 148, 3) := by decide +kernel
theorem dX6_compare_50 : decode cX6_compare 50 = .ok (.if_icmp .ne 7, 3) := by decide +kernel
theorem dX6_compare_53 : decode cX6_compare 53 = .ok (.iconst 2, 1) := by decide +kernel
theorem dX6_compare_54 : decode cX6_compare 54 = .ok (.goto 4, 3) := by decide +kernel
theorem dX6_compare_57 : decode cX6_compare 57 = .ok (.iconst 1, 1) := by decide +kernel
theorem dX6_compare_58 : decode cX6_compare 58 = .ok (.ireturn, 1) := by decide +kernel
theorem dX1_hasRowsOf_0 : decode cX1_hasRowsOf 0 = .ok (.aload_n 0, 1) := by decide +kernel
theorem dX1_hasRowsOf_1 : decode cX1_hasRowsOf 1 = .ok (.getfield 9, 3) := by decide +kernel
theorem dX1_hasRowsOf_4 : decode cX1_hasRowsOf 4 = .ok (.aload_n 1, 1) := by decide +kernel
theorem dX1_hasRowsOf_5 : decode cX1_hasRowsOf 5 = .ok (.getfield 9, 3) := by decide +kernel
theorem dX1_hasRowsOf_8 : decode cX1_hasRowsOf 8 = .ok (.if_icmp .eq 5, 3) := by decide +kernel
theorem dX1_hasRowsOf_11 : decode cX1_hasRowsOf 11 = .ok (.iconst 0, 1) := by decide +kernel
theorem dX1_hasRowsOf_12 : decode cX1_hasRowsOf 12 = .ok (.ireturn, 1) := by decide +kernel
theorem dX1_hasRowsOf_13 : decode cX1_hasRowsOf 13 = .ok (.iconst 0, 1) := by decide +kernel
theorem dX1_hasRowsOf_14 : decode cX1_hasRowsOf 14 = .ok (.istore_n 2, 1) := by decide +kernel
theorem dX1_hasRowsOf_15 : decode cX1_hasRowsOf 15 = .ok (.iload_n 2, 1) := by decide +kernel
theorem dX1_hasRowsOf_16 : decode cX1_hasRowsOf 16 = .ok (.aload_n 0, 1) := by decide +kernel
theorem dX1_hasRowsOf_17 : decode cX1_hasRowsOf 17 = .ok (.getfield 9, 3) := by decide +kernel
theorem dX1_hasRowsOf_20 : decode cX1_hasRowsOf 20 = .ok (.if_icmp .ge 26, 3) := by decide +kernel
theorem dX1_hasRowsOf_23 : decode cX1_hasRowsOf 23 = .ok (.aload_n 0, 1) := by decide +kernel
theorem dX1_hasRowsOf_24 : decode cX1_hasRowsOf 24 = .ok (.getfield 15, 3) := by decide +kernel
theorem dX1_hasRowsOf_27 : decode cX1_hasRowsOf 27 = .ok (.iload_n 2, 1) := by decide +kernel
theorem dX1_hasRowsOf_28 : decode cX1_hasRowsOf 28 = .ok (.iaload, 1) := by decide +kernel
theorem dX1_hasRowsOf_29 : decode cX1_hasRowsOf 29 = .ok (.aload_n 1, 1) := by decide +kernel
theorem dX1_hasRowsOf_30 : decode cX1_hasRowsOf 30 = .ok (.getfield 15, 3) := by decide +kernel
theorem dX1_hasRowsOf_33 : decode cX1_hasRowsOf 33 = .ok (.iload_n 2, 1) := by decide +kernel
theorem dX1_hasRowsOf_34 : decode cX1_hasRowsOf 34 = .ok (.iaload, 1) := by decide +kernel
theorem dX1_hasRowsOf_35 : decode cX1_hasRowsOf 35 = .ok (.if_icmp .eq 5, 3) := by decide +kernel
theorem dX1_hasRowsOf_38 : decode cX1_hasRowsOf 38 = .ok (.iconst 0, 1) := by decide +kernel
theorem dX1_hasRowsOf_39 : decode cX1_hasRowsOf 39 = .ok (.ireturn, 1) := by decide +kernel
theorem dX1_hasRowsOf_40 : decode cX1_hasRowsOf 40 = .ok (.iinc 2 1, 3) := by decide +kernel
theorem dX1_hasRowsOf_43 : decode cX1_hasRowsOf 43 = .ok (.goto (-28), 3) := by decide +kernel
theorem dX1_hasRowsOf_46 : decode cX1_hasRowsOf 46 = .ok (.iconst 1, 1) := by decide +kernel
theorem dX1_hasRowsOf_47 : decode cX1_hasRowsOf 47 = .ok (.ireturn, 1) := by decide +kernel
theorem dX6_write_0 : decode cX6_write 0 = .ok (.aload_n 0, 1) := by decide +kernel
theorem dX6_write_1 : decode cX6_write 1 = .ok (.invokevirtual 142, 3) := by decide +kernel
theorem dX6_write_4 : decode cX6_write 4 = .ok (.aload_n 0, 1) := by decide +kernel
theorem dX6_write_5 : decode cX6_write 5 = .ok (.getfield 55, 3) := by decide +kernel
theorem dX6_write_8 : decode cX6_write 8 = .ok (.aload_n 0, 1) := by decide +kernel
theorem dX6_write_9 : decode cX6_write 9 = .ok (.getfield 14, 3) := by decide +kernel
theorem dX6_write_12 : decode cX6_write 12 = .ok (.aload_n 0, 1) := by decide +kernel
theorem dX6_write_13 : decode cX6_write 13 = .ok (.getfield 21, 3) := by decide +kernel
theorem dX6_write_16 : decode cX6_write 16 = .ok (.aload_n 0, 1) := by decide +kernel
theorem dX6_write_17 : decode cX6_write 17 = .ok (.getfield 48, 3) := by decide +kernel
theorem dX6_write_20 : decode cX6_write 20 = .ok (.invokevirtual 178, 3) := by decide +kernel
theorem dX6_write_23 : decode cX6_write 23 = .ok (.aload_n 0, 1) := by decide +kernel
theorem dX6_write_24 : decode cX6_write 24 = .ok (.getfield 55, 3) := by decide +kernel
theorem dX6_write_27 : decode cX6_write 27 = .ok (.getfield 182, 3) := by decide +kernel
theorem dX6_write_30 : decode cX6_write 30 = .ok (.ireturn, 1) := by decide +kernel
theorem dX5_describe_0 : decode cX5_describe 0 = .ok (.aload_n 0, 1) := by decide +kernel
theorem dX5_describe_1 : decode cX5_describe 1 = .ok (.iconst 0, 1) := by decide +kernel
theorem dX5_describe_2 : decode cX5_describe 2 = .ok (.putfield 15, 3) := by decide +kernel
theorem dX5_describe_5 : decode cX5_describe 5 = .ok (.iconst 0, 1) := by decide +kernel
theorem dX5_describe_6 : decode cX5_describe 6 = .ok (.istore 4, 2) := by decide +kernel
theorem dX5_describe_8 : decode cX5_describe 8 = .ok (.iload 4, 2) := by decide +kernel
theorem dX5_describe_10 : decode cX5_describe 10 = .ok (.aload_n 1, 1) := by decide +kernel
theorem dX5_describe_11 : decode cX5_describe 11 = .ok (.getfield 19, 3) := by decide +kernel
theorem dX5_describe_14 : decode cX5_describe 14 = .ok (.if_icmp .ge 109, 3) := by decide +kernel
theorem dX5_describe_17 : decode cX5_describe 17 = .ok (.aload_n 3, 1) := by decide +kernel
theorem dX5_describe_18 : decode cX5_describe 18 = .ok (.getfield 24, 3) := by decide +kernel
theorem dX5_describe_21 : decode cX5_describe 21 = .ok (.iload 4, 2) := by decide +kernel
theorem dX5_describe_23 : decode cX5_describe 23 = .ok (.iaload, 1) := by decide +kernel
theorem dX5_describe_24 : decode cX5_describe 24 = .ok (.istore 5, 2) := by decide +kernel
theorem dX5_describe_26 : decode cX5_describe 26 = .ok (.aload_n 0, 1) := by decide +kernel
theorem dX5_describe_27 : decode cX5_describe 27 = .ok (.aload_n 1, 1) := by decide +kernel
theorem dX5_describe_28 : decode cX5_describe 28 = .ok (.getfield 30, 3) := by decide +kernel
theorem dX5_describe_31 : decode cX5_describe 31 = .ok (.iload 5, 2) := by decide +kernel
theorem dX5_describe_33 : decode cX5_describe 33 = .ok (.iaload, 1) := by decide +kernel
theorem dX5_describe_34 : decode cX5_describe 34 = .ok (.invokevirtual 33, 3) := by decide +kernel
theorem dX5_describe_37 : decode cX5_describe 37 = .ok (.aload_n 0, 1) := by decide +kernel
theorem dX5_describe_38 : decode cX5_describe 38 = .ok (.aload_n 3, 1) := by decide +kernel
theorem dX5_describe_39 : decode cX5_describe 39 = .ok (.aload_n 1, 1) := by decide +kernel
theorem dX5_describe_40 : decode cX5_describe 40 = .ok (.aload_n 2, 1) := by decide +kernel
theorem dX5_describe_41 : decode cX5_describe 41 = .ok (.iload 5, 2) := by decide +kernel
theorem dX5_describe_43 : decode cX5_describe 43 = .ok (.invokevirtual 37, 3) := by decide +kernel
theorem dX5_describe_46 : decode cX5_describe 46 = .ok (.invokevirtual 41, 3) := by decide +kernel
theorem dX5_describe_49 : decode cX5_describe 49 = .ok (.iconst 0, 1) := by decide +kernel
theorem dX5_describe_50 : decode cX5_describe 50 = .ok (.istore 6, 2) := by decide +kernel
theorem dX5_describe_52 : decode cX5_describe 52 = .ok (.iload 6, 2) := by decide +kernel
theorem dX5_describe_54 : decode cX5_describe 54 = .ok (.iload 4, 2) := by decide +kernel
theorem dX5_describe_56 : decode cX5_describe 56 = .ok (.if_icmp .ge 55, 3) := by decide +kernel
theorem dX5_describe_59 : decode cX5_describe 59 = .ok (.aload_n 1, 1) := by decide +kernel
theorem dX5_describe_60 : decode cX5_describe 60 = .ok (.iload 5, 2) := by decide +kernel
theorem dX5_describe_62 : decode cX5_describe 62 = .ok (.aload_n 3, 1) := by decide +kernel
theorem dX5_describe_63 : decode cX5_describe 63 = .ok (.getfield 24, 3) := by decide +kernel
theorem dX5_describe_66 : decode cX5_describe 66 = .ok (.iload 6, 2) := by decide +kernel
theorem dX5_describe_68 : decode cX5_describe 68 = .ok (.iaload, 1) := by decide +kernel
theorem dX5_describe_69 : decode cX5_describe 69 = .ok (.invokevirtual 44, 3) := by decide +kernel
theorem dX5_describe_72 : decode cX5_describe 72 = .ok (.istore 7, 2) := by decide +kernel
theorem dX5_describe_74 : decode cX5_describe 74 = .ok (.iload 7, 2) := by decide +kernel
theorem dX5_describe_76 : decode cX5_describe 76 = .ok (.iconst (-1), 1) := by decide +kernel
theorem dX5_describe_77 : decode cX5_describe 77 = .ok (.if_icmp .eq 28, 3) := by decide +kernel
theorem dX5_describe_80 : decode cX5_describe 80 = .ok (.aload_n 3, 1) := by decide +kernel
theorem dX5_describe_81 : decode cX5_describe 81 = .ok (.aload_n 1, 1) := by decide +kernel
theorem dX5_describe_82 : decode cX5_describe 82 = .ok (.aload_n 2, 1) := by decide +kernel
theorem dX5_describe_83 : decode cX5_describe 83 = .ok (.iload 7, 2) := by decide +kernel
theorem dX5_describe_85 : decode cX5_describe 85 = .ok (.invokevirtual 48, 3) := by decide +kernel
theorem dX5_describe_88 : decode cX5_describe 88 = .ok (.istore 8, 2) := by decide +kernel
theorem dX5_describe_90 : decode cX5_describe 90 = .ok (.aload_n 0, 1) := by decide +kernel
theorem dX5_describe_91 : decode cX5_describe 91 = .ok (.iload 6, 2) := by decide +kernel
theorem dX5_describe_93 : decode cX5_describe 93 = .ok (.aload_n 1, 1) := by decide +kernel
theorem dX5_describe_94 : decode cX5_describe 94 = .ok (.getfield 51, 3) := by decide +kernel
theorem dX5_describe_97 : decode cX5_describe 97 = .ok (.iload 7, 2) := by decide +kernel
theorem dX5_describe_99 : decode cX5_describe 99 = .ok (.iaload, 1) := by decide +kernel
theorem dX5_describe_100 : decode cX5_describe 100 = .ok (.iload 8, 2) := by decide +kernel
theorem dX5_describe_102 : decode cX5_describe 102 = .ok (.invokevirtual 54, 3) := by decide +kernel
theorem dX5_describe_105 : decode cX5_describe 105 = .ok (.iinc 6 1, 3) := by decide +kernel
theorem dX5_describe_108 : decode cX5_describe 108 = .ok (.goto (-56), 3) := by decide +kernel
theorem dX5_describe_111 : decode cX5_describe 111 = .ok (.aload_n 0, 1) := by decide +kernel
theorem dX5_describe_112 : decode cX5_describe 112 = .ok (.bipush 59, 2) := by decide +kernel
theorem dX5_describe_114 : decode cX5_describe 114 = .ok (.invokevirtual 58, 3) := by decide +kernel
theorem dX5_describe_117 : decode cX5_describe 117 = .ok (.iinc 4 1, 3) := by decide +kernel
theorem dX5_describe_120 : decode cX5_describe 120 = .ok (.goto (-112), 3) := by decide +kernel
theorem dX5_describe_123 : decode cX5_describe 123 = .ok (.return_, 1) := by decide +kernel
theorem dX5_addElement_0 : decode cX5_addElement 0 = .ok (.aload_n 0, 1) := by decide +kernel
theorem dX5_addElement_1 : decode cX5_addElement 1 = .ok (.ldc 62, 2) := by decide +kernel
theorem dX5_addElement_3 : decode cX5_addElement 3 = .ok (.iload_n 1, 1) := by decide +kernel
theorem dX5_addElement_4 : decode cX5_addElement 4 = .ok (.invokevirtual 64, 3) := by decide +kernel
theorem dX5_addElement_7 : decode cX5_addElement 7 = .ok (.invokevirtual 58, 3) := by decide +kernel
theorem dX5_addElement_10 : decode cX5_addElement 10 = .ok (.iload_n 1, 1) := by decide +kernel
theorem dX5_addElement_11 : decode cX5_addElement 11 = .ok (.iconst 4, 1) := by decide +kernel
theorem dX5_addElement_12 : decode cX5_addElement 12 = .ok (.if_icmp .ne 9, 3) := by decide +kernel
theorem dX5_addElement_15 : decode cX5_addElement 15 = .ok (.aload_n 0, 1) := by decide +kernel
theorem dX5_addElement_16 : decode cX5_addElement 16 = .ok (.bipush 108, 2) := by decide +kernel
theorem dX5_addElement_18 : decode cX5_addElement 18 = .ok (.invokevirtual 58, 3) := by decide +kernel
theorem dX5_addElement_21 : decode cX5_addElement 21 = .ok (.return_, 1) := by decide +kernel
theorem dJ0_charAt_0 : decode cJ0_charAt 0 = .ok (.aload_n 0, 1) := by decide +kernel
theorem dJ0_charAt_1 : decode cJ0_charAt 1 = .ok (.invokevirtual 492, 3) := by decide +kernel
theorem dJ0_charAt_4 : decode cJ0_charAt 4 = .ok (.ifCond .eq 12, 3) := by decide +kernel
theorem dJ0_charAt_7 : decode cJ0_charAt 7 = .ok (.aload_n 0, 1) := by decide +kernel
theorem dJ0_charAt_8 : decode cJ0_charAt 8 = .ok (.getfield 9, 3) := by decide +kernel
theorem dJ0_charAt_11 : decode cJ0_charAt 11 = .ok (.iload_n 1, 1) := by decide +kernel
theorem dJ0_charAt_12 : decode cJ0_charAt 12 = .ok (.invokestatic 495, 3) := by decide +kernel
theorem dJ0_charAt_15 : decode cJ0_charAt 15 = .ok (.ireturn, 1) := by decide +kernel
theorem dJ0_charAt_16 : decode cJ0_charAt 16 = .ok (.aload_n 0, 1) := by decide +kernel
theorem dJ0_charAt_17 : decode cJ0_charAt 17 = .ok (.getfield 9, 3) := by decide +kernel
theorem dJ0_charAt_20 : decode cJ0_charAt 20 = .ok (.iload_n 1, 1) := by decide +kernel
theorem dJ0_charAt_21 : decode cJ0_charAt 21 = .ok (.invokestatic 498, 3) := by decide +kernel
theorem dJ0_charAt_24 : decode cJ0_charAt 24 = .ok (.ireturn, 1) := by decide +kernel
theorem dJ0_isLatin1_0 : decode cJ0_isLatin1 0 = .ok (.getstatic 38, 3) := by decide +kernel
theorem dJ0_isLatin1_3 : decode cJ0_isLatin1 3 = .ok (.ifCond .eq 14, 3) := by decide +kernel
theorem dJ0_isLatin1_6 : decode cJ0_isLatin1 6 = .ok (.aload_n 0, 1) := by decide +kernel
theorem dJ0_isLatin1_7 : decode cJ0_isLatin1 7 = .ok (.getfield 15, 3) := by decide +kernel
theorem dJ0_isLatin1_10 : decode cJ0_isLatin1 10 = .ok (.ifCond .ne 7, 3) := by decide +kernel
theorem dJ0_isLatin1_13 : decode cJ0_isLatin1 13 = .ok (.iconst 1, 1) := by decide +kernel
theorem dJ0_isLatin1_14 : decode cJ0_isLatin1 14 = .ok (.goto 4, 3) := by decide +kernel
theorem dJ0_isLatin1_17 : decode cJ0_isLatin1 17 = .ok (.iconst 0, 1) := by decide +kernel
theorem dJ0_isLatin1_18 : decode cJ0_isLatin1 18 = .ok (.ireturn, 1) := by decide +kernel
theorem dJ1_charAt_0 : decode cJ1_charAt 0 = .ok (.iload_n 1, 1) := by decide +kernel
theorem dJ1_charAt_1 : decode cJ1_charAt 1 = .ok (.aload_n 0, 1) := by decide +kernel
theorem dJ1_charAt_2 : decode cJ1_charAt 2 = .ok (.arraylength, 1) := by decide +kernel
theorem dJ1_charAt_3 : decode cJ1_charAt 3 = .ok (.invokestatic 9, 3) := by decide +kernel
theorem dJ1_charAt_6 : decode cJ1_charAt 6 = .ok (.aload_n 0, 1) := by decide +kernel
theorem dJ1_charAt_7 : decode cJ1_charAt 7 = .ok (.iload_n 1, 1) := by decide +kernel
theorem dJ1_charAt_8 : decode cJ1_charAt 8 = .ok (.baload, 1) := by decide +kernel
theorem dJ1_charAt_9 : decode cJ1_charAt 9 = .ok (.sipush 255, 3) := by decide +kernel
theorem dJ1_charAt_12 : decode cJ1_charAt 12 = .ok (.iand, 1) := by decide +kernel
theorem dJ1_charAt_13 : decode cJ1_charAt 13 = .ok (.i2c, 1) := by decide +kernel
theorem dJ1_charAt_14 : decode cJ1_charAt 14 = .ok (.ireturn, 1) := by decide +kernel
theorem dJ0_checkIndex_0 : decode cJ0_checkIndex 0 = .ok (.iload_n 0, 1) := by decide +kernel
theorem dJ0_checkIndex_1 : decode cJ0_checkIndex 1 = .ok (.iload_n 1, 1) := by decide +kernel
theorem dJ0_checkIndex_2 : decode cJ0_checkIndex 2 = .ok (.getstatic 1053, 3) := by decide +kernel
theorem dJ0_checkIndex_5 : decode cJ0_checkIndex 5 = .ok (.invokestatic 1059, 3) := by decide +kernel
theorem dJ0_checkIndex_8 : decode cJ0_checkIndex 8 = .ok (.pop, 1) := by decide +kernel
theorem dJ0_checkIndex_9 : decode cJ0_checkIndex 9 = .ok (.return_, 1) := by decide +kernel
theorem dJ3_checkIndex_0 : decode cJ3_checkIndex 0 = .ok (.iload_n 0, 1) := by decide +kernel
theorem dJ3_checkIndex_1 : decode cJ3_checkIndex 1 = .ok (.ifCond .lt 8, 3) := by decide +kernel
theorem dJ3_checkIndex_4 : decode cJ3_checkIndex 4 = .ok (.iload_n 0, 1) := by decide +kernel
theorem dJ3_checkIndex_5 : decode cJ3_checkIndex 5 = .ok (.iload_n 1, 1) := by decide +kernel
theorem dJ3_checkIndex_6 : decode cJ3_checkIndex 6 = .ok (.if_icmp .lt 10, 3) := by decide +kernel
theorem dJ3_checkIndex_9 : decode cJ3_checkIndex 9 = .ok (.aload_n 2, 1) := by decide +kernel
theorem dJ3_checkIndex_10 : decode cJ3_checkIndex 10 = .ok (.iload_n 0, 1) := by decide +kernel
theorem dJ3_checkIndex_11 : decode cJ3_checkIndex 11 = .ok (.iload_n 1, 1) := by decide +kernel
theorem dJ3_checkIndex_12 : decode cJ3_checkIndex 12 = .ok (.invokestatic 95, 3) := by decide +kernel
theorem dJ3_checkIndex_15 : decode cJ3_checkIndex 15 = .ok (.athrow, 1) := by decide +kernel
theorem dJ3_checkIndex_16 : decode cJ3_checkIndex 16 = .ok (.iload_n 0, 1) := by decide +kernel
theorem dJ3_checkIndex_17 : decode cJ3_checkIndex 17 = .ok (.ireturn, 1) := by decide +kernel
theorem dJ2_charAt_0 : decode cJ2_charAt 0 = .ok (.iload_n 1, 1) := by decide +kernel
theorem dJ2_charAt_1 : decode cJ2_charAt 1 = .ok (.aload_n 0, 1) := by decide +kernel
theorem dJ2_charAt_2 : decode cJ2_charAt 2 = .ok (.invokestatic 67, 3) := by decide +kernel
theorem dJ2_charAt_5 : decode cJ2_charAt 5 = .ok (.aload_n 0, 1) := by decide +kernel
theorem dJ2_charAt_6 : decode cJ2_charAt 6 = .ok (.iload_n 1, 1) := by decide +kernel
theorem dJ2_charAt_7 : decode cJ2_charAt 7 = .ok (.invokestatic 71, 3) := by decide +kernel
theorem dJ2_charAt_10 : decode cJ2_charAt 10 = .ok (.ireturn, 1) := by decide +kernel
theorem dJ2_checkIndex_0 : decode cJ2_checkIndex 0 = .ok (.iload_n 0, 1) := by decide +kernel
theorem dJ2_checkIndex_1 : decode cJ2_checkIndex 1 = .ok (.aload_n 1, 1) := by decide +kernel
theorem dJ2_checkIndex_2 : decode cJ2_checkIndex 2 = .ok (.invokestatic 48, 3) := by decide +kernel
theorem dJ2_checkIndex_5 : decode cJ2_checkIndex 5 = .ok (.invokestatic 414, 3) := by decide +kernel
theorem dJ2_checkIndex_8 : decode cJ2_checkIndex 8 = .ok (.return_, 1) := by decide +kernel
theorem dJ2_length_0 : decode cJ2_length 0 = .ok (.aload_n 0, 1) := by decide +kernel
theorem dJ2_length_1 : decode cJ2_length 1 = .ok (.arraylength, 1) := by decide +kernel
theorem dJ2_length_2 : decode cJ2_length 2 = .ok (.iconst 1, 1) := by decide +kernel
theorem dJ2_length_3 : decode cJ2_length 3 = .ok (.ishr, 1) := by decide +kernel
theorem dJ2_length_4 : decode cJ2_length 4 = .ok (.ireturn, 1) := by decide +kernel
theorem dJ2_getChar_0 : decode cJ2_getChar 0 = .ok (.getstatic 44, 3) := by decide +kernel
theorem dJ2_getChar_3 : decode cJ2_getChar 3 = .ok (.ifCond .ne 25, 3) := by decide +kernel
theorem dJ2_getChar_6 : decode cJ2_getChar 6 = .ok (.iload_n 1, 1) := by decide +kernel
theorem dJ2_getChar_7 : decode cJ2_getChar 7 = .ok (.ifCond .lt 11, 3) := by decide +kernel
theorem dJ2_getChar_10 : decode cJ2_getChar 10 = .ok (.iload_n 1, 1) := by decide +kernel
theorem dJ2_getChar_11 : decode cJ2_getChar 11 = .ok (.aload_n 0, 1) := by decide +kernel
theorem dJ2_getChar_12 : decode cJ2_getChar 12 = .ok (.invokestatic 48, 3) := by decide +kernel
theorem dJ2_getChar_15 : decode cJ2_getChar 15 = .ok (.if_icmp .lt 13, 3) := by decide +kernel
theorem dJ2_getChar_18 : decode cJ2_getChar 18 = .ok (.new 52, 3) := by decide +kernel
theorem dJ2_getChar_21 : decode cJ2_getChar 21 = .ok (.dup, 1) := by decide +kernel
theorem dJ2_getChar_22 : decode cJ2_getChar 22 = .ok (.ldc 54, 2) := by decide +kernel
theorem dJ2_getChar_24 : decode cJ2_getChar 24 = .ok (.invokespecial 56, 3) := by decide +kernel
theorem dJ2_getChar_27 : decode cJ2_getChar 27 = .ok (.athrow, 1) := by decide +kernel
theorem dJ2_getChar_28 : decode cJ2_getChar 28 = .ok (.iload_n 1, 1) := by decide +kernel
theorem dJ2_getChar_29 : decode cJ2_getChar 29 = .ok (.iconst 1, 1) := by decide +kernel
theorem dJ2_getChar_30 : decode cJ2_getChar 30 = .ok (.ishl, 1) := by decide +kernel
theorem dJ2_getChar_31 : decode cJ2_getChar 31 = .ok (.istore_n 1, 1) := by decide +kernel
theorem dJ2_getChar_32 : decode cJ2_getChar 32 = .ok (.aload_n 0, 1) := by decide +kernel
theorem dJ2_getChar_33 : decode cJ2_getChar 33 = .ok (.iload_n 1, 1) := by decide +kernel
theorem dJ2_getChar_34 : decode cJ2_getChar 34 = .ok (.iinc 1 1, 3) := by decide +kernel
theorem dJ2_getChar_37 : decode cJ2_getChar 37 = .ok (.baload, 1) := by decide +kernel
theorem dJ2_getChar_38 : decode cJ2_getChar 38 = .ok (.sipush 255, 3) := by decide +kernel
theorem dJ2_getChar_41 : decode cJ2_getChar 41 = .ok (.iand, 1) := by decide +kernel
theorem dJ2_getChar_42 : decode cJ2_getChar 42 = .ok (.getstatic 59, 3) := by decide +kernel
theorem dJ2_getChar_45 : decode cJ2_getChar 45 = .ok (.ishl, 1) := by decide +kernel
theorem dJ2_getChar_46 : decode cJ2_getChar 46 = .ok (.aload_n 0, 1) := by decide +kernel
theorem dJ2_getChar_47 : decode cJ2_getChar 47 = .ok (.iload_n 1, 1) := by decide +kernel
theorem dJ2_getChar_48 : decode cJ2_getChar 48 = .ok (.baload, 1) := by decide +kernel
theorem dJ2_getChar_49 : decode cJ2_getChar 49 = .ok (.sipush 255, 3) := by decide +kernel
theorem dJ2_getChar_52 : decode cJ2_getChar 52 = .ok (.iand, 1) := by decide +kernel
theorem dJ2_getChar_53 : decode cJ2_getChar 53 = .ok (.getstatic 63, 3) := by decide +kernel
theorem dJ2_getChar_56 : decode cJ2_getChar 56 = .ok (.ishl, 1) := by decide +kernel
theorem dJ2_getChar_57 : decode cJ2_getChar 57 = .ok (.ior, 1) := by decide +kernel
theorem dJ2_getChar_58 : decode cJ2_getChar 58 = .ok (.i2c, 1) := by decide +kernel
theorem dJ2_getChar_59 : decode cJ2_getChar 59 = .ok (.ireturn, 1) := by decide +kernel
theorem dX5_add_0 : decode cX5_add 0 = .ok (.aload_n 0, 1) := by decide +kernel
theorem dX5_add_1 : decode cX5_add 1 = .ok (.getfield 15, 3) := by decide +kernel
theorem dX5_add_4 : decode cX5_add 4 = .ok (.aload_n 0, 1) := by decide +kernel
theorem dX5_add_5 : decode cX5_add 5 = .ok (.getfield 9, 3) := by decide +kernel
theorem dX5_add_8 : decode cX5_add 8 = .ok (.arraylength, 1) := by decide +kernel
theorem dX5_add_9 : decode cX5_add 9 = .ok (.if_icmp .ge 23, 3) := by decide +kernel
theorem dX5_add_12 : decode cX5_add 12 = .ok (.aload_n 0, 1) := by decide +kernel
theorem dX5_add_13 : decode cX5_add 13 = .ok (.getfield 9, 3) := by decide +kernel
theorem dX5_add_16 : decode cX5_add 16 = .ok (.aload_n 0, 1) := by decide +kernel
theorem dX5_add_17 : decode cX5_add 17 = .ok (.getfield 15, 3) := by decide +kernel
theorem dX5_add_20 : decode cX5_add 20 = .ok (.iload_n 1, 1) := by decide +kernel
theorem dX5_add_21 : decode cX5_add 21 = .ok (.castore, 1) := by decide +kernel
theorem dX5_add_22 : decode cX5_add 22 = .ok (.aload_n 0, 1) := by decide +kernel
theorem dX5_add_23 : decode cX5_add 23 = .ok (.dup, 1) := by decide +kernel
theorem dX5_add_24 : decode cX5_add 24 = .ok (.getfield 15, 3) := by decide +kernel
theorem dX5_add_27 : decode cX5_add 27 = .ok (.iconst 1, 1) := by decide +kernel
theorem dX5_add_28 : decode cX5_add 28 = .ok (.iadd, 1) := by decide +kernel
theorem dX5_add_29 : decode cX5_add 29 = .ok (.putfield 15, 3) := by decide +kernel
theorem dX5_add_32 : decode cX5_add 32 = .ok (.return_, 1) := by decide +kernel
theorem dX5_addSense_0 : decode cX5_addSense 0 = .ok (.iload_n 1, 1) := by decide +kernel
theorem dX5_addSense_1 : decode cX5_addSense 1 = .ok (.ifCond .eq 9, 3) := by decide +kernel
theorem dX5_addSense_4 : decode cX5_addSense 4 = .ok (.aload_n 0, 1) := by decide +kernel
theorem dX5_addSense_5 : decode cX5_addSense 5 = .ok (.bipush 64, 2) := by decide +kernel
theorem dX5_addSense_7 : decode cX5_addSense 7 = .ok (.invokevirtual 58, 3) := by decide +kernel
theorem dX5_addSense_10 : decode cX5_addSense 10 = .ok (.iload_n 1, 1) := by decide +kernel
theorem dX5_addSense_11 : decode cX5_addSense 11 = .ok (.ifCond .le 9, 3) := by decide +kernel
theorem dX5_addSense_14 : decode cX5_addSense 14 = .ok (.aload_n 0, 1) := by decide +kernel
theorem dX5_addSense_15 : decode cX5_addSense 15 = .ok (.bipush 64, 2) := by decide +kernel
theorem dX5_addSense_17 : decode cX5_addSense 17 = .ok (.invokevirtual 58, 3) := by decide +kernel
theorem dX5_addSense_20 : decode cX5_addSense 20 = .ok (.return_, 1) := by decide +kernel
theorem dX5_addBond_0 : decode cX5_addBond 0 = .ok (.aload_n 0, 1) := by decide +kernel
theorem dX5_addBond_1 : decode cX5_addBond 1 = .ok (.bipush 40, 2) := by decide +kernel
theorem dX5_addBond_3 : decode cX5_addBond 3 = .ok (.invokevirtual 58, 3) := by decide +kernel
theorem dX5_addBond_6 : decode cX5_addBond 6 = .ok (.aload_n 0, 1) := by decide +kernel
theorem dX5_addBond_7 : decode cX5_addBond 7 = .ok (.bipush 48, 2) := by decide +kernel
theorem dX5_addBond_9 : decode cX5_addBond 9 = .ok (.iload_n 1, 1) := by decide +kernel
theorem dX5_addBond_10 : decode cX5_addBond 10 = .ok (.iadd, 1) := by decide +kernel
theorem dX5_addBond_11 : decode cX5_addBond 11 = .ok (.i2c, 1) := by decide +kernel
theorem dX5_addBond_12 : decode cX5_addBond 12 = .ok (.invokevirtual 58, 3) := by decide +kernel
theorem dX5_addBond_15 : decode cX5_addBond 15 = .ok (.iload_n 2, 1) := by decide +kernel
theorem dX5_addBond_16 : decode cX5_addBond 16 = .ok (.iconst 2, 1) := by decide +kernel
theorem dX5_addBond_17 : decode cX5_addBond 17 = .ok (.if_icmp .ne 9, 3) := by decide +kernel
theorem dX5_addBond_20 : decode cX5_addBond 20 = .ok (.aload_n 0, 1) := by decide +kernel
theorem dX5_addBond_21 : decode cX5_addBond 21 = .ok (.bipush 61, 2) := by decide +kernel
theorem dX5_addBond_23 : decode cX5_addBond 23 = .ok (.invokevirtual 58, 3) := by decide +kernel
theorem dX5_addBond_26 : decode cX5_addBond 26 = .ok (.iload_n 2, 1) := by decide +kernel
theorem dX5_addBond_27 : decode cX5_addBond 27 = .ok (.iconst 3, 1) := by decide +kernel
theorem dX5_addBond_28 : decode cX5_addBond 28 = .ok (.if_icmp .ne 9, 3) := by decide +kernel
theorem dX5_addBond_31 : decode cX5_addBond 31 = .ok (.aload_n 0, 1) := by decide +kernel
theorem dX5_addBond_32 : decode cX5_addBond 32 = .ok (.bipush 35, 2) := by decide +kernel
theorem dX5_addBond_34 : decode cX5_addBond 34 = .ok (.invokevirtual 58, 3) := by decide +kernel
theorem dX5_addBond_37 : decode cX5_addBond 37 = .ok (.iload_n 3, 1) := by decide +kernel
theorem dX5_addBond_38 : decode cX5_addBond 38 = .ok (.ifCond .eq 18, 3) := by decide +kernel
theorem dX5_addBond_41 : decode cX5_addBond 41 = .ok (.aload_n 0, 1) := by decide +kernel
theorem dX5_addBond_42 : decode cX5_addBond 42 = .ok (.iload_n 3, 1) := by decide +kernel
theorem dX5_addBond_43 : decode cX5_addBond 43 = .ok (.ifCond .le 8, 3) := by decide +kernel
theorem dX5_addBond_46 : decode cX5_addBond 46 = .ok (.bipush 99, 2) := by decide +kernel
theorem dX5_addBond_48 : decode cX5_addBond 48 = .ok (.goto 5, 3) := by decide +kernel
theorem dX5_addBond_51 : decode cX5_addBond 51 = .ok (.bipush 116, 2) := by decide +kernel
theorem dX5_addBond_53 : decode cX5_addBond 53 = .ok (.invokevirtual 58, 3) := by decide +kernel
theorem dX5_addBond_56 : decode cX5_addBond 56 = .ok (.aload_n 0, 1) := by decide +kernel
theorem dX5_addBond_57 : decode cX5_addBond 57 = .ok (.bipush 41, 2) := by decide +kernel
theorem dX5_addBond_59 : decode cX5_addBond 59 = .ok (.invokevirtual 58, 3) := by decide +kernel
theorem dX5_addBond_62 : decode cX5_addBond 62 = .ok (.return_, 1) := by decide +kernel
theorem dX6_at_0 : decode cX6_at 0 = .ok (.iload_n 1, 1) := by decide +kernel
theorem dX6_at_1 : decode cX6_at 1 = .ok (.ifCond .lt 26, 3) := by decide +kernel
theorem dX6_at_4 : decode cX6_at 4 = .ok (.iload_n 1, 1) := by decide +kernel
theorem dX6_at_5 : decode cX6_at 5 = .ok (.aload_n 0, 1) := by decide +kernel
theorem dX6_at_6 : decode cX6_at 6 = .ok (.getfield 55, 3) := by decide +kernel
theorem dX6_at_9 : decode cX6_at 9 = .ok (.getfield 182, 3) := by decide +kernel
theorem dX6_at_12 : decode cX6_at 12 = .ok (.if_icmp .ge 15, 3) := by decide +kernel
theorem dX6_at_15 : decode cX6_at 15 = .ok (.aload_n 0, 1) := by decide +kernel
theorem dX6_at_16 : decode cX6_at 16 = .ok (.getfield 55, 3) := by decide +kernel
theorem dX6_at_19 : decode cX6_at 19 = .ok (.getfield 185, 3) := by decide +kernel
theorem dX6_at_22 : decode cX6_at 22 = .ok (.iload_n 1, 1) := by decide +kernel
theorem dX6_at_23 : decode cX6_at 23 = .ok (.caload, 1) := by decide +kernel
theorem dX6_at_24 : decode cX6_at 24 = .ok (.goto 4, 3) := by decide +kernel
theorem dX6_at_27 : decode cX6_at 27 = .ok (.iconst (-1), 1) := by decide +kernel
theorem dX6_at_28 : decode cX6_at 28 = .ok (.ireturn, 1) := by decide +kernel
theorem dX7_init_0 : decode cX7_init 0 = .ok (.aload_n 0, 1) := by decide +kernel
theorem dX7_init_1 : decode cX7_init 1 = .ok (.invokespecial 1, 3) := by decide +kernel
theorem dX7_init_4 : decode cX7_init 4 = .ok (.aload_n 0, 1) := by decide +kernel
theorem dX7_init_5 : decode cX7_init 5 = .ok (.bipush 7, 2) := by decide +kernel
theorem dX7_init_7 : decode cX7_init 7 = .ok (.newarray .int, 2) := by decide +kernel
theorem dX7_init_9 : decode cX7_init 9 = .ok (.putfield 7, 3) := by decide +kernel
theorem dX7_init_12 : decode cX7_init 12 = .ok (.aload_n 0, 1) := by decide +kernel
theorem dX7_init_13 : decode cX7_init 13 = .ok (.bipush 7, 2) := by decide +kernel
theorem dX7_init_15 : decode cX7_init 15 = .ok (.newarray .int, 2) := by decide +kernel
theorem dX7_init_17 : decode cX7_init 17 = .ok (.putfield 13, 3) := by decide +kernel
theorem dX7_init_20 : decode cX7_init 20 = .ok (.aload_n 0, 1) := by decide +kernel
theorem dX7_init_21 : decode cX7_init 21 = .ok (.bipush 7, 2) := by decide +kernel
theorem dX7_init_23 : decode cX7_init 23 = .ok (.newarray .int, 2) := by decide +kernel
theorem dX7_init_25 : decode cX7_init 25 = .ok (.putfield 16, 3) := by decide +kernel
theorem dX7_init_28 : decode cX7_init 28 = .ok (.aload_n 0, 1) := by decide +kernel
theorem dX7_init_29 : decode cX7_init 29 = .ok (.bipush 9, 2) := by decide +kernel
theorem dX7_init_31 : decode cX7_init 31 = .ok (.newarray .int, 2) := by decide +kernel
theorem dX7_init_33 : decode cX7_init 33 = .ok (.putfield 19, 3) := by decide +kernel
theorem dX7_init_36 : decode cX7_init 36 = .ok (.aload_n 0, 1) := by decide +kernel
theorem dX7_init_37 : decode cX7_init 37 = .ok (.bipush 9, 2) := by decide +kernel
theorem dX7_init_39 : decode cX7_init 39 = .ok (.newarray .int, 2) := by decide +kernel
theorem dX7_init_41 : decode cX7_init 41 = .ok (.putfield 22, 3) := by decide +kernel
theorem dX7_init_44 : decode cX7_init 44 = .ok (.aload_n 0, 1) := by decide +kernel
theorem dX7_init_45 : decode cX7_init 45 = .ok (.bipush 9, 2) := by decide +kernel
theorem dX7_init_47 : decode cX7_init 47 = .ok (.newarray .int, 2) := by decide +kernel
theorem dX7_init_49 : decode cX7_init 49 = .ok (.putfield 25, 3) := by decide +kernel
theorem dX7_init_52 : decode cX7_init 52 = .ok (.aload_n 0, 1) := by decide +kernel
theorem dX7_init_53 : decode cX7_init 53 = .ok (.bipush 9, 2) := by decide +kernel
theorem dX7_init_55 : decode cX7_init 55 = .ok (.newarray .int, 2) := by decide +kernel
theorem dX7_init_57 : decode cX7_init 57 = .ok (.putfield 28, 3) := by decide +kernel
theorem dX7_init_60 : decode cX7_init 60 = .ok (.aload_n 0, 1) := by decide +kernel
theorem dX7_init_61 : decode cX7_init 61 = .ok (.bipush 7, 2) := by decide +kernel
theorem dX7_init_63 : decode cX7_init 63 = .ok (.newarray .int, 2) := by decide +kernel
theorem dX7_init_65 : decode cX7_init 65 = .ok (.putfield 31, 3) := by decide +kernel
theorem dX7_init_68 : decode cX7_init 68 = .ok (.aload_n 0, 1) := by decide +kernel
theorem dX7_init_69 : decode cX7_init 69 = .ok (.bipush 7, 2) := by decide +kernel
theorem dX7_init_71 : decode cX7_init 71 = .ok (.newarray .int, 2) := by decide +kernel
theorem dX7_init_73 : decode cX7_init 73 = .ok (.putfield 34, 3) := by decide +kernel
theorem dX7_init_76 : decode cX7_init 76 = .ok (.aload_n 0, 1) := by decide +kernel
theorem dX7_init_77 : decode cX7_init 77 = .ok (.bipush 7, 2) := by decide +kernel
theorem dX7_init_79 : decode cX7_init 79 = .ok (.newarray .int, 2) := by decide +kernel
theorem dX7_init_81 : decode cX7_init 81 = .ok (.putfield 37, 3) := by decide +kernel
theorem dX7_init_84 : decode cX7_init 84 = .ok (.aload_n 0, 1) := by decide +kernel
theorem dX7_init_85 : decode cX7_init 85 = .ok (.sipush 5040, 3) := by decide +kernel
theorem dX7_init_88 : decode cX7_init 88 = .ok (.newarray .int, 2) := by decide +kernel
theorem dX7_init_90 : decode cX7_init 90 = .ok (.putfield 40, 3) := by decide +kernel
theorem dX7_init_93 : decode cX7_init 93 = .ok (.aload_n 0, 1) := by decide +kernel
theorem dX7_init_94 : decode cX7_init 94 = .ok (.bipush 7, 2) := by decide +kernel
theorem dX7_init_96 : decode cX7_init 96 = .ok (.newarray .int, 2) := by decide +kernel
theorem dX7_init_98 : decode cX7_init 98 = .ok (.putfield 43, 3) := by decide +kernel
theorem dX7_init_101 : decode cX7_init 101 = .ok (.aload_n 0, 1) := by decide +kernel
theorem dX7_init_102 : decode cX7_init 102 = .ok (.sipush 128, 3) := by decide +kernel
theorem dX7_init_105 : decode cX7_init 105 = .ok (.newarray .int, 2) := by decide +kernel
theorem dX7_init_107 : decode cX7_init 107 = .ok (.putfield 46, 3) := by decide +kernel
theorem dX7_init_110 : decode cX7_init 110 = .ok (.aload_n 0, 1) := by decide +kernel
theorem dX7_init_111 : decode cX7_init 111 = .ok (.bipush 12, 2) := by decide +kernel
theorem dX7_init_113 : decode cX7_init 113 = .ok (.newarray .int, 2) := by decide +kernel
theorem dX7_init_115 : decode cX7_init 115 = .ok (.putfield 49, 3) := by decide +kernel
theorem dX7_init_118 : decode cX7_init 118 = .ok (.aload_n 0, 1) := by decide +kernel
theorem dX7_init_119 : decode cX7_init 119 = .ok (.bipush 16, 2) := by decide +kernel
theorem dX7_init_121 : decode cX7_init 121 = .ok (.newarray .int, 2) := by decide +kernel
theorem dX7_init_123 : decode cX7_init 123 = .ok (.putfield 52, 3) := by decide +kernel
theorem dX7_init_126 : decode cX7_init 126 = .ok (.return_, 1) := by decide +kernel
theorem dX7_atom_0 : decode cX7_atom 0 = .ok (.iload_n 1, 1) := by decide +kernel
theorem dX7_atom_1 : decode cX7_atom 1 = .ok (.ifCond .lt 22, 3) := by decide +kernel
theorem dX7_atom_4 : decode cX7_atom 4 = .ok (.iload_n 1, 1) := by decide +kernel
theorem dX7_atom_5 : decode cX7_atom 5 = .ok (.iconst 5, 1) := by decide +kernel
theorem dX7_atom_6 : decode cX7_atom 6 = .ok (.if_icmp .gt 17, 3) := by decide +kernel
theorem dX7_atom_9 : decode cX7_atom 9 = .ok (.iload_n 2, 1) := by decide +kernel
theorem dX7_atom_10 : decode cX7_atom 10 = .ok (.invokestatic 62, 3) := by decide +kernel
theorem dX7_atom_13 : decode cX7_atom 13 = .ok (.ifCond .eq 10, 3) := by decide +kernel
theorem dX7_atom_16 : decode cX7_atom 16 = .ok (.iload_n 3, 1) := by decide +kernel
theorem dX7_atom_17 : decode cX7_atom 17 = .ok (.invokestatic 62, 3) := by decide +kernel
theorem dX7_atom_20 : decode cX7_atom 20 = .ok (.ifCond .ne 5, 3) := by decide +kernel
theorem dX7_atom_23 : decode cX7_atom 23 = .ok (.iconst (-1), 1) := by decide +kernel
theorem dX7_atom_24 : decode cX7_atom 24 = .ok (.ireturn, 1) := by decide +kernel
theorem dX7_atom_25 : decode cX7_atom 25 = .ok (.aload_n 0, 1) := by decide +kernel
theorem dX7_atom_26 : decode cX7_atom 26 = .ok (.getfield 55, 3) := by decide +kernel
theorem dX7_atom_29 : decode cX7_atom 29 = .ok (.bipush 7, 2) := by decide +kernel
theorem dX7_atom_31 : decode cX7_atom 31 = .ok (.if_icmp .ne 6, 3) := by decide +kernel
theorem dX7_atom_34 : decode cX7_atom 34 = .ok (.bipush (-2), 2) := by decide +kernel
theorem dX7_atom_36 : decode cX7_atom 36 = .ok (.ireturn, 1) := by decide +kernel
theorem dX7_atom_37 : decode cX7_atom 37 = .ok (.aload_n 0, 1) := by decide +kernel
theorem dX7_atom_38 : decode cX7_atom 38 = .ok (.getfield 7, 3) := by decide +kernel
theorem dX7_atom_41 : decode cX7_atom 41 = .ok (.aload_n 0, 1) := by decide +kernel
theorem dX7_atom_42 : decode cX7_atom 42 = .ok (.getfield 55, 3) := by decide +kernel
theorem dX7_atom_45 : decode cX7_atom 45 = .ok (.iload_n 1, 1) := by decide +kernel
theorem dX7_atom_46 : decode cX7_atom 46 = .ok (.iastore, 1) := by decide +kernel
theorem dX7_atom_47 : decode cX7_atom 47 = .ok (.aload_n 0, 1) := by decide +kernel
theorem dX7_atom_48 : decode cX7_atom 48 = .ok (.getfield 13, 3) := by decide +kernel
theorem dX7_atom_51 : decode cX7_atom 51 = .ok (.aload_n 0, 1) := by decide +kernel
theorem dX7_atom_52 : decode cX7_atom 52 = .ok (.getfield 55, 3) := by decide +kernel
theorem dX7_atom_55 : decode cX7_atom 55 = .ok (.iload_n 2, 1) := by decide +kernel
theorem dX7_atom_56 : decode cX7_atom 56 = .ok (.iastore, 1) := by decide +kernel
theorem dX7_atom_57 : decode cX7_atom 57 = .ok (.aload_n 0, 1) := by decide +kernel
theorem dX7_atom_58 : decode cX7_atom 58 = .ok (.getfield 16, 3) := by decide +kernel
theorem dX7_atom_61 : decode cX7_atom 61 = .ok (.aload_n 0, 1) := by decide +kernel
theorem dX7_atom_62 : decode cX7_atom 62 = .ok (.getfield 55, 3) := by decide +kernel
theorem dX7_atom_65 : decode cX7_atom 65 = .ok (.iload_n 3, 1) := by decide +kernel
theorem dX7_atom_66 : decode cX7_atom 66 = .ok (.iastore, 1) := by decide +kernel
theorem dX7_atom_67 : decode cX7_atom 67 = .ok (.aload_n 0, 1) := by decide +kernel
theorem dX7_atom_68 : decode cX7_atom 68 = .ok (.dup, 1) := by decide +kernel
theorem dX7_atom_69 : decode cX7_atom 69 = .ok (.getfield 55, 3) := by decide +kernel
theorem dX7_atom_72 : decode cX7_atom 72 = .ok (.iconst 1, 1) := by decide +kernel
theorem dX7_atom_73 : decode cX7_atom 73 = .ok (.iadd, 1) := by decide +kernel
theorem dX7_atom_74 : decode cX7_atom 74 = .ok (.putfield 55, 3) := by decide +kernel
theorem dX7_atom_77 : decode cX7_atom 77 = .ok (.aload_n 0, 1) := by decide +kernel
theorem dX7_atom_78 : decode cX7_atom 78 = .ok (.iconst 0, 1) := by decide +kernel
theorem dX7_atom_79 : decode cX7_atom 79 = .ok (.putfield 66, 3) := by decide +kernel
theorem dX7_atom_82 : decode cX7_atom 82 = .ok (.aload_n 0, 1) := by decide +kernel
theorem dX7_atom_83 : decode cX7_atom 83 = .ok (.getfield 55, 3) := by decide +kernel
theorem dX7_atom_86 : decode cX7_atom 86 = .ok (.iconst 1, 1) := by decide +kernel
theorem dX7_atom_87 : decode cX7_atom 87 = .ok (.isub, 1) := by decide +kernel
theorem dX7_atom_88 : decode cX7_atom 88 = .ok (.ireturn, 1) := by decide +kernel
theorem dX7_isPlace_0 : decode cX7_isPlace 0 = .ok (.iload_n 0, 1) := by decide +kernel
theorem dX7_isPlace_1 : decode cX7_isPlace 1 = .ok (.sipush (-1000), 3) := by decide +kernel
theorem dX7_isPlace_4 : decode cX7_isPlace 4 = .ok (.if_icmp .lt 14, 3) := by decide +kernel
theorem dX7_isPlace_7 : decode cX7_isPlace 7 = .ok (.iload_n 0, 1) := by decide +kernel
theorem dX7_isPlace_8 : decode cX7_isPlace 8 = .ok (.sipush 1000, 3) := by decide +kernel
theorem dX7_isPlace_11 : decode cX7_isPlace 11 = .ok (.if_icmp .gt 7, 3) := by decide +kernel
theorem dX7_isPlace_14 : decode cX7_isPlace 14 = .ok (.iconst 1, 1) := by decide +kernel
theorem dX7_isPlace_15 : decode cX7_isPlace 15 = .ok (.goto 4, 3) := by decide +kernel
theorem dX7_isPlace_18 : decode cX7_isPlace 18 = .ok (.iconst 0, 1) := by decide +kernel
theorem dX7_isPlace_19 : decode cX7_isPlace 19 = .ok (.ireturn, 1) := by decide +kernel
theorem dX7_bond_0 : decode cX7_bond 0 = .ok (.aload_n 0, 1) := by decide +kernel
theorem dX7_bond_1 : decode cX7_bond 1 = .ok (.iload_n 1, 1) := by decide +kernel
theorem dX7_bond_2 : decode cX7_bond 2 = .ok (.invokevirtual 74, 3) := by decide +kernel
theorem dX7_bond_5 : decode cX7_bond 5 = .ok (.ifCond .eq 46, 3) := by decide +kernel
theorem dX7_bond_8 : decode cX7_bond 8 = .ok (.aload_n 0, 1) := by decide +kernel
theorem dX7_bond_9 : decode cX7_bond 9 = .ok (.iload_n 2, 1) := by decide +kernel
theorem dX7_bond_10 : decode cX7_bond 10 = .ok (.invokevirtual 74, 3) := by decide +kernel
theorem dX7_bond_13 : decode cX7_bond 13 = .ok (.ifCond .eq 38, 3) := by decide +kernel
theorem dX7_bond_16 : decode cX7_bond 16 = .ok (.iload_n 1, 1) := by decide +kernel
theorem dX7_bond_17 : decode cX7_bond 17 = .ok (.iload_n 2, 1) := by decide +kernel
theorem dX7_bond_18 : decode cX7_bond 18 = .ok (.if_icmp .eq 33, 3) := by decide +kernel
theorem dX7_bond_21 : decode cX7_bond 21 = .ok (.iload_n 3, 1) := by decide +kernel
theorem dX7_bond_22 : decode cX7_bond 22 = .ok (.iconst 1, 1) := by decide +kernel
theorem dX7_bond_23 : decode cX7_bond 23 = .ok (.if_icmp .lt 28, 3) := by decide +kernel
theorem dX7_bond_26 : decode cX7_bond 26 = .ok (.iload_n 3, 1) := by decide +kernel
theorem dX7_bond_27 : decode cX7_bond 27 = .ok (.iconst 3, 1) := by decide +kernel
theorem dX7_bond_28 : decode cX7_bond 28 = .ok (.if_icmp .gt 23, 3) := by decide +kernel
theorem dX7_bond_31 : decode cX7_bond 31 = .ok (.iload 4, 2) := by decide +kernel
theorem dX7_bond_33 : decode cX7_bond 33 = .ok (.ifCond .lt 18, 3) := by decide +kernel
theorem dX7_bond_36 : decode cX7_bond 36 = .ok (.iload 4, 2) := by decide +kernel
theorem dX7_bond_38 : decode cX7_bond 38 = .ok (.iconst 2, 1) := by decide +kernel
theorem dX7_bond_39 : decode cX7_bond 39 = .ok (.if_icmp .gt 12, 3) := by decide +kernel
theorem dX7_bond_42 : decode cX7_bond 42 = .ok (.aload_n 0, 1) := by decide +kernel
theorem dX7_bond_43 : decode cX7_bond 43 = .ok (.iload_n 1, 1) := by decide +kernel
theorem dX7_bond_44 : decode cX7_bond 44 = .ok (.iload_n 2, 1) := by decide +kernel
theorem dX7_bond_45 : decode cX7_bond 45 = .ok (.invokevirtual 77, 3) := by decide +kernel
theorem dX7_bond_48 : decode cX7_bond 48 = .ok (.ifCond .lt 5, 3) := by decide +kernel
theorem dX7_bond_51 : decode cX7_bond 51 = .ok (.iconst (-1), 1) := by decide +kernel
theorem dX7_bond_52 : decode cX7_bond 52 = .ok (.ireturn, 1) := by decide +kernel
theorem dX7_bond_53 : decode cX7_bond 53 = .ok (.aload_n 0, 1) := by decide +kernel
theorem dX7_bond_54 : decode cX7_bond 54 = .ok (.getfield 59, 3) := by decide +kernel
theorem dX7_bond_57 : decode cX7_bond 57 = .ok (.bipush 9, 2) := by decide +kernel
theorem dX7_bond_59 : decode cX7_bond 59 = .ok (.if_icmp .ne 6, 3) := by decide +kernel
theorem dX7_bond_62 : decode cX7_bond 62 = .ok (.bipush (-2), 2) := by decide +kernel
theorem dX7_bond_64 : decode cX7_bond 64 = .ok (.ireturn, 1) := by decide +kernel
theorem dX7_bond_65 : decode cX7_bond 65 = .ok (.aload_n 0, 1) := by decide +kernel
theorem dX7_bond_66 : decode cX7_bond 66 = .ok (.iload_n 1, 1) := by decide +kernel
theorem dX7_bond_67 : decode cX7_bond 67 = .ok (.invokevirtual 81, 3) := by decide +kernel
theorem dX7_bond_70 : decode cX7_bond 70 = .ok (.iload_n 3, 1) := by decide +kernel
theorem dX7_bond_71 : decode cX7_bond 71 = .ok (.if_icmp .lt 12, 3) := by decide +kernel
theorem dX7_bond_74 : decode cX7_bond 74 = .ok (.aload_n 0, 1) := by decide +kernel
theorem dX7_bond_75 : decode cX7_bond 75 = .ok (.iload_n 2, 1) := by decide +kernel
theorem dX7_bond_76 : decode cX7_bond 76 = .ok (.invokevirtual 81, 3) := by decide +kernel
theorem dX7_bond_79 : decode cX7_bond 79 = .ok (.iload_n 3, 1) := by decide +kernel
theorem dX7_bond_80 : decode cX7_bond 80 = .ok (.if_icmp .ge 6, 3) := by decide +kernel
theorem dX7_bond_83 : decode cX7_bond 83 = .ok (.bipush (-3), 2) := by decide +kernel
theorem dX7_bond_85 : decode cX7_bond 85 = .ok (.ireturn, 1) := by decide +kernel
theorem dX7_bond_86 : decode cX7_bond 86 = .ok (.aload_n 0, 1) := by decide +kernel
theorem dX7_bond_87 : decode cX7_bond 87 = .ok (.getfield 19, 3) := by decide +kernel
theorem dX7_bond_90 : decode cX7_bond 90 = .ok (.aload_n 0, 1) := by decide +kernel
theorem dX7_bond_91 : decode cX7_bond 91 = .ok (.getfield 59, 3) := by decide +kernel
theorem dX7_bond_94 : decode cX7_bond 94 = .ok (.iload_n 1, 1) := by decide +kernel
theorem dX7_bond_95 : decode cX7_bond 95 = .ok (.iastore, 1) := by decide +kernel
theorem dX7_bond_96 : decode cX7_bond 96 = .ok (.aload_n 0, 1) := by decide +kernel
theorem dX7_bond_97 : decode cX7_bond 97 = .ok (.getfield 22, 3) := by decide +kernel
theorem dX7_bond_100 : decode cX7_bond 100 = .ok (.aload_n 0, 1) := by decide +kernel
theorem dX7_bond_101 : decode cX7_bond 101 = .ok (.getfield 59, 3) := by decide +kernel
theorem dX7_bond_104 : decode cX7_bond 104 = .ok (.iload_n 2, 1) := by decide +kernel
theorem dX7_bond_105 : decode cX7_bond 105 = .ok (.iastore, 1) := by decide +kernel
theorem dX7_bond_106 : decode cX7_bond 106 = .ok (.aload_n 0, 1) := by decide +kernel
theorem dX7_bond_107 : decode cX7_bond 107 = .ok (.getfield 25, 3) := by decide +kernel
theorem dX7_bond_110 : decode cX7_bond 110 = .ok (.aload_n 0, 1) := by decide +kernel
theorem dX7_bond_111 : decode cX7_bond 111 = .ok (.getfield 59, 3) := by decide +kernel
theorem dX7_bond_114 : decode cX7_bond 114 = .ok (.iload_n 3, 1) := by decide +kernel
theorem dX7_bond_115 : decode cX7_bond 115 = .ok (.iastore, 1) := by decide +kernel
theorem dX7_bond_116 : decode cX7_bond 116 = .ok (.aload_n 0, 1) := by decide +kernel
theorem dX7_bond_117 : decode cX7_bond 117 = .ok (.getfield 28, 3) := by decide +kernel
theorem dX7_bond_120 : decode cX7_bond 120 = .ok (.aload_n 0, 1) := by decide +kernel
theorem dX7_bond_121 : decode cX7_bond 121 = .ok (.getfield 59, 3) := by decide +kernel
theorem dX7_bond_124 : decode cX7_bond 124 = .ok (.iload 4, 2) := by decide +kernel
theorem dX7_bond_126 : decode cX7_bond 126 = .ok (.iastore, 1) := by decide +kernel
theorem dX7_bond_127 : decode cX7_bond 127 = .ok (.aload_n 0, 1) := by decide +kernel
theorem dX7_bond_128 : decode cX7_bond 128 = .ok (.dup, 1) := by decide +kernel
theorem dX7_bond_129 : decode cX7_bond 129 = .ok (.getfield 59, 3) := by decide +kernel
theorem dX7_bond_132 : decode cX7_bond 132 = .ok (.iconst 1, 1) := by decide +kernel
theorem dX7_bond_133 : decode cX7_bond 133 = .ok (.iadd, 1) := by decide +kernel
theorem dX7_bond_134 : decode cX7_bond 134 = .ok (.putfield 59, 3) := by decide +kernel
theorem dX7_bond_137 : decode cX7_bond 137 = .ok (.aload_n 0, 1) := by decide +kernel
theorem dX7_bond_138 : decode cX7_bond 138 = .ok (.iconst 0, 1) := by decide +kernel
theorem dX7_bond_139 : decode cX7_bond 139 = .ok (.putfield 66, 3) := by decide +kernel
theorem dX7_bond_142 : decode cX7_bond 142 = .ok (.aload_n 0, 1) := by decide +kernel
theorem dX7_bond_143 : decode cX7_bond 143 = .ok (.getfield 59, 3) := by decide +kernel
theorem dX7_bond_146 : decode cX7_bond 146 = .ok (.iconst 1, 1) := by decide +kernel
theorem dX7_bond_147 : decode cX7_bond 147 = .ok (.isub, 1) := by decide +kernel
theorem dX7_bond_148 : decode cX7_bond 148 = .ok (.ireturn, 1) := by decide +kernel
theorem dX7_isAtom_0 : decode cX7_isAtom 0 = .ok (.iload_n 1, 1) := by decide +kernel
theorem dX7_isAtom_1 : decode cX7_isAtom 1 = .ok (.ifCond .lt 15, 3) := by decide +kernel
theorem dX7_isAtom_4 : decode cX7_isAtom 4 = .ok (.iload_n 1, 1) := by decide +kernel
theorem dX7_isAtom_5 : decode cX7_isAtom 5 = .ok (.aload_n 0, 1) := by decide +kernel
theorem dX7_isAtom_6 : decode cX7_isAtom 6 = .ok (.getfield 55, 3) := by decide +kernel
theorem dX7_isAtom_9 : decode cX7_isAtom 9 = .ok (.if_icmp .ge 7, 3) := by decide +kernel
theorem dX7_isAtom_12 : decode cX7_isAtom 12 = .ok (.iconst 1, 1) := by decide +kernel
theorem dX7_isAtom_13 : decode cX7_isAtom 13 = .ok (.goto 4, 3) := by decide +kernel
theorem dX7_isAtom_16 : decode cX7_isAtom 16 = .ok (.iconst 0, 1) := by decide +kernel
theorem dX7_isAtom_17 : decode cX7_isAtom 17 = .ok (.ireturn, 1) := by decide +kernel
theorem dX7_bondOf_0 : decode cX7_bondOf 0 = .ok (.iconst (-1), 1) := by decide +kernel
theorem dX7_bondOf_1 : decode cX7_bondOf 1 = .ok (.istore_n 3, 1) := by decide +kernel
theorem dX7_bondOf_2 : decode cX7_bondOf 2 = .ok (.iconst 0, 1) := by decide +kernel
theorem dX7_bondOf_3 : decode cX7_bondOf 3 = .ok (.istore 4, 2) := by decide +kernel
theorem dX7_bondOf_5 : decode cX7_bondOf 5 = .ok (.iload 4, 2) := by decide +kernel
theorem dX7_bondOf_7 : decode cX7_bondOf 7 = .ok (.aload_n 0, 1) := by decide +kernel
theorem dX7_bondOf_8 : decode cX7_bondOf 8 = .ok (.getfield 59, 3) := by decide +kernel
theorem dX7_bondOf_11 : decode cX7_bondOf 11 = .ok (.if_icmp .ge 60, 3) := by decide +kernel
theorem dX7_bondOf_14 : decode cX7_bondOf 14 = .ok (.aload_n 0, 1) := by decide +kernel
theorem dX7_bondOf_15 : decode cX7_bondOf 15 = .ok (.getfield 19, 3) := by decide +kernel
theorem dX7_bondOf_18 : decode cX7_bondOf 18 = .ok (.iload 4, 2) := by decide +kernel
theorem dX7_bondOf_20 : decode cX7_bondOf 20 = .ok (.iaload, 1) := by decide +kernel
theorem dX7_bondOf_21 : decode cX7_bondOf 21 = .ok (.iload_n 1, 1) := by decide +kernel
theorem dX7_bondOf_22 : decode cX7_bondOf 22 = .ok (.if_icmp .ne 14, 3) := by decide +kernel
theorem dX7_bondOf_25 : decode cX7_bondOf 25 = .ok (.aload_n 0, 1) := by decide +kernel
theorem dX7_bondOf_26 : decode cX7_bondOf 26 = .ok (.getfield 22, 3) := by decide +kernel
theorem dX7_bondOf_29 : decode cX7_bondOf 29 = .ok (.iload 4, 2) := by decide +kernel
theorem dX7_bondOf_31 : decode cX7_bondOf 31 = .ok (.iaload, 1) := by decide +kernel
theorem dX7_bondOf_32 : decode cX7_bondOf 32 = .ok (.iload_n 2, 1) := by decide +kernel
theorem dX7_bondOf_33 : decode cX7_bondOf 33 = .ok (.if_icmp .eq 25, 3) := by decide +kernel
theorem dX7_bondOf_36 : decode cX7_bondOf 36 = .ok (.aload_n 0, 1) := by decide +kernel
theorem dX7_bondOf_37 : decode cX7_bondOf 37 = .ok (.getfield 19, 3) := by decide +kernel
theorem dX7_bondOf_40 : decode cX7_bondOf 40 = .ok (.iload 4, 2) := by decide +kernel
theorem dX7_bondOf_42 : decode cX7_bondOf 42 = .ok (.iaload, 1) := by decide +kernel
theorem dX7_bondOf_43 : decode cX7_bondOf 43 = .ok (.iload_n 2, 1) := by decide +kernel
theorem dX7_bondOf_44 : decode cX7_bondOf 44 = .ok (.if_icmp .ne 19, 3) := by decide +kernel
theorem dX7_bondOf_47 : decode cX7_bondOf 47 = .ok (.aload_n 0, 1) := by decide +kernel
theorem dX7_bondOf_48 : decode cX7_bondOf 48 = .ok (.getfield 22, 3) := by decide +kernel
theorem dX7_bondOf_51 : decode cX7_bondOf 51 = .ok (.iload 4, 2) := by decide +kernel
theorem dX7_bondOf_53 : decode cX7_bondOf 53 = .ok (.iaload, 1) := by decide +kernel
theorem dX7_bondOf_54 : decode cX7_bondOf 54 = .ok (.iload_n 1, 1) := by decide +kernel
theorem dX7_bondOf_55 : decode cX7_bondOf 55 = .ok (.if_icmp .ne 8, 3) := by decide +kernel
theorem dX7_bondOf_58 : decode cX7_bondOf 58 = .ok (.iload 4, 2) := by decide +kernel
theorem dX7_bondOf_60 : decode cX7_bondOf 60 = .ok (.goto 4, 3) := by decide +kernel
theorem dX7_bondOf_63 : decode cX7_bondOf 63 = .ok (.iload_n 3, 1) := by decide +kernel
theorem dX7_bondOf_64 : decode cX7_bondOf 64 = .ok (.istore_n 3, 1) := by decide +kernel
theorem dX7_bondOf_65 : decode cX7_bondOf 65 = .ok (.iinc 4 1, 3) := by decide +kernel
theorem dX7_bondOf_68 : decode cX7_bondOf 68 = .ok (.goto (-63), 3) := by decide +kernel
theorem dX7_bondOf_71 : decode cX7_bondOf 71 = .ok (.iload_n 3, 1) := by decide +kernel
theorem dX7_bondOf_72 : decode cX7_bondOf 72 = .ok (.ireturn, 1) := by decide +kernel
theorem dX7_left_0 : decode cX7_left 0 = .ok (.aload_n 0, 1) := by decide +kernel
theorem dX7_left_1 : decode cX7_left 1 = .ok (.getfield 7, 3) := by decide +kernel
theorem dX7_left_4 : decode cX7_left 4 = .ok (.iload_n 1, 1) := by decide +kernel
theorem dX7_left_5 : decode cX7_left 5 = .ok (.iaload, 1) := by decide +kernel
theorem dX7_left_6 : decode cX7_left 6 = .ok (.invokestatic 70, 3) := by decide +kernel
theorem dX7_left_9 : decode cX7_left 9 = .ok (.istore_n 2, 1) := by decide +kernel
theorem dX7_left_10 : decode cX7_left 10 = .ok (.iconst 0, 1) := by decide +kernel
theorem dX7_left_11 : decode cX7_left 11 = .ok (.istore_n 3, 1) := by decide +kernel
theorem dX7_left_12 : decode cX7_left 12 = .ok (.iload_n 3, 1) := by decide +kernel
theorem dX7_left_13 : decode cX7_left 13 = .ok (.aload_n 0, 1) := by decide +kernel
theorem dX7_left_14 : decode cX7_left 14 = .ok (.getfield 59, 3) := by decide +kernel
theorem dX7_left_17 : decode cX7_left 17 = .ok (.if_icmp .ge 42, 3) := by decide +kernel
theorem dX7_left_20 : decode cX7_left 20 = .ok (.iload_n 2, 1) := by decide +kernel
theorem dX7_left_21 : decode cX7_left 21 = .ok (.aload_n 0, 1) := by decide +kernel
theorem dX7_left_22 : decode cX7_left 22 = .ok (.getfield 19, 3) := by decide +kernel
theorem dX7_left_25 : decode cX7_left 25 = .ok (.iload_n 3, 1) := by decide +kernel
theorem dX7_left_26 : decode cX7_left 26 = .ok (.iaload, 1) := by decide +kernel
theorem dX7_left_27 : decode cX7_left 27 = .ok (.iload_n 1, 1) := by decide +kernel
theorem dX7_left_28 : decode cX7_left 28 = .ok (.if_icmp .eq 13, 3) := by decide +kernel
theorem dX7_left_31 : decode cX7_left 31 = .ok (.aload_n 0, 1) := by decide +kernel
theorem dX7_left_32 : decode cX7_left 32 = .ok (.getfield 22, 3) := by decide +kernel
theorem dX7_left_35 : decode cX7_left 35 = .ok (.iload_n 3, 1) := by decide +kernel
theorem dX7_left_36 : decode cX7_left 36 = .ok (.iaload, 1) := by decide +kernel
theorem dX7_left_37 : decode cX7_left 37 = .ok (.iload_n 1, 1) := by decide +kernel
theorem dX7_left_38 : decode cX7_left 38 = .ok (.if_icmp .ne 12, 3) := by decide +kernel
theorem dX7_left_41 : decode cX7_left 41 = .ok (.aload_n 0, 1) := by decide +kernel
theorem dX7_left_42 : decode cX7_left 42 = .ok (.getfield 25, 3) := by decide +kernel
theorem dX7_left_45 : decode cX7_left 45 = .ok (.iload_n 3, 1) := by decide +kernel
theorem dX7_left_46 : decode cX7_left 46 = .ok (.iaload, 1) := by decide +kernel
theorem dX7_left_47 : decode cX7_left 47 = .ok (.goto 4, 3) := by decide +kernel
theorem dX7_left_50 : decode cX7_left 50 = .ok (.iconst 0, 1) := by decide +kernel
theorem dX7_left_51 : decode cX7_left 51 = .ok (.isub, 1) := by decide +kernel
theorem dX7_left_52 : decode cX7_left 52 = .ok (.istore_n 2, 1) := by decide +kernel
theorem dX7_left_53 : decode cX7_left 53 = .ok (.iinc 3 1, 3) := by decide +kernel
theorem dX7_left_56 : decode cX7_left 56 = .ok (.goto (-44), 3) := by decide +kernel
theorem dX7_left_59 : decode cX7_left 59 = .ok (.iload_n 2, 1) := by decide +kernel
theorem dX7_left_60 : decode cX7_left 60 = .ok (.ireturn, 1) := by decide +kernel
theorem dX7_valence_0 : decode cX7_valence 0 = .ok (.iload_n 0, 1) := by decide +kernel
theorem dX7_valence_1 : decode cX7_valence 1 = .ok (.ifCond .ne 7, 3) := by decide +kernel
theorem dX7_valence_4 : decode cX7_valence 4 = .ok (.iconst 4, 1) := by decide +kernel
theorem dX7_valence_5 : decode cX7_valence 5 = .ok (.goto 27, 3) := by decide +kernel
theorem dX7_valence_8 : decode cX7_valence 8 = .ok (.iload_n 0, 1) := by decide +kernel
theorem dX7_valence_9 : decode cX7_valence 9 = .ok (.iconst 1, 1) := by decide +kernel
theorem dX7_valence_10 : decode cX7_valence 10 = .ok (.if_icmp .ne 7, 3) := by decide +kernel
theorem dX7_valence_13 : decode cX7_valence 13 = .ok (.iconst 3, 1) := by decide +kernel
theorem dX7_valence_14 : decode cX7_valence 14 = .ok (.goto 18, 3) := by decide +kernel
theorem dX7_valence_17 : decode cX7_valence 17 = .ok (.iload_n 0, 1) := by decide +kernel
theorem dX7_valence_18 : decode cX7_valence 18 = .ok (.iconst 2, 1) := by decide +kernel
theorem dX7_valence_19 : decode cX7_valence 19 = .ok (.if_icmp .eq 8, 3) := by decide +kernel
theorem dX7_valence_22 : decode cX7_valence 22 = .ok (.iload_n 0, 1) := by decide +kernel
theorem dX7_valence_23 : decode cX7_valence 23 = .ok (.iconst 5, 1) := by decide +kernel
theorem dX7_valence_24 : decode cX7_valence 24 = .ok (.if_icmp .ne 7, 3) := by decide +kernel
theorem dX7_valence_27 : decode cX7_valence 27 = .ok (.iconst 2, 1) := by decide +kernel
theorem dX7_valence_28 : decode cX7_valence 28 = .ok (.goto 4, 3) := by decide +kernel
theorem dX7_valence_31 : decode cX7_valence 31 = .ok (.iconst 1, 1) := by decide +kernel
theorem dX7_valence_32 : decode cX7_valence 32 = .ok (.ireturn, 1) := by decide +kernel
theorem dX7_move_0 : decode cX7_move 0 = .ok (.aload_n 0, 1) := by decide +kernel
theorem dX7_move_1 : decode cX7_move 1 = .ok (.iload_n 1, 1) := by decide +kernel
theorem dX7_move_2 : decode cX7_move 2 = .ok (.invokevirtual 74, 3) := by decide +kernel
theorem dX7_move_5 : decode cX7_move 5 = .ok (.ifCond .eq 17, 3) := by decide +kernel
theorem dX7_move_8 : decode cX7_move 8 = .ok (.iload_n 2, 1) := by decide +kernel
theorem dX7_move_9 : decode cX7_move 9 = .ok (.invokestatic 62, 3) := by decide +kernel
theorem dX7_move_12 : decode cX7_move 12 = .ok (.ifCond .eq 10, 3) := by decide +kernel
theorem dX7_move_15 : decode cX7_move 15 = .ok (.iload_n 3, 1) := by decide +kernel
theorem dX7_move_16 : decode cX7_move 16 = .ok (.invokestatic 62, 3) := by decide +kernel
theorem dX7_move_19 : decode cX7_move 19 = .ok (.ifCond .ne 5, 3) := by decide +kernel
theorem dX7_move_22 : decode cX7_move 22 = .ok (.iconst 0, 1) := by decide +kernel
theorem dX7_move_23 : decode cX7_move 23 = .ok (.ireturn, 1) := by decide +kernel
theorem dX7_move_24 : decode cX7_move 24 = .ok (.aload_n 0, 1) := by decide +kernel
theorem dX7_move_25 : decode cX7_move 25 = .ok (.getfield 13, 3) := by decide +kernel
theorem dX7_move_28 : decode cX7_move 28 = .ok (.iload_n 1, 1) := by decide +kernel
theorem dX7_move_29 : decode cX7_move 29 = .ok (.iload_n 2, 1) := by decide +kernel
theorem dX7_move_30 : decode cX7_move 30 = .ok (.iastore, 1) := by decide +kernel
theorem dX7_move_31 : decode cX7_move 31 = .ok (.aload_n 0, 1) := by decide +kernel
theorem dX7_move_32 : decode cX7_move 32 = .ok (.getfield 16, 3) := by decide +kernel
theorem dX7_move_35 : decode cX7_move 35 = .ok (.iload_n 1, 1) := by decide +kernel
theorem dX7_move_36 : decode cX7_move 36 = .ok (.iload_n 3, 1) := by decide +kernel
theorem dX7_move_37 : decode cX7_move 37 = .ok (.iastore, 1) := by decide +kernel
theorem dX7_move_38 : decode cX7_move 38 = .ok (.iconst 1, 1) := by decide +kernel
theorem dX7_move_39 : decode cX7_move 39 = .ok (.ireturn, 1) := by decide +kernel
theorem dX7_mark_0 : decode cX7_mark 0 = .ok (.aload_n 0, 1) := by decide +kernel
theorem dX7_mark_1 : decode cX7_mark 1 = .ok (.iload_n 1, 1) := by decide +kernel
theorem dX7_mark_2 : decode cX7_mark 2 = .ok (.invokevirtual 84, 3) := by decide +kernel
theorem dX7_mark_5 : decode cX7_mark 5 = .ok (.ifCond .eq 32, 3) := by decide +kernel
theorem dX7_mark_8 : decode cX7_mark 8 = .ok (.iload_n 2, 1) := by decide +kernel
theorem dX7_mark_9 : decode cX7_mark 9 = .ok (.ifCond .lt 28, 3) := by decide +kernel
theorem dX7_mark_12 : decode cX7_mark 12 = .ok (.iload_n 2, 1) := by decide +kernel
theorem dX7_mark_13 : decode cX7_mark 13 = .ok (.iconst 2, 1) := by decide +kernel
theorem dX7_mark_14 : decode cX7_mark 14 = .ok (.if_icmp .gt 23, 3) := by decide +kernel
theorem dX7_mark_17 : decode cX7_mark 17 = .ok (.aload_n 0, 1) := by decide +kernel
theorem dX7_mark_18 : decode cX7_mark 18 = .ok (.getfield 19, 3) := by decide +kernel
theorem dX7_mark_21 : decode cX7_mark 21 = .ok (.iload_n 1, 1) := by decide +kernel
theorem dX7_mark_22 : decode cX7_mark 22 = .ok (.iaload, 1) := by decide +kernel
theorem dX7_mark_23 : decode cX7_mark 23 = .ok (.iload_n 3, 1) := by decide +kernel
theorem dX7_mark_24 : decode cX7_mark 24 = .ok (.if_icmp .eq 15, 3) := by decide +kernel
theorem dX7_mark_27 : decode cX7_mark 27 = .ok (.aload_n 0, 1) := by decide +kernel
theorem dX7_mark_28 : decode cX7_mark 28 = .ok (.getfield 22, 3) := by decide +kernel
theorem dX7_mark_31 : decode cX7_mark 31 = .ok (.iload_n 1, 1) := by decide +kernel
theorem dX7_mark_32 : decode cX7_mark 32 = .ok (.iaload, 1) := by decide +kernel
theorem dX7_mark_33 : decode cX7_mark 33 = .ok (.iload_n 3, 1) := by decide +kernel
theorem dX7_mark_34 : decode cX7_mark 34 = .ok (.if_icmp .eq 5, 3) := by decide +kernel
theorem dX7_mark_37 : decode cX7_mark 37 = .ok (.iconst 0, 1) := by decide +kernel
theorem dX7_mark_38 : decode cX7_mark 38 = .ok (.ireturn, 1) := by decide +kernel
theorem dX7_mark_39 : decode cX7_mark 39 = .ok (.aload_n 0, 1) := by decide +kernel
theorem dX7_mark_40 : decode cX7_mark 40 = .ok (.getfield 19, 3) := by decide +kernel
theorem dX7_mark_43 : decode cX7_mark 43 = .ok (.iload_n 1, 1) := by decide +kernel
theorem dX7_mark_44 : decode cX7_mark 44 = .ok (.iaload, 1) := by decide +kernel
theorem dX7_mark_45 : decode cX7_mark 45 = .ok (.aload_n 0, 1) := by decide +kernel
theorem dX7_mark_46 : decode cX7_mark 46 = .ok (.getfield 22, 3) := by decide +kernel
theorem dX7_mark_49 : decode cX7_mark 49 = .ok (.iload_n 1, 1) := by decide +kernel
theorem dX7_mark_50 : decode cX7_mark 50 = .ok (.iaload, 1) := by decide +kernel
theorem dX7_mark_51 : decode cX7_mark 51 = .ok (.iadd, 1) := by decide +kernel
theorem dX7_mark_52 : decode cX7_mark 52 = .ok (.iload_n 3, 1) := by decide +kernel
theorem dX7_mark_53 : decode cX7_mark 53 = .ok (.isub, 1) := by decide +kernel
theorem dX7_mark_54 : decode cX7_mark 54 = .ok (.istore 4, 2) := by decide +kernel
theorem dX7_mark_56 : decode cX7_mark 56 = .ok (.aload_n 0, 1) := by decide +kernel
theorem dX7_mark_57 : decode cX7_mark 57 = .ok (.getfield 19, 3) := by decide +kernel
theorem dX7_mark_60 : decode cX7_mark 60 = .ok (.iload_n 1, 1) := by decide +kernel
theorem dX7_mark_61 : decode cX7_mark 61 = .ok (.iload_n 3, 1) := by decide +kernel
theorem dX7_mark_62 : decode cX7_mark 62 = .ok (.iastore, 1) := by decide +kernel
theorem dX7_mark_63 : decode cX7_mark 63 = .ok (.aload_n 0, 1) := by decide +kernel
theorem dX7_mark_64 : decode cX7_mark 64 = .ok (.getfield 22, 3) := by decide +kernel
theorem dX7_mark_67 : decode cX7_mark 67 = .ok (.iload_n 1, 1) := by decide +kernel
theorem dX7_mark_68 : decode cX7_mark 68 = .ok (.iload 4, 2) := by decide +kernel
theorem dX7_mark_70 : decode cX7_mark 70 = .ok (.iastore, 1) := by decide +kernel
theorem dX7_mark_71 : decode cX7_mark 71 = .ok (.aload_n 0, 1) := by decide +kernel
theorem dX7_mark_72 : decode cX7_mark 72 = .ok (.getfield 28, 3) := by decide +kernel
theorem dX7_mark_75 : decode cX7_mark 75 = .ok (.iload_n 1, 1) := by decide +kernel
theorem dX7_mark_76 : decode cX7_mark 76 = .ok (.iload_n 2, 1) := by decide +kernel
theorem dX7_mark_77 : decode cX7_mark 77 = .ok (.iastore, 1) := by decide +kernel
theorem dX7_mark_78 : decode cX7_mark 78 = .ok (.iconst 1, 1) := by decide +kernel
theorem dX7_mark_79 : decode cX7_mark 79 = .ok (.ireturn, 1) := by decide +kernel
theorem dX7_isBond_0 : decode cX7_isBond 0 = .ok (.iload_n 1, 1) := by decide +kernel
theorem dX7_isBond_1 : decode cX7_isBond 1 = .ok (.ifCond .lt 15, 3) := by decide +kernel
theorem dX7_isBond_4 : decode cX7_isBond 4 = .ok (.iload_n 1, 1) := by decide +kernel
theorem dX7_isBond_5 : decode cX7_isBond 5 = .ok (.aload_n 0, 1) := by decide +kernel
theorem dX7_isBond_6 : decode cX7_isBond 6 = .ok (.getfield 59, 3) := by decide +kernel
theorem dX7_isBond_9 : decode cX7_isBond 9 = .ok (.if_icmp .ge 7, 3) := by decide +kernel
theorem dX7_isBond_12 : decode cX7_isBond 12 = .ok (.iconst 1, 1) := by decide +kernel
theorem dX7_isBond_13 : decode cX7_isBond 13 = .ok (.goto 4, 3) := by decide +kernel
theorem dX7_isBond_16 : decode cX7_isBond 16 = .ok (.iconst 0, 1) := by decide +kernel
theorem dX7_isBond_17 : decode cX7_isBond 17 = .ok (.ireturn, 1) := by decide +kernel
theorem dX7_clear_0 : decode cX7_clear 0 = .ok (.aload_n 0, 1) := by decide +kernel
theorem dX7_clear_1 : decode cX7_clear 1 = .ok (.getfield 55, 3) := by decide +kernel
theorem dX7_clear_4 : decode cX7_clear 4 = .ok (.istore_n 1, 1) := by decide +kernel
theorem dX7_clear_5 : decode cX7_clear 5 = .ok (.aload_n 0, 1) := by decide +kernel
theorem dX7_clear_6 : decode cX7_clear 6 = .ok (.iconst 0, 1) := by decide +kernel
theorem dX7_clear_7 : decode cX7_clear 7 = .ok (.putfield 55, 3) := by decide +kernel
theorem dX7_clear_10 : decode cX7_clear 10 = .ok (.aload_n 0, 1) := by decide +kernel
theorem dX7_clear_11 : decode cX7_clear 11 = .ok (.iconst 0, 1) := by decide +kernel
theorem dX7_clear_12 : decode cX7_clear 12 = .ok (.putfield 59, 3) := by decide +kernel
theorem dX7_clear_15 : decode cX7_clear 15 = .ok (.aload_n 0, 1) := by decide +kernel
theorem dX7_clear_16 : decode cX7_clear 16 = .ok (.iconst 0, 1) := by decide +kernel
theorem dX7_clear_17 : decode cX7_clear 17 = .ok (.putfield 66, 3) := by decide +kernel
theorem dX7_clear_20 : decode cX7_clear 20 = .ok (.iload_n 1, 1) := by decide +kernel
theorem dX7_clear_21 : decode cX7_clear 21 = .ok (.ireturn, 1) := by decide +kernel
theorem dX7_flip_0 : decode cX7_flip 0 = .ok (.iconst 0, 1) := by decide +kernel
theorem dX7_flip_1 : decode cX7_flip 1 = .ok (.istore_n 1, 1) := by decide +kernel
theorem dX7_flip_2 : decode cX7_flip 2 = .ok (.iconst 0, 1) := by decide +kernel
theorem dX7_flip_3 : decode cX7_flip 3 = .ok (.istore_n 2, 1) := by decide +kernel
theorem dX7_flip_4 : decode cX7_flip 4 = .ok (.iload_n 2, 1) := by decide +kernel
theorem dX7_flip_5 : decode cX7_flip 5 = .ok (.aload_n 0, 1) := by decide +kernel
theorem dX7_flip_6 : decode cX7_flip 6 = .ok (.getfield 59, 3) := by decide +kernel
theorem dX7_flip_9 : decode cX7_flip 9 = .ok (.if_icmp .ge 53, 3) := by decide +kernel
theorem dX7_flip_12 : decode cX7_flip 12 = .ok (.iload_n 1, 1) := by decide +kernel
theorem dX7_flip_13 : decode cX7_flip 13 = .ok (.aload_n 0, 1) := by decide +kernel
theorem dX7_flip_14 : decode cX7_flip 14 = .ok (.getfield 28, 3) := by decide +kernel
theorem dX7_flip_17 : decode cX7_flip 17 = .ok (.iload_n 2, 1) := by decide +kernel
theorem dX7_flip_18 : decode cX7_flip 18 = .ok (.iaload, 1) := by decide +kernel
theorem dX7_flip_19 : decode cX7_flip 19 = .ok (.ifCond .le 7, 3) := by decide +kernel
theorem dX7_flip_22 : decode cX7_flip 22 = .ok (.iconst 1, 1) := by decide +kernel
theorem dX7_flip_23 : decode cX7_flip 23 = .ok (.goto 4, 3) := by decide +kernel
theorem dX7_flip_26 : decode cX7_flip 26 = .ok (.iconst 0, 1) := by decide +kernel
theorem dX7_flip_27 : decode cX7_flip 27 = .ok (.iadd, 1) := by decide +kernel
theorem dX7_flip_28 : decode cX7_flip 28 = .ok (.istore_n 1, 1) := by decide +kernel
theorem dX7_flip_29 : decode cX7_flip 29 = .ok (.aload_n 0, 1) := by decide +kernel
theorem dX7_flip_30 : decode cX7_flip 30 = .ok (.getfield 28, 3) := by decide +kernel
theorem dX7_flip_33 : decode cX7_flip 33 = .ok (.iload_n 2, 1) := by decide +kernel
theorem dX7_flip_34 : decode cX7_flip 34 = .ok (.aload_n 0, 1) := by decide +kernel
theorem dX7_flip_35 : decode cX7_flip 35 = .ok (.getfield 28, 3) := by decide +kernel
theorem dX7_flip_38 : decode cX7_flip 38 = .ok (.iload_n 2, 1) := by decide +kernel
theorem dX7_flip_39 : decode cX7_flip 39 = .ok (.iaload, 1) := by decide +kernel
theorem dX7_flip_40 : decode cX7_flip 40 = .ok (.ifCond .le 14, 3) := by decide +kernel
theorem dX7_flip_43 : decode cX7_flip 43 = .ok (.iconst 3, 1) := by decide +kernel
theorem dX7_flip_44 : decode cX7_flip 44 = .ok (.aload_n 0, 1) := by decide +kernel
theorem dX7_flip_45 : decode cX7_flip 45 = .ok (.getfield 28, 3) := by decide +kernel
theorem dX7_flip_48 : decode cX7_flip 48 = .ok (.iload_n 2, 1) := by decide +kernel
theorem dX7_flip_49 : decode cX7_flip 49 = .ok (.iaload, 1) := by decide +kernel
theorem dX7_flip_50 : decode cX7_flip 50 = .ok (.isub, 1) := by decide +kernel
theorem dX7_flip_51 : decode cX7_flip 51 = .ok (.goto 4, 3) := by decide +kernel
theorem dX7_flip_54 : decode cX7_flip 54 = .ok (.iconst 0, 1) := by decide +kernel
theorem dX7_flip_55 : decode cX7_flip 55 = .ok (.iastore, 1) := by decide +kernel
theorem dX7_flip_56 : decode cX7_flip 56 = .ok (.iinc 2 1, 3) := by decide +kernel
theorem dX7_flip_59 : decode cX7_flip 59 = .ok (.goto (-55), 3) := by decide +kernel
theorem dX7_flip_62 : decode cX7_flip 62 = .ok (.iload_n 1, 1) := by decide +kernel
theorem dX7_flip_63 : decode cX7_flip 63 = .ok (.ireturn, 1) := by decide +kernel
theorem dX7_hydrogens_0 : decode cX7_hydrogens 0 = .ok (.aload_n 0, 1) := by decide +kernel
theorem dX7_hydrogens_1 : decode cX7_hydrogens 1 = .ok (.iload_n 1, 1) := by decide +kernel
theorem dX7_hydrogens_2 : decode cX7_hydrogens 2 = .ok (.invokevirtual 74, 3) := by decide +kernel
theorem dX7_hydrogens_5 : decode cX7_hydrogens 5 = .ok (.ifCond .eq 11, 3) := by decide +kernel
theorem dX7_hydrogens_8 : decode cX7_hydrogens 8 = .ok (.aload_n 0, 1) := by decide +kernel
theorem dX7_hydrogens_9 : decode cX7_hydrogens 9 = .ok (.iload_n 1, 1) := by decide +kernel
theorem dX7_hydrogens_10 : decode cX7_hydrogens 10 = .ok (.invokevirtual 81, 3) := by decide +kernel
theorem dX7_hydrogens_13 : decode cX7_hydrogens 13 = .ok (.goto 4, 3) := by decide +kernel
theorem dX7_hydrogens_16 : decode cX7_hydrogens 16 = .ok (.iconst (-1), 1) := by decide +kernel
theorem dX7_hydrogens_17 : decode cX7_hydrogens 17 = .ok (.ireturn, 1) := by decide +kernel
theorem dX7_sense_0 : decode cX7_sense 0 = .ok (.aload_n 0, 1) := by decide +kernel
theorem dX7_sense_1 : decode cX7_sense 1 = .ok (.iload_n 1, 1) := by decide +kernel
theorem dX7_sense_2 : decode cX7_sense 2 = .ok (.invokevirtual 74, 3) := by decide +kernel
theorem dX7_sense_5 : decode cX7_sense 5 = .ok (.ifCond .ne 5, 3) := by decide +kernel
theorem dX7_sense_8 : decode cX7_sense 8 = .ok (.iconst (-1), 1) := by decide +kernel
theorem dX7_sense_9 : decode cX7_sense 9 = .ok (.ireturn, 1) := by decide +kernel
theorem dX7_sense_10 : decode cX7_sense 10 = .ok (.aload_n 0, 1) := by decide +kernel
theorem dX7_sense_11 : decode cX7_sense 11 = .ok (.invokevirtual 113, 3) := by decide +kernel
theorem dX7_sense_14 : decode cX7_sense 14 = .ok (.aload_n 0, 1) := by decide +kernel
theorem dX7_sense_15 : decode cX7_sense 15 = .ok (.iload_n 1, 1) := by decide +kernel
theorem dX7_sense_16 : decode cX7_sense 16 = .ok (.invokevirtual 116, 3) := by decide +kernel
theorem dX7_sense_19 : decode cX7_sense 19 = .ok (.iconst 1, 1) := by decide +kernel
theorem dX7_sense_20 : decode cX7_sense 20 = .ok (.iadd, 1) := by decide +kernel
theorem dX7_sense_21 : decode cX7_sense 21 = .ok (.aload_n 0, 1) := by decide +kernel
theorem dX7_sense_22 : decode cX7_sense 22 = .ok (.iload_n 1, 1) := by decide +kernel
theorem dX7_sense_23 : decode cX7_sense 23 = .ok (.invokevirtual 90, 3) := by decide +kernel
theorem dX7_sense_26 : decode cX7_sense 26 = .ok (.ifCond .eq 7, 3) := by decide +kernel
theorem dX7_sense_29 : decode cX7_sense 29 = .ok (.iconst 4, 1) := by decide +kernel
theorem dX7_sense_30 : decode cX7_sense 30 = .ok (.goto 4, 3) := by decide +kernel
theorem dX7_sense_33 : decode cX7_sense 33 = .ok (.iconst 0, 1) := by decide +kernel
theorem dX7_sense_34 : decode cX7_sense 34 = .ok (.iadd, 1) := by decide +kernel
theorem dX7_sense_35 : decode cX7_sense 35 = .ok (.ireturn, 1) := by decide +kernel
theorem dX7_ownNumbers_0 : decode cX7_ownNumbers 0 = .ok (.iconst 0, 1) := by decide +kernel
theorem dX7_ownNumbers_1 : decode cX7_ownNumbers 1 = .ok (.istore_n 1, 1) := by decide +kernel
theorem dX7_ownNumbers_2 : decode cX7_ownNumbers 2 = .ok (.iload_n 1, 1) := by decide +kernel
theorem dX7_ownNumbers_3 : decode cX7_ownNumbers 3 = .ok (.aload_n 0, 1) := by decide +kernel
theorem dX7_ownNumbers_4 : decode cX7_ownNumbers 4 = .ok (.getfield 55, 3) := by decide +kernel
theorem dX7_ownNumbers_7 : decode cX7_ownNumbers 7 = .ok (.if_icmp .ge 23, 3) := by decide +kernel
theorem dX7_ownNumbers_10 : decode cX7_ownNumbers 10 = .ok (.aload_n 0, 1) := by decide +kernel
theorem dX7_ownNumbers_11 : decode cX7_ownNumbers 11 = .ok (.getfield 31, 3) := by decide +kernel
theorem dX7_ownNumbers_14 : decode cX7_ownNumbers 14 = .ok (.iload_n 1, 1) := by decide +kernel
theorem dX7_ownNumbers_15 : decode cX7_ownNumbers 15 = .ok (.iload_n 1, 1) := by decide +kernel
theorem dX7_ownNumbers_16 : decode cX7_ownNumbers 16 = .ok (.iastore, 1) := by decide +kernel
theorem dX7_ownNumbers_17 : decode cX7_ownNumbers 17 = .ok (.aload_n 0, 1) := by decide +kernel
theorem dX7_ownNumbers_18 : decode cX7_ownNumbers 18 = .ok (.getfield 34, 3) := by decide +kernel
theorem dX7_ownNumbers_21 : decode cX7_ownNumbers 21 = .ok (.iload_n 1, 1) := by decide +kernel
theorem dX7_ownNumbers_22 : decode cX7_ownNumbers 22 = .ok (.iload_n 1, 1) := by decide +kernel
theorem dX7_ownNumbers_23 : decode cX7_ownNumbers 23 = .ok (.iastore, 1) := by decide +kernel
theorem dX7_ownNumbers_24 : decode cX7_ownNumbers 24 = .ok (.iinc 1 1, 3) := by decide +kernel
theorem dX7_ownNumbers_27 : decode cX7_ownNumbers 27 = .ok (.goto (-25), 3) := by decide +kernel
theorem dX7_ownNumbers_30 : decode cX7_ownNumbers 30 = .ok (.return_, 1) := by decide +kernel
theorem dX7_centreSense_0 : decode cX7_centreSense 0 = .ok (.aload_n 0, 1) := by decide +kernel
theorem dX7_centreSense_1 : decode cX7_centreSense 1 = .ok (.iload_n 1, 1) := by decide +kernel
theorem dX7_centreSense_2 : decode cX7_centreSense 2 = .ok (.invokevirtual 90, 3) := by decide +kernel
theorem dX7_centreSense_5 : decode cX7_centreSense 5 = .ok (.ifCond .ne 5, 3) := by decide +kernel
theorem dX7_centreSense_8 : decode cX7_centreSense 8 = .ok (.iconst 0, 1) := by decide +kernel
theorem dX7_centreSense_9 : decode cX7_centreSense 9 = .ok (.ireturn, 1) := by decide +kernel
theorem dX7_centreSense_10 : decode cX7_centreSense 10 = .ok (.aload_n 0, 1) := by decide +kernel
theorem dX7_centreSense_11 : decode cX7_centreSense 11 = .ok (.iload_n 1, 1) := by decide +kernel
theorem dX7_centreSense_12 : decode cX7_centreSense 12 = .ok (.invokevirtual 93, 3) := by decide +kernel
theorem dX7_centreSense_15 : decode cX7_centreSense 15 = .ok (.iconst 4, 1) := by decide +kernel
theorem dX7_centreSense_16 : decode cX7_centreSense 16 = .ok (.if_icmp .ne 41, 3) := by decide +kernel
theorem dX7_centreSense_19 : decode cX7_centreSense 19 = .ok (.iconst 0, 1) := by decide +kernel
theorem dX7_centreSense_20 : decode cX7_centreSense 20 = .ok (.istore_n 2, 1) := by decide +kernel
theorem dX7_centreSense_21 : decode cX7_centreSense 21 = .ok (.iload_n 2, 1) := by decide +kernel
theorem dX7_centreSense_22 : decode cX7_centreSense 22 = .ok (.bipush 9, 2) := by decide +kernel
theorem dX7_centreSense_24 : decode cX7_centreSense 24 = .ok (.if_icmp .ge 33, 3) := by decide +kernel
theorem dX7_centreSense_27 : decode cX7_centreSense 27 = .ok (.aload_n 0, 1) := by decide +kernel
theorem dX7_centreSense_28 : decode cX7_centreSense 28 = .ok (.getfield 49, 3) := by decide +kernel
theorem dX7_centreSense_31 : decode cX7_centreSense 31 = .ok (.iload_n 2, 1) := by decide +kernel
theorem dX7_centreSense_32 : decode cX7_centreSense 32 = .ok (.aload_n 0, 1) := by decide +kernel
theorem dX7_centreSense_33 : decode cX7_centreSense 33 = .ok (.getfield 49, 3) := by decide +kernel
theorem dX7_centreSense_36 : decode cX7_centreSense 36 = .ok (.iload_n 2, 1) := by decide +kernel
theorem dX7_centreSense_37 : decode cX7_centreSense 37 = .ok (.iaload, 1) := by decide +kernel
theorem dX7_centreSense_38 : decode cX7_centreSense 38 = .ok (.aload_n 0, 1) := by decide +kernel
theorem dX7_centreSense_39 : decode cX7_centreSense 39 = .ok (.getfield 49, 3) := by decide +kernel
theorem dX7_centreSense_42 : decode cX7_centreSense 42 = .ok (.bipush 9, 2) := by decide +kernel
theorem dX7_centreSense_44 : decode cX7_centreSense 44 = .ok (.iload_n 2, 1) := by decide +kernel
theorem dX7_centreSense_45 : decode cX7_centreSense 45 = .ok (.iconst 3, 1) := by decide +kernel
theorem dX7_centreSense_46 : decode cX7_centreSense 46 = .ok (.irem, 1) := by decide +kernel
theorem dX7_centreSense_47 : decode cX7_centreSense 47 = .ok (.iadd, 1) := by decide +kernel
theorem dX7_centreSense_48 : decode cX7_centreSense 48 = .ok (.iaload, 1) := by decide +kernel
theorem dX7_centreSense_49 : decode cX7_centreSense 49 = .ok (.isub, 1) := by decide +kernel
theorem dX7_centreSense_50 : decode cX7_centreSense 50 = .ok (.iastore, 1) := by decide +kernel
theorem dX7_centreSense_51 : decode cX7_centreSense 51 = .ok (.iinc 2 1, 3) := by decide +kernel
theorem dX7_centreSense_54 : decode cX7_centreSense 54 = .ok (.goto (-33), 3) := by decide +kernel
theorem dX7_centreSense_57 : decode cX7_centreSense 57 = .ok (.aload_n 0, 1) := by decide +kernel
theorem dX7_centreSense_58 : decode cX7_centreSense 58 = .ok (.getfield 49, 3) := by decide +kernel
theorem dX7_centreSense_61 : decode cX7_centreSense 61 = .ok (.iconst 4, 1) := by decide +kernel
theorem dX7_centreSense_62 : decode cX7_centreSense 62 = .ok (.iaload, 1) := by decide +kernel
theorem dX7_centreSense_63 : decode cX7_centreSense 63 = .ok (.aload_n 0, 1) := by decide +kernel
theorem dX7_centreSense_64 : decode cX7_centreSense 64 = .ok (.getfield 49, 3) := by decide +kernel
theorem dX7_centreSense_67 : decode cX7_centreSense 67 = .ok (.bipush 8, 2) := by decide +kernel
theorem dX7_centreSense_69 : decode cX7_centreSense 69 = .ok (.iaload, 1) := by decide +kernel
theorem dX7_centreSense_70 : decode cX7_centreSense 70 = .ok (.imul, 1) := by decide +kernel
theorem dX7_centreSense_71 : decode cX7_centreSense 71 = .ok (.aload_n 0, 1) := by decide +kernel
theorem dX7_centreSense_72 : decode cX7_centreSense 72 = .ok (.getfield 49, 3) := by decide +kernel
theorem dX7_centreSense_75 : decode cX7_centreSense 75 = .ok (.iconst 5, 1) := by decide +kernel
theorem dX7_centreSense_76 : decode cX7_centreSense 76 = .ok (.iaload, 1) := by decide +kernel
theorem dX7_centreSense_77 : decode cX7_centreSense 77 = .ok (.aload_n 0, 1) := by decide +kernel
theorem dX7_centreSense_78 : decode cX7_centreSense 78 = .ok (.getfield 49, 3) := by decide +kernel
theorem dX7_centreSense_81 : decode cX7_centreSense 81 = .ok (.bipush 7, 2) := by decide +kernel
theorem dX7_centreSense_83 : decode cX7_centreSense 83 = .ok (.iaload, 1) := by decide +kernel
theorem dX7_centreSense_84 : decode cX7_centreSense 84 = .ok (.imul, 1) := by decide +kernel
theorem dX7_centreSense_85 : decode cX7_centreSense 85 = .ok (.isub, 1) := by decide +kernel
theorem dX7_centreSense_86 : decode cX7_centreSense 86 = .ok (.istore_n 2, 1) := by decide +kernel
theorem dX7_centreSense_87 : decode cX7_centreSense 87 = .ok (.aload_n 0, 1) := by decide +kernel
theorem dX7_centreSense_88 : decode cX7_centreSense 88 = .ok (.getfield 49, 3) := by decide +kernel
theorem dX7_centreSense_91 : decode cX7_centreSense 91 = .ok (.iconst 3, 1) := by decide +kernel
theorem dX7_centreSense_92 : decode cX7_centreSense 92 = .ok (.iaload, 1) := by decide +kernel
theorem dX7_centreSense_93 : decode cX7_centreSense 93 = .ok (.aload_n 0, 1) := by decide +kernel
theorem dX7_centreSense_94 : decode cX7_centreSense 94 = .ok (.getfield 49, 3) := by decide +kernel
theorem dX7_centreSense_97 : decode cX7_centreSense 97 = .ok (.bipush 8, 2) := by decide +kernel
theorem dX7_centreSense_99 : decode cX7_centreSense 99 = .ok (.iaload, 1) := by decide +kernel
theorem dX7_centreSense_100 : decode cX7_centreSense 100 = .ok (.imul, 1) := by decide +kernel
theorem dX7_centreSense_101 : decode cX7_centreSense 101 = .ok (.aload_n 0, 1) := by decide +kernel
theorem dX7_centreSense_102 : decode cX7_centreSense 102 = .ok (.getfield 49, 3) := by decide +kernel
theorem dX7_centreSense_105 : decode cX7_centreSense 105 = .ok (.iconst 5, 1) := by decide +kernel
theorem dX7_centreSense_106 : decode cX7_centreSense 106 = .ok (.iaload, 1) := by decide +kernel
theorem dX7_centreSense_107 : decode cX7_centreSense 107 = .ok (.aload_n 0, 1) := by decide +kernel
theorem dX7_centreSense_108 : decode cX7_centreSense 108 = .ok (.getfield 49, 3) := by decide +kernel
theorem dX7_centreSense_111 : decode cX7_centreSense 111 = .ok (.bipush 6, 2) := by decide +kernel
theorem dX7_centreSense_113 : decode cX7_centreSense 113 = .ok (.iaload, 1) := by decide +kernel
theorem dX7_centreSense_114 : decode cX7_centreSense 114 = .ok (.imul, 1) := by decide +kernel
theorem dX7_centreSense_115 : decode cX7_centreSense 115 = .ok (.isub, 1) := by decide +kernel
theorem dX7_centreSense_116 : decode cX7_centreSense 116 = .ok (.istore_n 3, 1) := by decide +kernel
theorem dX7_centreSense_117 : decode cX7_centreSense 117 = .ok (.aload_n 0, 1) := by decide +kernel
theorem dX7_centreSense_118 : decode cX7_centreSense 118 = .ok (.getfield 49, 3) := by decide +kernel
theorem dX7_centreSense_121 : decode cX7_centreSense 121 = .ok (.iconst 3, 1) := by decide +kernel
theorem dX7_centreSense_122 : decode cX7_centreSense 122 = .ok (.iaload, 1) := by decide +kernel
theorem dX7_centreSense_123 : decode cX7_centreSense 123 = .ok (.aload_n 0, 1) := by decide +kernel
theorem dX7_centreSense_124 : decode cX7_centreSense 124 = .ok (.getfield 49, 3) := by decide +kernel
theorem dX7_centreSense_127 : decode cX7_centreSense 127 = .ok (.bipush 7, 2) := by decide +kernel
theorem dX7_centreSense_129 : decode cX7_centreSense 129 = .ok (.iaload, 1) := by decide +kernel
theorem dX7_centreSense_130 : decode cX7_centreSense 130 = .ok (.imul, 1) := by decide +kernel
theorem dX7_centreSense_131 : decode cX7_centreSense 131 = .ok (.aload_n 0, 1) := by decide +kernel
theorem dX7_centreSense_132 : decode cX7_centreSense 132 = .ok (.getfield 49, 3) := by decide +kernel
theorem dX7_centreSense_135 : decode cX7_centreSense 135 = .ok (.iconst 4, 1) := by decide +kernel
theorem dX7_centreSense_136 : decode cX7_centreSense 136 = .ok (.iaload, 1) := by decide +kernel
theorem dX7_centreSense_137 : decode cX7_centreSense 137 = .ok (.aload_n 0, 1) := by decide +kernel
theorem dX7_centreSense_138 : decode cX7_centreSense 138 = .ok (.getfield 49, 3) := by decide +kernel
theorem dX7_centreSense_141 : decode cX7_centreSense 141 = .ok (.bipush 6, 2) := by decide +kernel
theorem dX7_centreSense_143 : decode cX7_centreSense 143 = .ok (.iaload, 1) := by decide +kernel
theorem dX7_centreSense_144 : decode cX7_centreSense 144 = .ok (.imul, 1) := by decide +kernel
theorem dX7_centreSense_145 : decode cX7_centreSense 145 = .ok (.isub, 1) := by decide +kernel
theorem dX7_centreSense_146 : decode cX7_centreSense 146 = .ok (.istore 4, 2) := by decide +kernel
theorem dX7_centreSense_148 : decode cX7_centreSense 148 = .ok (.aload_n 0, 1) := by decide +kernel
theorem dX7_centreSense_149 : decode cX7_centreSense 149 = .ok (.getfield 49, 3) := by decide +kernel
theorem dX7_centreSense_152 : decode cX7_centreSense 152 = .ok (.iconst 0, 1) := by decide +kernel
theorem dX7_centreSense_153 : decode cX7_centreSense 153 = .ok (.iaload, 1) := by decide +kernel
theorem dX7_centreSense_154 : decode cX7_centreSense 154 = .ok (.iload_n 2, 1) := by decide +kernel
theorem dX7_centreSense_155 : decode cX7_centreSense 155 = .ok (.imul, 1) := by decide +kernel
theorem dX7_centreSense_156 : decode cX7_centreSense 156 = .ok (.aload_n 0, 1) := by decide +kernel
theorem dX7_centreSense_157 : decode cX7_centreSense 157 = .ok (.getfield 49, 3) := by decide +kernel
theorem dX7_centreSense_160 : decode cX7_centreSense 160 = .ok (.iconst 1, 1) := by decide +kernel
theorem dX7_centreSense_161 : decode cX7_centreSense 161 = .ok (.iaload, 1) := by decide +kernel
theorem dX7_centreSense_162 : decode cX7_centreSense 162 = .ok (.iload_n 3, 1) := by decide +kernel
theorem dX7_centreSense_163 : decode cX7_centreSense 163 = .ok (.imul, 1) := by decide +kernel
theorem dX7_centreSense_164 : decode cX7_centreSense 164 = .ok (.isub, 1) := by decide +kernel
theorem dX7_centreSense_165 : decode cX7_centreSense 165 = .ok (.aload_n 0, 1) := by decide +kernel
theorem dX7_centreSense_166 : decode cX7_centreSense 166 = .ok (.getfield 49, 3) := by decide +kernel
theorem dX7_centreSense_169 : decode cX7_centreSense 169 = .ok (.iconst 2, 1) := by decide +kernel
theorem dX7_centreSense_170 : decode cX7_centreSense 170 = .ok (.iaload, 1) := by decide +kernel
theorem dX7_centreSense_171 : decode cX7_centreSense 171 = .ok (.iload 4, 2) := by decide +kernel
theorem dX7_centreSense_173 : decode cX7_centreSense 173 = .ok (.imul, 1) := by decide +kernel
theorem dX7_centreSense_174 : decode cX7_centreSense 174 = .ok (.iadd, 1) := by decide +kernel
theorem dX7_centreSense_175 : decode cX7_centreSense 175 = .ok (.invokestatic 96, 3) := by decide +kernel
theorem dX7_centreSense_178 : decode cX7_centreSense 178 = .ok (.ireturn, 1) := by decide +kernel
theorem dX7_isCentre_0 : decode cX7_isCentre 0 = .ok (.aload_n 0, 1) := by decide +kernel
theorem dX7_isCentre_1 : decode cX7_isCentre 1 = .ok (.getfield 7, 3) := by decide +kernel
theorem dX7_isCentre_4 : decode cX7_isCentre 4 = .ok (.iload_n 1, 1) := by decide +kernel
theorem dX7_isCentre_5 : decode cX7_isCentre 5 = .ok (.iaload, 1) := by decide +kernel
theorem dX7_isCentre_6 : decode cX7_isCentre 6 = .ok (.ifCond .ne 17, 3) := by decide +kernel
theorem dX7_isCentre_9 : decode cX7_isCentre 9 = .ok (.aload_n 0, 1) := by decide +kernel
theorem dX7_isCentre_10 : decode cX7_isCentre 10 = .ok (.iload_n 1, 1) := by decide +kernel
theorem dX7_isCentre_11 : decode cX7_isCentre 11 = .ok (.iconst (-1), 1) := by decide +kernel
theorem dX7_isCentre_12 : decode cX7_isCentre 12 = .ok (.invokevirtual 87, 3) := by decide +kernel
theorem dX7_isCentre_15 : decode cX7_isCentre 15 = .ok (.iconst 3, 1) := by decide +kernel
theorem dX7_isCentre_16 : decode cX7_isCentre 16 = .ok (.if_icmp .lt 7, 3) := by decide +kernel
theorem dX7_isCentre_19 : decode cX7_isCentre 19 = .ok (.iconst 1, 1) := by decide +kernel
theorem dX7_isCentre_20 : decode cX7_isCentre 20 = .ok (.goto 4, 3) := by decide +kernel
theorem dX7_isCentre_23 : decode cX7_isCentre 23 = .ok (.iconst 0, 1) := by decide +kernel
theorem dX7_isCentre_24 : decode cX7_isCentre 24 = .ok (.ireturn, 1) := by decide +kernel
theorem dX7_singles_0 : decode cX7_singles 0 = .ok (.iconst 0, 1) := by decide +kernel
theorem dX7_singles_1 : decode cX7_singles 1 = .ok (.istore_n 3, 1) := by decide +kernel
theorem dX7_singles_2 : decode cX7_singles 2 = .ok (.iconst 1, 1) := by decide +kernel
theorem dX7_singles_3 : decode cX7_singles 3 = .ok (.istore 4, 2) := by decide +kernel
theorem dX7_singles_5 : decode cX7_singles 5 = .ok (.iconst 0, 1) := by decide +kernel
theorem dX7_singles_6 : decode cX7_singles 6 = .ok (.istore 5, 2) := by decide +kernel
theorem dX7_singles_8 : decode cX7_singles 8 = .ok (.iload 5, 2) := by decide +kernel
theorem dX7_singles_10 : decode cX7_singles 10 = .ok (.aload_n 0, 1) := by decide +kernel
theorem dX7_singles_11 : decode cX7_singles 11 = .ok (.getfield 59, 3) := by decide +kernel
theorem dX7_singles_14 : decode cX7_singles 14 = .ok (.if_icmp .ge 63, 3) := by decide +kernel
theorem dX7_singles_17 : decode cX7_singles 17 = .ok (.iload 5, 2) := by decide +kernel
theorem dX7_singles_19 : decode cX7_singles 19 = .ok (.iload_n 2, 1) := by decide +kernel
theorem dX7_singles_20 : decode cX7_singles 20 = .ok (.if_icmp .eq 51, 3) := by decide +kernel
theorem dX7_singles_23 : decode cX7_singles 23 = .ok (.aload_n 0, 1) := by decide +kernel
theorem dX7_singles_24 : decode cX7_singles 24 = .ok (.getfield 19, 3) := by decide +kernel
theorem dX7_singles_27 : decode cX7_singles 27 = .ok (.iload 5, 2) := by decide +kernel
theorem dX7_singles_29 : decode cX7_singles 29 = .ok (.iaload, 1) := by decide +kernel
theorem dX7_singles_30 : decode cX7_singles 30 = .ok (.iload_n 1, 1) := by decide +kernel
theorem dX7_singles_31 : decode cX7_singles 31 = .ok (.if_icmp .eq 14, 3) := by decide +kernel
theorem dX7_singles_34 : decode cX7_singles 34 = .ok (.aload_n 0, 1) := by decide +kernel
theorem dX7_singles_35 : decode cX7_singles 35 = .ok (.getfield 22, 3) := by decide +kernel
theorem dX7_singles_38 : decode cX7_singles 38 = .ok (.iload 5, 2) := by decide +kernel
theorem dX7_singles_40 : decode cX7_singles 40 = .ok (.iaload, 1) := by decide +kernel
theorem dX7_singles_41 : decode cX7_singles 41 = .ok (.iload_n 1, 1) := by decide +kernel
theorem dX7_singles_42 : decode cX7_singles 42 = .ok (.if_icmp .ne 29, 3) := by decide +kernel
theorem dX7_singles_45 : decode cX7_singles 45 = .ok (.iinc 3 1, 3) := by decide +kernel
theorem dX7_singles_48 : decode cX7_singles 48 = .ok (.iload 4, 2) := by decide +kernel
theorem dX7_singles_50 : decode cX7_singles 50 = .ok (.ifCond .eq 18, 3) := by decide +kernel
theorem dX7_singles_53 : decode cX7_singles 53 = .ok (.aload_n 0, 1) := by decide +kernel
theorem dX7_singles_54 : decode cX7_singles 54 = .ok (.getfield 25, 3) := by decide +kernel
theorem dX7_singles_57 : decode cX7_singles 57 = .ok (.iload 5, 2) := by decide +kernel
theorem dX7_singles_59 : decode cX7_singles 59 = .ok (.iaload, 1) := by decide +kernel
theorem dX7_singles_60 : decode cX7_singles 60 = .ok (.iconst 1, 1) := by decide +kernel
theorem dX7_singles_61 : decode cX7_singles 61 = .ok (.if_icmp .ne 7, 3) := by decide +kernel
theorem dX7_singles_64 : decode cX7_singles 64 = .ok (.iconst 1, 1) := by decide +kernel
theorem dX7_singles_65 : decode cX7_singles 65 = .ok (.goto 4, 3) := by decide +kernel
theorem dX7_singles_68 : decode cX7_singles 68 = .ok (.iconst 0, 1) := by decide +kernel
theorem dX7_singles_69 : decode cX7_singles 69 = .ok (.istore 4, 2) := by decide +kernel
theorem dX7_singles_71 : decode cX7_singles 71 = .ok (.iinc 5 1, 3) := by decide +kernel
theorem dX7_singles_74 : decode cX7_singles 74 = .ok (.goto (-66), 3) := by decide +kernel
theorem dX7_singles_77 : decode cX7_singles 77 = .ok (.iload 4, 2) := by decide +kernel
theorem dX7_singles_79 : decode cX7_singles 79 = .ok (.ifCond .eq 7, 3) := by decide +kernel
theorem dX7_singles_82 : decode cX7_singles 82 = .ok (.iload_n 3, 1) := by decide +kernel
theorem dX7_singles_83 : decode cX7_singles 83 = .ok (.goto 4, 3) := by decide +kernel
theorem dX7_singles_86 : decode cX7_singles 86 = .ok (.iconst (-1), 1) := by decide +kernel
theorem dX7_singles_87 : decode cX7_singles 87 = .ok (.ireturn, 1) := by decide +kernel
theorem dX7_points_0 : decode cX7_points 0 = .ok (.iconst 0, 1) := by decide +kernel
theorem dX7_points_1 : decode cX7_points 1 = .ok (.istore_n 2, 1) := by decide +kernel
theorem dX7_points_2 : decode cX7_points 2 = .ok (.iconst 0, 1) := by decide +kernel
theorem dX7_points_3 : decode cX7_points 3 = .ok (.istore_n 3, 1) := by decide +kernel
theorem dX7_points_4 : decode cX7_points 4 = .ok (.iload_n 3, 1) := by decide +kernel
theorem dX7_points_5 : decode cX7_points 5 = .ok (.aload_n 0, 1) := by decide +kernel
theorem dX7_points_6 : decode cX7_points 6 = .ok (.getfield 55, 3) := by decide +kernel
theorem dX7_points_9 : decode cX7_points 9 = .ok (.if_icmp .ge 140, 3) := by decide +kernel
theorem dX7_points_12 : decode cX7_points 12 = .ok (.aload_n 0, 1) := by decide +kernel
theorem dX7_points_13 : decode cX7_points 13 = .ok (.iload_n 1, 1) := by decide +kernel
theorem dX7_points_14 : decode cX7_points 14 = .ok (.aload_n 0, 1) := by decide +kernel
theorem dX7_points_15 : decode cX7_points 15 = .ok (.getfield 31, 3) := by decide +kernel
theorem dX7_points_18 : decode cX7_points 18 = .ok (.iload_n 3, 1) := by decide +kernel
theorem dX7_points_19 : decode cX7_points 19 = .ok (.iaload, 1) := by decide +kernel
theorem dX7_points_20 : decode cX7_points 20 = .ok (.invokevirtual 77, 3) := by decide +kernel
theorem dX7_points_23 : decode cX7_points 23 = .ok (.istore 4, 2) := by decide +kernel
theorem dX7_points_25 : decode cX7_points 25 = .ok (.iload 4, 2) := by decide +kernel
theorem dX7_points_27 : decode cX7_points 27 = .ok (.ifCond .lt 116, 3) := by decide +kernel
theorem dX7_points_30 : decode cX7_points 30 = .ok (.aload_n 0, 1) := by decide +kernel
theorem dX7_points_31 : decode cX7_points 31 = .ok (.getfield 49, 3) := by decide +kernel
theorem dX7_points_34 : decode cX7_points 34 = .ok (.iconst 3, 1) := by decide +kernel
theorem dX7_points_35 : decode cX7_points 35 = .ok (.iload_n 2, 1) := by decide +kernel
theorem dX7_points_36 : decode cX7_points 36 = .ok (.imul, 1) := by decide +kernel
theorem dX7_points_37 : decode cX7_points 37 = .ok (.aload_n 0, 1) := by decide +kernel
theorem dX7_points_38 : decode cX7_points 38 = .ok (.getfield 13, 3) := by decide +kernel
theorem dX7_points_41 : decode cX7_points 41 = .ok (.aload_n 0, 1) := by decide +kernel
theorem dX7_points_42 : decode cX7_points 42 = .ok (.getfield 31, 3) := by decide +kernel
theorem dX7_points_45 : decode cX7_points 45 = .ok (.iload_n 3, 1) := by decide +kernel
theorem dX7_points_46 : decode cX7_points 46 = .ok (.iaload, 1) := by decide +kernel
theorem dX7_points_47 : decode cX7_points 47 = .ok (.iaload, 1) := by decide +kernel
theorem dX7_points_48 : decode cX7_points 48 = .ok (.aload_n 0, 1) := by decide +kernel
theorem dX7_points_49 : decode cX7_points 49 = .ok (.getfield 13, 3) := by decide +kernel
theorem dX7_points_52 : decode cX7_points 52 = .ok (.iload_n 1, 1) := by decide +kernel
theorem dX7_points_53 : decode cX7_points 53 = .ok (.iaload, 1) := by decide +kernel
theorem dX7_points_54 : decode cX7_points 54 = .ok (.isub, 1) := by decide +kernel
theorem dX7_points_55 : decode cX7_points 55 = .ok (.iastore, 1) := by decide +kernel
theorem dX7_points_56 : decode cX7_points 56 = .ok (.aload_n 0, 1) := by decide +kernel
theorem dX7_points_57 : decode cX7_points 57 = .ok (.getfield 49, 3) := by decide +kernel
theorem dX7_points_60 : decode cX7_points 60 = .ok (.iconst 3, 1) := by decide +kernel
theorem dX7_points_61 : decode cX7_points 61 = .ok (.iload_n 2, 1) := by decide +kernel
theorem dX7_points_62 : decode cX7_points 62 = .ok (.imul, 1) := by decide +kernel
theorem dX7_points_63 : decode cX7_points 63 = .ok (.iconst 1, 1) := by decide +kernel
theorem dX7_points_64 : decode cX7_points 64 = .ok (.iadd, 1) := by decide +kernel
theorem dX7_points_65 : decode cX7_points 65 = .ok (.aload_n 0, 1) := by decide +kernel
theorem dX7_points_66 : decode cX7_points 66 = .ok (.getfield 16, 3) := by decide +kernel
theorem dX7_points_69 : decode cX7_points 69 = .ok (.aload_n 0, 1) := by decide +kernel
theorem dX7_points_70 : decode cX7_points 70 = .ok (.getfield 31, 3) := by decide +kernel
theorem dX7_points_73 : decode cX7_points 73 = .ok (.iload_n 3, 1) := by decide +kernel
theorem dX7_points_74 : decode cX7_points 74 = .ok (.iaload, 1) := by decide +kernel
theorem dX7_points_75 : decode cX7_points 75 = .ok (.iaload, 1) := by decide +kernel
theorem dX7_points_76 : decode cX7_points 76 = .ok (.aload_n 0, 1) := by decide +kernel
theorem dX7_points_77 : decode cX7_points 77 = .ok (.getfield 16, 3) := by decide +kernel
theorem dX7_points_80 : decode cX7_points 80 = .ok (.iload_n 1, 1) := by decide +kernel
theorem dX7_points_81 : decode cX7_points 81 = .ok (.iaload, 1) := by decide +kernel
theorem dX7_points_82 : decode cX7_points 82 = .ok (.isub, 1) := by decide +kernel
theorem dX7_points_83 : decode cX7_points 83 = .ok (.iastore, 1) := by decide +kernel
theorem dX7_points_84 : decode cX7_points 84 = .ok (.aload_n 0, 1) := by decide +kernel
theorem dX7_points_85 : decode cX7_points 85 = .ok (.getfield 49, 3) := by decide +kernel
theorem dX7_points_88 : decode cX7_points 88 = .ok (.iconst 3, 1) := by decide +kernel
theorem dX7_points_89 : decode cX7_points 89 = .ok (.iload_n 2, 1) := by decide +kernel
theorem dX7_points_90 : decode cX7_points 90 = .ok (.imul, 1) := by decide +kernel
theorem dX7_points_91 : decode cX7_points 91 = .ok (.iconst 2, 1) := by decide +kernel
theorem dX7_points_92 : decode cX7_points 92 = .ok (.iadd, 1) := by decide +kernel
theorem dX7_points_93 : decode cX7_points 93 = .ok (.aload_n 0, 1) := by decide +kernel
theorem dX7_points_94 : decode cX7_points 94 = .ok (.getfield 19, 3) := by decide +kernel
theorem dX7_points_97 : decode cX7_points 97 = .ok (.iload 4, 2) := by decide +kernel
theorem dX7_points_99 : decode cX7_points 99 = .ok (.iaload, 1) := by decide +kernel
theorem dX7_points_100 : decode cX7_points 100 = .ok (.iload_n 1, 1) := by decide +kernel
theorem dX7_points_101 : decode cX7_points 101 = .ok (.if_icmp .eq 7, 3) := by decide +kernel
theorem dX7_points_104 : decode cX7_points 104 = .ok (.iconst 0, 1) := by decide +kernel
theorem dX7_points_105 : decode cX7_points 105 = .ok (.goto 34, 3) := by decide +kernel
theorem dX7_points_108 : decode cX7_points 108 = .ok (.aload_n 0, 1) := by decide +kernel
theorem dX7_points_109 : decode cX7_points 109 = .ok (.getfield 28, 3) := by decide +kernel
theorem dX7_points_112 : decode cX7_points 112 = .ok (.iload 4, 2) := by decide +kernel
theorem dX7_points_114 : decode cX7_points 114 = .ok (.iaload, 1) := by decide +kernel
theorem dX7_points_115 : decode cX7_points 115 = .ok (.iconst 1, 1) := by decide +kernel
theorem dX7_points_116 : decode cX7_points 116 = .ok (.if_icmp .ne 7, 3) := by decide +kernel
theorem dX7_points_119 : decode cX7_points 119 = .ok (.iconst 1, 1) := by decide +kernel
theorem dX7_points_120 : decode cX7_points 120 = .ok (.goto 19, 3) := by decide +kernel
theorem dX7_points_123 : decode cX7_points 123 = .ok (.aload_n 0, 1) := by decide +kernel
theorem dX7_points_124 : decode cX7_points 124 = .ok (.getfield 28, 3) := by decide +kernel
theorem dX7_points_127 : decode cX7_points 127 = .ok (.iload 4, 2) := by decide +kernel
theorem dX7_points_129 : decode cX7_points 129 = .ok (.iaload, 1) := by decide +kernel
theorem dX7_points_130 : decode cX7_points 130 = .ok (.iconst 2, 1) := by decide +kernel
theorem dX7_points_131 : decode cX7_points 131 = .ok (.if_icmp .ne 7, 3) := by decide +kernel
theorem dX7_points_134 : decode cX7_points 134 = .ok (.iconst (-1), 1) := by decide +kernel
theorem dX7_points_135 : decode cX7_points 135 = .ok (.goto 4, 3) := by decide +kernel
theorem dX7_points_138 : decode cX7_points 138 = .ok (.iconst 0, 1) := by decide +kernel
theorem dX7_points_139 : decode cX7_points 139 = .ok (.iastore, 1) := by decide +kernel
theorem dX7_points_140 : decode cX7_points 140 = .ok (.iinc 2 1, 3) := by decide +kernel
theorem dX7_points_143 : decode cX7_points 143 = .ok (.iinc 3 1, 3) := by decide +kernel
theorem dX7_points_146 : decode cX7_points 146 = .ok (.goto (-142), 3) := by decide +kernel
theorem dX7_points_149 : decode cX7_points 149 = .ok (.iload_n 2, 1) := by decide +kernel
theorem dX7_points_150 : decode cX7_points 150 = .ok (.ireturn, 1) := by decide +kernel
theorem dX7_sign_0 : decode cX7_sign 0 = .ok (.iload_n 0, 1) := by decide +kernel
theorem dX7_sign_1 : decode cX7_sign 1 = .ok (.ifCond .le 7, 3) := by decide +kernel
theorem dX7_sign_4 : decode cX7_sign 4 = .ok (.iconst 1, 1) := by decide +kernel
theorem dX7_sign_5 : decode cX7_sign 5 = .ok (.goto 12, 3) := by decide +kernel
theorem dX7_sign_8 : decode cX7_sign 8 = .ok (.iload_n 0, 1) := by decide +kernel
theorem dX7_sign_9 : decode cX7_sign 9 = .ok (.ifCond .ge 7, 3) := by decide +kernel
theorem dX7_sign_12 : decode cX7_sign 12 = .ok (.iconst (-1), 1) := by decide +kernel
theorem dX7_sign_13 : decode cX7_sign 13 = .ok (.goto 4, 3) := by decide +kernel
theorem dX7_sign_16 : decode cX7_sign 16 = .ok (.iconst 0, 1) := by decide +kernel
theorem dX7_sign_17 : decode cX7_sign 17 = .ok (.ireturn, 1) := by decide +kernel
theorem dX7_turn_0 : decode cX7_turn 0 = .ok (.aload_n 0, 1) := by decide +kernel
theorem dX7_turn_1 : decode cX7_turn 1 = .ok (.iload_n 1, 1) := by decide +kernel
theorem dX7_turn_2 : decode cX7_turn 2 = .ok (.invokevirtual 84, 3) := by decide +kernel
theorem dX7_turn_5 : decode cX7_turn 5 = .ok (.ifCond .ne 5, 3) := by decide +kernel
theorem dX7_turn_8 : decode cX7_turn 8 = .ok (.iconst (-1), 1) := by decide +kernel
theorem dX7_turn_9 : decode cX7_turn 9 = .ok (.ireturn, 1) := by decide +kernel
theorem dX7_turn_10 : decode cX7_turn 10 = .ok (.aload_n 0, 1) := by decide +kernel
theorem dX7_turn_11 : decode cX7_turn 11 = .ok (.invokevirtual 113, 3) := by decide +kernel
theorem dX7_turn_14 : decode cX7_turn 14 = .ok (.aload_n 0, 1) := by decide +kernel
theorem dX7_turn_15 : decode cX7_turn 15 = .ok (.iload_n 1, 1) := by decide +kernel
theorem dX7_turn_16 : decode cX7_turn 16 = .ok (.invokevirtual 119, 3) := by decide +kernel
theorem dX7_turn_19 : decode cX7_turn 19 = .ok (.iconst 1, 1) := by decide +kernel
theorem dX7_turn_20 : decode cX7_turn 20 = .ok (.iadd, 1) := by decide +kernel
theorem dX7_turn_21 : decode cX7_turn 21 = .ok (.aload_n 0, 1) := by decide +kernel
theorem dX7_turn_22 : decode cX7_turn 22 = .ok (.iload_n 1, 1) := by decide +kernel
theorem dX7_turn_23 : decode cX7_turn 23 = .ok (.invokevirtual 99, 3) := by decide +kernel
theorem dX7_turn_26 : decode cX7_turn 26 = .ok (.ifCond .eq 7, 3) := by decide +kernel
theorem dX7_turn_29 : decode cX7_turn 29 = .ok (.iconst 4, 1) := by decide +kernel
theorem dX7_turn_30 : decode cX7_turn 30 = .ok (.goto 4, 3) := by decide +kernel
theorem dX7_turn_33 : decode cX7_turn 33 = .ok (.iconst 0, 1) := by decide +kernel
theorem dX7_turn_34 : decode cX7_turn 34 = .ok (.iadd, 1) := by decide +kernel
theorem dX7_turn_35 : decode cX7_turn 35 = .ok (.ireturn, 1) := by decide +kernel
theorem dX7_hingeSense_0 : decode cX7_hingeSense 0 = .ok (.aload_n 0, 1) := by decide +kernel
theorem dX7_hingeSense_1 : decode cX7_hingeSense 1 = .ok (.iload_n 1, 1) := by decide +kernel
theorem dX7_hingeSense_2 : decode cX7_hingeSense 2 = .ok (.invokevirtual 99, 3) := by decide +kernel
theorem dX7_hingeSense_5 : decode cX7_hingeSense 5 = .ok (.ifCond .ne 5, 3) := by decide +kernel
theorem dX7_hingeSense_8 : decode cX7_hingeSense 8 = .ok (.iconst 0, 1) := by decide +kernel
theorem dX7_hingeSense_9 : decode cX7_hingeSense 9 = .ok (.ireturn, 1) := by decide +kernel
theorem dX7_hingeSense_10 : decode cX7_hingeSense 10 = .ok (.aload_n 0, 1) := by decide +kernel
theorem dX7_hingeSense_11 : decode cX7_hingeSense 11 = .ok (.getfield 34, 3) := by decide +kernel
theorem dX7_hingeSense_14 : decode cX7_hingeSense 14 = .ok (.aload_n 0, 1) := by decide +kernel
theorem dX7_hingeSense_15 : decode cX7_hingeSense 15 = .ok (.getfield 19, 3) := by decide +kernel
theorem dX7_hingeSense_18 : decode cX7_hingeSense 18 = .ok (.iload_n 1, 1) := by decide +kernel
theorem dX7_hingeSense_19 : decode cX7_hingeSense 19 = .ok (.iaload, 1) := by decide +kernel
theorem dX7_hingeSense_20 : decode cX7_hingeSense 20 = .ok (.iaload, 1) := by decide +kernel
theorem dX7_hingeSense_21 : decode cX7_hingeSense 21 = .ok (.aload_n 0, 1) := by decide +kernel
theorem dX7_hingeSense_22 : decode cX7_hingeSense 22 = .ok (.getfield 34, 3) := by decide +kernel
theorem dX7_hingeSense_25 : decode cX7_hingeSense 25 = .ok (.aload_n 0, 1) := by decide +kernel
theorem dX7_hingeSense_26 : decode cX7_hingeSense 26 = .ok (.getfield 22, 3) := by decide +kernel
theorem dX7_hingeSense_29 : decode cX7_hingeSense 29 = .ok (.iload_n 1, 1) := by decide +kernel
theorem dX7_hingeSense_30 : decode cX7_hingeSense 30 = .ok (.iaload, 1) := by decide +kernel
theorem dX7_hingeSense_31 : decode cX7_hingeSense 31 = .ok (.iaload, 1) := by decide +kernel
theorem dX7_hingeSense_32 : decode cX7_hingeSense 32 = .ok (.if_icmp .le 7, 3) := by decide +kernel
theorem dX7_hingeSense_35 : decode cX7_hingeSense 35 = .ok (.iconst 1, 1) := by decide +kernel
theorem dX7_hingeSense_36 : decode cX7_hingeSense 36 = .ok (.goto 4, 3) := by decide +kernel
theorem dX7_hingeSense_39 : decode cX7_hingeSense 39 = .ok (.iconst 0, 1) := by decide +kernel
theorem dX7_hingeSense_40 : decode cX7_hingeSense 40 = .ok (.istore_n 2, 1) := by decide +kernel
theorem dX7_hingeSense_41 : decode cX7_hingeSense 41 = .ok (.iload_n 2, 1) := by decide +kernel
theorem dX7_hingeSense_42 : decode cX7_hingeSense 42 = .ok (.ifCond .eq 12, 3) := by decide +kernel
theorem dX7_hingeSense_45 : decode cX7_hingeSense 45 = .ok (.aload_n 0, 1) := by decide +kernel
theorem dX7_hingeSense_46 : decode cX7_hingeSense 46 = .ok (.getfield 22, 3) := by decide +kernel
theorem dX7_hingeSense_49 : decode cX7_hingeSense 49 = .ok (.iload_n 1, 1) := by decide +kernel
theorem dX7_hingeSense_50 : decode cX7_hingeSense 50 = .ok (.iaload, 1) := by decide +kernel
theorem dX7_hingeSense_51 : decode cX7_hingeSense 51 = .ok (.goto 9, 3) := by decide +kernel
theorem dX7_hingeSense_54 : decode cX7_hingeSense 54 = .ok (.aload_n 0, 1) := by decide +kernel
theorem dX7_hingeSense_55 : decode cX7_hingeSense 55 = .ok (.getfield 19, 3) := by decide +kernel
theorem dX7_hingeSense_58 : decode cX7_hingeSense 58 = .ok (.iload_n 1, 1) := by decide +kernel
theorem dX7_hingeSense_59 : decode cX7_hingeSense 59 = .ok (.iaload, 1) := by decide +kernel
theorem dX7_hingeSense_60 : decode cX7_hingeSense 60 = .ok (.istore_n 3, 1) := by decide +kernel
theorem dX7_hingeSense_61 : decode cX7_hingeSense 61 = .ok (.iload_n 2, 1) := by decide +kernel
theorem dX7_hingeSense_62 : decode cX7_hingeSense 62 = .ok (.ifCond .eq 12, 3) := by decide +kernel
theorem dX7_hingeSense_65 : decode cX7_hingeSense 65 = .ok (.aload_n 0, 1) := by decide +kernel
theorem dX7_hingeSense_66 : decode cX7_hingeSense 66 = .ok (.getfield 19, 3) := by decide +kernel
theorem dX7_hingeSense_69 : decode cX7_hingeSense 69 = .ok (.iload_n 1, 1) := by decide +kernel
theorem dX7_hingeSense_70 : decode cX7_hingeSense 70 = .ok (.iaload, 1) := by decide +kernel
theorem dX7_hingeSense_71 : decode cX7_hingeSense 71 = .ok (.goto 9, 3) := by decide +kernel
theorem dX7_hingeSense_74 : decode cX7_hingeSense 74 = .ok (.aload_n 0, 1) := by decide +kernel
theorem dX7_hingeSense_75 : decode cX7_hingeSense 75 = .ok (.getfield 22, 3) := by decide +kernel
theorem dX7_hingeSense_78 : decode cX7_hingeSense 78 = .ok (.iload_n 1, 1) := by decide +kernel
theorem dX7_hingeSense_79 : decode cX7_hingeSense 79 = .ok (.iaload, 1) := by decide +kernel
theorem dX7_hingeSense_80 : decode cX7_hingeSense 80 = .ok (.istore 4, 2) := by decide +kernel
theorem dX7_hingeSense_82 : decode cX7_hingeSense 82 = .ok (.aload_n 0, 1) := by decide +kernel
theorem dX7_hingeSense_83 : decode cX7_hingeSense 83 = .ok (.iload_n 3, 1) := by decide +kernel
theorem dX7_hingeSense_84 : decode cX7_hingeSense 84 = .ok (.iload 4, 2) := by decide +kernel
theorem dX7_hingeSense_86 : decode cX7_hingeSense 86 = .ok (.iload_n 3, 1) := by decide +kernel
theorem dX7_hingeSense_87 : decode cX7_hingeSense 87 = .ok (.iload 4, 2) := by decide +kernel
theorem dX7_hingeSense_89 : decode cX7_hingeSense 89 = .ok (.invokevirtual 102, 3) := by decide +kernel
theorem dX7_hingeSense_92 : decode cX7_hingeSense 92 = .ok (.ifCond .eq 48, 3) := by decide +kernel
theorem dX7_hingeSense_95 : decode cX7_hingeSense 95 = .ok (.aload_n 0, 1) := by decide +kernel
theorem dX7_hingeSense_96 : decode cX7_hingeSense 96 = .ok (.iload_n 3, 1) := by decide +kernel
theorem dX7_hingeSense_97 : decode cX7_hingeSense 97 = .ok (.iload 4, 2) := by decide +kernel
theorem dX7_hingeSense_99 : decode cX7_hingeSense 99 = .ok (.iload 4, 2) := by decide +kernel
theorem dX7_hingeSense_101 : decode cX7_hingeSense 101 = .ok (.iload_n 3, 1) := by decide +kernel
theorem dX7_hingeSense_102 : decode cX7_hingeSense 102 = .ok (.invokevirtual 102, 3) := by decide +kernel
theorem dX7_hingeSense_105 : decode cX7_hingeSense 105 = .ok (.ifCond .eq 35, 3) := by decide +kernel
theorem dX7_hingeSense_108 : decode cX7_hingeSense 108 = .ok (.aload_n 0, 1) := by decide +kernel
theorem dX7_hingeSense_109 : decode cX7_hingeSense 109 = .ok (.iload_n 3, 1) := by decide +kernel
theorem dX7_hingeSense_110 : decode cX7_hingeSense 110 = .ok (.iload 4, 2) := by decide +kernel
theorem dX7_hingeSense_112 : decode cX7_hingeSense 112 = .ok (.aload_n 0, 1) := by decide +kernel
theorem dX7_hingeSense_113 : decode cX7_hingeSense 113 = .ok (.iload_n 3, 1) := by decide +kernel
theorem dX7_hingeSense_114 : decode cX7_hingeSense 114 = .ok (.iload 4, 2) := by decide +kernel
theorem dX7_hingeSense_116 : decode cX7_hingeSense 116 = .ok (.invokevirtual 106, 3) := by decide +kernel
theorem dX7_hingeSense_119 : decode cX7_hingeSense 119 = .ok (.invokevirtual 109, 3) := by decide +kernel
theorem dX7_hingeSense_122 : decode cX7_hingeSense 122 = .ok (.aload_n 0, 1) := by decide +kernel
theorem dX7_hingeSense_123 : decode cX7_hingeSense 123 = .ok (.iload_n 3, 1) := by decide +kernel
theorem dX7_hingeSense_124 : decode cX7_hingeSense 124 = .ok (.iload 4, 2) := by decide +kernel
theorem dX7_hingeSense_126 : decode cX7_hingeSense 126 = .ok (.aload_n 0, 1) := by decide +kernel
theorem dX7_hingeSense_127 : decode cX7_hingeSense 127 = .ok (.iload 4, 2) := by decide +kernel
theorem dX7_hingeSense_129 : decode cX7_hingeSense 129 = .ok (.iload_n 3, 1) := by decide +kernel
theorem dX7_hingeSense_130 : decode cX7_hingeSense 130 = .ok (.invokevirtual 106, 3) := by decide +kernel
theorem dX7_hingeSense_133 : decode cX7_hingeSense 133 = .ok (.invokevirtual 109, 3) := by decide +kernel
theorem dX7_hingeSense_136 : decode cX7_hingeSense 136 = .ok (.imul, 1) := by decide +kernel
theorem dX7_hingeSense_137 : decode cX7_hingeSense 137 = .ok (.goto 4, 3) := by decide +kernel
theorem dX7_hingeSense_140 : decode cX7_hingeSense 140 = .ok (.iconst 0, 1) := by decide +kernel
theorem dX7_hingeSense_141 : decode cX7_hingeSense 141 = .ok (.ireturn, 1) := by decide +kernel
theorem dX7_isHinge_0 : decode cX7_isHinge 0 = .ok (.aload_n 0, 1) := by decide +kernel
theorem dX7_isHinge_1 : decode cX7_isHinge 1 = .ok (.getfield 7, 3) := by decide +kernel
theorem dX7_isHinge_4 : decode cX7_isHinge 4 = .ok (.aload_n 0, 1) := by decide +kernel
theorem dX7_isHinge_5 : decode cX7_isHinge 5 = .ok (.getfield 19, 3) := by decide +kernel
theorem dX7_isHinge_8 : decode cX7_isHinge 8 = .ok (.iload_n 1, 1) := by decide +kernel
theorem dX7_isHinge_9 : decode cX7_isHinge 9 = .ok (.iaload, 1) := by decide +kernel
theorem dX7_isHinge_10 : decode cX7_isHinge 10 = .ok (.iaload, 1) := by decide +kernel
theorem dX7_isHinge_11 : decode cX7_isHinge 11 = .ok (.iconst 1, 1) := by decide +kernel
theorem dX7_isHinge_12 : decode cX7_isHinge 12 = .ok (.if_icmp .gt 22, 3) := by decide +kernel
theorem dX7_isHinge_15 : decode cX7_isHinge 15 = .ok (.aload_n 0, 1) := by decide +kernel
theorem dX7_isHinge_16 : decode cX7_isHinge 16 = .ok (.getfield 7, 3) := by decide +kernel
theorem dX7_isHinge_19 : decode cX7_isHinge 19 = .ok (.aload_n 0, 1) := by decide +kernel
theorem dX7_isHinge_20 : decode cX7_isHinge 20 = .ok (.getfield 22, 3) := by decide +kernel
theorem dX7_isHinge_23 : decode cX7_isHinge 23 = .ok (.iload_n 1, 1) := by decide +kernel
theorem dX7_isHinge_24 : decode cX7_isHinge 24 = .ok (.iaload, 1) := by decide +kernel
theorem dX7_isHinge_25 : decode cX7_isHinge 25 = .ok (.iaload, 1) := by decide +kernel
theorem dX7_isHinge_26 : decode cX7_isHinge 26 = .ok (.iconst 1, 1) := by decide +kernel
theorem dX7_isHinge_27 : decode cX7_isHinge 27 = .ok (.if_icmp .gt 7, 3) := by decide +kernel
theorem dX7_isHinge_30 : decode cX7_isHinge 30 = .ok (.iconst 1, 1) := by decide +kernel
theorem dX7_isHinge_31 : decode cX7_isHinge 31 = .ok (.goto 4, 3) := by decide +kernel
theorem dX7_isHinge_34 : decode cX7_isHinge 34 = .ok (.iconst 0, 1) := by decide +kernel
theorem dX7_isHinge_35 : decode cX7_isHinge 35 = .ok (.istore_n 2, 1) := by decide +kernel
theorem dX7_isHinge_36 : decode cX7_isHinge 36 = .ok (.aload_n 0, 1) := by decide +kernel
theorem dX7_isHinge_37 : decode cX7_isHinge 37 = .ok (.aload_n 0, 1) := by decide +kernel
theorem dX7_isHinge_38 : decode cX7_isHinge 38 = .ok (.getfield 19, 3) := by decide +kernel
theorem dX7_isHinge_41 : decode cX7_isHinge 41 = .ok (.iload_n 1, 1) := by decide +kernel
theorem dX7_isHinge_42 : decode cX7_isHinge 42 = .ok (.iaload, 1) := by decide +kernel
theorem dX7_isHinge_43 : decode cX7_isHinge 43 = .ok (.iload_n 1, 1) := by decide +kernel
theorem dX7_isHinge_44 : decode cX7_isHinge 44 = .ok (.invokevirtual 87, 3) := by decide +kernel
theorem dX7_isHinge_47 : decode cX7_isHinge 47 = .ok (.istore_n 3, 1) := by decide +kernel
theorem dX7_isHinge_48 : decode cX7_isHinge 48 = .ok (.aload_n 0, 1) := by decide +kernel
theorem dX7_isHinge_49 : decode cX7_isHinge 49 = .ok (.aload_n 0, 1) := by decide +kernel
theorem dX7_isHinge_50 : decode cX7_isHinge 50 = .ok (.getfield 22, 3) := by decide +kernel
theorem dX7_isHinge_53 : decode cX7_isHinge 53 = .ok (.iload_n 1, 1) := by decide +kernel
theorem dX7_isHinge_54 : decode cX7_isHinge 54 = .ok (.iaload, 1) := by decide +kernel
theorem dX7_isHinge_55 : decode cX7_isHinge 55 = .ok (.iload_n 1, 1) := by decide +kernel
theorem dX7_isHinge_56 : decode cX7_isHinge 56 = .ok (.invokevirtual 87, 3) := by decide +kernel
theorem dX7_isHinge_59 : decode cX7_isHinge 59 = .ok (.istore 4, 2) := by decide +kernel
theorem dX7_isHinge_61 : decode cX7_isHinge 61 = .ok (.aload_n 0, 1) := by decide +kernel
theorem dX7_isHinge_62 : decode cX7_isHinge 62 = .ok (.getfield 25, 3) := by decide +kernel
theorem dX7_isHinge_65 : decode cX7_isHinge 65 = .ok (.iload_n 1, 1) := by decide +kernel
theorem dX7_isHinge_66 : decode cX7_isHinge 66 = .ok (.iaload, 1) := by decide +kernel
theorem dX7_isHinge_67 : decode cX7_isHinge 67 = .ok (.iconst 2, 1) := by decide +kernel
theorem dX7_isHinge_68 : decode cX7_isHinge 68 = .ok (.if_icmp .ne 33, 3) := by decide +kernel
theorem dX7_isHinge_71 : decode cX7_isHinge 71 = .ok (.iload_n 2, 1) := by decide +kernel
theorem dX7_isHinge_72 : decode cX7_isHinge 72 = .ok (.ifCond .eq 29, 3) := by decide +kernel
theorem dX7_isHinge_75 : decode cX7_isHinge 75 = .ok (.iload_n 3, 1) := by decide +kernel
theorem dX7_isHinge_76 : decode cX7_isHinge 76 = .ok (.iconst 1, 1) := by decide +kernel
theorem dX7_isHinge_77 : decode cX7_isHinge 77 = .ok (.if_icmp .lt 24, 3) := by decide +kernel
theorem dX7_isHinge_80 : decode cX7_isHinge 80 = .ok (.iload_n 3, 1) := by decide +kernel
theorem dX7_isHinge_81 : decode cX7_isHinge 81 = .ok (.iconst 2, 1) := by decide +kernel
theorem dX7_isHinge_82 : decode cX7_isHinge 82 = .ok (.if_icmp .gt 19, 3) := by decide +kernel
theorem dX7_isHinge_85 : decode cX7_isHinge 85 = .ok (.iload 4, 2) := by decide +kernel
theorem dX7_isHinge_87 : decode cX7_isHinge 87 = .ok (.iconst 1, 1) := by decide +kernel
theorem dX7_isHinge_88 : decode cX7_isHinge 88 = .ok (.if_icmp .lt 13, 3) := by decide +kernel
theorem dX7_isHinge_91 : decode cX7_isHinge 91 = .ok (.iload 4, 2) := by decide +kernel
theorem dX7_isHinge_93 : decode cX7_isHinge 93 = .ok (.iconst 2, 1) := by decide +kernel
theorem dX7_isHinge_94 : decode cX7_isHinge 94 = .ok (.if_icmp .gt 7, 3) := by decide +kernel
theorem dX7_isHinge_97 : decode cX7_isHinge 97 = .ok (.iconst 1, 1) := by decide +kernel
theorem dX7_isHinge_98 : decode cX7_isHinge 98 = .ok (.goto 4, 3) := by decide +kernel
theorem dX7_isHinge_101 : decode cX7_isHinge 101 = .ok (.iconst 0, 1) := by decide +kernel
theorem dX7_isHinge_102 : decode cX7_isHinge 102 = .ok (.ireturn, 1) := by decide +kernel
theorem dX7_isClear_0 : decode cX7_isClear 0 = .ok (.iconst 0, 1) := by decide +kernel
theorem dX7_isClear_1 : decode cX7_isClear 1 = .ok (.istore 5, 2) := by decide +kernel
theorem dX7_isClear_3 : decode cX7_isClear 3 = .ok (.iconst 0, 1) := by decide +kernel
theorem dX7_isClear_4 : decode cX7_isClear 4 = .ok (.istore 6, 2) := by decide +kernel
theorem dX7_isClear_6 : decode cX7_isClear 6 = .ok (.iconst 0, 1) := by decide +kernel
theorem dX7_isClear_7 : decode cX7_isClear 7 = .ok (.istore 7, 2) := by decide +kernel
theorem dX7_isClear_9 : decode cX7_isClear 9 = .ok (.iconst 0, 1) := by decide +kernel
theorem dX7_isClear_10 : decode cX7_isClear 10 = .ok (.istore 8, 2) := by decide +kernel
theorem dX7_isClear_12 : decode cX7_isClear 12 = .ok (.iload 8, 2) := by decide +kernel
theorem dX7_isClear_14 : decode cX7_isClear 14 = .ok (.aload_n 0, 1) := by decide +kernel
theorem dX7_isClear_15 : decode cX7_isClear 15 = .ok (.getfield 59, 3) := by decide +kernel
theorem dX7_isClear_18 : decode cX7_isClear 18 = .ok (.if_icmp .ge 125, 3) := by decide +kernel
theorem dX7_isClear_21 : decode cX7_isClear 21 = .ok (.aload_n 0, 1) := by decide +kernel
theorem dX7_isClear_22 : decode cX7_isClear 22 = .ok (.getfield 19, 3) := by decide +kernel
theorem dX7_isClear_25 : decode cX7_isClear 25 = .ok (.iload 8, 2) := by decide +kernel
theorem dX7_isClear_27 : decode cX7_isClear 27 = .ok (.iaload, 1) := by decide +kernel
theorem dX7_isClear_28 : decode cX7_isClear 28 = .ok (.iload_n 3, 1) := by decide +kernel
theorem dX7_isClear_29 : decode cX7_isClear 29 = .ok (.if_icmp .ne 13, 3) := by decide +kernel
theorem dX7_isClear_32 : decode cX7_isClear 32 = .ok (.aload_n 0, 1) := by decide +kernel
theorem dX7_isClear_33 : decode cX7_isClear 33 = .ok (.getfield 22, 3) := by decide +kernel
theorem dX7_isClear_36 : decode cX7_isClear 36 = .ok (.iload 8, 2) := by decide +kernel
theorem dX7_isClear_38 : decode cX7_isClear 38 = .ok (.iaload, 1) := by decide +kernel
theorem dX7_isClear_39 : decode cX7_isClear 39 = .ok (.goto 26, 3) := by decide +kernel
theorem dX7_isClear_42 : decode cX7_isClear 42 = .ok (.aload_n 0, 1) := by decide +kernel
theorem dX7_isClear_43 : decode cX7_isClear 43 = .ok (.getfield 22, 3) := by decide +kernel
theorem dX7_isClear_46 : decode cX7_isClear 46 = .ok (.iload 8, 2) := by decide +kernel
theorem dX7_isClear_48 : decode cX7_isClear 48 = .ok (.iaload, 1) := by decide +kernel
theorem dX7_isClear_49 : decode cX7_isClear 49 = .ok (.iload_n 3, 1) := by decide +kernel
theorem dX7_isClear_50 : decode cX7_isClear 50 = .ok (.if_icmp .ne 13, 3) := by decide +kernel
theorem dX7_isClear_53 : decode cX7_isClear 53 = .ok (.aload_n 0, 1) := by decide +kernel
theorem dX7_isClear_54 : decode cX7_isClear 54 = .ok (.getfield 19, 3) := by decide +kernel
theorem dX7_isClear_57 : decode cX7_isClear 57 = .ok (.iload 8, 2) := by decide +kernel
theorem dX7_isClear_59 : decode cX7_isClear 59 = .ok (.iaload, 1) := by decide +kernel
theorem dX7_isClear_60 : decode cX7_isClear 60 = .ok (.goto 5, 3) := by decide +kernel
theorem dX7_isClear_63 : decode cX7_isClear 63 = .ok (.iload 4, 2) := by decide +kernel
theorem dX7_isClear_65 : decode cX7_isClear 65 = .ok (.istore 9, 2) := by decide +kernel
theorem dX7_isClear_67 : decode cX7_isClear 67 = .ok (.iload 9, 2) := by decide +kernel
theorem dX7_isClear_69 : decode cX7_isClear 69 = .ok (.iload 4, 2) := by decide +kernel
theorem dX7_isClear_71 : decode cX7_isClear 71 = .ok (.if_icmp .ne 7, 3) := by decide +kernel
theorem dX7_isClear_74 : decode cX7_isClear 74 = .ok (.iconst 2, 1) := by decide +kernel
theorem dX7_isClear_75 : decode cX7_isClear 75 = .ok (.goto 11, 3) := by decide +kernel
theorem dX7_isClear_78 : decode cX7_isClear 78 = .ok (.aload_n 0, 1) := by decide +kernel
theorem dX7_isClear_79 : decode cX7_isClear 79 = .ok (.iload_n 1, 1) := by decide +kernel
theorem dX7_isClear_80 : decode cX7_isClear 80 = .ok (.iload_n 2, 1) := by decide +kernel
theorem dX7_isClear_81 : decode cX7_isClear 81 = .ok (.iload 9, 2) := by decide +kernel
theorem dX7_isClear_83 : decode cX7_isClear 83 = .ok (.invokevirtual 109, 3) := by decide +kernel
theorem dX7_isClear_86 : decode cX7_isClear 86 = .ok (.istore 10, 2) := by decide +kernel
theorem dX7_isClear_88 : decode cX7_isClear 88 = .ok (.iload 5, 2) := by decide +kernel
theorem dX7_isClear_90 : decode cX7_isClear 90 = .ok (.iload 10, 2) := by decide +kernel
theorem dX7_isClear_92 : decode cX7_isClear 92 = .ok (.iconst 1, 1) := by decide +kernel
theorem dX7_isClear_93 : decode cX7_isClear 93 = .ok (.if_icmp .ne 7, 3) := by decide +kernel
theorem dX7_isClear_96 : decode cX7_isClear 96 = .ok (.iconst 1, 1) := by decide +kernel
theorem dX7_isClear_97 : decode cX7_isClear 97 = .ok (.goto 4, 3) := by decide +kernel
theorem dX7_isClear_100 : decode cX7_isClear 100 = .ok (.iconst 0, 1) := by decide +kernel
theorem dX7_isClear_101 : decode cX7_isClear 101 = .ok (.iadd, 1) := by decide +kernel
theorem dX7_isClear_102 : decode cX7_isClear 102 = .ok (.istore 5, 2) := by decide +kernel
theorem dX7_isClear_104 : decode cX7_isClear 104 = .ok (.iload 6, 2) := by decide +kernel
theorem dX7_isClear_106 : decode cX7_isClear 106 = .ok (.iload 10, 2) := by decide +kernel
theorem dX7_isClear_108 : decode cX7_isClear 108 = .ok (.iconst (-1), 1) := by decide +kernel
theorem dX7_isClear_109 : decode cX7_isClear 109 = .ok (.if_icmp .ne 7, 3) := by decide +kernel
theorem dX7_isClear_112 : decode cX7_isClear 112 = .ok (.iconst 1, 1) := by decide +kernel
theorem dX7_isClear_113 : decode cX7_isClear 113 = .ok (.goto 4, 3) := by decide +kernel
theorem dX7_isClear_116 : decode cX7_isClear 116 = .ok (.iconst 0, 1) := by decide +kernel
theorem dX7_isClear_117 : decode cX7_isClear 117 = .ok (.iadd, 1) := by decide +kernel
theorem dX7_isClear_118 : decode cX7_isClear 118 = .ok (.istore 6, 2) := by decide +kernel
theorem dX7_isClear_120 : decode cX7_isClear 120 = .ok (.iload 7, 2) := by decide +kernel
theorem dX7_isClear_122 : decode cX7_isClear 122 = .ok (.ifCond .ne 8, 3) := by decide +kernel
theorem dX7_isClear_125 : decode cX7_isClear 125 = .ok (.iload 10, 2) := by decide +kernel
theorem dX7_isClear_127 : decode cX7_isClear 127 = .ok (.ifCond .ne 7, 3) := by decide +kernel
theorem dX7_isClear_130 : decode cX7_isClear 130 = .ok (.iconst 1, 1) := by decide +kernel
theorem dX7_isClear_131 : decode cX7_isClear 131 = .ok (.goto 4, 3) := by decide +kernel
theorem dX7_isClear_134 : decode cX7_isClear 134 = .ok (.iconst 0, 1) := by decide +kernel
theorem dX7_isClear_135 : decode cX7_isClear 135 = .ok (.istore 7, 2) := by decide +kernel
theorem dX7_isClear_137 : decode cX7_isClear 137 = .ok (.iinc 8 1, 3) := by decide +kernel
theorem dX7_isClear_140 : decode cX7_isClear 140 = .ok (.goto (-128), 3) := by decide +kernel
theorem dX7_isClear_143 : decode cX7_isClear 143 = .ok (.iload 7, 2) := by decide +kernel
theorem dX7_isClear_145 : decode cX7_isClear 145 = .ok (.ifCond .ne 19, 3) := by decide +kernel
theorem dX7_isClear_148 : decode cX7_isClear 148 = .ok (.iload 5, 2) := by decide +kernel
theorem dX7_isClear_150 : decode cX7_isClear 150 = .ok (.iconst 2, 1) := by decide +kernel
theorem dX7_isClear_151 : decode cX7_isClear 151 = .ok (.if_icmp .ge 13, 3) := by decide +kernel
theorem dX7_isClear_154 : decode cX7_isClear 154 = .ok (.iload 6, 2) := by decide +kernel
theorem dX7_isClear_156 : decode cX7_isClear 156 = .ok (.iconst 2, 1) := by decide +kernel
theorem dX7_isClear_157 : decode cX7_isClear 157 = .ok (.if_icmp .ge 7, 3) := by decide +kernel
theorem dX7_isClear_160 : decode cX7_isClear 160 = .ok (.iconst 1, 1) := by decide +kernel
theorem dX7_isClear_161 : decode cX7_isClear 161 = .ok (.goto 4, 3) := by decide +kernel
theorem dX7_isClear_164 : decode cX7_isClear 164 = .ok (.iconst 0, 1) := by decide +kernel
theorem dX7_isClear_165 : decode cX7_isClear 165 = .ok (.ireturn, 1) := by decide +kernel
theorem dX7_side_0 : decode cX7_side 0 = .ok (.aload_n 0, 1) := by decide +kernel
theorem dX7_side_1 : decode cX7_side 1 = .ok (.getfield 13, 3) := by decide +kernel
theorem dX7_side_4 : decode cX7_side 4 = .ok (.iload_n 2, 1) := by decide +kernel
theorem dX7_side_5 : decode cX7_side 5 = .ok (.iaload, 1) := by decide +kernel
theorem dX7_side_6 : decode cX7_side 6 = .ok (.aload_n 0, 1) := by decide +kernel
theorem dX7_side_7 : decode cX7_side 7 = .ok (.getfield 13, 3) := by decide +kernel
theorem dX7_side_10 : decode cX7_side 10 = .ok (.iload_n 1, 1) := by decide +kernel
theorem dX7_side_11 : decode cX7_side 11 = .ok (.iaload, 1) := by decide +kernel
theorem dX7_side_12 : decode cX7_side 12 = .ok (.isub, 1) := by decide +kernel
theorem dX7_side_13 : decode cX7_side 13 = .ok (.aload_n 0, 1) := by decide +kernel
theorem dX7_side_14 : decode cX7_side 14 = .ok (.getfield 16, 3) := by decide +kernel
theorem dX7_side_17 : decode cX7_side 17 = .ok (.iload_n 3, 1) := by decide +kernel
theorem dX7_side_18 : decode cX7_side 18 = .ok (.iaload, 1) := by decide +kernel
theorem dX7_side_19 : decode cX7_side 19 = .ok (.aload_n 0, 1) := by decide +kernel
theorem dX7_side_20 : decode cX7_side 20 = .ok (.getfield 16, 3) := by decide +kernel
theorem dX7_side_23 : decode cX7_side 23 = .ok (.iload_n 1, 1) := by decide +kernel
theorem dX7_side_24 : decode cX7_side 24 = .ok (.iaload, 1) := by decide +kernel
theorem dX7_side_25 : decode cX7_side 25 = .ok (.isub, 1) := by decide +kernel
theorem dX7_side_26 : decode cX7_side 26 = .ok (.imul, 1) := by decide +kernel
theorem dX7_side_27 : decode cX7_side 27 = .ok (.aload_n 0, 1) := by decide +kernel
theorem dX7_side_28 : decode cX7_side 28 = .ok (.getfield 16, 3) := by decide +kernel
theorem dX7_side_31 : decode cX7_side 31 = .ok (.iload_n 2, 1) := by decide +kernel
theorem dX7_side_32 : decode cX7_side 32 = .ok (.iaload, 1) := by decide +kernel
theorem dX7_side_33 : decode cX7_side 33 = .ok (.aload_n 0, 1) := by decide +kernel
theorem dX7_side_34 : decode cX7_side 34 = .ok (.getfield 16, 3) := by decide +kernel
theorem dX7_side_37 : decode cX7_side 37 = .ok (.iload_n 1, 1) := by decide +kernel
theorem dX7_side_38 : decode cX7_side 38 = .ok (.iaload, 1) := by decide +kernel
theorem dX7_side_39 : decode cX7_side 39 = .ok (.isub, 1) := by decide +kernel
theorem dX7_side_40 : decode cX7_side 40 = .ok (.aload_n 0, 1) := by decide +kernel
theorem dX7_side_41 : decode cX7_side 41 = .ok (.getfield 13, 3) := by decide +kernel
theorem dX7_side_44 : decode cX7_side 44 = .ok (.iload_n 3, 1) := by decide +kernel
theorem dX7_side_45 : decode cX7_side 45 = .ok (.iaload, 1) := by decide +kernel
theorem dX7_side_46 : decode cX7_side 46 = .ok (.aload_n 0, 1) := by decide +kernel
theorem dX7_side_47 : decode cX7_side 47 = .ok (.getfield 13, 3) := by decide +kernel
theorem dX7_side_50 : decode cX7_side 50 = .ok (.iload_n 1, 1) := by decide +kernel
theorem dX7_side_51 : decode cX7_side 51 = .ok (.iaload, 1) := by decide +kernel
theorem dX7_side_52 : decode cX7_side 52 = .ok (.isub, 1) := by decide +kernel
theorem dX7_side_53 : decode cX7_side 53 = .ok (.imul, 1) := by decide +kernel
theorem dX7_side_54 : decode cX7_side 54 = .ok (.isub, 1) := by decide +kernel
theorem dX7_side_55 : decode cX7_side 55 = .ok (.invokestatic 96, 3) := by decide +kernel
theorem dX7_side_58 : decode cX7_side 58 = .ok (.ireturn, 1) := by decide +kernel
theorem dX7_leastBeside_0 : decode cX7_leastBeside 0 = .ok (.iconst (-1), 1) := by decide +kernel
theorem dX7_leastBeside_1 : decode cX7_leastBeside 1 = .ok (.istore_n 3, 1) := by decide +kernel
theorem dX7_leastBeside_2 : decode cX7_leastBeside 2 = .ok (.aload_n 0, 1) := by decide +kernel
theorem dX7_leastBeside_3 : decode cX7_leastBeside 3 = .ok (.getfield 55, 3) := by decide +kernel
theorem dX7_leastBeside_6 : decode cX7_leastBeside 6 = .ok (.iconst 1, 1) := by decide +kernel
theorem dX7_leastBeside_7 : decode cX7_leastBeside 7 = .ok (.isub, 1) := by decide +kernel
theorem dX7_leastBeside_8 : decode cX7_leastBeside 8 = .ok (.istore 4, 2) := by decide +kernel
theorem dX7_leastBeside_10 : decode cX7_leastBeside 10 = .ok (.iload 4, 2) := by decide +kernel
theorem dX7_leastBeside_12 : decode cX7_leastBeside 12 = .ok (.ifCond .lt 47, 3) := by decide +kernel
theorem dX7_leastBeside_15 : decode cX7_leastBeside 15 = .ok (.aload_n 0, 1) := by decide +kernel
theorem dX7_leastBeside_16 : decode cX7_leastBeside 16 = .ok (.getfield 31, 3) := by decide +kernel
theorem dX7_leastBeside_19 : decode cX7_leastBeside 19 = .ok (.iload 4, 2) := by decide +kernel
theorem dX7_leastBeside_21 : decode cX7_leastBeside 21 = .ok (.iaload, 1) := by decide +kernel
theorem dX7_leastBeside_22 : decode cX7_leastBeside 22 = .ok (.iload_n 2, 1) := by decide +kernel
theorem dX7_leastBeside_23 : decode cX7_leastBeside 23 = .ok (.if_icmp .eq 28, 3) := by decide +kernel
theorem dX7_leastBeside_26 : decode cX7_leastBeside 26 = .ok (.aload_n 0, 1) := by decide +kernel
theorem dX7_leastBeside_27 : decode cX7_leastBeside 27 = .ok (.iload_n 1, 1) := by decide +kernel
theorem dX7_leastBeside_28 : decode cX7_leastBeside 28 = .ok (.aload_n 0, 1) := by decide +kernel
theorem dX7_leastBeside_29 : decode cX7_leastBeside 29 = .ok (.getfield 31, 3) := by decide +kernel
theorem dX7_leastBeside_32 : decode cX7_leastBeside 32 = .ok (.iload 4, 2) := by decide +kernel
theorem dX7_leastBeside_34 : decode cX7_leastBeside 34 = .ok (.iaload, 1) := by decide +kernel
theorem dX7_leastBeside_35 : decode cX7_leastBeside 35 = .ok (.invokevirtual 77, 3) := by decide +kernel
theorem dX7_leastBeside_38 : decode cX7_leastBeside 38 = .ok (.ifCond .lt 13, 3) := by decide +kernel
theorem dX7_leastBeside_41 : decode cX7_leastBeside 41 = .ok (.aload_n 0, 1) := by decide +kernel
theorem dX7_leastBeside_42 : decode cX7_leastBeside 42 = .ok (.getfield 31, 3) := by decide +kernel
theorem dX7_leastBeside_45 : decode cX7_leastBeside 45 = .ok (.iload 4, 2) := by decide +kernel
theorem dX7_leastBeside_47 : decode cX7_leastBeside 47 = .ok (.iaload, 1) := by decide +kernel
theorem dX7_leastBeside_48 : decode cX7_leastBeside 48 = .ok (.goto 4, 3) := by decide +kernel
theorem dX7_leastBeside_51 : decode cX7_leastBeside 51 = .ok (.iload_n 3, 1) := by decide +kernel
theorem dX7_leastBeside_52 : decode cX7_leastBeside 52 = .ok (.istore_n 3, 1) := by decide +kernel
theorem dX7_leastBeside_53 : decode cX7_leastBeside 53 = .ok (.iinc 4 (-1), 3) := by decide +kernel
theorem dX7_leastBeside_56 : decode cX7_leastBeside 56 = .ok (.goto (-46), 3) := by decide +kernel
theorem dX7_leastBeside_59 : decode cX7_leastBeside 59 = .ok (.iload_n 3, 1) := by decide +kernel
theorem dX7_leastBeside_60 : decode cX7_leastBeside 60 = .ok (.ireturn, 1) := by decide +kernel
theorem dX7_row_0 : decode cX7_row 0 = .ok (.aload_n 0, 1) := by decide +kernel
theorem dX7_row_1 : decode cX7_row 1 = .ok (.invokevirtual 141, 3) := by decide +kernel
theorem dX7_row_4 : decode cX7_row 4 = .ok (.aload_n 0, 1) := by decide +kernel
theorem dX7_row_5 : decode cX7_row 5 = .ok (.iload_n 1, 1) := by decide +kernel
theorem dX7_row_6 : decode cX7_row 6 = .ok (.invokevirtual 74, 3) := by decide +kernel
theorem dX7_row_9 : decode cX7_row 9 = .ok (.ifCond .eq 12, 3) := by decide +kernel
theorem dX7_row_12 : decode cX7_row 12 = .ok (.aload_n 0, 1) := by decide +kernel
theorem dX7_row_13 : decode cX7_row 13 = .ok (.getfield 37, 3) := by decide +kernel
theorem dX7_row_16 : decode cX7_row 16 = .ok (.iload_n 1, 1) := by decide +kernel
theorem dX7_row_17 : decode cX7_row 17 = .ok (.iaload, 1) := by decide +kernel
theorem dX7_row_18 : decode cX7_row 18 = .ok (.goto 4, 3) := by decide +kernel
theorem dX7_row_21 : decode cX7_row 21 = .ok (.iconst (-1), 1) := by decide +kernel
theorem dX7_row_22 : decode cX7_row 22 = .ok (.ireturn, 1) := by decide +kernel
theorem dX7_search_0 : decode cX7_search 0 = .ok (.aload_n 0, 1) := by decide +kernel
theorem dX7_search_1 : decode cX7_search 1 = .ok (.getfield 66, 3) := by decide +kernel
theorem dX7_search_4 : decode cX7_search 4 = .ok (.ifCond .eq 4, 3) := by decide +kernel
theorem dX7_search_7 : decode cX7_search 7 = .ok (.return_, 1) := by decide +kernel
theorem dX7_search_8 : decode cX7_search 8 = .ok (.aload_n 0, 1) := by decide +kernel
theorem dX7_search_9 : decode cX7_search 9 = .ok (.iconst 1, 1) := by decide +kernel
theorem dX7_search_10 : decode cX7_search 10 = .ok (.putfield 66, 3) := by decide +kernel
theorem dX7_search_13 : decode cX7_search 13 = .ok (.aload_n 0, 1) := by decide +kernel
theorem dX7_search_14 : decode cX7_search 14 = .ok (.invokevirtual 113, 3) := by decide +kernel
theorem dX7_search_17 : decode cX7_search 17 = .ok (.aload_n 0, 1) := by decide +kernel
theorem dX7_search_18 : decode cX7_search 18 = .ok (.iconst 0, 1) := by decide +kernel
theorem dX7_search_19 : decode cX7_search 19 = .ok (.putfield 127, 3) := by decide +kernel
theorem dX7_search_22 : decode cX7_search 22 = .ok (.aload_n 0, 1) := by decide +kernel
theorem dX7_search_23 : decode cX7_search 23 = .ok (.getfield 55, 3) := by decide +kernel
theorem dX7_search_26 : decode cX7_search 26 = .ok (.ifCond .le 7, 3) := by decide +kernel
theorem dX7_search_29 : decode cX7_search 29 = .ok (.iconst 1, 1) := by decide +kernel
theorem dX7_search_30 : decode cX7_search 30 = .ok (.goto 4, 3) := by decide +kernel
theorem dX7_search_33 : decode cX7_search 33 = .ok (.iconst 0, 1) := by decide +kernel
theorem dX7_search_34 : decode cX7_search 34 = .ok (.istore_n 1, 1) := by decide +kernel
theorem dX7_search_35 : decode cX7_search 35 = .ok (.iload_n 1, 1) := by decide +kernel
theorem dX7_search_36 : decode cX7_search 36 = .ok (.ifCond .eq 153, 3) := by decide +kernel
theorem dX7_search_39 : decode cX7_search 39 = .ok (.aload_n 0, 1) := by decide +kernel
theorem dX7_search_40 : decode cX7_search 40 = .ok (.getfield 127, 3) := by decide +kernel
theorem dX7_search_43 : decode cX7_search 43 = .ok (.ifCond .ne 7, 3) := by decide +kernel
theorem dX7_search_46 : decode cX7_search 46 = .ok (.iconst (-1), 1) := by decide +kernel
theorem dX7_search_47 : decode cX7_search 47 = .ok (.goto 4, 3) := by decide +kernel
theorem dX7_search_50 : decode cX7_search 50 = .ok (.iconst 0, 1) := by decide +kernel
theorem dX7_search_51 : decode cX7_search 51 = .ok (.istore_n 2, 1) := by decide +kernel
theorem dX7_search_52 : decode cX7_search 52 = .ok (.iconst 0, 1) := by decide +kernel
theorem dX7_search_53 : decode cX7_search 53 = .ok (.istore_n 3, 1) := by decide +kernel
theorem dX7_search_54 : decode cX7_search 54 = .ok (.iload_n 3, 1) := by decide +kernel
theorem dX7_search_55 : decode cX7_search 55 = .ok (.aload_n 0, 1) := by decide +kernel
theorem dX7_search_56 : decode cX7_search 56 = .ok (.getfield 55, 3) := by decide +kernel
theorem dX7_search_59 : decode cX7_search 59 = .ok (.if_icmp .ge 78, 3) := by decide +kernel
theorem dX7_search_62 : decode cX7_search 62 = .ok (.iload_n 2, 1) := by decide +kernel
theorem dX7_search_63 : decode cX7_search 63 = .ok (.iconst 1, 1) := by decide +kernel
theorem dX7_search_64 : decode cX7_search 64 = .ok (.if_icmp .ge 73, 3) := by decide +kernel
theorem dX7_search_67 : decode cX7_search 67 = .ok (.aload_n 0, 1) := by decide +kernel
theorem dX7_search_68 : decode cX7_search 68 = .ok (.iload_n 3, 1) := by decide +kernel
theorem dX7_search_69 : decode cX7_search 69 = .ok (.invokevirtual 130, 3) := by decide +kernel
theorem dX7_search_72 : decode cX7_search 72 = .ok (.istore 4, 2) := by decide +kernel
theorem dX7_search_74 : decode cX7_search 74 = .ok (.iload_n 2, 1) := by decide +kernel
theorem dX7_search_75 : decode cX7_search 75 = .ok (.ifCond .lt 14, 3) := by decide +kernel
theorem dX7_search_78 : decode cX7_search 78 = .ok (.iload 4, 2) := by decide +kernel
theorem dX7_search_80 : decode cX7_search 80 = .ok (.aload_n 0, 1) := by decide +kernel
theorem dX7_search_81 : decode cX7_search 81 = .ok (.getfield 37, 3) := by decide +kernel
theorem dX7_search_84 : decode cX7_search 84 = .ok (.iload_n 3, 1) := by decide +kernel
theorem dX7_search_85 : decode cX7_search 85 = .ok (.iaload, 1) := by decide +kernel
theorem dX7_search_86 : decode cX7_search 86 = .ok (.if_icmp .ne 7, 3) := by decide +kernel
theorem dX7_search_89 : decode cX7_search 89 = .ok (.iload_n 2, 1) := by decide +kernel
theorem dX7_search_90 : decode cX7_search 90 = .ok (.goto 19, 3) := by decide +kernel
theorem dX7_search_93 : decode cX7_search 93 = .ok (.iload 4, 2) := by decide +kernel
theorem dX7_search_95 : decode cX7_search 95 = .ok (.aload_n 0, 1) := by decide +kernel
theorem dX7_search_96 : decode cX7_search 96 = .ok (.getfield 37, 3) := by decide +kernel
theorem dX7_search_99 : decode cX7_search 99 = .ok (.iload_n 3, 1) := by decide +kernel
theorem dX7_search_100 : decode cX7_search 100 = .ok (.iaload, 1) := by decide +kernel
theorem dX7_search_101 : decode cX7_search 101 = .ok (.if_icmp .ge 7, 3) := by decide +kernel
theorem dX7_search_104 : decode cX7_search 104 = .ok (.iconst (-1), 1) := by decide +kernel
theorem dX7_search_105 : decode cX7_search 105 = .ok (.goto 4, 3) := by decide +kernel
theorem dX7_search_108 : decode cX7_search 108 = .ok (.iconst 1, 1) := by decide +kernel
theorem dX7_search_109 : decode cX7_search 109 = .ok (.istore_n 2, 1) := by decide +kernel
theorem dX7_search_110 : decode cX7_search 110 = .ok (.aload_n 0, 1) := by decide +kernel
theorem dX7_search_111 : decode cX7_search 111 = .ok (.getfield 37, 3) := by decide +kernel
theorem dX7_search_114 : decode cX7_search 114 = .ok (.iload_n 3, 1) := by decide +kernel
theorem dX7_search_115 : decode cX7_search 115 = .ok (.iload_n 2, 1) := by decide +kernel
theorem dX7_search_116 : decode cX7_search 116 = .ok (.ifCond .ge 8, 3) := by decide +kernel
theorem dX7_search_119 : decode cX7_search 119 = .ok (.iload 4, 2) := by decide +kernel
theorem dX7_search_121 : decode cX7_search 121 = .ok (.goto 9, 3) := by decide +kernel
theorem dX7_search_124 : decode cX7_search 124 = .ok (.aload_n 0, 1) := by decide +kernel
theorem dX7_search_125 : decode cX7_search 125 = .ok (.getfield 37, 3) := by decide +kernel
theorem dX7_search_128 : decode cX7_search 128 = .ok (.iload_n 3, 1) := by decide +kernel
theorem dX7_search_129 : decode cX7_search 129 = .ok (.iaload, 1) := by decide +kernel
theorem dX7_search_130 : decode cX7_search 130 = .ok (.iastore, 1) := by decide +kernel
theorem dX7_search_131 : decode cX7_search 131 = .ok (.iinc 3 1, 3) := by decide +kernel
theorem dX7_search_134 : decode cX7_search 134 = .ok (.goto (-80), 3) := by decide +kernel
theorem dX7_search_137 : decode cX7_search 137 = .ok (.aload_n 0, 1) := by decide +kernel
theorem dX7_search_138 : decode cX7_search 138 = .ok (.iload_n 2, 1) := by decide +kernel
theorem dX7_search_139 : decode cX7_search 139 = .ok (.ifCond .ge 7, 3) := by decide +kernel
theorem dX7_search_142 : decode cX7_search 142 = .ok (.iconst 0, 1) := by decide +kernel
theorem dX7_search_143 : decode cX7_search 143 = .ok (.goto 7, 3) := by decide +kernel
theorem dX7_search_146 : decode cX7_search 146 = .ok (.aload_n 0, 1) := by decide +kernel
theorem dX7_search_147 : decode cX7_search 147 = .ok (.getfield 127, 3) := by decide +kernel
theorem dX7_search_150 : decode cX7_search 150 = .ok (.putfield 127, 3) := by decide +kernel
theorem dX7_search_153 : decode cX7_search 153 = .ok (.iload_n 2, 1) := by decide +kernel
theorem dX7_search_154 : decode cX7_search 154 = .ok (.iconst 1, 1) := by decide +kernel
theorem dX7_search_155 : decode cX7_search 155 = .ok (.if_icmp .ge 26, 3) := by decide +kernel
theorem dX7_search_158 : decode cX7_search 158 = .ok (.aload_n 0, 1) := by decide +kernel
theorem dX7_search_159 : decode cX7_search 159 = .ok (.getfield 40, 3) := by decide +kernel
theorem dX7_search_162 : decode cX7_search 162 = .ok (.aload_n 0, 1) := by decide +kernel
theorem dX7_search_163 : decode cX7_search 163 = .ok (.getfield 127, 3) := by decide +kernel
theorem dX7_search_166 : decode cX7_search 166 = .ok (.aload_n 0, 1) := by decide +kernel
theorem dX7_search_167 : decode cX7_search 167 = .ok (.invokevirtual 133, 3) := by decide +kernel
theorem dX7_search_170 : decode cX7_search 170 = .ok (.iastore, 1) := by decide +kernel
theorem dX7_search_171 : decode cX7_search 171 = .ok (.aload_n 0, 1) := by decide +kernel
theorem dX7_search_172 : decode cX7_search 172 = .ok (.dup, 1) := by decide +kernel
theorem dX7_search_173 : decode cX7_search 173 = .ok (.getfield 127, 3) := by decide +kernel
theorem dX7_search_176 : decode cX7_search 176 = .ok (.iconst 1, 1) := by decide +kernel
theorem dX7_search_177 : decode cX7_search 177 = .ok (.iadd, 1) := by decide +kernel
theorem dX7_search_178 : decode cX7_search 178 = .ok (.putfield 127, 3) := by decide +kernel
theorem dX7_search_181 : decode cX7_search 181 = .ok (.aload_n 0, 1) := by decide +kernel
theorem dX7_search_182 : decode cX7_search 182 = .ok (.invokevirtual 137, 3) := by decide +kernel
theorem dX7_search_185 : decode cX7_search 185 = .ok (.istore_n 1, 1) := by decide +kernel
theorem dX7_search_186 : decode cX7_search 186 = .ok (.goto (-151), 3) := by decide +kernel
theorem dX7_search_189 : decode cX7_search 189 = .ok (.return_, 1) := by decide +kernel
theorem dX7_rowOf_0 : decode cX7_rowOf 0 = .ok (.ldc 122, 2) := by decide +kernel
theorem dX7_rowOf_2 : decode cX7_rowOf 2 = .ok (.bipush 8, 2) := by decide +kernel
theorem dX7_rowOf_4 : decode cX7_rowOf 4 = .ok (.aload_n 0, 1) := by decide +kernel
theorem dX7_rowOf_5 : decode cX7_rowOf 5 = .ok (.getfield 7, 3) := by decide +kernel
theorem dX7_rowOf_8 : decode cX7_rowOf 8 = .ok (.aload_n 0, 1) := by decide +kernel
theorem dX7_rowOf_9 : decode cX7_rowOf 9 = .ok (.getfield 31, 3) := by decide +kernel
theorem dX7_rowOf_12 : decode cX7_rowOf 12 = .ok (.iload_n 1, 1) := by decide +kernel
theorem dX7_rowOf_13 : decode cX7_rowOf 13 = .ok (.iaload, 1) := by decide +kernel
theorem dX7_rowOf_14 : decode cX7_rowOf 14 = .ok (.iaload, 1) := by decide +kernel
theorem dX7_rowOf_15 : decode cX7_rowOf 15 = .ok (.imul, 1) := by decide +kernel
theorem dX7_rowOf_16 : decode cX7_rowOf 16 = .ok (.aload_n 0, 1) := by decide +kernel
theorem dX7_rowOf_17 : decode cX7_rowOf 17 = .ok (.aload_n 0, 1) := by decide +kernel
theorem dX7_rowOf_18 : decode cX7_rowOf 18 = .ok (.getfield 31, 3) := by decide +kernel
theorem dX7_rowOf_21 : decode cX7_rowOf 21 = .ok (.iload_n 1, 1) := by decide +kernel
theorem dX7_rowOf_22 : decode cX7_rowOf 22 = .ok (.iaload, 1) := by decide +kernel
theorem dX7_rowOf_23 : decode cX7_rowOf 23 = .ok (.invokevirtual 81, 3) := by decide +kernel
theorem dX7_rowOf_26 : decode cX7_rowOf 26 = .ok (.iadd, 1) := by decide +kernel
theorem dX7_rowOf_27 : decode cX7_rowOf 27 = .ok (.imul, 1) := by decide +kernel
theorem dX7_rowOf_28 : decode cX7_rowOf 28 = .ok (.istore_n 2, 1) := by decide +kernel
theorem dX7_rowOf_29 : decode cX7_rowOf 29 = .ok (.iconst 0, 1) := by decide +kernel
theorem dX7_rowOf_30 : decode cX7_rowOf 30 = .ok (.istore_n 3, 1) := by decide +kernel
theorem dX7_rowOf_31 : decode cX7_rowOf 31 = .ok (.iload_n 3, 1) := by decide +kernel
theorem dX7_rowOf_32 : decode cX7_rowOf 32 = .ok (.iload_n 1, 1) := by decide +kernel
theorem dX7_rowOf_33 : decode cX7_rowOf 33 = .ok (.if_icmp .ge 50, 3) := by decide +kernel
theorem dX7_rowOf_36 : decode cX7_rowOf 36 = .ok (.aload_n 0, 1) := by decide +kernel
theorem dX7_rowOf_37 : decode cX7_rowOf 37 = .ok (.aload_n 0, 1) := by decide +kernel
theorem dX7_rowOf_38 : decode cX7_rowOf 38 = .ok (.getfield 31, 3) := by decide +kernel
theorem dX7_rowOf_41 : decode cX7_rowOf 41 = .ok (.iload_n 1, 1) := by decide +kernel
theorem dX7_rowOf_42 : decode cX7_rowOf 42 = .ok (.iaload, 1) := by decide +kernel
theorem dX7_rowOf_43 : decode cX7_rowOf 43 = .ok (.aload_n 0, 1) := by decide +kernel
theorem dX7_rowOf_44 : decode cX7_rowOf 44 = .ok (.getfield 31, 3) := by decide +kernel
theorem dX7_rowOf_47 : decode cX7_rowOf 47 = .ok (.iload_n 3, 1) := by decide +kernel
theorem dX7_rowOf_48 : decode cX7_rowOf 48 = .ok (.iaload, 1) := by decide +kernel
theorem dX7_rowOf_49 : decode cX7_rowOf 49 = .ok (.invokevirtual 77, 3) := by decide +kernel
theorem dX7_rowOf_52 : decode cX7_rowOf 52 = .ok (.istore 4, 2) := by decide +kernel
theorem dX7_rowOf_54 : decode cX7_rowOf 54 = .ok (.iload_n 2, 1) := by decide +kernel
theorem dX7_rowOf_55 : decode cX7_rowOf 55 = .ok (.iload 4, 2) := by decide +kernel
theorem dX7_rowOf_57 : decode cX7_rowOf 57 = .ok (.ifCond .ge 7, 3) := by decide +kernel
theorem dX7_rowOf_60 : decode cX7_rowOf 60 = .ok (.iconst 0, 1) := by decide +kernel
theorem dX7_rowOf_61 : decode cX7_rowOf 61 = .ok (.goto 14, 3) := by decide +kernel
theorem dX7_rowOf_64 : decode cX7_rowOf 64 = .ok (.aload_n 0, 1) := by decide +kernel
theorem dX7_rowOf_65 : decode cX7_rowOf 65 = .ok (.getfield 25, 3) := by decide +kernel
theorem dX7_rowOf_68 : decode cX7_rowOf 68 = .ok (.iload 4, 2) := by decide +kernel
theorem dX7_rowOf_70 : decode cX7_rowOf 70 = .ok (.iaload, 1) := by decide +kernel
theorem dX7_rowOf_71 : decode cX7_rowOf 71 = .ok (.iconst 2, 1) := by decide +kernel
theorem dX7_rowOf_72 : decode cX7_rowOf 72 = .ok (.iload_n 3, 1) := by decide +kernel
theorem dX7_rowOf_73 : decode cX7_rowOf 73 = .ok (.imul, 1) := by decide +kernel
theorem dX7_rowOf_74 : decode cX7_rowOf 74 = .ok (.ishl, 1) := by decide +kernel
theorem dX7_rowOf_75 : decode cX7_rowOf 75 = .ok (.iadd, 1) := by decide +kernel
theorem dX7_rowOf_76 : decode cX7_rowOf 76 = .ok (.istore_n 2, 1) := by decide +kernel
theorem dX7_rowOf_77 : decode cX7_rowOf 77 = .ok (.iinc 3 1, 3) := by decide +kernel
theorem dX7_rowOf_80 : decode cX7_rowOf 80 = .ok (.goto (-49), 3) := by decide +kernel
theorem dX7_rowOf_83 : decode cX7_rowOf 83 = .ok (.iload_n 2, 1) := by decide +kernel
theorem dX7_rowOf_84 : decode cX7_rowOf 84 = .ok (.ireturn, 1) := by decide +kernel
theorem dX7_packed_0 : decode cX7_packed 0 = .ok (.iconst 0, 1) := by decide +kernel
theorem dX7_packed_1 : decode cX7_packed 1 = .ok (.istore_n 1, 1) := by decide +kernel
theorem dX7_packed_2 : decode cX7_packed 2 = .ok (.iconst 0, 1) := by decide +kernel
theorem dX7_packed_3 : decode cX7_packed 3 = .ok (.istore_n 2, 1) := by decide +kernel
theorem dX7_packed_4 : decode cX7_packed 4 = .ok (.iload_n 2, 1) := by decide +kernel
theorem dX7_packed_5 : decode cX7_packed 5 = .ok (.aload_n 0, 1) := by decide +kernel
theorem dX7_packed_6 : decode cX7_packed 6 = .ok (.getfield 55, 3) := by decide +kernel
theorem dX7_packed_9 : decode cX7_packed 9 = .ok (.if_icmp .ge 22, 3) := by decide +kernel
theorem dX7_packed_12 : decode cX7_packed 12 = .ok (.iload_n 1, 1) := by decide +kernel
theorem dX7_packed_13 : decode cX7_packed 13 = .ok (.aload_n 0, 1) := by decide +kernel
theorem dX7_packed_14 : decode cX7_packed 14 = .ok (.getfield 31, 3) := by decide +kernel
theorem dX7_packed_17 : decode cX7_packed 17 = .ok (.iload_n 2, 1) := by decide +kernel
theorem dX7_packed_18 : decode cX7_packed 18 = .ok (.iaload, 1) := by decide +kernel
theorem dX7_packed_19 : decode cX7_packed 19 = .ok (.iconst 3, 1) := by decide +kernel
theorem dX7_packed_20 : decode cX7_packed 20 = .ok (.iload_n 2, 1) := by decide +kernel
theorem dX7_packed_21 : decode cX7_packed 21 = .ok (.imul, 1) := by decide +kernel
theorem dX7_packed_22 : decode cX7_packed 22 = .ok (.ishl, 1) := by decide +kernel
theorem dX7_packed_23 : decode cX7_packed 23 = .ok (.ior, 1) := by decide +kernel
theorem dX7_packed_24 : decode cX7_packed 24 = .ok (.istore_n 1, 1) := by decide +kernel
theorem dX7_packed_25 : decode cX7_packed 25 = .ok (.iinc 2 1, 3) := by decide +kernel
theorem dX7_packed_28 : decode cX7_packed 28 = .ok (.goto (-24), 3) := by decide +kernel
theorem dX7_packed_31 : decode cX7_packed 31 = .ok (.iload_n 1, 1) := by decide +kernel
theorem dX7_packed_32 : decode cX7_packed 32 = .ok (.ireturn, 1) := by decide +kernel
theorem dX7_nextOrder_0 : decode cX7_nextOrder 0 = .ok (.aload_n 0, 1) := by decide +kernel
theorem dX7_nextOrder_1 : decode cX7_nextOrder 1 = .ok (.getfield 55, 3) := by decide +kernel
theorem dX7_nextOrder_4 : decode cX7_nextOrder 4 = .ok (.iconst 2, 1) := by decide +kernel
theorem dX7_nextOrder_5 : decode cX7_nextOrder 5 = .ok (.isub, 1) := by decide +kernel
theorem dX7_nextOrder_6 : decode cX7_nextOrder 6 = .ok (.istore_n 1, 1) := by decide +kernel
theorem dX7_nextOrder_7 : decode cX7_nextOrder 7 = .ok (.iload_n 1, 1) := by decide +kernel
theorem dX7_nextOrder_8 : decode cX7_nextOrder 8 = .ok (.ifCond .lt 26, 3) := by decide +kernel
theorem dX7_nextOrder_11 : decode cX7_nextOrder 11 = .ok (.aload_n 0, 1) := by decide +kernel
theorem dX7_nextOrder_12 : decode cX7_nextOrder 12 = .ok (.getfield 31, 3) := by decide +kernel
theorem dX7_nextOrder_15 : decode cX7_nextOrder 15 = .ok (.iload_n 1, 1) := by decide +kernel
theorem dX7_nextOrder_16 : decode cX7_nextOrder 16 = .ok (.iaload, 1) := by decide +kernel
theorem dX7_nextOrder_17 : decode cX7_nextOrder 17 = .ok (.aload_n 0, 1) := by decide +kernel
theorem dX7_nextOrder_18 : decode cX7_nextOrder 18 = .ok (.getfield 31, 3) := by decide +kernel
theorem dX7_nextOrder_21 : decode cX7_nextOrder 21 = .ok (.iload_n 1, 1) := by decide +kernel
theorem dX7_nextOrder_22 : decode cX7_nextOrder 22 = .ok (.iconst 1, 1) := by decide +kernel
theorem dX7_nextOrder_23 : decode cX7_nextOrder 23 = .ok (.iadd, 1) := by decide +kernel
theorem dX7_nextOrder_24 : decode cX7_nextOrder 24 = .ok (.iaload, 1) := by decide +kernel
theorem dX7_nextOrder_25 : decode cX7_nextOrder 25 = .ok (.if_icmp .le 9, 3) := by decide +kernel
theorem dX7_nextOrder_28 : decode cX7_nextOrder 28 = .ok (.iinc 1 (-1), 3) := by decide +kernel
theorem dX7_nextOrder_31 : decode cX7_nextOrder 31 = .ok (.goto (-24), 3) := by decide +kernel
theorem dX7_nextOrder_34 : decode cX7_nextOrder 34 = .ok (.iload_n 1, 1) := by decide +kernel
theorem dX7_nextOrder_35 : decode cX7_nextOrder 35 = .ok (.ifCond .ge 5, 3) := by decide +kernel
theorem dX7_nextOrder_38 : decode cX7_nextOrder 38 = .ok (.iconst 0, 1) := by decide +kernel
theorem dX7_nextOrder_39 : decode cX7_nextOrder 39 = .ok (.ireturn, 1) := by decide +kernel
theorem dX7_nextOrder_40 : decode cX7_nextOrder 40 = .ok (.aload_n 0, 1) := by decide +kernel
theorem dX7_nextOrder_41 : decode cX7_nextOrder 41 = .ok (.getfield 55, 3) := by decide +kernel
theorem dX7_nextOrder_44 : decode cX7_nextOrder 44 = .ok (.iconst 1, 1) := by decide +kernel
theorem dX7_nextOrder_45 : decode cX7_nextOrder 45 = .ok (.isub, 1) := by decide +kernel
theorem dX7_nextOrder_46 : decode cX7_nextOrder 46 = .ok (.istore_n 2, 1) := by decide +kernel
theorem dX7_nextOrder_47 : decode cX7_nextOrder 47 = .ok (.aload_n 0, 1) := by decide +kernel
theorem dX7_nextOrder_48 : decode cX7_nextOrder 48 = .ok (.getfield 31, 3) := by decide +kernel
theorem dX7_nextOrder_51 : decode cX7_nextOrder 51 = .ok (.iload_n 2, 1) := by decide +kernel
theorem dX7_nextOrder_52 : decode cX7_nextOrder 52 = .ok (.iaload, 1) := by decide +kernel
theorem dX7_nextOrder_53 : decode cX7_nextOrder 53 = .ok (.aload_n 0, 1) := by decide +kernel
theorem dX7_nextOrder_54 : decode cX7_nextOrder 54 = .ok (.getfield 31, 3) := by decide +kernel
theorem dX7_nextOrder_57 : decode cX7_nextOrder 57 = .ok (.iload_n 1, 1) := by decide +kernel
theorem dX7_nextOrder_58 : decode cX7_nextOrder 58 = .ok (.iaload, 1) := by decide +kernel
theorem dX7_nextOrder_59 : decode cX7_nextOrder 59 = .ok (.if_icmp .ge 9, 3) := by decide +kernel
theorem dX7_nextOrder_62 : decode cX7_nextOrder 62 = .ok (.iinc 2 (-1), 3) := by decide +kernel
theorem dX7_nextOrder_65 : decode cX7_nextOrder 65 = .ok (.goto (-18), 3) := by decide +kernel
theorem dX7_nextOrder_68 : decode cX7_nextOrder 68 = .ok (.aload_n 0, 1) := by decide +kernel
theorem dX7_nextOrder_69 : decode cX7_nextOrder 69 = .ok (.iload_n 1, 1) := by decide +kernel
theorem dX7_nextOrder_70 : decode cX7_nextOrder 70 = .ok (.iload_n 2, 1) := by decide +kernel
theorem dX7_nextOrder_71 : decode cX7_nextOrder 71 = .ok (.invokevirtual 123, 3) := by decide +kernel
theorem dX7_nextOrder_74 : decode cX7_nextOrder 74 = .ok (.iconst 1, 1) := by decide +kernel
theorem dX7_nextOrder_75 : decode cX7_nextOrder 75 = .ok (.istore_n 3, 1) := by decide +kernel
theorem dX7_nextOrder_76 : decode cX7_nextOrder 76 = .ok (.iload_n 1, 1) := by decide +kernel
theorem dX7_nextOrder_77 : decode cX7_nextOrder 77 = .ok (.iload_n 3, 1) := by decide +kernel
theorem dX7_nextOrder_78 : decode cX7_nextOrder 78 = .ok (.iadd, 1) := by decide +kernel
theorem dX7_nextOrder_79 : decode cX7_nextOrder 79 = .ok (.aload_n 0, 1) := by decide +kernel
theorem dX7_nextOrder_80 : decode cX7_nextOrder 80 = .ok (.getfield 55, 3) := by decide +kernel
theorem dX7_nextOrder_83 : decode cX7_nextOrder 83 = .ok (.iload_n 3, 1) := by decide +kernel
theorem dX7_nextOrder_84 : decode cX7_nextOrder 84 = .ok (.isub, 1) := by decide +kernel
theorem dX7_nextOrder_85 : decode cX7_nextOrder 85 = .ok (.if_icmp .ge 22, 3) := by decide +kernel
theorem dX7_nextOrder_88 : decode cX7_nextOrder 88 = .ok (.aload_n 0, 1) := by decide +kernel
theorem dX7_nextOrder_89 : decode cX7_nextOrder 89 = .ok (.iload_n 1, 1) := by decide +kernel
theorem dX7_nextOrder_90 : decode cX7_nextOrder 90 = .ok (.iload_n 3, 1) := by decide +kernel
theorem dX7_nextOrder_91 : decode cX7_nextOrder 91 = .ok (.iadd, 1) := by decide +kernel
theorem dX7_nextOrder_92 : decode cX7_nextOrder 92 = .ok (.aload_n 0, 1) := by decide +kernel
theorem dX7_nextOrder_93 : decode cX7_nextOrder 93 = .ok (.getfield 55, 3) := by decide +kernel
theorem dX7_nextOrder_96 : decode cX7_nextOrder 96 = .ok (.iload_n 3, 1) := by decide +kernel
theorem dX7_nextOrder_97 : decode cX7_nextOrder 97 = .ok (.isub, 1) := by decide +kernel
theorem dX7_nextOrder_98 : decode cX7_nextOrder 98 = .ok (.invokevirtual 123, 3) := by decide +kernel
theorem dX7_nextOrder_101 : decode cX7_nextOrder 101 = .ok (.iinc 3 1, 3) := by decide +kernel
theorem dX7_nextOrder_104 : decode cX7_nextOrder 104 = .ok (.goto (-28), 3) := by decide +kernel
theorem dX7_nextOrder_107 : decode cX7_nextOrder 107 = .ok (.iconst 1, 1) := by decide +kernel
theorem dX7_nextOrder_108 : decode cX7_nextOrder 108 = .ok (.ireturn, 1) := by decide +kernel
theorem dX7_swap_0 : decode cX7_swap 0 = .ok (.aload_n 0, 1) := by decide +kernel
theorem dX7_swap_1 : decode cX7_swap 1 = .ok (.getfield 31, 3) := by decide +kernel
theorem dX7_swap_4 : decode cX7_swap 4 = .ok (.iload_n 1, 1) := by decide +kernel
theorem dX7_swap_5 : decode cX7_swap 5 = .ok (.iaload, 1) := by decide +kernel
theorem dX7_swap_6 : decode cX7_swap 6 = .ok (.istore_n 3, 1) := by decide +kernel
theorem dX7_swap_7 : decode cX7_swap 7 = .ok (.aload_n 0, 1) := by decide +kernel
theorem dX7_swap_8 : decode cX7_swap 8 = .ok (.getfield 31, 3) := by decide +kernel
theorem dX7_swap_11 : decode cX7_swap 11 = .ok (.iload_n 1, 1) := by decide +kernel
theorem dX7_swap_12 : decode cX7_swap 12 = .ok (.aload_n 0, 1) := by decide +kernel
theorem dX7_swap_13 : decode cX7_swap 13 = .ok (.getfield 31, 3) := by decide +kernel
theorem dX7_swap_16 : decode cX7_swap 16 = .ok (.iload_n 2, 1) := by decide +kernel
theorem dX7_swap_17 : decode cX7_swap 17 = .ok (.iaload, 1) := by decide +kernel
theorem dX7_swap_18 : decode cX7_swap 18 = .ok (.iastore, 1) := by decide +kernel
theorem dX7_swap_19 : decode cX7_swap 19 = .ok (.aload_n 0, 1) := by decide +kernel
theorem dX7_swap_20 : decode cX7_swap 20 = .ok (.getfield 31, 3) := by decide +kernel
theorem dX7_swap_23 : decode cX7_swap 23 = .ok (.iload_n 2, 1) := by decide +kernel
theorem dX7_swap_24 : decode cX7_swap 24 = .ok (.iload_n 3, 1) := by decide +kernel
theorem dX7_swap_25 : decode cX7_swap 25 = .ok (.iastore, 1) := by decide +kernel
theorem dX7_swap_26 : decode cX7_swap 26 = .ok (.return_, 1) := by decide +kernel
theorem dX7_senses_0 : decode cX7_senses 0 = .ok (.aload_n 0, 1) := by decide +kernel
theorem dX7_senses_1 : decode cX7_senses 1 = .ok (.iconst 0, 1) := by decide +kernel
theorem dX7_senses_2 : decode cX7_senses 2 = .ok (.invokevirtual 152, 3) := by decide +kernel
theorem dX7_senses_5 : decode cX7_senses 5 = .ok (.ireturn, 1) := by decide +kernel
theorem dX7_leastSenses_0 : decode cX7_leastSenses 0 = .ok (.aload_n 0, 1) := by decide +kernel
theorem dX7_leastSenses_1 : decode cX7_leastSenses 1 = .ok (.invokevirtual 141, 3) := by decide +kernel
theorem dX7_leastSenses_4 : decode cX7_leastSenses 4 = .ok (.aload_n 0, 1) := by decide +kernel
theorem dX7_leastSenses_5 : decode cX7_leastSenses 5 = .ok (.getfield 127, 3) := by decide +kernel
theorem dX7_leastSenses_8 : decode cX7_leastSenses 8 = .ok (.ifCond .ne 7, 3) := by decide +kernel
theorem dX7_leastSenses_11 : decode cX7_leastSenses 11 = .ok (.iconst 0, 1) := by decide +kernel
theorem dX7_leastSenses_12 : decode cX7_leastSenses 12 = .ok (.goto 5, 3) := by decide +kernel
theorem dX7_leastSenses_15 : decode cX7_leastSenses 15 = .ok (.ldc 144, 2) := by decide +kernel
theorem dX7_leastSenses_17 : decode cX7_leastSenses 17 = .ok (.istore_n 2, 1) := by decide +kernel
theorem dX7_leastSenses_18 : decode cX7_leastSenses 18 = .ok (.iconst 0, 1) := by decide +kernel
theorem dX7_leastSenses_19 : decode cX7_leastSenses 19 = .ok (.istore_n 3, 1) := by decide +kernel
theorem dX7_leastSenses_20 : decode cX7_leastSenses 20 = .ok (.iload_n 3, 1) := by decide +kernel
theorem dX7_leastSenses_21 : decode cX7_leastSenses 21 = .ok (.aload_n 0, 1) := by decide +kernel
theorem dX7_leastSenses_22 : decode cX7_leastSenses 22 = .ok (.getfield 127, 3) := by decide +kernel
theorem dX7_leastSenses_25 : decode cX7_leastSenses 25 = .ok (.if_icmp .ge 39, 3) := by decide +kernel
theorem dX7_leastSenses_28 : decode cX7_leastSenses 28 = .ok (.aload_n 0, 1) := by decide +kernel
theorem dX7_leastSenses_29 : decode cX7_leastSenses 29 = .ok (.aload_n 0, 1) := by decide +kernel
theorem dX7_leastSenses_30 : decode cX7_leastSenses 30 = .ok (.getfield 40, 3) := by decide +kernel
theorem dX7_leastSenses_33 : decode cX7_leastSenses 33 = .ok (.iload_n 3, 1) := by decide +kernel
theorem dX7_leastSenses_34 : decode cX7_leastSenses 34 = .ok (.iaload, 1) := by decide +kernel
theorem dX7_leastSenses_35 : decode cX7_leastSenses 35 = .ok (.invokevirtual 145, 3) := by decide +kernel
theorem dX7_leastSenses_38 : decode cX7_leastSenses 38 = .ok (.aload_n 0, 1) := by decide +kernel
theorem dX7_leastSenses_39 : decode cX7_leastSenses 39 = .ok (.iload_n 1, 1) := by decide +kernel
theorem dX7_leastSenses_40 : decode cX7_leastSenses 40 = .ok (.invokevirtual 149, 3) := by decide +kernel
theorem dX7_leastSenses_43 : decode cX7_leastSenses 43 = .ok (.istore 4, 2) := by decide +kernel
theorem dX7_leastSenses_45 : decode cX7_leastSenses 45 = .ok (.iload 4, 2) := by decide +kernel
theorem dX7_leastSenses_47 : decode cX7_leastSenses 47 = .ok (.iload_n 2, 1) := by decide +kernel
theorem dX7_leastSenses_48 : decode cX7_leastSenses 48 = .ok (.if_icmp .ge 8, 3) := by decide +kernel
theorem dX7_leastSenses_51 : decode cX7_leastSenses 51 = .ok (.iload 4, 2) := by decide +kernel
theorem dX7_leastSenses_53 : decode cX7_leastSenses 53 = .ok (.goto 4, 3) := by decide +kernel
theorem dX7_leastSenses_56 : decode cX7_leastSenses 56 = .ok (.iload_n 2, 1) := by decide +kernel
theorem dX7_leastSenses_57 : decode cX7_leastSenses 57 = .ok (.istore_n 2, 1) := by decide +kernel
theorem dX7_leastSenses_58 : decode cX7_leastSenses 58 = .ok (.iinc 3 1, 3) := by decide +kernel
theorem dX7_leastSenses_61 : decode cX7_leastSenses 61 = .ok (.goto (-41), 3) := by decide +kernel
theorem dX7_leastSenses_64 : decode cX7_leastSenses 64 = .ok (.iload_n 2, 1) := by decide +kernel
theorem dX7_leastSenses_65 : decode cX7_leastSenses 65 = .ok (.ireturn, 1) := by decide +kernel
theorem dX7_unpack_0 : decode cX7_unpack 0 = .ok (.iconst 0, 1) := by decide +kernel
theorem dX7_unpack_1 : decode cX7_unpack 1 = .ok (.istore_n 2, 1) := by decide +kernel
theorem dX7_unpack_2 : decode cX7_unpack 2 = .ok (.iload_n 2, 1) := by decide +kernel
theorem dX7_unpack_3 : decode cX7_unpack 3 = .ok (.aload_n 0, 1) := by decide +kernel
theorem dX7_unpack_4 : decode cX7_unpack 4 = .ok (.getfield 55, 3) := by decide +kernel
theorem dX7_unpack_7 : decode cX7_unpack 7 = .ok (.if_icmp .ge 35, 3) := by decide +kernel
theorem dX7_unpack_10 : decode cX7_unpack 10 = .ok (.aload_n 0, 1) := by decide +kernel
theorem dX7_unpack_11 : decode cX7_unpack 11 = .ok (.getfield 31, 3) := by decide +kernel
theorem dX7_unpack_14 : decode cX7_unpack 14 = .ok (.iload_n 2, 1) := by decide +kernel
theorem dX7_unpack_15 : decode cX7_unpack 15 = .ok (.iload_n 1, 1) := by decide +kernel
theorem dX7_unpack_16 : decode cX7_unpack 16 = .ok (.iconst 3, 1) := by decide +kernel
theorem dX7_unpack_17 : decode cX7_unpack 17 = .ok (.iload_n 2, 1) := by decide +kernel
theorem dX7_unpack_18 : decode cX7_unpack 18 = .ok (.imul, 1) := by decide +kernel
theorem dX7_unpack_19 : decode cX7_unpack 19 = .ok (.ishr, 1) := by decide +kernel
theorem dX7_unpack_20 : decode cX7_unpack 20 = .ok (.bipush 7, 2) := by decide +kernel
theorem dX7_unpack_22 : decode cX7_unpack 22 = .ok (.iand, 1) := by decide +kernel
theorem dX7_unpack_23 : decode cX7_unpack 23 = .ok (.iastore, 1) := by decide +kernel
theorem dX7_unpack_24 : decode cX7_unpack 24 = .ok (.aload_n 0, 1) := by decide +kernel
theorem dX7_unpack_25 : decode cX7_unpack 25 = .ok (.getfield 34, 3) := by decide +kernel
theorem dX7_unpack_28 : decode cX7_unpack 28 = .ok (.aload_n 0, 1) := by decide +kernel
theorem dX7_unpack_29 : decode cX7_unpack 29 = .ok (.getfield 31, 3) := by decide +kernel
theorem dX7_unpack_32 : decode cX7_unpack 32 = .ok (.iload_n 2, 1) := by decide +kernel
theorem dX7_unpack_33 : decode cX7_unpack 33 = .ok (.iaload, 1) := by decide +kernel
theorem dX7_unpack_34 : decode cX7_unpack 34 = .ok (.iload_n 2, 1) := by decide +kernel
theorem dX7_unpack_35 : decode cX7_unpack 35 = .ok (.iastore, 1) := by decide +kernel
theorem dX7_unpack_36 : decode cX7_unpack 36 = .ok (.iinc 2 1, 3) := by decide +kernel
theorem dX7_unpack_39 : decode cX7_unpack 39 = .ok (.goto (-37), 3) := by decide +kernel
theorem dX7_unpack_42 : decode cX7_unpack 42 = .ok (.return_, 1) := by decide +kernel
theorem dX7_sensesNow_0 : decode cX7_sensesNow 0 = .ok (.iconst 0, 1) := by decide +kernel
theorem dX7_sensesNow_1 : decode cX7_sensesNow 1 = .ok (.istore_n 2, 1) := by decide +kernel
theorem dX7_sensesNow_2 : decode cX7_sensesNow 2 = .ok (.iconst 0, 1) := by decide +kernel
theorem dX7_sensesNow_3 : decode cX7_sensesNow 3 = .ok (.istore_n 3, 1) := by decide +kernel
theorem dX7_sensesNow_4 : decode cX7_sensesNow 4 = .ok (.iload_n 3, 1) := by decide +kernel
theorem dX7_sensesNow_5 : decode cX7_sensesNow 5 = .ok (.aload_n 0, 1) := by decide +kernel
theorem dX7_sensesNow_6 : decode cX7_sensesNow 6 = .ok (.getfield 55, 3) := by decide +kernel
theorem dX7_sensesNow_9 : decode cX7_sensesNow 9 = .ok (.if_icmp .ge 50, 3) := by decide +kernel
theorem dX7_sensesNow_12 : decode cX7_sensesNow 12 = .ok (.aload_n 0, 1) := by decide +kernel
theorem dX7_sensesNow_13 : decode cX7_sensesNow 13 = .ok (.aload_n 0, 1) := by decide +kernel
theorem dX7_sensesNow_14 : decode cX7_sensesNow 14 = .ok (.getfield 31, 3) := by decide +kernel
theorem dX7_sensesNow_17 : decode cX7_sensesNow 17 = .ok (.iload_n 3, 1) := by decide +kernel
theorem dX7_sensesNow_18 : decode cX7_sensesNow 18 = .ok (.iaload, 1) := by decide +kernel
theorem dX7_sensesNow_19 : decode cX7_sensesNow 19 = .ok (.invokevirtual 116, 3) := by decide +kernel
theorem dX7_sensesNow_22 : decode cX7_sensesNow 22 = .ok (.istore 4, 2) := by decide +kernel
theorem dX7_sensesNow_24 : decode cX7_sensesNow 24 = .ok (.iconst 3, 1) := by decide +kernel
theorem dX7_sensesNow_25 : decode cX7_sensesNow 25 = .ok (.iload_n 2, 1) := by decide +kernel
theorem dX7_sensesNow_26 : decode cX7_sensesNow 26 = .ok (.imul, 1) := by decide +kernel
theorem dX7_sensesNow_27 : decode cX7_sensesNow 27 = .ok (.iload_n 1, 1) := by decide +kernel
theorem dX7_sensesNow_28 : decode cX7_sensesNow 28 = .ok (.aload_n 0, 1) := by decide +kernel
theorem dX7_sensesNow_29 : decode cX7_sensesNow 29 = .ok (.getfield 31, 3) := by decide +kernel
theorem dX7_sensesNow_32 : decode cX7_sensesNow 32 = .ok (.iload_n 3, 1) := by decide +kernel
theorem dX7_sensesNow_33 : decode cX7_sensesNow 33 = .ok (.iaload, 1) := by decide +kernel
theorem dX7_sensesNow_34 : decode cX7_sensesNow 34 = .ok (.ishr, 1) := by decide +kernel
theorem dX7_sensesNow_35 : decode cX7_sensesNow 35 = .ok (.iconst 1, 1) := by decide +kernel
theorem dX7_sensesNow_36 : decode cX7_sensesNow 36 = .ok (.iand, 1) := by decide +kernel
theorem dX7_sensesNow_37 : decode cX7_sensesNow 37 = .ok (.iconst 1, 1) := by decide +kernel
theorem dX7_sensesNow_38 : decode cX7_sensesNow 38 = .ok (.if_icmp .ne 9, 3) := by decide +kernel
theorem dX7_sensesNow_41 : decode cX7_sensesNow 41 = .ok (.iload 4, 2) := by decide +kernel
theorem dX7_sensesNow_43 : decode cX7_sensesNow 43 = .ok (.ineg, 1) := by decide +kernel
theorem dX7_sensesNow_44 : decode cX7_sensesNow 44 = .ok (.goto 5, 3) := by decide +kernel
theorem dX7_sensesNow_47 : decode cX7_sensesNow 47 = .ok (.iload 4, 2) := by decide +kernel
theorem dX7_sensesNow_49 : decode cX7_sensesNow 49 = .ok (.iadd, 1) := by decide +kernel
theorem dX7_sensesNow_50 : decode cX7_sensesNow 50 = .ok (.iconst 1, 1) := by decide +kernel
theorem dX7_sensesNow_51 : decode cX7_sensesNow 51 = .ok (.iadd, 1) := by decide +kernel
theorem dX7_sensesNow_52 : decode cX7_sensesNow 52 = .ok (.istore_n 2, 1) := by decide +kernel
theorem dX7_sensesNow_53 : decode cX7_sensesNow 53 = .ok (.iinc 3 1, 3) := by decide +kernel
theorem dX7_sensesNow_56 : decode cX7_sensesNow 56 = .ok (.goto (-52), 3) := by decide +kernel
theorem dX7_sensesNow_59 : decode cX7_sensesNow 59 = .ok (.iconst 0, 1) := by decide +kernel
theorem dX7_sensesNow_60 : decode cX7_sensesNow 60 = .ok (.istore_n 3, 1) := by decide +kernel
theorem dX7_sensesNow_61 : decode cX7_sensesNow 61 = .ok (.iload_n 3, 1) := by decide +kernel
theorem dX7_sensesNow_62 : decode cX7_sensesNow 62 = .ok (.aload_n 0, 1) := by decide +kernel
theorem dX7_sensesNow_63 : decode cX7_sensesNow 63 = .ok (.getfield 55, 3) := by decide +kernel
theorem dX7_sensesNow_66 : decode cX7_sensesNow 66 = .ok (.if_icmp .ge 93, 3) := by decide +kernel
theorem dX7_sensesNow_69 : decode cX7_sensesNow 69 = .ok (.iconst 0, 1) := by decide +kernel
theorem dX7_sensesNow_70 : decode cX7_sensesNow 70 = .ok (.istore 4, 2) := by decide +kernel
theorem dX7_sensesNow_72 : decode cX7_sensesNow 72 = .ok (.iload 4, 2) := by decide +kernel
theorem dX7_sensesNow_74 : decode cX7_sensesNow 74 = .ok (.iload_n 3, 1) := by decide +kernel
theorem dX7_sensesNow_75 : decode cX7_sensesNow 75 = .ok (.if_icmp .ge 78, 3) := by decide +kernel
theorem dX7_sensesNow_78 : decode cX7_sensesNow 78 = .ok (.aload_n 0, 1) := by decide +kernel
theorem dX7_sensesNow_79 : decode cX7_sensesNow 79 = .ok (.aload_n 0, 1) := by decide +kernel
theorem dX7_sensesNow_80 : decode cX7_sensesNow 80 = .ok (.getfield 31, 3) := by decide +kernel
theorem dX7_sensesNow_83 : decode cX7_sensesNow 83 = .ok (.iload_n 3, 1) := by decide +kernel
theorem dX7_sensesNow_84 : decode cX7_sensesNow 84 = .ok (.iaload, 1) := by decide +kernel
theorem dX7_sensesNow_85 : decode cX7_sensesNow 85 = .ok (.aload_n 0, 1) := by decide +kernel
theorem dX7_sensesNow_86 : decode cX7_sensesNow 86 = .ok (.getfield 31, 3) := by decide +kernel
theorem dX7_sensesNow_89 : decode cX7_sensesNow 89 = .ok (.iload 4, 2) := by decide +kernel
theorem dX7_sensesNow_91 : decode cX7_sensesNow 91 = .ok (.iaload, 1) := by decide +kernel
theorem dX7_sensesNow_92 : decode cX7_sensesNow 92 = .ok (.invokevirtual 77, 3) := by decide +kernel
theorem dX7_sensesNow_95 : decode cX7_sensesNow 95 = .ok (.istore 5, 2) := by decide +kernel
theorem dX7_sensesNow_97 : decode cX7_sensesNow 97 = .ok (.iload 5, 2) := by decide +kernel
theorem dX7_sensesNow_99 : decode cX7_sensesNow 99 = .ok (.ifCond .lt 48, 3) := by decide +kernel
theorem dX7_sensesNow_102 : decode cX7_sensesNow 102 = .ok (.aload_n 0, 1) := by decide +kernel
theorem dX7_sensesNow_103 : decode cX7_sensesNow 103 = .ok (.iload 5, 2) := by decide +kernel
theorem dX7_sensesNow_105 : decode cX7_sensesNow 105 = .ok (.invokevirtual 99, 3) := by decide +kernel
theorem dX7_sensesNow_108 : decode cX7_sensesNow 108 = .ok (.ifCond .eq 39, 3) := by decide +kernel
theorem dX7_sensesNow_111 : decode cX7_sensesNow 111 = .ok (.aload_n 0, 1) := by decide +kernel
theorem dX7_sensesNow_112 : decode cX7_sensesNow 112 = .ok (.iload 5, 2) := by decide +kernel
theorem dX7_sensesNow_114 : decode cX7_sensesNow 114 = .ok (.invokevirtual 119, 3) := by decide +kernel
theorem dX7_sensesNow_117 : decode cX7_sensesNow 117 = .ok (.istore 6, 2) := by decide +kernel
theorem dX7_sensesNow_119 : decode cX7_sensesNow 119 = .ok (.iconst 3, 1) := by decide +kernel
theorem dX7_sensesNow_120 : decode cX7_sensesNow 120 = .ok (.iload_n 2, 1) := by decide +kernel
theorem dX7_sensesNow_121 : decode cX7_sensesNow 121 = .ok (.imul, 1) := by decide +kernel
theorem dX7_sensesNow_122 : decode cX7_sensesNow 122 = .ok (.iload_n 1, 1) := by decide +kernel
theorem dX7_sensesNow_123 : decode cX7_sensesNow 123 = .ok (.bipush 7, 2) := by decide +kernel
theorem dX7_sensesNow_125 : decode cX7_sensesNow 125 = .ok (.iload 5, 2) := by decide +kernel
theorem dX7_sensesNow_127 : decode cX7_sensesNow 127 = .ok (.iadd, 1) := by decide +kernel
theorem dX7_sensesNow_128 : decode cX7_sensesNow 128 = .ok (.ishr, 1) := by decide +kernel
theorem dX7_sensesNow_129 : decode cX7_sensesNow 129 = .ok (.iconst 1, 1) := by decide +kernel
theorem dX7_sensesNow_130 : decode cX7_sensesNow 130 = .ok (.iand, 1) := by decide +kernel
theorem dX7_sensesNow_131 : decode cX7_sensesNow 131 = .ok (.iconst 1, 1) := by decide +kernel
theorem dX7_sensesNow_132 : decode cX7_sensesNow 132 = .ok (.if_icmp .ne 9, 3) := by decide +kernel
theorem dX7_sensesNow_135 : decode cX7_sensesNow 135 = .ok (.iload 6, 2) := by decide +kernel
theorem dX7_sensesNow_137 : decode cX7_sensesNow 137 = .ok (.ineg, 1) := by decide +kernel
theorem dX7_sensesNow_138 : decode cX7_sensesNow 138 = .ok (.goto 5, 3) := by decide +kernel
theorem dX7_sensesNow_141 : decode cX7_sensesNow 141 = .ok (.iload 6, 2) := by decide +kernel
theorem dX7_sensesNow_143 : decode cX7_sensesNow 143 = .ok (.iadd, 1) := by decide +kernel
theorem dX7_sensesNow_144 : decode cX7_sensesNow 144 = .ok (.iconst 1, 1) := by decide +kernel
theorem dX7_sensesNow_145 : decode cX7_sensesNow 145 = .ok (.iadd, 1) := by decide +kernel
theorem dX7_sensesNow_146 : decode cX7_sensesNow 146 = .ok (.istore_n 2, 1) := by decide +kernel
theorem dX7_sensesNow_147 : decode cX7_sensesNow 147 = .ok (.iinc 4 1, 3) := by decide +kernel
theorem dX7_sensesNow_150 : decode cX7_sensesNow 150 = .ok (.goto (-78), 3) := by decide +kernel
theorem dX7_sensesNow_153 : decode cX7_sensesNow 153 = .ok (.iinc 3 1, 3) := by decide +kernel
theorem dX7_sensesNow_156 : decode cX7_sensesNow 156 = .ok (.goto (-95), 3) := by decide +kernel
theorem dX7_sensesNow_159 : decode cX7_sensesNow 159 = .ok (.iload_n 2, 1) := by decide +kernel
theorem dX7_sensesNow_160 : decode cX7_sensesNow 160 = .ok (.ireturn, 1) := by decide +kernel
theorem dX7_chiral_0 : decode cX7_chiral 0 = .ok (.aload_n 0, 1) := by decide +kernel
theorem dX7_chiral_1 : decode cX7_chiral 1 = .ok (.iconst 0, 1) := by decide +kernel
theorem dX7_chiral_2 : decode cX7_chiral 2 = .ok (.invokevirtual 152, 3) := by decide +kernel
theorem dX7_chiral_5 : decode cX7_chiral 5 = .ok (.aload_n 0, 1) := by decide +kernel
theorem dX7_chiral_6 : decode cX7_chiral 6 = .ok (.bipush 127, 2) := by decide +kernel
theorem dX7_chiral_8 : decode cX7_chiral 8 = .ok (.invokevirtual 152, 3) := by decide +kernel
theorem dX7_chiral_11 : decode cX7_chiral 11 = .ok (.if_icmp .eq 7, 3) := by decide +kernel
theorem dX7_chiral_14 : decode cX7_chiral 14 = .ok (.iconst 1, 1) := by decide +kernel
theorem dX7_chiral_15 : decode cX7_chiral 15 = .ok (.goto 4, 3) := by decide +kernel
theorem dX7_chiral_18 : decode cX7_chiral 18 = .ok (.iconst 0, 1) := by decide +kernel
theorem dX7_chiral_19 : decode cX7_chiral 19 = .ok (.ireturn, 1) := by decide +kernel
theorem dX7_isomers_0 : decode cX7_isomers 0 = .ok (.iconst 0, 1) := by decide +kernel
theorem dX7_isomers_1 : decode cX7_isomers 1 = .ok (.istore_n 1, 1) := by decide +kernel
theorem dX7_isomers_2 : decode cX7_isomers 2 = .ok (.iconst 0, 1) := by decide +kernel
theorem dX7_isomers_3 : decode cX7_isomers 3 = .ok (.istore_n 2, 1) := by decide +kernel
theorem dX7_isomers_4 : decode cX7_isomers 4 = .ok (.aload_n 0, 1) := by decide +kernel
theorem dX7_isomers_5 : decode cX7_isomers 5 = .ok (.invokevirtual 113, 3) := by decide +kernel
theorem dX7_isomers_8 : decode cX7_isomers 8 = .ok (.iconst 0, 1) := by decide +kernel
theorem dX7_isomers_9 : decode cX7_isomers 9 = .ok (.istore_n 3, 1) := by decide +kernel
theorem dX7_isomers_10 : decode cX7_isomers 10 = .ok (.iload_n 3, 1) := by decide +kernel
theorem dX7_isomers_11 : decode cX7_isomers 11 = .ok (.aload_n 0, 1) := by decide +kernel
theorem dX7_isomers_12 : decode cX7_isomers 12 = .ok (.getfield 55, 3) := by decide +kernel
theorem dX7_isomers_15 : decode cX7_isomers 15 = .ok (.if_icmp .ge 52, 3) := by decide +kernel
theorem dX7_isomers_18 : decode cX7_isomers 18 = .ok (.aload_n 0, 1) := by decide +kernel
theorem dX7_isomers_19 : decode cX7_isomers 19 = .ok (.iload_n 3, 1) := by decide +kernel
theorem dX7_isomers_20 : decode cX7_isomers 20 = .ok (.invokevirtual 116, 3) := by decide +kernel
theorem dX7_isomers_23 : decode cX7_isomers 23 = .ok (.ifCond .eq 7, 3) := by decide +kernel
theorem dX7_isomers_26 : decode cX7_isomers 26 = .ok (.iconst 1, 1) := by decide +kernel
theorem dX7_isomers_27 : decode cX7_isomers 27 = .ok (.goto 4, 3) := by decide +kernel
theorem dX7_isomers_30 : decode cX7_isomers 30 = .ok (.iconst 0, 1) := by decide +kernel
theorem dX7_isomers_31 : decode cX7_isomers 31 = .ok (.istore 4, 2) := by decide +kernel
theorem dX7_isomers_33 : decode cX7_isomers 33 = .ok (.iload_n 1, 1) := by decide +kernel
theorem dX7_isomers_34 : decode cX7_isomers 34 = .ok (.iload 4, 2) := by decide +kernel
theorem dX7_isomers_36 : decode cX7_isomers 36 = .ok (.ifCond .eq 7, 3) := by decide +kernel
theorem dX7_isomers_39 : decode cX7_isomers 39 = .ok (.iconst 1, 1) := by decide +kernel
theorem dX7_isomers_40 : decode cX7_isomers 40 = .ok (.goto 4, 3) := by decide +kernel
theorem dX7_isomers_43 : decode cX7_isomers 43 = .ok (.iconst 0, 1) := by decide +kernel
theorem dX7_isomers_44 : decode cX7_isomers 44 = .ok (.iadd, 1) := by decide +kernel
theorem dX7_isomers_45 : decode cX7_isomers 45 = .ok (.istore_n 1, 1) := by decide +kernel
theorem dX7_isomers_46 : decode cX7_isomers 46 = .ok (.iload 4, 2) := by decide +kernel
theorem dX7_isomers_48 : decode cX7_isomers 48 = .ok (.ifCond .eq 11, 3) := by decide +kernel
theorem dX7_isomers_51 : decode cX7_isomers 51 = .ok (.iload_n 2, 1) := by decide +kernel
theorem dX7_isomers_52 : decode cX7_isomers 52 = .ok (.iconst 1, 1) := by decide +kernel
theorem dX7_isomers_53 : decode cX7_isomers 53 = .ok (.iload_n 3, 1) := by decide +kernel
theorem dX7_isomers_54 : decode cX7_isomers 54 = .ok (.ishl, 1) := by decide +kernel
theorem dX7_isomers_55 : decode cX7_isomers 55 = .ok (.ior, 1) := by decide +kernel
theorem dX7_isomers_56 : decode cX7_isomers 56 = .ok (.goto 4, 3) := by decide +kernel
theorem dX7_isomers_59 : decode cX7_isomers 59 = .ok (.iload_n 2, 1) := by decide +kernel
theorem dX7_isomers_60 : decode cX7_isomers 60 = .ok (.istore_n 2, 1) := by decide +kernel
theorem dX7_isomers_61 : decode cX7_isomers 61 = .ok (.iinc 3 1, 3) := by decide +kernel
theorem dX7_isomers_64 : decode cX7_isomers 64 = .ok (.goto (-54), 3) := by decide +kernel
theorem dX7_isomers_67 : decode cX7_isomers 67 = .ok (.iconst 0, 1) := by decide +kernel
theorem dX7_isomers_68 : decode cX7_isomers 68 = .ok (.istore_n 3, 1) := by decide +kernel
theorem dX7_isomers_69 : decode cX7_isomers 69 = .ok (.iload_n 3, 1) := by decide +kernel
theorem dX7_isomers_70 : decode cX7_isomers 70 = .ok (.aload_n 0, 1) := by decide +kernel
theorem dX7_isomers_71 : decode cX7_isomers 71 = .ok (.getfield 59, 3) := by decide +kernel
theorem dX7_isomers_74 : decode cX7_isomers 74 = .ok (.if_icmp .ge 55, 3) := by decide +kernel
theorem dX7_isomers_77 : decode cX7_isomers 77 = .ok (.aload_n 0, 1) := by decide +kernel
theorem dX7_isomers_78 : decode cX7_isomers 78 = .ok (.iload_n 3, 1) := by decide +kernel
theorem dX7_isomers_79 : decode cX7_isomers 79 = .ok (.invokevirtual 119, 3) := by decide +kernel
theorem dX7_isomers_82 : decode cX7_isomers 82 = .ok (.ifCond .eq 7, 3) := by decide +kernel
theorem dX7_isomers_85 : decode cX7_isomers 85 = .ok (.iconst 1, 1) := by decide +kernel
theorem dX7_isomers_86 : decode cX7_isomers 86 = .ok (.goto 4, 3) := by decide +kernel
theorem dX7_isomers_89 : decode cX7_isomers 89 = .ok (.iconst 0, 1) := by decide +kernel
theorem dX7_isomers_90 : decode cX7_isomers 90 = .ok (.istore 4, 2) := by decide +kernel
theorem dX7_isomers_92 : decode cX7_isomers 92 = .ok (.iload_n 1, 1) := by decide +kernel
theorem dX7_isomers_93 : decode cX7_isomers 93 = .ok (.iload 4, 2) := by decide +kernel
theorem dX7_isomers_95 : decode cX7_isomers 95 = .ok (.ifCond .eq 7, 3) := by decide +kernel
theorem dX7_isomers_98 : decode cX7_isomers 98 = .ok (.iconst 1, 1) := by decide +kernel
theorem dX7_isomers_99 : decode cX7_isomers 99 = .ok (.goto 4, 3) := by decide +kernel
theorem dX7_isomers_102 : decode cX7_isomers 102 = .ok (.iconst 0, 1) := by decide +kernel
theorem dX7_isomers_103 : decode cX7_isomers 103 = .ok (.iadd, 1) := by decide +kernel
theorem dX7_isomers_104 : decode cX7_isomers 104 = .ok (.istore_n 1, 1) := by decide +kernel
theorem dX7_isomers_105 : decode cX7_isomers 105 = .ok (.iload 4, 2) := by decide +kernel
theorem dX7_isomers_107 : decode cX7_isomers 107 = .ok (.ifCond .eq 14, 3) := by decide +kernel
theorem dX7_isomers_110 : decode cX7_isomers 110 = .ok (.iload_n 2, 1) := by decide +kernel
theorem dX7_isomers_111 : decode cX7_isomers 111 = .ok (.iconst 1, 1) := by decide +kernel
theorem dX7_isomers_112 : decode cX7_isomers 112 = .ok (.bipush 7, 2) := by decide +kernel
theorem dX7_isomers_114 : decode cX7_isomers 114 = .ok (.iload_n 3, 1) := by decide +kernel
theorem dX7_isomers_115 : decode cX7_isomers 115 = .ok (.iadd, 1) := by decide +kernel
theorem dX7_isomers_116 : decode cX7_isomers 116 = .ok (.ishl, 1) := by decide +kernel
theorem dX7_isomers_117 : decode cX7_isomers 117 = .ok (.ior, 1) := by decide +kernel
theorem dX7_isomers_118 : decode cX7_isomers 118 = .ok (.goto 4, 3) := by decide +kernel
theorem dX7_isomers_121 : decode cX7_isomers 121 = .ok (.iload_n 2, 1) := by decide +kernel
theorem dX7_isomers_122 : decode cX7_isomers 122 = .ok (.istore_n 2, 1) := by decide +kernel
theorem dX7_isomers_123 : decode cX7_isomers 123 = .ok (.iinc 3 1, 3) := by decide +kernel
theorem dX7_isomers_126 : decode cX7_isomers 126 = .ok (.goto (-57), 3) := by decide +kernel
theorem dX7_isomers_129 : decode cX7_isomers 129 = .ok (.iload_n 1, 1) := by decide +kernel
theorem dX7_isomers_130 : decode cX7_isomers 130 = .ok (.iconst 4, 1) := by decide +kernel
theorem dX7_isomers_131 : decode cX7_isomers 131 = .ok (.if_icmp .le 5, 3) := by decide +kernel
theorem dX7_isomers_134 : decode cX7_isomers 134 = .ok (.iconst (-1), 1) := by decide +kernel
theorem dX7_isomers_135 : decode cX7_isomers 135 = .ok (.ireturn, 1) := by decide +kernel
theorem dX7_isomers_136 : decode cX7_isomers 136 = .ok (.iconst 0, 1) := by decide +kernel
theorem dX7_isomers_137 : decode cX7_isomers 137 = .ok (.istore_n 3, 1) := by decide +kernel
theorem dX7_isomers_138 : decode cX7_isomers 138 = .ok (.iload_n 2, 1) := by decide +kernel
theorem dX7_isomers_139 : decode cX7_isomers 139 = .ok (.istore 4, 2) := by decide +kernel
theorem dX7_isomers_141 : decode cX7_isomers 141 = .ok (.iconst 1, 1) := by decide +kernel
theorem dX7_isomers_142 : decode cX7_isomers 142 = .ok (.istore 5, 2) := by decide +kernel
theorem dX7_isomers_144 : decode cX7_isomers 144 = .ok (.iload 5, 2) := by decide +kernel
theorem dX7_isomers_146 : decode cX7_isomers 146 = .ok (.ifCond .eq 92, 3) := by decide +kernel
theorem dX7_isomers_149 : decode cX7_isomers 149 = .ok (.aload_n 0, 1) := by decide +kernel
theorem dX7_isomers_150 : decode cX7_isomers 150 = .ok (.iload 4, 2) := by decide +kernel
theorem dX7_isomers_152 : decode cX7_isomers 152 = .ok (.invokevirtual 152, 3) := by decide +kernel
theorem dX7_isomers_155 : decode cX7_isomers 155 = .ok (.istore 6, 2) := by decide +kernel
theorem dX7_isomers_157 : decode cX7_isomers 157 = .ok (.iconst 0, 1) := by decide +kernel
theorem dX7_isomers_158 : decode cX7_isomers 158 = .ok (.istore 7, 2) := by decide +kernel
theorem dX7_isomers_160 : decode cX7_isomers 160 = .ok (.iconst 0, 1) := by decide +kernel
theorem dX7_isomers_161 : decode cX7_isomers 161 = .ok (.istore 8, 2) := by decide +kernel
theorem dX7_isomers_163 : decode cX7_isomers 163 = .ok (.iload 8, 2) := by decide +kernel
theorem dX7_isomers_165 : decode cX7_isomers 165 = .ok (.iload_n 3, 1) := by decide +kernel
theorem dX7_isomers_166 : decode cX7_isomers 166 = .ok (.if_icmp .ge 33, 3) := by decide +kernel
theorem dX7_isomers_169 : decode cX7_isomers 169 = .ok (.iload 7, 2) := by decide +kernel
theorem dX7_isomers_171 : decode cX7_isomers 171 = .ok (.ifCond .ne 15, 3) := by decide +kernel
theorem dX7_isomers_174 : decode cX7_isomers 174 = .ok (.aload_n 0, 1) := by decide +kernel
theorem dX7_isomers_175 : decode cX7_isomers 175 = .ok (.getfield 52, 3) := by decide +kernel
theorem dX7_isomers_178 : decode cX7_isomers 178 = .ok (.iload 8, 2) := by decide +kernel
theorem dX7_isomers_180 : decode cX7_isomers 180 = .ok (.iaload, 1) := by decide +kernel
theorem dX7_isomers_181 : decode cX7_isomers 181 = .ok (.iload 6, 2) := by decide +kernel
theorem dX7_isomers_183 : decode cX7_isomers 183 = .ok (.if_icmp .ne 7, 3) := by decide +kernel
theorem dX7_isomers_186 : decode cX7_isomers 186 = .ok (.iconst 1, 1) := by decide +kernel
theorem dX7_isomers_187 : decode cX7_isomers 187 = .ok (.goto 4, 3) := by decide +kernel
theorem dX7_isomers_190 : decode cX7_isomers 190 = .ok (.iconst 0, 1) := by decide +kernel
theorem dX7_isomers_191 : decode cX7_isomers 191 = .ok (.istore 7, 2) := by decide +kernel
theorem dX7_isomers_193 : decode cX7_isomers 193 = .ok (.iinc 8 1, 3) := by decide +kernel
theorem dX7_isomers_196 : decode cX7_isomers 196 = .ok (.goto (-33), 3) := by decide +kernel
theorem dX7_isomers_199 : decode cX7_isomers 199 = .ok (.iload 7, 2) := by decide +kernel
theorem dX7_isomers_201 : decode cX7_isomers 201 = .ok (.ifCond .ne 14, 3) := by decide +kernel
theorem dX7_isomers_204 : decode cX7_isomers 204 = .ok (.aload_n 0, 1) := by decide +kernel
theorem dX7_isomers_205 : decode cX7_isomers 205 = .ok (.getfield 52, 3) := by decide +kernel
theorem dX7_isomers_208 : decode cX7_isomers 208 = .ok (.iload_n 3, 1) := by decide +kernel
theorem dX7_isomers_209 : decode cX7_isomers 209 = .ok (.iload 6, 2) := by decide +kernel
theorem dX7_isomers_211 : decode cX7_isomers 211 = .ok (.iastore, 1) := by decide +kernel
theorem dX7_isomers_212 : decode cX7_isomers 212 = .ok (.iinc 3 1, 3) := by decide +kernel
theorem dX7_isomers_215 : decode cX7_isomers 215 = .ok (.iload 4, 2) := by decide +kernel
theorem dX7_isomers_217 : decode cX7_isomers 217 = .ok (.ifCond .eq 7, 3) := by decide +kernel
theorem dX7_isomers_220 : decode cX7_isomers 220 = .ok (.iconst 1, 1) := by decide +kernel
theorem dX7_isomers_221 : decode cX7_isomers 221 = .ok (.goto 4, 3) := by decide +kernel
theorem dX7_isomers_224 : decode cX7_isomers 224 = .ok (.iconst 0, 1) := by decide +kernel
theorem dX7_isomers_225 : decode cX7_isomers 225 = .ok (.istore 5, 2) := by decide +kernel
theorem dX7_isomers_227 : decode cX7_isomers 227 = .ok (.iload 4, 2) := by decide +kernel
theorem dX7_isomers_229 : decode cX7_isomers 229 = .ok (.iconst 1, 1) := by decide +kernel
theorem dX7_isomers_230 : decode cX7_isomers 230 = .ok (.isub, 1) := by decide +kernel
theorem dX7_isomers_231 : decode cX7_isomers 231 = .ok (.iload_n 2, 1) := by decide +kernel
theorem dX7_isomers_232 : decode cX7_isomers 232 = .ok (.iand, 1) := by decide +kernel
theorem dX7_isomers_233 : decode cX7_isomers 233 = .ok (.istore 4, 2) := by decide +kernel
theorem dX7_isomers_235 : decode cX7_isomers 235 = .ok (.goto (-91), 3) := by decide +kernel
theorem dX7_isomers_238 : decode cX7_isomers 238 = .ok (.iload_n 3, 1) := by decide +kernel
theorem dX7_isomers_239 : decode cX7_isomers 239 = .ok (.ireturn, 1) := by decide +kernel
theorem dX7_keep_0 : decode cX7_keep 0 = .ok (.aload_n 0, 1) := by decide +kernel
theorem dX7_keep_1 : decode cX7_keep 1 = .ok (.aload_n 0, 1) := by decide +kernel
theorem dX7_keep_2 : decode cX7_keep 2 = .ok (.iconst 0, 1) := by decide +kernel
theorem dX7_keep_3 : decode cX7_keep 3 = .ok (.invokevirtual 152, 3) := by decide +kernel
theorem dX7_keep_6 : decode cX7_keep 6 = .ok (.putfield 155, 3) := by decide +kernel
theorem dX7_keep_9 : decode cX7_keep 9 = .ok (.aload_n 0, 1) := by decide +kernel
theorem dX7_keep_10 : decode cX7_keep 10 = .ok (.aload_n 0, 1) := by decide +kernel
theorem dX7_keep_11 : decode cX7_keep 11 = .ok (.getfield 55, 3) := by decide +kernel
theorem dX7_keep_14 : decode cX7_keep 14 = .ok (.putfield 158, 3) := by decide +kernel
theorem dX7_keep_17 : decode cX7_keep 17 = .ok (.aload_n 0, 1) := by decide +kernel
theorem dX7_keep_18 : decode cX7_keep 18 = .ok (.iconst 1, 1) := by decide +kernel
theorem dX7_keep_19 : decode cX7_keep 19 = .ok (.putfield 161, 3) := by decide +kernel
theorem dX7_keep_22 : decode cX7_keep 22 = .ok (.iconst 0, 1) := by decide +kernel
theorem dX7_keep_23 : decode cX7_keep 23 = .ok (.istore_n 1, 1) := by decide +kernel
theorem dX7_keep_24 : decode cX7_keep 24 = .ok (.iload_n 1, 1) := by decide +kernel
theorem dX7_keep_25 : decode cX7_keep 25 = .ok (.aload_n 0, 1) := by decide +kernel
theorem dX7_keep_26 : decode cX7_keep 26 = .ok (.getfield 55, 3) := by decide +kernel
theorem dX7_keep_29 : decode cX7_keep 29 = .ok (.if_icmp .ge 21, 3) := by decide +kernel
theorem dX7_keep_32 : decode cX7_keep 32 = .ok (.aload_n 0, 1) := by decide +kernel
theorem dX7_keep_33 : decode cX7_keep 33 = .ok (.getfield 43, 3) := by decide +kernel
theorem dX7_keep_36 : decode cX7_keep 36 = .ok (.iload_n 1, 1) := by decide +kernel
theorem dX7_keep_37 : decode cX7_keep 37 = .ok (.aload_n 0, 1) := by decide +kernel
theorem dX7_keep_38 : decode cX7_keep 38 = .ok (.getfield 37, 3) := by decide +kernel
theorem dX7_keep_41 : decode cX7_keep 41 = .ok (.iload_n 1, 1) := by decide +kernel
theorem dX7_keep_42 : decode cX7_keep 42 = .ok (.iaload, 1) := by decide +kernel
theorem dX7_keep_43 : decode cX7_keep 43 = .ok (.iastore, 1) := by decide +kernel
theorem dX7_keep_44 : decode cX7_keep 44 = .ok (.iinc 1 1, 3) := by decide +kernel
theorem dX7_keep_47 : decode cX7_keep 47 = .ok (.goto (-23), 3) := by decide +kernel
theorem dX7_keep_50 : decode cX7_keep 50 = .ok (.aload_n 0, 1) := by decide +kernel
theorem dX7_keep_51 : decode cX7_keep 51 = .ok (.getfield 55, 3) := by decide +kernel
theorem dX7_keep_54 : decode cX7_keep 54 = .ok (.ireturn, 1) := by decide +kernel
theorem dX7_compare_0 : decode cX7_compare 0 = .ok (.aload_n 0, 1) := by decide +kernel
theorem dX7_compare_1 : decode cX7_compare 1 = .ok (.iconst 0, 1) := by decide +kernel
theorem dX7_compare_2 : decode cX7_compare 2 = .ok (.invokevirtual 152, 3) := by decide +kernel
theorem dX7_compare_5 : decode cX7_compare 5 = .ok (.istore_n 1, 1) := by decide +kernel
theorem dX7_compare_6 : decode cX7_compare 6 = .ok (.aload_n 0, 1) := by decide +kernel
theorem dX7_compare_7 : decode cX7_compare 7 = .ok (.getfield 161, 3) := by decide +kernel
theorem dX7_compare_10 : decode cX7_compare 10 = .ok (.ifCond .eq 18, 3) := by decide +kernel
theorem dX7_compare_13 : decode cX7_compare 13 = .ok (.aload_n 0, 1) := by decide +kernel
theorem dX7_compare_14 : decode cX7_compare 14 = .ok (.getfield 158, 3) := by decide +kernel
theorem dX7_compare_17 : decode cX7_compare 17 = .ok (.aload_n 0, 1) := by decide +kernel
theorem dX7_compare_18 : decode cX7_compare 18 = .ok (.getfield 55, 3) := by decide +kernel
theorem dX7_compare_21 : decode cX7_compare 21 = .ok (.if_icmp .ne 7, 3) := by decide +kernel
theorem dX7_compare_24 : decode cX7_compare 24 = .ok (.iconst 1, 1) := by decide +kernel
theorem dX7_compare_25 : decode cX7_compare 25 = .ok (.goto 4, 3) := by decide +kernel
theorem dX7_compare_28 : decode cX7_compare 28 = .ok (.iconst 0, 1) := by decide +kernel
theorem dX7_compare_29 : decode cX7_compare 29 = .ok (.istore_n 2, 1) := by decide +kernel
theorem dX7_compare_30 : decode cX7_compare 30 = .ok (.iconst 0, 1) := by decide +kernel
theorem dX7_compare_31 : decode cX7_compare 31 = .ok (.istore_n 3, 1) := by decide +kernel
theorem dX7_compare_32 : decode cX7_compare 32 = .ok (.iload_n 3, 1) := by decide +kernel
theorem dX7_compare_33 : decode cX7_compare 33 = .ok (.aload_n 0, 1) := by decide +kernel
theorem dX7_compare_34 : decode cX7_compare 34 = .ok (.getfield 55, 3) := by decide +kernel
theorem dX7_compare_37 : decode cX7_compare 37 = .ok (.if_icmp .ge 34, 3) := by decide +kernel
theorem dX7_compare_40 : decode cX7_compare 40 = .ok (.iload_n 2, 1) := by decide +kernel
theorem dX7_compare_41 : decode cX7_compare 41 = .ok (.ifCond .eq 30, 3) := by decide +kernel
theorem dX7_compare_44 : decode cX7_compare 44 = .ok (.aload_n 0, 1) := by decide +kernel
theorem dX7_compare_45 : decode cX7_compare 45 = .ok (.getfield 43, 3) := by decide +kernel
theorem dX7_compare_48 : decode cX7_compare 48 = .ok (.iload_n 3, 1) := by decide +kernel
theorem dX7_compare_49 : decode cX7_compare 49 = .ok (.iaload, 1) := by decide +kernel
theorem dX7_compare_50 : decode cX7_compare 50 = .ok (.aload_n 0, 1) := by decide +kernel
theorem dX7_compare_51 : decode cX7_compare 51 = .ok (.getfield 37, 3) := by decide +kernel
theorem dX7_compare_54 : decode cX7_compare 54 = .ok (.iload_n 3, 1) := by decide +kernel
theorem dX7_compare_55 : decode cX7_compare 55 = .ok (.iaload, 1) := by decide +kernel
theorem dX7_compare_56 : decode cX7_compare 56 = .ok (.if_icmp .ne 7, 3) := by decide +kernel
theorem dX7_compare_59 : decode cX7_compare 59 = .ok (.iconst 1, 1) := by decide +kernel
theorem dX7_compare_60 : decode cX7_compare 60 = .ok (.goto 4, 3) := by decide +kernel
theorem dX7_compare_63 : decode cX7_compare 63 = .ok (.iconst 0, 1) := by decide +kernel
theorem dX7_compare_64 : decode cX7_compare 64 = .ok (.istore_n 2, 1) := by decide +kernel
theorem dX7_compare_65 : decode cX7_compare 65 = .ok (.iinc 3 1, 3) := by decide +kernel
theorem dX7_compare_68 : decode cX7_compare 68 = .ok (.goto (-36), 3) := by decide +kernel
theorem dX7_compare_71 : decode cX7_compare 71 = .ok (.iload_n 2, 1) := by decide +kernel
theorem dX7_compare_72 : decode cX7_compare 72 = .ok (.ifCond .ne 7, 3) := by decide +kernel
theorem dX7_compare_75 : decode cX7_compare 75 = .ok (.iconst 3, 1) := by decide +kernel
theorem dX7_compare_76 : decode cX7_compare 76 = .ok (.goto 33, 3) := by decide +kernel
theorem dX7_compare_79 : decode cX7_compare 79 = .ok (.iload_n 1, 1) := by decide +kernel
theorem dX7_compare_80 : decode cX7_compare 80 = .ok (.aload_n 0, 1) := by decide +kernel
theorem dX7_compare_81 : decode cX7_compare 81 = .ok (.getfield 155, 3) := by decide +kernel
theorem dX7_compare_84 : decode cX7_compare 84 = .ok (.if_icmp .ne 7, 3) := by decide +kernel
theorem dX7_compare_87 : decode cX7_compare 87 = .ok (.iconst 0, 1) := by decide +kernel
theorem dX7_compare_88 : decode cX7_compare 88 = .ok (.goto 21, 3) := by decide +kernel
theorem dX7_compare_91 : decode cX7_compare 91 = .ok (.aload_n 0, 1) := by decide +kernel
theorem dX7_compare_92 : decode cX7_compare 92 = .ok (.bipush 127, 2) := by decide +kernel
theorem dX7_compare_94 : decode cX7_compare 94 = .ok (.invokevirtual 152, 3) := by decide +kernel
theorem dX7_compare_97 : decode cX7_compare 97 = .ok (.aload_n 0, 1) := by decide +kernel
theorem dX7_compare_98 : decode cX7_compare 98 = .ok (.getfield 155, 3) := by decide +kernel
theorem dX7_compare_101 : decode cX7_compare 101 = .ok (.if_icmp .ne 7, 3) := by decide +kernel
theorem dX7_compare_104 : decode cX7_compare 104 = .ok (.iconst 2, 1) := by decide +kernel
theorem dX7_compare_105 : decode cX7_compare 105 = .ok (.goto 4, 3) := by decide +kernel
theorem dX7_compare_108 : decode cX7_compare 108 = .ok (.iconst 1, 1) := by decide +kernel
theorem dX7_compare_109 : decode cX7_compare 109 = .ok (.ireturn, 1) := by decide +kernel
theorem dX7_write_0 : decode cX7_write 0 = .ok (.aload_n 0, 1) := by decide +kernel
theorem dX7_write_1 : decode cX7_write 1 = .ok (.iconst 0, 1) := by decide +kernel
theorem dX7_write_2 : decode cX7_write 2 = .ok (.putfield 164, 3) := by decide +kernel
theorem dX7_write_5 : decode cX7_write 5 = .ok (.aload_n 0, 1) := by decide +kernel
theorem dX7_write_6 : decode cX7_write 6 = .ok (.iconst 0, 1) := by decide +kernel
theorem dX7_write_7 : decode cX7_write 7 = .ok (.invokevirtual 152, 3) := by decide +kernel
theorem dX7_write_10 : decode cX7_write 10 = .ok (.istore_n 1, 1) := by decide +kernel
theorem dX7_write_11 : decode cX7_write 11 = .ok (.iconst 0, 1) := by decide +kernel
theorem dX7_write_12 : decode cX7_write 12 = .ok (.istore_n 2, 1) := by decide +kernel
theorem dX7_write_13 : decode cX7_write 13 = .ok (.aload_n 0, 1) := by decide +kernel
theorem dX7_write_14 : decode cX7_write 14 = .ok (.getfield 55, 3) := by decide +kernel
theorem dX7_write_17 : decode cX7_write 17 = .ok (.ifCond .ne 7, 3) := by decide +kernel
theorem dX7_write_20 : decode cX7_write 20 = .ok (.iconst 1, 1) := by decide +kernel
theorem dX7_write_21 : decode cX7_write 21 = .ok (.goto 4, 3) := by decide +kernel
theorem dX7_write_24 : decode cX7_write 24 = .ok (.iconst 0, 1) := by decide +kernel
theorem dX7_write_25 : decode cX7_write 25 = .ok (.istore_n 3, 1) := by decide +kernel
theorem dX7_write_26 : decode cX7_write 26 = .ok (.iload_n 3, 1) := by decide +kernel
theorem dX7_write_27 : decode cX7_write 27 = .ok (.ifCond .ne 34, 3) := by decide +kernel
theorem dX7_write_30 : decode cX7_write 30 = .ok (.aload_n 0, 1) := by decide +kernel
theorem dX7_write_31 : decode cX7_write 31 = .ok (.aload_n 0, 1) := by decide +kernel
theorem dX7_write_32 : decode cX7_write 32 = .ok (.getfield 40, 3) := by decide +kernel
theorem dX7_write_35 : decode cX7_write 35 = .ok (.iload_n 2, 1) := by decide +kernel
theorem dX7_write_36 : decode cX7_write 36 = .ok (.iaload, 1) := by decide +kernel
theorem dX7_write_37 : decode cX7_write 37 = .ok (.invokevirtual 145, 3) := by decide +kernel
theorem dX7_write_40 : decode cX7_write 40 = .ok (.aload_n 0, 1) := by decide +kernel
theorem dX7_write_41 : decode cX7_write 41 = .ok (.iconst 0, 1) := by decide +kernel
theorem dX7_write_42 : decode cX7_write 42 = .ok (.invokevirtual 149, 3) := by decide +kernel
theorem dX7_write_45 : decode cX7_write 45 = .ok (.iload_n 1, 1) := by decide +kernel
theorem dX7_write_46 : decode cX7_write 46 = .ok (.if_icmp .ne 7, 3) := by decide +kernel
theorem dX7_write_49 : decode cX7_write 49 = .ok (.iconst 1, 1) := by decide +kernel
theorem dX7_write_50 : decode cX7_write 50 = .ok (.goto 4, 3) := by decide +kernel
theorem dX7_write_53 : decode cX7_write 53 = .ok (.iconst 0, 1) := by decide +kernel
theorem dX7_write_54 : decode cX7_write 54 = .ok (.istore_n 3, 1) := by decide +kernel
theorem dX7_write_55 : decode cX7_write 55 = .ok (.iinc 2 1, 3) := by decide +kernel
theorem dX7_write_58 : decode cX7_write 58 = .ok (.goto (-32), 3) := by decide +kernel
theorem dX7_write_61 : decode cX7_write 61 = .ok (.iconst 0, 1) := by decide +kernel
theorem dX7_write_62 : decode cX7_write 62 = .ok (.istore 4, 2) := by decide +kernel
theorem dX7_write_64 : decode cX7_write 64 = .ok (.iload 4, 2) := by decide +kernel
theorem dX7_write_66 : decode cX7_write 66 = .ok (.aload_n 0, 1) := by decide +kernel
theorem dX7_write_67 : decode cX7_write 67 = .ok (.getfield 55, 3) := by decide +kernel
theorem dX7_write_70 : decode cX7_write 70 = .ok (.if_icmp .ge 115, 3) := by decide +kernel
theorem dX7_write_73 : decode cX7_write 73 = .ok (.aload_n 0, 1) := by decide +kernel
theorem dX7_write_74 : decode cX7_write 74 = .ok (.aload_n 0, 1) := by decide +kernel
theorem dX7_write_75 : decode cX7_write 75 = .ok (.getfield 7, 3) := by decide +kernel
theorem dX7_write_78 : decode cX7_write 78 = .ok (.aload_n 0, 1) := by decide +kernel
theorem dX7_write_79 : decode cX7_write 79 = .ok (.getfield 31, 3) := by decide +kernel
theorem dX7_write_82 : decode cX7_write 82 = .ok (.iload 4, 2) := by decide +kernel
theorem dX7_write_84 : decode cX7_write 84 = .ok (.iaload, 1) := by decide +kernel
theorem dX7_write_85 : decode cX7_write 85 = .ok (.iaload, 1) := by decide +kernel
theorem dX7_write_86 : decode cX7_write 86 = .ok (.invokevirtual 170, 3) := by decide +kernel
theorem dX7_write_89 : decode cX7_write 89 = .ok (.aload_n 0, 1) := by decide +kernel
theorem dX7_write_90 : decode cX7_write 90 = .ok (.aload_n 0, 1) := by decide +kernel
theorem dX7_write_91 : decode cX7_write 91 = .ok (.getfield 31, 3) := by decide +kernel
theorem dX7_write_94 : decode cX7_write 94 = .ok (.iload 4, 2) := by decide +kernel
theorem dX7_write_96 : decode cX7_write 96 = .ok (.iaload, 1) := by decide +kernel
theorem dX7_write_97 : decode cX7_write 97 = .ok (.invokevirtual 116, 3) := by decide +kernel
theorem dX7_write_100 : decode cX7_write 100 = .ok (.istore 5, 2) := by decide +kernel
theorem dX7_write_102 : decode cX7_write 102 = .ok (.iload 5, 2) := by decide +kernel
theorem dX7_write_104 : decode cX7_write 104 = .ok (.ifCond .eq 9, 3) := by decide +kernel
theorem dX7_write_107 : decode cX7_write 107 = .ok (.aload_n 0, 1) := by decide +kernel
theorem dX7_write_108 : decode cX7_write 108 = .ok (.bipush 64, 2) := by decide +kernel
theorem dX7_write_110 : decode cX7_write 110 = .ok (.invokevirtual 167, 3) := by decide +kernel
theorem dX7_write_113 : decode cX7_write 113 = .ok (.iload 5, 2) := by decide +kernel
theorem dX7_write_115 : decode cX7_write 115 = .ok (.ifCond .le 9, 3) := by decide +kernel
theorem dX7_write_118 : decode cX7_write 118 = .ok (.aload_n 0, 1) := by decide +kernel
theorem dX7_write_119 : decode cX7_write 119 = .ok (.bipush 64, 2) := by decide +kernel
theorem dX7_write_121 : decode cX7_write 121 = .ok (.invokevirtual 167, 3) := by decide +kernel
theorem dX7_write_124 : decode cX7_write 124 = .ok (.iconst 0, 1) := by decide +kernel
theorem dX7_write_125 : decode cX7_write 125 = .ok (.istore 6, 2) := by decide +kernel
theorem dX7_write_127 : decode cX7_write 127 = .ok (.iload 6, 2) := by decide +kernel
theorem dX7_write_129 : decode cX7_write 129 = .ok (.iload 4, 2) := by decide +kernel
theorem dX7_write_131 : decode cX7_write 131 = .ok (.if_icmp .ge 42, 3) := by decide +kernel
theorem dX7_write_134 : decode cX7_write 134 = .ok (.aload_n 0, 1) := by decide +kernel
theorem dX7_write_135 : decode cX7_write 135 = .ok (.aload_n 0, 1) := by decide +kernel
theorem dX7_write_136 : decode cX7_write 136 = .ok (.getfield 31, 3) := by decide +kernel
theorem dX7_write_139 : decode cX7_write 139 = .ok (.iload 4, 2) := by decide +kernel
theorem dX7_write_141 : decode cX7_write 141 = .ok (.iaload, 1) := by decide +kernel
theorem dX7_write_142 : decode cX7_write 142 = .ok (.aload_n 0, 1) := by decide +kernel
theorem dX7_write_143 : decode cX7_write 143 = .ok (.getfield 31, 3) := by decide +kernel
theorem dX7_write_146 : decode cX7_write 146 = .ok (.iload 6, 2) := by decide +kernel
theorem dX7_write_148 : decode cX7_write 148 = .ok (.iaload, 1) := by decide +kernel
theorem dX7_write_149 : decode cX7_write 149 = .ok (.invokevirtual 77, 3) := by decide +kernel
theorem dX7_write_152 : decode cX7_write 152 = .ok (.istore 7, 2) := by decide +kernel
theorem dX7_write_154 : decode cX7_write 154 = .ok (.iload 7, 2) := by decide +kernel
theorem dX7_write_156 : decode cX7_write 156 = .ok (.ifCond .lt 11, 3) := by decide +kernel
theorem dX7_write_159 : decode cX7_write 159 = .ok (.aload_n 0, 1) := by decide +kernel
theorem dX7_write_160 : decode cX7_write 160 = .ok (.iload 7, 2) := by decide +kernel
theorem dX7_write_162 : decode cX7_write 162 = .ok (.iload 6, 2) := by decide +kernel
theorem dX7_write_164 : decode cX7_write 164 = .ok (.invokevirtual 173, 3) := by decide +kernel
theorem dX7_write_167 : decode cX7_write 167 = .ok (.iinc 6 1, 3) := by decide +kernel
theorem dX7_write_170 : decode cX7_write 170 = .ok (.goto (-43), 3) := by decide +kernel
theorem dX7_write_173 : decode cX7_write 173 = .ok (.aload_n 0, 1) := by decide +kernel
theorem dX7_write_174 : decode cX7_write 174 = .ok (.bipush 59, 2) := by decide +kernel
theorem dX7_write_176 : decode cX7_write 176 = .ok (.invokevirtual 167, 3) := by decide +kernel
theorem dX7_write_179 : decode cX7_write 179 = .ok (.iinc 4 1, 3) := by decide +kernel
theorem dX7_write_182 : decode cX7_write 182 = .ok (.goto (-118), 3) := by decide +kernel
theorem dX7_write_185 : decode cX7_write 185 = .ok (.aload_n 0, 1) := by decide +kernel
theorem dX7_write_186 : decode cX7_write 186 = .ok (.getfield 164, 3) := by decide +kernel
theorem dX7_write_189 : decode cX7_write 189 = .ok (.ireturn, 1) := by decide +kernel
theorem dX7_putElement_0 : decode cX7_putElement 0 = .ok (.aload_n 0, 1) := by decide +kernel
theorem dX7_putElement_1 : decode cX7_putElement 1 = .ok (.iload_n 1, 1) := by decide +kernel
theorem dX7_putElement_2 : decode cX7_putElement 2 = .ok (.ifCond .eq 8, 3) := by decide +kernel
theorem dX7_putElement_5 : decode cX7_putElement 5 = .ok (.iload_n 1, 1) := by decide +kernel
theorem dX7_putElement_6 : decode cX7_putElement 6 = .ok (.iconst 4, 1) := by decide +kernel
theorem dX7_putElement_7 : decode cX7_putElement 7 = .ok (.if_icmp .ne 8, 3) := by decide +kernel
theorem dX7_putElement_10 : decode cX7_putElement 10 = .ok (.bipush 67, 2) := by decide +kernel
theorem dX7_putElement_12 : decode cX7_putElement 12 = .ok (.goto 35, 3) := by decide +kernel
theorem dX7_putElement_15 : decode cX7_putElement 15 = .ok (.iload_n 1, 1) := by decide +kernel
theorem dX7_putElement_16 : decode cX7_putElement 16 = .ok (.iconst 1, 1) := by decide +kernel
theorem dX7_putElement_17 : decode cX7_putElement 17 = .ok (.if_icmp .ne 8, 3) := by decide +kernel
theorem dX7_putElement_20 : decode cX7_putElement 20 = .ok (.bipush 78, 2) := by decide +kernel
theorem dX7_putElement_22 : decode cX7_putElement 22 = .ok (.goto 25, 3) := by decide +kernel
theorem dX7_putElement_25 : decode cX7_putElement 25 = .ok (.iload_n 1, 1) := by decide +kernel
theorem dX7_putElement_26 : decode cX7_putElement 26 = .ok (.iconst 2, 1) := by decide +kernel
theorem dX7_putElement_27 : decode cX7_putElement 27 = .ok (.if_icmp .ne 8, 3) := by decide +kernel
theorem dX7_putElement_30 : decode cX7_putElement 30 = .ok (.bipush 79, 2) := by decide +kernel
theorem dX7_putElement_32 : decode cX7_putElement 32 = .ok (.goto 15, 3) := by decide +kernel
theorem dX7_putElement_35 : decode cX7_putElement 35 = .ok (.iload_n 1, 1) := by decide +kernel
theorem dX7_putElement_36 : decode cX7_putElement 36 = .ok (.iconst 3, 1) := by decide +kernel
theorem dX7_putElement_37 : decode cX7_putElement 37 = .ok (.if_icmp .ne 8, 3) := by decide +kernel
theorem dX7_putElement_40 : decode cX7_putElement 40 = .ok (.bipush 70, 2) := by decide +kernel
theorem dX7_putElement_42 : decode cX7_putElement 42 = .ok (.goto 5, 3) := by decide +kernel
theorem dX7_putElement_45 : decode cX7_putElement 45 = .ok (.bipush 83, 2) := by decide +kernel
theorem dX7_putElement_47 : decode cX7_putElement 47 = .ok (.invokevirtual 167, 3) := by decide +kernel
theorem dX7_putElement_50 : decode cX7_putElement 50 = .ok (.iload_n 1, 1) := by decide +kernel
theorem dX7_putElement_51 : decode cX7_putElement 51 = .ok (.iconst 4, 1) := by decide +kernel
theorem dX7_putElement_52 : decode cX7_putElement 52 = .ok (.if_icmp .ne 9, 3) := by decide +kernel
theorem dX7_putElement_55 : decode cX7_putElement 55 = .ok (.aload_n 0, 1) := by decide +kernel
theorem dX7_putElement_56 : decode cX7_putElement 56 = .ok (.bipush 108, 2) := by decide +kernel
theorem dX7_putElement_58 : decode cX7_putElement 58 = .ok (.invokevirtual 167, 3) := by decide +kernel
theorem dX7_putElement_61 : decode cX7_putElement 61 = .ok (.return_, 1) := by decide +kernel
theorem dX7_put_0 : decode cX7_put 0 = .ok (.aload_n 0, 1) := by decide +kernel
theorem dX7_put_1 : decode cX7_put 1 = .ok (.getfield 46, 3) := by decide +kernel
theorem dX7_put_4 : decode cX7_put 4 = .ok (.aload_n 0, 1) := by decide +kernel
theorem dX7_put_5 : decode cX7_put 5 = .ok (.getfield 164, 3) := by decide +kernel
theorem dX7_put_8 : decode cX7_put 8 = .ok (.iload_n 1, 1) := by decide +kernel
theorem dX7_put_9 : decode cX7_put 9 = .ok (.iastore, 1) := by decide +kernel
theorem dX7_put_10 : decode cX7_put 10 = .ok (.aload_n 0, 1) := by decide +kernel
theorem dX7_put_11 : decode cX7_put 11 = .ok (.dup, 1) := by decide +kernel
theorem dX7_put_12 : decode cX7_put 12 = .ok (.getfield 164, 3) := by decide +kernel
theorem dX7_put_15 : decode cX7_put 15 = .ok (.iconst 1, 1) := by decide +kernel
theorem dX7_put_16 : decode cX7_put 16 = .ok (.iadd, 1) := by decide +kernel
theorem dX7_put_17 : decode cX7_put 17 = .ok (.putfield 164, 3) := by decide +kernel
theorem dX7_put_20 : decode cX7_put 20 = .ok (.return_, 1) := by decide +kernel
theorem dX7_putBond_0 : decode cX7_putBond 0 = .ok (.aload_n 0, 1) := by decide +kernel
theorem dX7_putBond_1 : decode cX7_putBond 1 = .ok (.bipush 40, 2) := by decide +kernel
theorem dX7_putBond_3 : decode cX7_putBond 3 = .ok (.invokevirtual 167, 3) := by decide +kernel
theorem dX7_putBond_6 : decode cX7_putBond 6 = .ok (.aload_n 0, 1) := by decide +kernel
theorem dX7_putBond_7 : decode cX7_putBond 7 = .ok (.bipush 48, 2) := by decide +kernel
theorem dX7_putBond_9 : decode cX7_putBond 9 = .ok (.iload_n 2, 1) := by decide +kernel
theorem dX7_putBond_10 : decode cX7_putBond 10 = .ok (.iadd, 1) := by decide +kernel
theorem dX7_putBond_11 : decode cX7_putBond 11 = .ok (.invokevirtual 167, 3) := by decide +kernel
theorem dX7_putBond_14 : decode cX7_putBond 14 = .ok (.aload_n 0, 1) := by decide +kernel
theorem dX7_putBond_15 : decode cX7_putBond 15 = .ok (.getfield 25, 3) := by decide +kernel
theorem dX7_putBond_18 : decode cX7_putBond 18 = .ok (.iload_n 1, 1) := by decide +kernel
theorem dX7_putBond_19 : decode cX7_putBond 19 = .ok (.iaload, 1) := by decide +kernel
theorem dX7_putBond_20 : decode cX7_putBond 20 = .ok (.iconst 2, 1) := by decide +kernel
theorem dX7_putBond_21 : decode cX7_putBond 21 = .ok (.if_icmp .ne 34, 3) := by decide +kernel
theorem dX7_putBond_24 : decode cX7_putBond 24 = .ok (.aload_n 0, 1) := by decide +kernel
theorem dX7_putBond_25 : decode cX7_putBond 25 = .ok (.bipush 61, 2) := by decide +kernel
theorem dX7_putBond_27 : decode cX7_putBond 27 = .ok (.invokevirtual 167, 3) := by decide +kernel
theorem dX7_putBond_30 : decode cX7_putBond 30 = .ok (.aload_n 0, 1) := by decide +kernel
theorem dX7_putBond_31 : decode cX7_putBond 31 = .ok (.iload_n 1, 1) := by decide +kernel
theorem dX7_putBond_32 : decode cX7_putBond 32 = .ok (.invokevirtual 119, 3) := by decide +kernel
theorem dX7_putBond_35 : decode cX7_putBond 35 = .ok (.istore_n 3, 1) := by decide +kernel
theorem dX7_putBond_36 : decode cX7_putBond 36 = .ok (.iload_n 3, 1) := by decide +kernel
theorem dX7_putBond_37 : decode cX7_putBond 37 = .ok (.ifCond .eq 18, 3) := by decide +kernel
theorem dX7_putBond_40 : decode cX7_putBond 40 = .ok (.aload_n 0, 1) := by decide +kernel
theorem dX7_putBond_41 : decode cX7_putBond 41 = .ok (.iload_n 3, 1) := by decide +kernel
theorem dX7_putBond_42 : decode cX7_putBond 42 = .ok (.ifCond .le 8, 3) := by decide +kernel
theorem dX7_putBond_45 : decode cX7_putBond 45 = .ok (.bipush 99, 2) := by decide +kernel
theorem dX7_putBond_47 : decode cX7_putBond 47 = .ok (.goto 5, 3) := by decide +kernel
theorem dX7_putBond_50 : decode cX7_putBond 50 = .ok (.bipush 116, 2) := by decide +kernel
theorem dX7_putBond_52 : decode cX7_putBond 52 = .ok (.invokevirtual 167, 3) := by decide +kernel
theorem dX7_putBond_55 : decode cX7_putBond 55 = .ok (.aload_n 0, 1) := by decide +kernel
theorem dX7_putBond_56 : decode cX7_putBond 56 = .ok (.getfield 25, 3) := by decide +kernel
theorem dX7_putBond_59 : decode cX7_putBond 59 = .ok (.iload_n 1, 1) := by decide +kernel
theorem dX7_putBond_60 : decode cX7_putBond 60 = .ok (.iaload, 1) := by decide +kernel
theorem dX7_putBond_61 : decode cX7_putBond 61 = .ok (.iconst 3, 1) := by decide +kernel
theorem dX7_putBond_62 : decode cX7_putBond 62 = .ok (.if_icmp .ne 9, 3) := by decide +kernel
theorem dX7_putBond_65 : decode cX7_putBond 65 = .ok (.aload_n 0, 1) := by decide +kernel
theorem dX7_putBond_66 : decode cX7_putBond 66 = .ok (.bipush 35, 2) := by decide +kernel
theorem dX7_putBond_68 : decode cX7_putBond 68 = .ok (.invokevirtual 167, 3) := by decide +kernel
theorem dX7_putBond_71 : decode cX7_putBond 71 = .ok (.aload_n 0, 1) := by decide +kernel
theorem dX7_putBond_72 : decode cX7_putBond 72 = .ok (.bipush 41, 2) := by decide +kernel
theorem dX7_putBond_74 : decode cX7_putBond 74 = .ok (.invokevirtual 167, 3) := by decide +kernel
theorem dX7_putBond_77 : decode cX7_putBond 77 = .ok (.return_, 1) := by decide +kernel
theorem dX7_at_0 : decode cX7_at 0 = .ok (.iload_n 1, 1) := by decide +kernel
theorem dX7_at_1 : decode cX7_at 1 = .ok (.ifCond .lt 20, 3) := by decide +kernel
theorem dX7_at_4 : decode cX7_at 4 = .ok (.iload_n 1, 1) := by decide +kernel
theorem dX7_at_5 : decode cX7_at 5 = .ok (.aload_n 0, 1) := by decide +kernel
theorem dX7_at_6 : decode cX7_at 6 = .ok (.getfield 164, 3) := by decide +kernel
theorem dX7_at_9 : decode cX7_at 9 = .ok (.if_icmp .ge 12, 3) := by decide +kernel
theorem dX7_at_12 : decode cX7_at 12 = .ok (.aload_n 0, 1) := by decide +kernel
theorem dX7_at_13 : decode cX7_at 13 = .ok (.getfield 46, 3) := by decide +kernel
theorem dX7_at_16 : decode cX7_at 16 = .ok (.iload_n 1, 1) := by decide +kernel
theorem dX7_at_17 : decode cX7_at 17 = .ok (.iaload, 1) := by decide +kernel
theorem dX7_at_18 : decode cX7_at 18 = .ok (.goto 4, 3) := by decide +kernel
theorem dX7_at_21 : decode cX7_at 21 = .ok (.iconst (-1), 1) := by decide +kernel
theorem dX7_at_22 : decode cX7_at 22 = .ok (.ireturn, 1) := by decide +kernel
end
section
/-! the pure state: a number for each place of each cell; the world that it stands for; a row an instruction over it -/
abbrev sf_St : Type := Nat → Nat → Int32
def sf_upc (σ : sf_St) (k : Nat) (f : Nat → Int32) : sf_St := fun j => if j = k then f else σ j
def sf_up (σ : sf_St) (k i : Nat) (v : Int32) : sf_St := sf_upc σ k (upd (σ k) i v)
def sf_ix (i : Int32) : Nat := i.toNatClampNeg
/-- a cell's kind: 0 int array, 1 boolean array, 2 char array (then its length), 3 array of arrays (length, the cells), 4 object (class, fields: a cell or a number) -/
abbrev sf_Kd : Type := Nat × Nat × List (Option Nat)
def sf_fv (q : Nat → Nat) (f : Nat → Int32) (j : Nat) (r : Option Nat) : Value := match r with
  | some k => .ref (q k)
  | none => .int (f j)
def sf_ce (q : Nat → Nat) (dA : Nat → ClassId) (f : Nat → Int32) (kd : sf_Kd) : va_E :=
  if kd.1 = 4 then .inr (kd.2.1, kd.2.2.mapIdx (sf_fv q f))
  else if kd.1 = 3 then .inl (dA 3, kd.2.1, .inr (.inr (.inr (.inr (fun i => (kd.2.2.getD i none).map q)))))
  else .inl (dA kd.1, kd.2.1, .inl f)
def sf_w (q : Nat → Nat) (dA : Nat → ClassId) (K : List sf_Kd) (σ : sf_St) : va_W := K.mapIdx (fun k kd => (q k, sf_ce q dA (σ k) kd))
def sf_tys (dA : Nat → ClassId) : List (ClassId × FieldType) := [(dA 0, .int), (dA 1, .boolean), (dA 2, .char), (dA 3, .array .int)]
def sf_A (q : Nat → Nat) (K : List sf_Kd) : Nat → Prop := fun a => ∃ k, k < K.length ∧ a = q k
def sf_inj (q : Nat → Nat) (K : List sf_Kd) : Prop := ∀ i j, i < K.length → j < K.length → q i = q j → i = j
theorem sf_w_at {q : Nat → Nat} {dA : Nat → ClassId} {K : List sf_Kd} {σ : sf_St} {k : Nat} {kd : sf_Kd} (h : K[k]? = some kd) : (sf_w q dA K σ)[k]? = some (q k, sf_ce q dA (σ k) kd) := by
  simp [sf_w, List.getElem?_mapIdx, h]
theorem sf_w_inv {q : Nat → Nat} {dA : Nat → ClassId} {K : List sf_Kd} {σ : sf_St} {k : Nat} {x : Nat × va_E} (h : (sf_w q dA K σ)[k]? = some x) : k < K.length ∧ x.1 = q k := by
  unfold sf_w at h
  rw [List.getElem?_mapIdx] at h
  cases hk : K[k]? with
  | none => rw [hk] at h; cases h
  | some kd =>
    rw [hk] at h
    cases h
    exact ⟨(List.getElem?_eq_some_iff.mp hk).1, rfl⟩
theorem sf_w_set {q : Nat → Nat} {dA : Nat → ClassId} {K : List sf_Kd} {σ : sf_St} {k : Nat} {kd : sf_Kd} (f : Nat → Int32) (h : K[k]? = some kd) : (sf_w q dA K σ).set k (q k, sf_ce q dA f kd) = sf_w q dA K (sf_upc σ k f) := by
  have hl : k < K.length := (List.getElem?_eq_some_iff.mp h).1
  apply List.ext_getElem?
  intro i
  rw [List.getElem?_set]
  by_cases hi : k = i
  · subst hi
    rw [if_pos rfl, sf_w_at h]
    simp [sf_w, hl, sf_upc]
  · rw [if_neg hi]
    have hi' : ¬ i = k := fun e => hi e.symm
    unfold sf_w
    rw [List.getElem?_mapIdx, List.getElem?_mapIdx]
    cases K[i]? with
    | none => rfl
    | some kd => simp [sf_upc, hi']
theorem sf_w_D {q : Nat → Nat} {dA : Nat → ClassId} {K : List sf_Kd} {σ : sf_St} (h : sf_inj q K) : va_D (sf_A q K) (sf_w q dA K σ) := by
  refine ⟨fun i j x y hx hy hxy => ?_, fun k x hx => ?_⟩
  · obtain ⟨h1, e1⟩ := sf_w_inv hx
    obtain ⟨h2, e2⟩ := sf_w_inv hy
    exact h i j h1 h2 (by rw [← e1, ← e2]; exact hxy)
  · obtain ⟨h1, e1⟩ := sf_w_inv hx
    exact ⟨k, h1, e1⟩
theorem sf_ce_a {q : Nat → Nat} {dA : Nat → ClassId} {f : Nat → Int32} {t n : Nat} {fs : List (Option Nat)} (ht : t < 3) : sf_ce q dA f (t, n, fs) = .inl (dA t, n, .inl f) := by
  have h4 : ¬ t = 4 := by omega
  have h3 : ¬ t = 3 := by omega
  simp [sf_ce, h4, h3]
theorem sf_ce_o {q : Nat → Nat} {dA : Nat → ClassId} {f : Nat → Int32} {ci : Nat} {fs : List (Option Nat)} : sf_ce q dA f (4, ci, fs) = .inr (ci, fs.mapIdx (sf_fv q f)) := rfl
theorem sf_fs_set {q : Nat → Nat} {f : Nat → Int32} {fs : List (Option Nat)} {j : Nat} {v : Int32} (h : fs[j]? = some none) : (fs.mapIdx (sf_fv q f)).set j (.int v) = fs.mapIdx (sf_fv q (upd f j v)) := by
  have hl : j < fs.length := (List.getElem?_eq_some_iff.mp h).1
  apply List.ext_getElem?
  intro i
  rw [List.getElem?_set, List.getElem?_mapIdx]
  by_cases hi : j = i
  · subst hi
    rw [if_pos rfl, List.getElem?_mapIdx, h]
    simp [hl, sf_fv, upd]
  · rw [if_neg hi, List.getElem?_mapIdx]
    have hi' : ¬ i = j := fun e => hi e.symm
    cases fs[i]? with
    | none => rfl
    | some r => cases r <;> simp [sf_fv, upd, hi']
def sf_Ek (q : Nat → Nat) (K : List sf_Kd) (E : State → Prop) : Prop := ∀ u U : State, u.WarmedH U.vm → (∀ a : Nat, a < u.heap.size → ¬ sf_A q K a → U.heap[a]? = u.heap[a]?) → u.heap.size ≤ U.heap.size → E u → E U
abbrev sf_I (D : va_G) (cl : List vw_C) (q : Nat → Nat) (dA : Nat → ClassId) (K : List sf_Kd) (E : State → Prop) (σ : sf_St) (U : State) : Prop := va_P D cl (sf_w q dA K σ) U.heap ∧ va_K D cl (sf_tys dA) U ∧ E U
/-- a contract: the answer is r, the state behind it τ -/
def sf_Mi (l : Launch) (y : MethodName) (ws : List Cond) (rm : Room) (D : va_G) (cl : List vw_C) (q : Nat → Nat) (dA : Nat → ClassId) (K : List sf_Kd) (E : State → Prop) (av : List Value) (σ : sf_St) (r : Int32) (τ : sf_St) : Prop :=
  Met l y ws rm (va_Pc av (sf_I D cl q dA K E σ)) (va_Qi (fun r' τ' => r' = r ∧ τ' = τ) (fun τ' t => sf_I D cl q dA K E τ' t) (sf_A q K)) 0 0 (sf_A q K)
def sf_Mv (l : Launch) (y : MethodName) (ws : List Cond) (rm : Room) (D : va_G) (cl : List vw_C) (q : Nat → Nat) (dA : Nat → ClassId) (K : List sf_Kd) (E : State → Prop) (av : List Value) (σ : sf_St) (τ : sf_St) : Prop :=
  Met l y ws rm (va_Pc av (sf_I D cl q dA K E σ)) (va_Qv (fun τ' => τ' = τ) (fun τ' t => sf_I D cl q dA K E τ' t) (sf_A q K)) 0 0 (sf_A q K)
def sf_Qi (D : va_G) (cl : List vw_C) (q : Nat → Nat) (dA : Nat → ClassId) (K : List sf_Kd) (E : State → Prop) (below : List Frame) (args : Array Value) (s : State) (r : Int32) (τ : sf_St) : State → Prop := MQ below (va_Qi (fun r' τ' => r' = r ∧ τ' = τ) (fun τ' t => sf_I D cl q dA K E τ' t) (sf_A q K)) args s 0 0 (sf_A q K)
def sf_Qv (D : va_G) (cl : List vw_C) (q : Nat → Nat) (dA : Nat → ClassId) (K : List sf_Kd) (E : State → Prop) (below : List Frame) (args : Array Value) (s : State) (τ : sf_St) : State → Prop := MQ below (va_Qv (fun τ' => τ' = τ) (fun τ' t => sf_I D cl q dA K E τ' t) (sf_A q K)) args s 0 0 (sf_A q K)
/-- what stays the same in a method's walk -/
def sf_Cx (p : Program) (s : State) (m : MethodId) (args : Array Value) (meth : Method) (c : Code) (cc : ByteArray) (nL : Nat) (own : String) (ret : Option FieldType) (Ts : List Cond) (D : va_G) (cl : List vw_C) (q : Nat → Nat) (dA : Nat → ClassId) (K : List sf_Kd) (E : State → Prop) : Prop :=
  CallFix p m c cc nL s args Ts own ∧ va_K D cl (sf_tys dA) s ∧ sf_inj q K ∧ E s ∧ sf_Ek q K E ∧ meth.sig.returnType = ret ∧ meth.locks = false
def sf_G (p : Program) (l : Launch) (e : Env) (R : Room) (s : State) (m : MethodId) (args : Array Value) (below : List Frame) (meth : Method) (c : Code) (Q : State → Prop) (nL : Nat) (D : va_G) (cl : List vw_C) (q : Nat → Nat) (dA : Nat → ClassId) (K : List sf_Kd) (σ : sf_St) (pc : Nat) (lv : List (Nat × Value)) (st : List Value) : Prop :=
  ∀ (H : Heap) (locs : List Loc) (ls : Array Slot), va_P D cl (sf_w q dA K σ) H → va_S (sf_A q K) s.heap H locs → lv_has ls nL lv → W p l e R s m args below meth c H locs 0 0 Q (F0 m pc ls st)
theorem sf_mif {c A B A' B' : Prop} {d : Decidable c} (hA : A → A') (hB : B → B') : (if c then A else B) → (if c then A' else B') := by
  intro h
  by_cases hc : c
  · rw [if_pos hc] at h ⊢; exact hA h
  · rw [if_neg hc] at h ⊢; exact hB h
theorem sf_ift {c A B : Prop} {d : Decidable c} (hc : c) (h : if c then A else B) : A := by rwa [if_pos hc] at h
theorem sf_iff {c A B : Prop} {d : Decidable c} (hc : ¬ c) (h : if c then A else B) : B := by rwa [if_neg hc] at h
section SFROWS
variable {p : Program} {l : Launch} {e : Env} {R : Room} {s : State} {m : MethodId} {args : Array Value} {below : List Frame} {meth : Method} {c : Code} {Q : State → Prop} {cc : ByteArray} {nL : Nat} {own : String} {ret : Option FieldType} {Ts : List Cond} {D : va_G} {cl : List vw_C} {q : Nat → Nat} {dA : Nat → ClassId} {K : List sf_Kd} {E : State → Prop} {σ : sf_St} {pc pc' : Nat} {lv : List (Nat × Value)} {st : List Value}
theorem sf_iconst (X : sf_Cx p s m args meth c cc nL own ret Ts D cl q dA K E) {n : Int} {v : Int32} (hdg : decode cc pc = .ok (.iconst n, 1)) (hv : Int32.ofInt n = v) (hp : pc + 1 = pc') (k : sf_G p l e R s m args below meth c Q nL D cl q dA K σ pc' lv (.int v :: st)) : sf_G p l e R s m args below meth c Q nL D cl q dA K σ pc lv st := by
  subst hp
  exact fun H locs ls hP hS hl => lv_iconst X.1.1 X.1.2.1 hdg hv (k H locs ls hP hS hl)
theorem sf_bipush (X : sf_Cx p s m args meth c cc nL own ret Ts D cl q dA K E) {n : Int} {v : Int32} (hdg : decode cc pc = .ok (.bipush n, 2)) (hv : (Int8.ofInt n).toInt32 = v) (hp : pc + 2 = pc') (k : sf_G p l e R s m args below meth c Q nL D cl q dA K σ pc' lv (.int v :: st)) : sf_G p l e R s m args below meth c Q nL D cl q dA K σ pc lv st := by
  subst hp
  exact fun H locs ls hP hS hl => lv_bipush X.1.1 X.1.2.1 hdg hv (k H locs ls hP hS hl)
theorem sf_sipush (X : sf_Cx p s m args meth c cc nL own ret Ts D cl q dA K E) {n : Int} {v : Int32} (hdg : decode cc pc = .ok (.sipush n, 3)) (hv : (Int16.ofInt n).toInt32 = v) (hp : pc + 3 = pc') (k : sf_G p l e R s m args below meth c Q nL D cl q dA K σ pc' lv (.int v :: st)) : sf_G p l e R s m args below meth c Q nL D cl q dA K σ pc lv st := by
  subst hp
  exact fun H locs ls hP hS hl => lv_sipush X.1.1 X.1.2.1 hdg hv (k H locs ls hP hS hl)
theorem sf_iload_n (X : sf_Cx p s m args meth c cc nL own ret Ts D cl q dA K E) {k : Fin 4} {i j : Nat} {x : Int32} (hdg : decode cc pc = .ok (.iload_n k, 1)) (hi : (k : Nat) = i) (hj : lv[j]? = some (i, .int x)) (hp : pc + 1 = pc') (k : sf_G p l e R s m args below meth c Q nL D cl q dA K σ pc' lv (.int x :: st)) : sf_G p l e R s m args below meth c Q nL D cl q dA K σ pc lv st := by
  subst hp
  exact fun H locs ls hP hS hl => lv_iload_n X.1.1 X.1.2.1 hdg hi (lv_at hl j hj) (k H locs ls hP hS hl)
theorem sf_iload (X : sf_Cx p s m args meth c cc nL own ret Ts D cl q dA K E) {i j : Nat} {x : Int32} (hdg : decode cc pc = .ok (.iload i, 2)) (hj : lv[j]? = some (i, .int x)) (hp : pc + 2 = pc') (k : sf_G p l e R s m args below meth c Q nL D cl q dA K σ pc' lv (.int x :: st)) : sf_G p l e R s m args below meth c Q nL D cl q dA K σ pc lv st := by
  subst hp
  exact fun H locs ls hP hS hl => lv_iload X.1.1 X.1.2.1 hdg (lv_at hl j hj) (k H locs ls hP hS hl)
theorem sf_aload_n (X : sf_Cx p s m args meth c cc nL own ret Ts D cl q dA K E) {k : Fin 4} {i j : Nat} {x : Nat} (hdg : decode cc pc = .ok (.aload_n k, 1)) (hi : (k : Nat) = i) (hj : lv[j]? = some (i, .ref x)) (hp : pc + 1 = pc') (k : sf_G p l e R s m args below meth c Q nL D cl q dA K σ pc' lv (.ref x :: st)) : sf_G p l e R s m args below meth c Q nL D cl q dA K σ pc lv st := by
  subst hp
  exact fun H locs ls hP hS hl => lv_aload_n X.1.1 X.1.2.1 hdg hi (lv_at hl j hj) (k H locs ls hP hS hl)
theorem sf_aload (X : sf_Cx p s m args meth c cc nL own ret Ts D cl q dA K E) {i j : Nat} {x : Nat} (hdg : decode cc pc = .ok (.aload i, 2)) (hj : lv[j]? = some (i, .ref x)) (hp : pc + 2 = pc') (k : sf_G p l e R s m args below meth c Q nL D cl q dA K σ pc' lv (.ref x :: st)) : sf_G p l e R s m args below meth c Q nL D cl q dA K σ pc lv st := by
  subst hp
  exact fun H locs ls hP hS hl => lv_aload X.1.1 X.1.2.1 hdg (lv_at hl j hj) (k H locs ls hP hS hl)
theorem sf_iadd (X : sf_Cx p s m args meth c cc nL own ret Ts D cl q dA K E) {x y : Int32} (hdg : decode cc pc = .ok (.iadd, 1))  (hp : pc + 1 = pc') (k : sf_G p l e R s m args below meth c Q nL D cl q dA K σ pc' lv (.int (x + y) :: st)) : sf_G p l e R s m args below meth c Q nL D cl q dA K σ pc lv (.int y :: .int x :: st) := by
  subst hp
  exact fun H locs ls hP hS hl => lv_iadd X.1.1 X.1.2.1 hdg  (k H locs ls hP hS hl)
theorem sf_isub (X : sf_Cx p s m args meth c cc nL own ret Ts D cl q dA K E) {x y : Int32} (hdg : decode cc pc = .ok (.isub, 1))  (hp : pc + 1 = pc') (k : sf_G p l e R s m args below meth c Q nL D cl q dA K σ pc' lv (.int (x - y) :: st)) : sf_G p l e R s m args below meth c Q nL D cl q dA K σ pc lv (.int y :: .int x :: st) := by
  subst hp
  exact fun H locs ls hP hS hl => lv_isub X.1.1 X.1.2.1 hdg  (k H locs ls hP hS hl)
theorem sf_imul (X : sf_Cx p s m args meth c cc nL own ret Ts D cl q dA K E) {x y : Int32} (hdg : decode cc pc = .ok (.imul, 1))  (hp : pc + 1 = pc') (k : sf_G p l e R s m args below meth c Q nL D cl q dA K σ pc' lv (.int (x * y) :: st)) : sf_G p l e R s m args below meth c Q nL D cl q dA K σ pc lv (.int y :: .int x :: st) := by
  subst hp
  exact fun H locs ls hP hS hl => lv_imul X.1.1 X.1.2.1 hdg  (k H locs ls hP hS hl)
theorem sf_iand (X : sf_Cx p s m args meth c cc nL own ret Ts D cl q dA K E) {x y : Int32} (hdg : decode cc pc = .ok (.iand, 1))  (hp : pc + 1 = pc') (k : sf_G p l e R s m args below meth c Q nL D cl q dA K σ pc' lv (.int (x &&& y) :: st)) : sf_G p l e R s m args below meth c Q nL D cl q dA K σ pc lv (.int y :: .int x :: st) := by
  subst hp
  exact fun H locs ls hP hS hl => lv_iand X.1.1 X.1.2.1 hdg  (k H locs ls hP hS hl)
theorem sf_ior (X : sf_Cx p s m args meth c cc nL own ret Ts D cl q dA K E) {x y : Int32} (hdg : decode cc pc = .ok (.ior, 1))  (hp : pc + 1 = pc') (k : sf_G p l e R s m args below meth c Q nL D cl q dA K σ pc' lv (.int (x ||| y) :: st)) : sf_G p l e R s m args below meth c Q nL D cl q dA K σ pc lv (.int y :: .int x :: st) := by
  subst hp
  exact fun H locs ls hP hS hl => lv_ior X.1.1 X.1.2.1 hdg  (k H locs ls hP hS hl)
theorem sf_ixor (X : sf_Cx p s m args meth c cc nL own ret Ts D cl q dA K E) {x y : Int32} (hdg : decode cc pc = .ok (.ixor, 1))  (hp : pc + 1 = pc') (k : sf_G p l e R s m args below meth c Q nL D cl q dA K σ pc' lv (.int (x ^^^ y) :: st)) : sf_G p l e R s m args below meth c Q nL D cl q dA K σ pc lv (.int y :: .int x :: st) := by
  subst hp
  exact fun H locs ls hP hS hl => lv_ixor X.1.1 X.1.2.1 hdg  (k H locs ls hP hS hl)
theorem sf_ishl (X : sf_Cx p s m args meth c cc nL own ret Ts D cl q dA K E) {x y : Int32} (hdg : decode cc pc = .ok (.ishl, 1))  (hp : pc + 1 = pc') (k : sf_G p l e R s m args below meth c Q nL D cl q dA K σ pc' lv (.int (x <<< (y &&& 31)) :: st)) : sf_G p l e R s m args below meth c Q nL D cl q dA K σ pc lv (.int y :: .int x :: st) := by
  subst hp
  exact fun H locs ls hP hS hl => lv_ishl X.1.1 X.1.2.1 hdg  (k H locs ls hP hS hl)
theorem sf_ishr (X : sf_Cx p s m args meth c cc nL own ret Ts D cl q dA K E) {x y : Int32} (hdg : decode cc pc = .ok (.ishr, 1))  (hp : pc + 1 = pc') (k : sf_G p l e R s m args below meth c Q nL D cl q dA K σ pc' lv (.int (x >>> (y &&& 31)) :: st)) : sf_G p l e R s m args below meth c Q nL D cl q dA K σ pc lv (.int y :: .int x :: st) := by
  subst hp
  exact fun H locs ls hP hS hl => lv_ishr X.1.1 X.1.2.1 hdg  (k H locs ls hP hS hl)
theorem sf_irem (X : sf_Cx p s m args meth c cc nL own ret Ts D cl q dA K E) {x y : Int32} (hdg : decode cc pc = .ok (.irem, 1)) (hne : ¬ y = 0) (hp : pc + 1 = pc') (k : sf_G p l e R s m args below meth c Q nL D cl q dA K σ pc' lv (.int (x - x / y * y) :: st)) : sf_G p l e R s m args below meth c Q nL D cl q dA K σ pc lv (.int y :: .int x :: st) := by
  subst hp
  exact fun H locs ls hP hS hl => lv_irem X.1.1 X.1.2.1 hdg hne (k H locs ls hP hS hl)
theorem sf_ineg (X : sf_Cx p s m args meth c cc nL own ret Ts D cl q dA K E) {x : Int32} (hdg : decode cc pc = .ok (.ineg, 1))  (hp : pc + 1 = pc') (k : sf_G p l e R s m args below meth c Q nL D cl q dA K σ pc' lv (.int (-x) :: st)) : sf_G p l e R s m args below meth c Q nL D cl q dA K σ pc lv (.int x :: st) := by
  subst hp
  exact fun H locs ls hP hS hl => lv_ineg X.1.1 X.1.2.1 hdg  (k H locs ls hP hS hl)
theorem sf_i2c (X : sf_Cx p s m args meth c cc nL own ret Ts D cl q dA K E) {x : Int32} (hdg : decode cc pc = .ok (.i2c, 1))  (hp : pc + 1 = pc') (k : sf_G p l e R s m args below meth c Q nL D cl q dA K σ pc' lv (.int (x.toUInt32 % 65536).toInt32 :: st)) : sf_G p l e R s m args below meth c Q nL D cl q dA K σ pc lv (.int x :: st) := by
  subst hp
  exact fun H locs ls hP hS hl => lv_i2c X.1.1 X.1.2.1 hdg rfl (k H locs ls hP hS hl)
theorem sf_dup (X : sf_Cx p s m args meth c cc nL own ret Ts D cl q dA K E) {va : Value} (hdg : decode cc pc = .ok (.dup, 1)) (hva : va.category = 1) (hp : pc + 1 = pc') (k : sf_G p l e R s m args below meth c Q nL D cl q dA K σ pc' lv (va :: va :: st)) : sf_G p l e R s m args below meth c Q nL D cl q dA K σ pc lv (va :: st) := by
  subst hp
  exact fun H locs ls hP hS hl => lv_dup X.1.1 X.1.2.1 hdg hva (k H locs ls hP hS hl)
theorem sf_pop (X : sf_Cx p s m args meth c cc nL own ret Ts D cl q dA K E) {va : Value} (hdg : decode cc pc = .ok (.pop, 1)) (hva : va.category = 1) (hp : pc + 1 = pc') (k : sf_G p l e R s m args below meth c Q nL D cl q dA K σ pc' lv st) : sf_G p l e R s m args below meth c Q nL D cl q dA K σ pc lv (va :: st) := by
  subst hp
  exact fun H locs ls hP hS hl => lv_pop X.1.1 X.1.2.1 hdg hva (k H locs ls hP hS hl)
theorem sf_dup_x1 (X : sf_Cx p s m args meth c cc nL own ret Ts D cl q dA K E) {va vb : Value} (hdg : decode cc pc = .ok (.dup_x1, 1)) (hva : va.category = 1) (hvb : vb.category = 1) (hp : pc + 1 = pc') (k : sf_G p l e R s m args below meth c Q nL D cl q dA K σ pc' lv (va :: vb :: va :: st)) : sf_G p l e R s m args below meth c Q nL D cl q dA K σ pc lv (va :: vb :: st) := by
  subst hp
  exact fun H locs ls hP hS hl => lv_dup_x1 X.1.1 X.1.2.1 hdg hva hvb (k H locs ls hP hS hl)
theorem sf_dup_x2 (X : sf_Cx p s m args meth c cc nL own ret Ts D cl q dA K E) {va vb vd : Value} (hdg : decode cc pc = .ok (.dup_x2, 1)) (hva : va.category = 1) (hvb : vb.category = 1) (hvd : vd.category = 1) (hp : pc + 1 = pc') (k : sf_G p l e R s m args below meth c Q nL D cl q dA K σ pc' lv (va :: vb :: vd :: va :: st)) : sf_G p l e R s m args below meth c Q nL D cl q dA K σ pc lv (va :: vb :: vd :: st) := by
  subst hp
  exact fun H locs ls hP hS hl => lv_dup_x2 X.1.1 X.1.2.1 hdg hva hvb hvd (k H locs ls hP hS hl)
theorem sf_dup2 (X : sf_Cx p s m args meth c cc nL own ret Ts D cl q dA K E) {va vb : Value} (hdg : decode cc pc = .ok (.dup2, 1)) (hva : va.category = 1) (hvb : vb.category = 1) (hp : pc + 1 = pc') (k : sf_G p l e R s m args below meth c Q nL D cl q dA K σ pc' lv (va :: vb :: va :: vb :: st)) : sf_G p l e R s m args below meth c Q nL D cl q dA K σ pc lv (va :: vb :: st) := by
  subst hp
  exact fun H locs ls hP hS hl => lv_dup2_11 X.1.1 X.1.2.1 hdg hva hvb (k H locs ls hP hS hl)
theorem sf_ldc (X : sf_Cx p s m args meth c cc nL own ret Ts D cl q dA K E) {index : Nat} {v : Int32} (hconst : (Jvm.Cond.constant own index v).before args s = true) (hdg : decode cc pc = .ok (.ldc index, 2)) (hp : pc + 2 = pc') (k : sf_G p l e R s m args below meth c Q nL D cl q dA K σ pc' lv (.int v :: st)) : sf_G p l e R s m args below meth c Q nL D cl q dA K σ pc lv st := by
  subst hp
  exact fun H locs ls hP hS hl => lv_ldc X.1.1 X.1.2.1 X.1.2.2.2.1 hconst hdg (k H locs ls hP hS hl)
theorem sf_istore_n (X : sf_Cx p s m args meth c cc nL own ret Ts D cl q dA K E) {k : Fin 4} {i : Nat} {x : Int32} {lv' : List (Nat × Value)} (hdg : decode cc pc = .ok (.istore_n k, 1)) (hi : (k : Nat) = i) (hn : i < nL) (hl' : (i, Value.int x) :: lv.filter (fun q => !(q.1 == i) && !(q.1 + 1 == i && q.2.category == 2)) = lv') (hp : pc + 1 = pc') (k : sf_G p l e R s m args below meth c Q nL D cl q dA K σ pc' lv' st) : sf_G p l e R s m args below meth c Q nL D cl q dA K σ pc lv (Value.int x :: st) := by
  subst hp
  exact fun H locs ls hP hS hl => lv_istore_n X.1.1 X.1.2.1 hdg hi hl hn hl' (fun ls' hls' => k H locs ls' hP hS hls')
theorem sf_istore (X : sf_Cx p s m args meth c cc nL own ret Ts D cl q dA K E) {i : Nat} {x : Int32} {lv' : List (Nat × Value)} (hdg : decode cc pc = .ok (.istore i, 2))  (hn : i < nL) (hl' : (i, Value.int x) :: lv.filter (fun q => !(q.1 == i) && !(q.1 + 1 == i && q.2.category == 2)) = lv') (hp : pc + 2 = pc') (k : sf_G p l e R s m args below meth c Q nL D cl q dA K σ pc' lv' st) : sf_G p l e R s m args below meth c Q nL D cl q dA K σ pc lv (Value.int x :: st) := by
  subst hp
  exact fun H locs ls hP hS hl => lv_istore X.1.1 X.1.2.1 hdg  hl hn hl' (fun ls' hls' => k H locs ls' hP hS hls')
theorem sf_astore_n (X : sf_Cx p s m args meth c cc nL own ret Ts D cl q dA K E) {k : Fin 4} {i : Nat} {x : Nat} {lv' : List (Nat × Value)} (hdg : decode cc pc = .ok (.astore_n k, 1)) (hi : (k : Nat) = i) (hn : i < nL) (hl' : (i, Value.ref x) :: lv.filter (fun q => !(q.1 == i) && !(q.1 + 1 == i && q.2.category == 2)) = lv') (hp : pc + 1 = pc') (k : sf_G p l e R s m args below meth c Q nL D cl q dA K σ pc' lv' st) : sf_G p l e R s m args below meth c Q nL D cl q dA K σ pc lv (Value.ref x :: st) := by
  subst hp
  exact fun H locs ls hP hS hl => lv_astore_n X.1.1 X.1.2.1 hdg hi hl hn hl' (fun ls' hls' => k H locs ls' hP hS hls')
theorem sf_astore (X : sf_Cx p s m args meth c cc nL own ret Ts D cl q dA K E) {i : Nat} {x : Nat} {lv' : List (Nat × Value)} (hdg : decode cc pc = .ok (.astore i, 2))  (hn : i < nL) (hl' : (i, Value.ref x) :: lv.filter (fun q => !(q.1 == i) && !(q.1 + 1 == i && q.2.category == 2)) = lv') (hp : pc + 2 = pc') (k : sf_G p l e R s m args below meth c Q nL D cl q dA K σ pc' lv' st) : sf_G p l e R s m args below meth c Q nL D cl q dA K σ pc lv (Value.ref x :: st) := by
  subst hp
  exact fun H locs ls hP hS hl => lv_astore X.1.1 X.1.2.1 hdg  hl hn hl' (fun ls' hls' => k H locs ls' hP hS hls')
theorem sf_iinc (X : sf_Cx p s m args meth c cc nL own ret Ts D cl q dA K E) {i j : Nat} {n : Int} {x d : Int32} {lv' : Int32 → List (Nat × Value)} (hdg : decode cc pc = .ok (.iinc i n, 3)) (hj : lv[j]? = some (i, .int x)) (hd : Int32.ofInt n = d) (hn : i < nL) (hl' : ∀ y : Int32, (i, Value.int y) :: lv.filter (fun q => !(q.1 == i) && !(q.1 + 1 == i && q.2.category == 2)) = lv' y) (hp : pc + 3 = pc') (k : ∀ y : Int32, y = x + d → sf_G p l e R s m args below meth c Q nL D cl q dA K σ pc' (lv' y) st) : sf_G p l e R s m args below meth c Q nL D cl q dA K σ pc lv st := by
  subst hp
  exact fun H locs ls hP hS hl => lv_iinc X.1.1 X.1.2.1 hdg hl hj (v := x + d) (by rw [hd]) hn (hl' _) (fun ls' hls' => k _ rfl H locs ls' hP hS hls')
theorem sf_top {x : Int32} (k : ∀ y : Int32, y = x → sf_G p l e R s m args below meth c Q nL D cl q dA K σ pc lv (.int y :: st)) : sf_G p l e R s m args below meth c Q nL D cl q dA K σ pc lv (.int x :: st) := k x rfl
theorem sf_loc {lv' : List (Nat × Value)} (ks : List Nat) (h : lv_pick lv ks = lv') (k : sf_G p l e R s m args below meth c Q nL D cl q dA K σ pc lv' st) : sf_G p l e R s m args below meth c Q nL D cl q dA K σ pc lv st := fun H locs ls hP hS hl => k H locs ls hP hS (lv_sub hl ks h)
theorem sf_if_eq (X : sf_Cx p s m args meth c cc nL own ret Ts D cl q dA K E) {x : Int32} {off : Int} {tgt : Nat} (hdg : decode cc pc = .ok (.ifCond .eq off, 3)) (ht : (pc : Int) + off = (tgt : Int)) (hp : pc + 3 = pc') (kt : x = 0 → sf_G p l e R s m args below meth c Q nL D cl q dA K σ tgt lv st) (kf : ¬ x = 0 → sf_G p l e R s m args below meth c Q nL D cl q dA K σ pc' lv st) : sf_G p l e R s m args below meth c Q nL D cl q dA K σ pc lv (.int x :: st) := by
  subst hp
  exact fun H locs ls hP hS hl => lv_if_eq X.1.1 X.1.2.1 hdg ht (fun h => kt h H locs ls hP hS hl) (fun h => kf h H locs ls hP hS hl)
theorem sf_icmp_eq (X : sf_Cx p s m args meth c cc nL own ret Ts D cl q dA K E) {x y : Int32} {off : Int} {tgt : Nat} (hdg : decode cc pc = .ok (.if_icmp .eq off, 3)) (ht : (pc : Int) + off = (tgt : Int)) (hp : pc + 3 = pc') (kt : x = y → sf_G p l e R s m args below meth c Q nL D cl q dA K σ tgt lv st) (kf : ¬ x = y → sf_G p l e R s m args below meth c Q nL D cl q dA K σ pc' lv st) : sf_G p l e R s m args below meth c Q nL D cl q dA K σ pc lv (.int y :: .int x :: st) := by
  subst hp
  exact fun H locs ls hP hS hl => lv_icmp_eq X.1.1 X.1.2.1 hdg ht (fun h => kt h H locs ls hP hS hl) (fun h => kf h H locs ls hP hS hl)
theorem sf_if_ne (X : sf_Cx p s m args meth c cc nL own ret Ts D cl q dA K E) {x : Int32} {off : Int} {tgt : Nat} (hdg : decode cc pc = .ok (.ifCond .ne off, 3)) (ht : (pc : Int) + off = (tgt : Int)) (hp : pc + 3 = pc') (kt : ¬ x = 0 → sf_G p l e R s m args below meth c Q nL D cl q dA K σ tgt lv st) (kf : x = 0 → sf_G p l e R s m args below meth c Q nL D cl q dA K σ pc' lv st) : sf_G p l e R s m args below meth c Q nL D cl q dA K σ pc lv (.int x :: st) := by
  subst hp
  exact fun H locs ls hP hS hl => lv_if_ne X.1.1 X.1.2.1 hdg ht (fun h => kt h H locs ls hP hS hl) (fun h => kf h H locs ls hP hS hl)
theorem sf_icmp_ne (X : sf_Cx p s m args meth c cc nL own ret Ts D cl q dA K E) {x y : Int32} {off : Int} {tgt : Nat} (hdg : decode cc pc = .ok (.if_icmp .ne off, 3)) (ht : (pc : Int) + off = (tgt : Int)) (hp : pc + 3 = pc') (kt : ¬ x = y → sf_G p l e R s m args below meth c Q nL D cl q dA K σ tgt lv st) (kf : x = y → sf_G p l e R s m args below meth c Q nL D cl q dA K σ pc' lv st) : sf_G p l e R s m args below meth c Q nL D cl q dA K σ pc lv (.int y :: .int x :: st) := by
  subst hp
  exact fun H locs ls hP hS hl => lv_icmp_ne X.1.1 X.1.2.1 hdg ht (fun h => kt h H locs ls hP hS hl) (fun h => kf h H locs ls hP hS hl)
theorem sf_if_lt (X : sf_Cx p s m args meth c cc nL own ret Ts D cl q dA K E) {x : Int32} {off : Int} {tgt : Nat} (hdg : decode cc pc = .ok (.ifCond .lt off, 3)) (ht : (pc : Int) + off = (tgt : Int)) (hp : pc + 3 = pc') (kt : x < 0 → sf_G p l e R s m args below meth c Q nL D cl q dA K σ tgt lv st) (kf : ¬ x < 0 → sf_G p l e R s m args below meth c Q nL D cl q dA K σ pc' lv st) : sf_G p l e R s m args below meth c Q nL D cl q dA K σ pc lv (.int x :: st) := by
  subst hp
  exact fun H locs ls hP hS hl => lv_if_lt X.1.1 X.1.2.1 hdg ht (fun h => kt h H locs ls hP hS hl) (fun h => kf h H locs ls hP hS hl)
theorem sf_icmp_lt (X : sf_Cx p s m args meth c cc nL own ret Ts D cl q dA K E) {x y : Int32} {off : Int} {tgt : Nat} (hdg : decode cc pc = .ok (.if_icmp .lt off, 3)) (ht : (pc : Int) + off = (tgt : Int)) (hp : pc + 3 = pc') (kt : x < y → sf_G p l e R s m args below meth c Q nL D cl q dA K σ tgt lv st) (kf : ¬ x < y → sf_G p l e R s m args below meth c Q nL D cl q dA K σ pc' lv st) : sf_G p l e R s m args below meth c Q nL D cl q dA K σ pc lv (.int y :: .int x :: st) := by
  subst hp
  exact fun H locs ls hP hS hl => lv_icmp_lt X.1.1 X.1.2.1 hdg ht (fun h => kt h H locs ls hP hS hl) (fun h => kf h H locs ls hP hS hl)
theorem sf_if_ge (X : sf_Cx p s m args meth c cc nL own ret Ts D cl q dA K E) {x : Int32} {off : Int} {tgt : Nat} (hdg : decode cc pc = .ok (.ifCond .ge off, 3)) (ht : (pc : Int) + off = (tgt : Int)) (hp : pc + 3 = pc') (kt : 0 ≤ x → sf_G p l e R s m args below meth c Q nL D cl q dA K σ tgt lv st) (kf : ¬ 0 ≤ x → sf_G p l e R s m args below meth c Q nL D cl q dA K σ pc' lv st) : sf_G p l e R s m args below meth c Q nL D cl q dA K σ pc lv (.int x :: st) := by
  subst hp
  exact fun H locs ls hP hS hl => lv_if_ge X.1.1 X.1.2.1 hdg ht (fun h => kt h H locs ls hP hS hl) (fun h => kf h H locs ls hP hS hl)
theorem sf_icmp_ge (X : sf_Cx p s m args meth c cc nL own ret Ts D cl q dA K E) {x y : Int32} {off : Int} {tgt : Nat} (hdg : decode cc pc = .ok (.if_icmp .ge off, 3)) (ht : (pc : Int) + off = (tgt : Int)) (hp : pc + 3 = pc') (kt : y ≤ x → sf_G p l e R s m args below meth c Q nL D cl q dA K σ tgt lv st) (kf : ¬ y ≤ x → sf_G p l e R s m args below meth c Q nL D cl q dA K σ pc' lv st) : sf_G p l e R s m args below meth c Q nL D cl q dA K σ pc lv (.int y :: .int x :: st) := by
  subst hp
  exact fun H locs ls hP hS hl => lv_icmp_ge X.1.1 X.1.2.1 hdg ht (fun h => kt h H locs ls hP hS hl) (fun h => kf h H locs ls hP hS hl)
theorem sf_if_gt (X : sf_Cx p s m args meth c cc nL own ret Ts D cl q dA K E) {x : Int32} {off : Int} {tgt : Nat} (hdg : decode cc pc = .ok (.ifCond .gt off, 3)) (ht : (pc : Int) + off = (tgt : Int)) (hp : pc + 3 = pc') (kt : 0 < x → sf_G p l e R s m args below meth c Q nL D cl q dA K σ tgt lv st) (kf : ¬ 0 < x → sf_G p l e R s m args below meth c Q nL D cl q dA K σ pc' lv st) : sf_G p l e R s m args below meth c Q nL D cl q dA K σ pc lv (.int x :: st) := by
  subst hp
  exact fun H locs ls hP hS hl => lv_if_gt X.1.1 X.1.2.1 hdg ht (fun h => kt h H locs ls hP hS hl) (fun h => kf h H locs ls hP hS hl)
theorem sf_icmp_gt (X : sf_Cx p s m args meth c cc nL own ret Ts D cl q dA K E) {x y : Int32} {off : Int} {tgt : Nat} (hdg : decode cc pc = .ok (.if_icmp .gt off, 3)) (ht : (pc : Int) + off = (tgt : Int)) (hp : pc + 3 = pc') (kt : y < x → sf_G p l e R s m args below meth c Q nL D cl q dA K σ tgt lv st) (kf : ¬ y < x → sf_G p l e R s m args below meth c Q nL D cl q dA K σ pc' lv st) : sf_G p l e R s m args below meth c Q nL D cl q dA K σ pc lv (.int y :: .int x :: st) := by
  subst hp
  exact fun H locs ls hP hS hl => lv_icmp_gt X.1.1 X.1.2.1 hdg ht (fun h => kt h H locs ls hP hS hl) (fun h => kf h H locs ls hP hS hl)
theorem sf_if_le (X : sf_Cx p s m args meth c cc nL own ret Ts D cl q dA K E) {x : Int32} {off : Int} {tgt : Nat} (hdg : decode cc pc = .ok (.ifCond .le off, 3)) (ht : (pc : Int) + off = (tgt : Int)) (hp : pc + 3 = pc') (kt : x ≤ 0 → sf_G p l e R s m args below meth c Q nL D cl q dA K σ tgt lv st) (kf : ¬ x ≤ 0 → sf_G p l e R s m args below meth c Q nL D cl q dA K σ pc' lv st) : sf_G p l e R s m args below meth c Q nL D cl q dA K σ pc lv (.int x :: st) := by
  subst hp
  exact fun H locs ls hP hS hl => lv_if_le X.1.1 X.1.2.1 hdg ht (fun h => kt h H locs ls hP hS hl) (fun h => kf h H locs ls hP hS hl)
theorem sf_icmp_le (X : sf_Cx p s m args meth c cc nL own ret Ts D cl q dA K E) {x y : Int32} {off : Int} {tgt : Nat} (hdg : decode cc pc = .ok (.if_icmp .le off, 3)) (ht : (pc : Int) + off = (tgt : Int)) (hp : pc + 3 = pc') (kt : x ≤ y → sf_G p l e R s m args below meth c Q nL D cl q dA K σ tgt lv st) (kf : ¬ x ≤ y → sf_G p l e R s m args below meth c Q nL D cl q dA K σ pc' lv st) : sf_G p l e R s m args below meth c Q nL D cl q dA K σ pc lv (.int y :: .int x :: st) := by
  subst hp
  exact fun H locs ls hP hS hl => lv_icmp_le X.1.1 X.1.2.1 hdg ht (fun h => kt h H locs ls hP hS hl) (fun h => kf h H locs ls hP hS hl)
theorem sf_goto (X : sf_Cx p s m args meth c cc nL own ret Ts D cl q dA K E) {off : Int} {tgt : Nat} (hdg : decode cc pc = .ok (.goto off, 3)) (ht : (pc : Int) + off = (tgt : Int)) (k : sf_G p l e R s m args below meth c Q nL D cl q dA K σ tgt lv st) : sf_G p l e R s m args below meth c Q nL D cl q dA K σ pc lv st := fun H locs ls hP hS hl => lv_goto X.1.1 X.1.2.1 hdg ht (k H locs ls hP hS hl)
theorem sf_getR (X : sf_Cx p s m args meth c cc nL own ret Ts D cl q dA K E) {ref C : String} {T : u_T} {N ci index k j : Nat} {fs : List (Option Nat)} {k' : Nat} (hin : ∀ w ∈ u_ws C T N, w ∈ Ts) (hc : cl[ci]? = some (C, T, N)) (hk : K[k]? = some (4, ci, fs)) (hj : j < N) (hlink : (Cond.fieldLink own index ref (T j).2.1 (T j).2.2.1).before args s = true) (hsame : ∀ x, s.fieldFound? (T j).1 (T j).2.1 (T j).2.2.1 = some x → s.fieldFound? ref (T j).2.1 (T j).2.2.1 = some x) (hv : fs[j]? = some (some k')) (hdg : decode cc pc = .ok (.getfield index, 3)) (hp : pc + 3 = pc') (kk : sf_G p l e R s m args below meth c Q nL D cl q dA K σ pc' lv (.ref (q k') :: st)) : sf_G p l e R s m args below meth c Q nL D cl q dA K σ pc lv (.ref (q k) :: st) := by
  subst hp
  exact fun H locs ls hP hS hl => va_get X.1.1 X.1.2.1 X.1.2.2.2.2 hin X.1.2.2.2.1 X.2.1 hP k (sf_w_at hk) hc j hj hlink hsame (v := .ref (q k')) (by rw [List.getElem?_mapIdx, hv]; rfl) hdg (kk H locs ls hP hS hl)
theorem sf_getI (X : sf_Cx p s m args meth c cc nL own ret Ts D cl q dA K E) {ref C : String} {T : u_T} {N ci index k j : Nat} {fs : List (Option Nat)} (hin : ∀ w ∈ u_ws C T N, w ∈ Ts) (hc : cl[ci]? = some (C, T, N)) (hk : K[k]? = some (4, ci, fs)) (hj : j < N) (hlink : (Cond.fieldLink own index ref (T j).2.1 (T j).2.2.1).before args s = true) (hsame : ∀ x, s.fieldFound? (T j).1 (T j).2.1 (T j).2.2.1 = some x → s.fieldFound? ref (T j).2.1 (T j).2.2.1 = some x) (hv : fs[j]? = some none) (hdg : decode cc pc = .ok (.getfield index, 3)) (hp : pc + 3 = pc') (kk : sf_G p l e R s m args below meth c Q nL D cl q dA K σ pc' lv (.int (σ k j) :: st)) : sf_G p l e R s m args below meth c Q nL D cl q dA K σ pc lv (.ref (q k) :: st) := by
  subst hp
  exact fun H locs ls hP hS hl => va_get X.1.1 X.1.2.1 X.1.2.2.2.2 hin X.1.2.2.2.1 X.2.1 hP k (sf_w_at hk) hc j hj hlink hsame (v := .int (σ k j)) (by rw [List.getElem?_mapIdx, hv]; rfl) hdg (kk H locs ls hP hS hl)
theorem sf_putI (X : sf_Cx p s m args meth c cc nL own ret Ts D cl q dA K E) {ref C : String} {T : u_T} {N ci index k j : Nat} {fs : List (Option Nat)} (hin : ∀ w ∈ u_ws C T N, w ∈ Ts) (hc : cl[ci]? = some (C, T, N)) (hk : K[k]? = some (4, ci, fs)) (hj : j < N) (hlink : (Cond.fieldLink own index ref (T j).2.1 (T j).2.2.1).before args s = true) (hsame : ∀ x, s.fieldFound? (T j).1 (T j).2.1 (T j).2.2.1 = some x → s.fieldFound? ref (T j).2.1 (T j).2.2.1 = some x) (ty0 : Nat → FieldType) (hty : ∀ k, k < N → parseFieldDescriptor (T k).2.2.1 = some (ty0 k)) (hnm : ∀ a, a < N → ∀ b, b < N → a ≠ b → (T a).2.1 ≠ (T b).2.1) (hfin : (T j).2.2.2 = false) {ty : FieldType} {v : Int32} (hd : parseFieldDescriptor (T j).2.2.1 = some ty) (hn : narrow ty (.int v) = .int v) (hfit : fits ty (.int v) = true) (hv : fs[j]? = some none) (hdg : decode cc pc = .ok (.putfield index, 3)) (hp : pc + 3 = pc') (kk : ∀ τ : sf_St, τ = sf_up σ k j v → sf_G p l e R s m args below meth c Q nL D cl q dA K τ pc' lv st) : sf_G p l e R s m args below meth c Q nL D cl q dA K σ pc lv (.int v :: .ref (q k) :: st) := by
  subst hp
  intro H locs ls hP hS hl
  refine va_put X.1.1 X.1.2.1 X.1.2.2.2.2 hin ty0 hty hnm X.1.2.2.2.1 X.2.1 hP (sf_w_D X.2.2.1) hS k (sf_w_at hk) hc j hj hlink hsame hfin hd hn hfit (by rw [List.length_mapIdx]; exact (List.getElem?_eq_some_iff.mp hv).1) hdg (fun H1 locs1 hP1 hD1 hS1 => ?_)
  rw [sf_fs_set hv] at hP1
  have hs := sf_w_set (q := q) (dA := dA) (σ := σ) (upd (σ k) j v) hk
  rw [sf_ce_o] at hs
  rw [hs] at hP1
  exact kk _ rfl H1 locs1 ls hP1 hS1 hl
theorem sf_getRN (X : sf_Cx p s m args meth c cc nL own ret Ts D cl q dA K E) {host : String} {ref C : String} {T : u_T} {N ci index k j : Nat} {fs : List (Option Nat)} {k' : Nat} (hin : ∀ w ∈ u_ws C T N, w ∈ Ts) (hc : cl[ci]? = some (C, T, N)) (hk : K[k]? = some (4, ci, fs)) (hj : j < N) (hlink : (Cond.fieldLinkNest own index ref (T j).2.1 (T j).2.2.1 host).before args s = true) (hsame : ∀ x, s.fieldFound? (T j).1 (T j).2.1 (T j).2.2.1 = some x → s.fieldFound? ref (T j).2.1 (T j).2.2.1 = some x) (hv : fs[j]? = some (some k')) (hdg : decode cc pc = .ok (.getfield index, 3)) (hp : pc + 3 = pc') (kk : sf_G p l e R s m args below meth c Q nL D cl q dA K σ pc' lv (.ref (q k') :: st)) : sf_G p l e R s m args below meth c Q nL D cl q dA K σ pc lv (.ref (q k) :: st) := by
  subst hp
  exact fun H locs ls hP hS hl => va_getN X.1.1 X.1.2.1 X.1.2.2.2.2 hin X.1.2.2.2.1 X.2.1 hP k (sf_w_at hk) hc j hj hlink hsame (v := .ref (q k')) (by rw [List.getElem?_mapIdx, hv]; rfl) hdg (kk H locs ls hP hS hl)
theorem sf_getIN (X : sf_Cx p s m args meth c cc nL own ret Ts D cl q dA K E) {host : String} {ref C : String} {T : u_T} {N ci index k j : Nat} {fs : List (Option Nat)} (hin : ∀ w ∈ u_ws C T N, w ∈ Ts) (hc : cl[ci]? = some (C, T, N)) (hk : K[k]? = some (4, ci, fs)) (hj : j < N) (hlink : (Cond.fieldLinkNest own index ref (T j).2.1 (T j).2.2.1 host).before args s = true) (hsame : ∀ x, s.fieldFound? (T j).1 (T j).2.1 (T j).2.2.1 = some x → s.fieldFound? ref (T j).2.1 (T j).2.2.1 = some x) (hv : fs[j]? = some none) (hdg : decode cc pc = .ok (.getfield index, 3)) (hp : pc + 3 = pc') (kk : sf_G p l e R s m args below meth c Q nL D cl q dA K σ pc' lv (.int (σ k j) :: st)) : sf_G p l e R s m args below meth c Q nL D cl q dA K σ pc lv (.ref (q k) :: st) := by
  subst hp
  exact fun H locs ls hP hS hl => va_getN X.1.1 X.1.2.1 X.1.2.2.2.2 hin X.1.2.2.2.1 X.2.1 hP k (sf_w_at hk) hc j hj hlink hsame (v := .int (σ k j)) (by rw [List.getElem?_mapIdx, hv]; rfl) hdg (kk H locs ls hP hS hl)
theorem sf_putIN (X : sf_Cx p s m args meth c cc nL own ret Ts D cl q dA K E) {host : String} {ref C : String} {T : u_T} {N ci index k j : Nat} {fs : List (Option Nat)} (hin : ∀ w ∈ u_ws C T N, w ∈ Ts) (hc : cl[ci]? = some (C, T, N)) (hk : K[k]? = some (4, ci, fs)) (hj : j < N) (hlink : (Cond.fieldLinkNest own index ref (T j).2.1 (T j).2.2.1 host).before args s = true) (hsame : ∀ x, s.fieldFound? (T j).1 (T j).2.1 (T j).2.2.1 = some x → s.fieldFound? ref (T j).2.1 (T j).2.2.1 = some x) (ty0 : Nat → FieldType) (hty : ∀ k, k < N → parseFieldDescriptor (T k).2.2.1 = some (ty0 k)) (hnm : ∀ a, a < N → ∀ b, b < N → a ≠ b → (T a).2.1 ≠ (T b).2.1) (hfin : (T j).2.2.2 = false) {ty : FieldType} {v : Int32} (hd : parseFieldDescriptor (T j).2.2.1 = some ty) (hn : narrow ty (.int v) = .int v) (hfit : fits ty (.int v) = true) (hv : fs[j]? = some none) (hdg : decode cc pc = .ok (.putfield index, 3)) (hp : pc + 3 = pc') (kk : ∀ τ : sf_St, τ = sf_up σ k j v → sf_G p l e R s m args below meth c Q nL D cl q dA K τ pc' lv st) : sf_G p l e R s m args below meth c Q nL D cl q dA K σ pc lv (.int v :: .ref (q k) :: st) := by
  subst hp
  intro H locs ls hP hS hl
  refine va_putN X.1.1 X.1.2.1 X.1.2.2.2.2 hin ty0 hty hnm X.1.2.2.2.1 X.2.1 hP (sf_w_D X.2.2.1) hS k (sf_w_at hk) hc j hj hlink hsame hfin hd hn hfit (by rw [List.length_mapIdx]; exact (List.getElem?_eq_some_iff.mp hv).1) hdg (fun H1 locs1 hP1 hD1 hS1 => ?_)
  rw [sf_fs_set hv] at hP1
  have hs := sf_w_set (q := q) (dA := dA) (σ := σ) (upd (σ k) j v) hk
  rw [sf_ce_o] at hs
  rw [hs] at hP1
  exact kk _ rfl H1 locs1 ls hP1 hS1 hl
theorem sf_iald (X : sf_Cx p s m args meth c cc nL own ret Ts D cl q dA K E) {k n : Nat} {i : Int32} (hk : K[k]? = some (0, n, [])) (hin : vp_in i n) (hdg : decode cc pc = .ok (.iaload, 1)) (hp : pc + 1 = pc') (kk : sf_G p l e R s m args below meth c Q nL D cl q dA K σ pc' lv (.int (σ k (sf_ix i)) :: st)) : sf_G p l e R s m args below meth c Q nL D cl q dA K σ pc lv (.int i :: .ref (q k) :: st) := by
  subst hp
  exact fun H locs ls hP hS hl => va_iald X.1.1 X.1.2.1 X.2.1 hP k 0 (sf_w_at hk) (rfl : (sf_tys dA)[0]? = some (dA 0, .int)) hin hdg (kk H locs ls hP hS hl)
theorem sf_zald (X : sf_Cx p s m args meth c cc nL own ret Ts D cl q dA K E) {k n : Nat} {i : Int32} (hk : K[k]? = some (1, n, [])) (hin : vp_in i n) (hdg : decode cc pc = .ok (.baload, 1)) (hp : pc + 1 = pc') (kk : sf_G p l e R s m args below meth c Q nL D cl q dA K σ pc' lv (.int (σ k (sf_ix i)) :: st)) : sf_G p l e R s m args below meth c Q nL D cl q dA K σ pc lv (.int i :: .ref (q k) :: st) := by
  subst hp
  exact fun H locs ls hP hS hl => va_zald X.1.1 X.1.2.1 X.2.1 hP k 1 (sf_w_at hk) (rfl : (sf_tys dA)[1]? = some (dA 1, .boolean)) hin hdg (kk H locs ls hP hS hl)
theorem sf_cald (X : sf_Cx p s m args meth c cc nL own ret Ts D cl q dA K E) {k n : Nat} {i : Int32} (hk : K[k]? = some (2, n, [])) (hin : vp_in i n) (hdg : decode cc pc = .ok (.caload, 1)) (hp : pc + 1 = pc') (kk : sf_G p l e R s m args below meth c Q nL D cl q dA K σ pc' lv (.int (σ k (sf_ix i)) :: st)) : sf_G p l e R s m args below meth c Q nL D cl q dA K σ pc lv (.int i :: .ref (q k) :: st) := by
  subst hp
  exact fun H locs ls hP hS hl => va_cald X.1.1 X.1.2.1 X.2.1 hP k 2 (sf_w_at hk) (rfl : (sf_tys dA)[2]? = some (dA 2, .char)) hin hdg (kk H locs ls hP hS hl)
theorem sf_iast (X : sf_Cx p s m args meth c cc nL own ret Ts D cl q dA K E) {k n : Nat} {i x : Int32} (hk : K[k]? = some (0, n, [])) (hin : vp_in i n) (hdg : decode cc pc = .ok (.iastore, 1)) (hp : pc + 1 = pc') (kk : ∀ τ : sf_St, τ = sf_up σ k (sf_ix i) x → sf_G p l e R s m args below meth c Q nL D cl q dA K τ pc' lv st) : sf_G p l e R s m args below meth c Q nL D cl q dA K σ pc lv (.int x :: .int i :: .ref (q k) :: st) := by
  subst hp
  intro H locs ls hP hS hl
  refine va_iast X.1.1 X.1.2.1 X.2.1 hP (sf_w_D X.2.2.1) hS k 0 (sf_w_at hk) (rfl : (sf_tys dA)[0]? = some (dA 0, .int)) hin hdg (fun H1 locs1 hP1 hD1 hS1 => ?_)
  have hs := sf_w_set (q := q) (dA := dA) (σ := σ) (upd (σ k) i.toNatClampNeg x) hk
  rw [sf_ce_a (by decide)] at hs
  rw [hs] at hP1
  exact kk _ rfl H1 locs1 ls hP1 hS1 hl
theorem sf_zast (X : sf_Cx p s m args meth c cc nL own ret Ts D cl q dA K E) {k n : Nat} {i x : Int32} (hk : K[k]? = some (1, n, [])) (hin : vp_in i n) (hdg : decode cc pc = .ok (.bastore, 1)) (hp : pc + 1 = pc') (kk : ∀ τ : sf_St, τ = sf_up σ k (sf_ix i) (vp_nar .boolean x) → sf_G p l e R s m args below meth c Q nL D cl q dA K τ pc' lv st) : sf_G p l e R s m args below meth c Q nL D cl q dA K σ pc lv (.int x :: .int i :: .ref (q k) :: st) := by
  subst hp
  intro H locs ls hP hS hl
  refine va_zast X.1.1 X.1.2.1 X.2.1 hP (sf_w_D X.2.2.1) hS k 1 (sf_w_at hk) (rfl : (sf_tys dA)[1]? = some (dA 1, .boolean)) hin hdg (fun H1 locs1 hP1 hD1 hS1 => ?_)
  have hs := sf_w_set (q := q) (dA := dA) (σ := σ) (upd (σ k) i.toNatClampNeg (vp_nar .boolean x)) hk
  rw [sf_ce_a (by decide)] at hs
  rw [hs] at hP1
  exact kk _ rfl H1 locs1 ls hP1 hS1 hl
theorem sf_cast (X : sf_Cx p s m args meth c cc nL own ret Ts D cl q dA K E) {k n : Nat} {i x : Int32} (hk : K[k]? = some (2, n, [])) (hin : vp_in i n) (hdg : decode cc pc = .ok (.castore, 1)) (hp : pc + 1 = pc') (kk : ∀ τ : sf_St, τ = sf_up σ k (sf_ix i) (vp_nar .char x) → sf_G p l e R s m args below meth c Q nL D cl q dA K τ pc' lv st) : sf_G p l e R s m args below meth c Q nL D cl q dA K σ pc lv (.int x :: .int i :: .ref (q k) :: st) := by
  subst hp
  intro H locs ls hP hS hl
  refine va_cast X.1.1 X.1.2.1 X.2.1 hP (sf_w_D X.2.2.1) hS k 2 (sf_w_at hk) (rfl : (sf_tys dA)[2]? = some (dA 2, .char)) hin hdg (fun H1 locs1 hP1 hD1 hS1 => ?_)
  have hs := sf_w_set (q := q) (dA := dA) (σ := σ) (upd (σ k) i.toNatClampNeg (vp_nar .char x)) hk
  rw [sf_ce_a (by decide)] at hs
  rw [hs] at hP1
  exact kk _ rfl H1 locs1 ls hP1 hS1 hl
theorem sf_alen (X : sf_Cx p s m args meth c cc nL own ret Ts D cl q dA K E) {k n t : Nat} {v : Int32} {ty : FieldType} (hk : K[k]? = some (t, n, [])) (ht : t < 3) (hty : (sf_tys dA)[t]? = some (dA t, ty)) (hv : Int32.ofNat n = v) (hdg : decode cc pc = .ok (.arraylength, 1)) (hp : pc + 1 = pc') (kk : sf_G p l e R s m args below meth c Q nL D cl q dA K σ pc' lv (.int v :: st)) : sf_G p l e R s m args below meth c Q nL D cl q dA K σ pc lv (.ref (q k) :: st) := by
  subst hp
  intro H locs ls hP hS hl
  have ha := sf_w_at (q := q) (dA := dA) (σ := σ) hk
  rw [sf_ce_a ht] at ha
  exact va_alen X.1.1 X.1.2.1 X.2.1 hP k t ha hty hv hdg (kk H locs ls hP hS hl)
theorem sf_aald (X : sf_Cx p s m args meth c cc nL own ret Ts D cl q dA K E) {k n k' : Nat} {i : Int32} {rs : List (Option Nat)} (hk : K[k]? = some (3, n, rs)) (hin : vp_in i n) (hr : rs[sf_ix i]? = some (some k')) (hdg : decode cc pc = .ok (.aaload, 1)) (hp : pc + 1 = pc') (kk : sf_G p l e R s m args below meth c Q nL D cl q dA K σ pc' lv (.ref (q k') :: st)) : sf_G p l e R s m args below meth c Q nL D cl q dA K σ pc lv (.int i :: .ref (q k) :: st) := by
  subst hp
  intro H locs ls hP hS hl
  have hlt : i.toNatClampNeg < n := Nat.not_le.mp fun z => hin (Or.inr z)
  refine W.aald (v := .ref (q k')) (ty := .array .int) X.1.1 X.1.2.1 (hP k _ (sf_w_at hk)) ((X.2.1.2 3 _ (rfl : (sf_tys dA)[3]? = some (dA 3, .array .int))).1 n (fun j => va_rf ((rs.getD j none).map q))) rfl (fun z => by cases z) (by show ¬ (i < 0 ∨ (arrV _ _ _).slots.size ≤ _); rw [arrV_size]; exact hin) (by show (arrV _ _ _).slots[_]? = _; rw [arrV_read _ _ hlt]; show some (va_rf ((rs.getD (sf_ix i) none).map q)) = _; rw [List.getD_eq_getElem?_getD, hr]; rfl) rfl rfl hdg (kk H locs ls hP hS hl)
theorem sf_end (X : sf_Cx p s m args meth c cc nL own ret Ts D cl q dA K E) {H : Heap} {locs : List Loc} {t : State} (hP : va_P D cl (sf_w q dA K σ) H) (hS : va_S (sf_A q K) s.heap H locs) (ht : t.heap = H) (hvm : s.WarmedH t.vm) : sf_I D cl q dA K E σ t :=
  ⟨by rw [ht]; exact hP, va_K.moved hvm.alike X.2.1, X.2.2.2.2.1 s t hvm (fun a h1 h2 => by rw [ht]; exact hS.2.1 a h1 h2) (by rw [ht]; exact hS.1) X.2.2.2.1⟩
theorem sf_reti (X : sf_Cx p s m args meth c cc nL own (some .int) Ts D cl q dA K E) {r v : Int32} {τ : sf_St} (h : r = v ∧ τ = σ) (hdg : decode cc pc = .ok (.ireturn, 1)) : sf_G p l e R s m args below meth c (sf_Qi D cl q dA K E below args s r τ) nL D cl q dA K σ pc lv [.int v] := by
  obtain ⟨rfl, rfl⟩ := h
  exact fun H locs ls hP hS hl => W.iret X.1.1 X.1.2.1 X.2.2.2.2.2.1 (fun t ht hW => ⟨⟨r, τ, rfl, ⟨rfl, rfl⟩, sf_end X hP hS ht hW⟩, hS.F ht⟩) hS.2.2 hdg X.2.2.2.2.2.2
theorem sf_retz {ty : FieldType} (X : sf_Cx p s m args meth c cc nL own (some ty) Ts D cl q dA K E) {r v : Int32} {τ : sf_St} (h : r = v ∧ τ = σ) (hn : narrow ty (.int v) = .int v) (hdg : decode cc pc = .ok (.ireturn, 1)) : sf_G p l e R s m args below meth c (sf_Qi D cl q dA K E below args s r τ) nL D cl q dA K σ pc lv [.int v] := by
  obtain ⟨rfl, rfl⟩ := h
  exact fun H locs ls hP hS hl => W.zret X.1.1 X.1.2.1 X.2.2.2.2.2.1 hn (fun t ht hW => ⟨⟨r, τ, rfl, ⟨rfl, rfl⟩, sf_end X hP hS ht hW⟩, hS.F ht⟩) hS.2.2 hdg X.2.2.2.2.2.2
theorem sf_retv (X : sf_Cx p s m args meth c cc nL own none Ts D cl q dA K E) {τ : sf_St} (h : τ = σ) (hdg : decode cc pc = .ok (.return_, 1)) : sf_G p l e R s m args below meth c (sf_Qv D cl q dA K E below args s τ) nL D cl q dA K σ pc lv [] := by
  subst h
  exact fun H locs ls hP hS hl => W.vret X.1.1 X.1.2.1 X.2.2.2.2.2.1 (fun t ht hW => ⟨⟨τ, rfl, rfl, sf_end X hP hS ht hW⟩, hS.F ht⟩) hS.2.2 hdg X.2.2.2.2.2.2
theorem sf_blind (hEk : sf_Ek q K E) (av : List Value) : FrameBlind (va_Pc av (sf_I D cl q dA K E σ)) := fun a U g mk h =>
  ⟨h.1, h.2.1, va_K.moved (u := U) (U := U.calling g mk a) (Vm.Alike.refl U.vm) h.2.2.1, hEk U (U.calling g mk a) (State.WarmedH.refl U) (fun _ _ _ => rfl) (Nat.le_refl _) h.2.2.2⟩
theorem sf_preS (X : sf_Cx p s m args meth c cc nL own ret Ts D cl q dA K E) {H : Heap} {locs : List Loc} (hP : va_P D cl (sf_w q dA K σ) H) (hS : va_S (sf_A q K) s.heap H locs) (av : List Value) : PreS s H (va_Pc av (sf_I D cl q dA K E σ)) av :=
  ⟨sf_blind X.2.2.2.2.1 av, fun U hU hW => ⟨rfl, sf_end X hP hS hU hW⟩⟩
theorem sf_preV (X : sf_Cx p s m args meth c cc nL own ret Ts D cl q dA K E) {H : Heap} {locs : List Loc} {k ci : Nat} {fs : List (Option Nat)} {cv : vw_C} (hP : va_P D cl (sf_w q dA K σ) H) (hS : va_S (sf_A q K) s.heap H locs) (hk : K[k]? = some (4, ci, fs)) (hc : cl[ci]? = some cv) (As : List Value) : PreV s H cv.1 (q k) (va_Pc (.ref (q k) :: As) (sf_I D cl q dA K E σ)) As :=
  ⟨sf_blind X.2.2.2.2.1 _, va_recv X.2.1 hP hc (sf_w_at hk), fun U hU hW => ⟨rfl, sf_end X hP hS hU hW⟩⟩
theorem sf_callVi (X : sf_Cx p s m args meth c cc nL own ret Ts D cl q dA K E) {y : MethodName} {ws' : List Cond} {rm' : Room} {bytes : ByteArray} {maxL n index : Nat} {ret' : Option FieldType} {As rest : List Value} {r : Int32} {τ : sf_St} {k ci : Nat} {fs : List (Option Nat)} {cv : vw_C} (hk : K[k]? = some (4, ci, fs)) (hc : cl[ci]? = some cv) (hM : sf_Mi l y ws' rm' D cl q dA K E (.ref (q k) :: As) σ r τ) (cw : CallW R s args own cv.1 index y bytes maxL ret' ws' rm' 0 0 n) (hn : As.length = n) (hst : st = As.reverse ++ .ref (q k) :: rest) (hW : (rest.map fun v => v.category).sum ≤ 8) (hdg : decode cc pc = .ok (.invokevirtual index, 3)) (hp : pc + 3 = pc') (kk : sf_G p l e R s m args below meth c Q nL D cl q dA K τ pc' lv (.int r :: rest)) : sf_G p l e R s m args below meth c Q nL D cl q dA K σ pc lv st := by
  subst hst; subst hp
  intro H locs ls hP hS hl
  refine va_calli (va_runV (As := As) (rest := rest) X.1 hM cw (sf_preV X hP hS hk hc As) rfl hn hl.1 rfl (lv_room hW) hdg ⟨Nat.zero_le _, Nat.zero_le _⟩) hS (fun _ _ h => h) (fun _ h => h) (fun r' u t H1 locs1 ht hvm hpo hB hz hk1 hS1 => ?_)
  obtain ⟨rfl, rfl⟩ := hpo
  exact kk H1 locs1 ls (by rw [← ht]; exact hB.1) hS1 hl
theorem sf_callSi (X : sf_Cx p s m args meth c cc nL own ret Ts D cl q dA K E) {y : MethodName} {ws' : List Cond} {rm' : Room} {bytes : ByteArray} {maxL n index : Nat} {ret' : Option FieldType} {As rest : List Value} {r : Int32} {τ : sf_St}  (hM : sf_Mi l y ws' rm' D cl q dA K E As σ r τ) (cw : CallB R s args own index y bytes maxL ret' ws' rm' 0 0 n ∧ (Cond.static y).before args s = true) (hn : As.length = n) (hst : st = As.reverse ++ rest) (hW : (rest.map fun v => v.category).sum ≤ 8) (hdg : decode cc pc = .ok (.invokestatic index, 3)) (hp : pc + 3 = pc') (kk : sf_G p l e R s m args below meth c Q nL D cl q dA K τ pc' lv (.int r :: rest)) : sf_G p l e R s m args below meth c Q nL D cl q dA K σ pc lv st := by
  subst hst; subst hp
  intro H locs ls hP hS hl
  refine va_calli (va_runS (As := As) (rest := rest) X.1 hM cw (sf_preS X hP hS As) rfl hn hl.1 rfl (lv_room hW) hdg ⟨Nat.zero_le _, Nat.zero_le _⟩) hS (fun _ _ h => h) (fun _ h => h) (fun r' u t H1 locs1 ht hvm hpo hB hz hk1 hS1 => ?_)
  obtain ⟨rfl, rfl⟩ := hpo
  exact kk H1 locs1 ls (by rw [← ht]; exact hB.1) hS1 hl
theorem sf_callVNi (X : sf_Cx p s m args meth c cc nL own ret Ts D cl q dA K E) {host : String} {y : MethodName} {ws' : List Cond} {rm' : Room} {bytes : ByteArray} {maxL n index : Nat} {ret' : Option FieldType} {As rest : List Value} {r : Int32} {τ : sf_St} {k ci : Nat} {fs : List (Option Nat)} {cv : vw_C} (hk : K[k]? = some (4, ci, fs)) (hc : cl[ci]? = some cv) (hM : sf_Mi l y ws' rm' D cl q dA K E (.ref (q k) :: As) σ r τ) (cw : va_CN R s args own index y host bytes maxL ret' ws' rm' 0 0 n ∧ (Cond.instanceMethod y).before args s = true ∧ (Cond.selects cv.1 y y).before args s = true) (hn : As.length = n) (hst : st = As.reverse ++ .ref (q k) :: rest) (hW : (rest.map fun v => v.category).sum ≤ 8) (hdg : decode cc pc = .ok (.invokevirtual index, 3)) (hp : pc + 3 = pc') (kk : sf_G p l e R s m args below meth c Q nL D cl q dA K τ pc' lv (.int r :: rest)) : sf_G p l e R s m args below meth c Q nL D cl q dA K σ pc lv st := by
  subst hst; subst hp
  intro H locs ls hP hS hl
  refine va_calli (va_runVN (As := As) (rest := rest) X.1 hM cw (sf_preV X hP hS hk hc As) rfl hn hl.1 rfl (lv_room hW) hdg ⟨Nat.zero_le _, Nat.zero_le _⟩) hS (fun _ _ h => h) (fun _ h => h) (fun r' u t H1 locs1 ht hvm hpo hB hz hk1 hS1 => ?_)
  obtain ⟨rfl, rfl⟩ := hpo
  exact kk H1 locs1 ls (by rw [← ht]; exact hB.1) hS1 hl
theorem sf_callSNi (X : sf_Cx p s m args meth c cc nL own ret Ts D cl q dA K E) {host : String} {y : MethodName} {ws' : List Cond} {rm' : Room} {bytes : ByteArray} {maxL n index : Nat} {ret' : Option FieldType} {As rest : List Value} {r : Int32} {τ : sf_St}  (hM : sf_Mi l y ws' rm' D cl q dA K E As σ r τ) (cw : va_CN R s args own index y host bytes maxL ret' ws' rm' 0 0 n ∧ (Cond.static y).before args s = true ∧ True) (hn : As.length = n) (hst : st = As.reverse ++ rest) (hW : (rest.map fun v => v.category).sum ≤ 8) (hdg : decode cc pc = .ok (.invokestatic index, 3)) (hp : pc + 3 = pc') (kk : sf_G p l e R s m args below meth c Q nL D cl q dA K τ pc' lv (.int r :: rest)) : sf_G p l e R s m args below meth c Q nL D cl q dA K σ pc lv st := by
  subst hst; subst hp
  intro H locs ls hP hS hl
  refine va_calli (va_runSN (As := As) (rest := rest) X.1 hM cw (sf_preS X hP hS As) rfl hn hl.1 rfl (lv_room hW) hdg ⟨Nat.zero_le _, Nat.zero_le _⟩) hS (fun _ _ h => h) (fun _ h => h) (fun r' u t H1 locs1 ht hvm hpo hB hz hk1 hS1 => ?_)
  obtain ⟨rfl, rfl⟩ := hpo
  exact kk H1 locs1 ls (by rw [← ht]; exact hB.1) hS1 hl
theorem sf_callVv (X : sf_Cx p s m args meth c cc nL own ret Ts D cl q dA K E) {y : MethodName} {ws' : List Cond} {rm' : Room} {bytes : ByteArray} {maxL n index : Nat} {ret' : Option FieldType} {As rest : List Value} {τ : sf_St} {k ci : Nat} {fs : List (Option Nat)} {cv : vw_C} (hk : K[k]? = some (4, ci, fs)) (hc : cl[ci]? = some cv) (hM : sf_Mv l y ws' rm' D cl q dA K E (.ref (q k) :: As) σ τ) (cw : CallW R s args own cv.1 index y bytes maxL ret' ws' rm' 0 0 n) (hn : As.length = n) (hst : st = As.reverse ++ .ref (q k) :: rest) (hW : (rest.map fun v => v.category).sum ≤ 8) (hdg : decode cc pc = .ok (.invokevirtual index, 3)) (hp : pc + 3 = pc') (kk : sf_G p l e R s m args below meth c Q nL D cl q dA K τ pc' lv rest) : sf_G p l e R s m args below meth c Q nL D cl q dA K σ pc lv st := by
  subst hst; subst hp
  intro H locs ls hP hS hl
  refine va_callv (va_runV (As := As) (rest := rest) X.1 hM cw (sf_preV X hP hS hk hc As) rfl hn hl.1 rfl (lv_room hW) hdg ⟨Nat.zero_le _, Nat.zero_le _⟩) hS (fun _ _ h => h) (fun _ h => h) (fun u t H1 locs1 ht hvm hpo hB hz hk1 hS1 => ?_)
  subst hpo
  exact kk H1 locs1 ls (by rw [← ht]; exact hB.1) hS1 hl
theorem sf_callSv (X : sf_Cx p s m args meth c cc nL own ret Ts D cl q dA K E) {y : MethodName} {ws' : List Cond} {rm' : Room} {bytes : ByteArray} {maxL n index : Nat} {ret' : Option FieldType} {As rest : List Value} {τ : sf_St}  (hM : sf_Mv l y ws' rm' D cl q dA K E As σ τ) (cw : CallB R s args own index y bytes maxL ret' ws' rm' 0 0 n ∧ (Cond.static y).before args s = true) (hn : As.length = n) (hst : st = As.reverse ++ rest) (hW : (rest.map fun v => v.category).sum ≤ 8) (hdg : decode cc pc = .ok (.invokestatic index, 3)) (hp : pc + 3 = pc') (kk : sf_G p l e R s m args below meth c Q nL D cl q dA K τ pc' lv rest) : sf_G p l e R s m args below meth c Q nL D cl q dA K σ pc lv st := by
  subst hst; subst hp
  intro H locs ls hP hS hl
  refine va_callv (va_runS (As := As) (rest := rest) X.1 hM cw (sf_preS X hP hS As) rfl hn hl.1 rfl (lv_room hW) hdg ⟨Nat.zero_le _, Nat.zero_le _⟩) hS (fun _ _ h => h) (fun _ h => h) (fun u t H1 locs1 ht hvm hpo hB hz hk1 hS1 => ?_)
  subst hpo
  exact kk H1 locs1 ls (by rw [← ht]; exact hB.1) hS1 hl
theorem sf_callVNv (X : sf_Cx p s m args meth c cc nL own ret Ts D cl q dA K E) {host : String} {y : MethodName} {ws' : List Cond} {rm' : Room} {bytes : ByteArray} {maxL n index : Nat} {ret' : Option FieldType} {As rest : List Value} {τ : sf_St} {k ci : Nat} {fs : List (Option Nat)} {cv : vw_C} (hk : K[k]? = some (4, ci, fs)) (hc : cl[ci]? = some cv) (hM : sf_Mv l y ws' rm' D cl q dA K E (.ref (q k) :: As) σ τ) (cw : va_CN R s args own index y host bytes maxL ret' ws' rm' 0 0 n ∧ (Cond.instanceMethod y).before args s = true ∧ (Cond.selects cv.1 y y).before args s = true) (hn : As.length = n) (hst : st = As.reverse ++ .ref (q k) :: rest) (hW : (rest.map fun v => v.category).sum ≤ 8) (hdg : decode cc pc = .ok (.invokevirtual index, 3)) (hp : pc + 3 = pc') (kk : sf_G p l e R s m args below meth c Q nL D cl q dA K τ pc' lv rest) : sf_G p l e R s m args below meth c Q nL D cl q dA K σ pc lv st := by
  subst hst; subst hp
  intro H locs ls hP hS hl
  refine va_callv (va_runVN (As := As) (rest := rest) X.1 hM cw (sf_preV X hP hS hk hc As) rfl hn hl.1 rfl (lv_room hW) hdg ⟨Nat.zero_le _, Nat.zero_le _⟩) hS (fun _ _ h => h) (fun _ h => h) (fun u t H1 locs1 ht hvm hpo hB hz hk1 hS1 => ?_)
  subst hpo
  exact kk H1 locs1 ls (by rw [← ht]; exact hB.1) hS1 hl
theorem sf_callSNv (X : sf_Cx p s m args meth c cc nL own ret Ts D cl q dA K E) {host : String} {y : MethodName} {ws' : List Cond} {rm' : Room} {bytes : ByteArray} {maxL n index : Nat} {ret' : Option FieldType} {As rest : List Value} {τ : sf_St}  (hM : sf_Mv l y ws' rm' D cl q dA K E As σ τ) (cw : va_CN R s args own index y host bytes maxL ret' ws' rm' 0 0 n ∧ (Cond.static y).before args s = true ∧ True) (hn : As.length = n) (hst : st = As.reverse ++ rest) (hW : (rest.map fun v => v.category).sum ≤ 8) (hdg : decode cc pc = .ok (.invokestatic index, 3)) (hp : pc + 3 = pc') (kk : sf_G p l e R s m args below meth c Q nL D cl q dA K τ pc' lv rest) : sf_G p l e R s m args below meth c Q nL D cl q dA K σ pc lv st := by
  subst hst; subst hp
  intro H locs ls hP hS hl
  refine va_callv (va_runSN (As := As) (rest := rest) X.1 hM cw (sf_preS X hP hS As) rfl hn hl.1 rfl (lv_room hW) hdg ⟨Nat.zero_le _, Nat.zero_le _⟩) hS (fun _ _ h => h) (fun _ h => h) (fun u t H1 locs1 ht hvm hpo hB hz hk1 hS1 => ?_)
  subst hpo
  exact kk H1 locs1 ls (by rw [← ht]; exact hB.1) hS1 hl
theorem sf_copy (X : sf_Cx p s m args meth c cc nL own ret Ts D cl q dA K E) {index k0 k1 t n0 n1 : Nat} {ty : FieldType} {sp dp n : Int32} (hlink : (Cond.methodLink own index arraycopyName).before args s = true) (hnat : (Cond.native arraycopyName).before args s = true) (hstat : (Cond.static arraycopyName).before args s = true) (hini : (Cond.initialized "java/lang/System").before args s = true) (hk0 : K[k0]? = some (t, n0, [])) (hk1 : K[k1]? = some (t, n1, [])) (ht : t < 3) (hty : (sf_tys dA)[t]? = some (dA t, ty)) (hprim : refKind ty = false) (h1 : ¬ sp < 0) (h2 : ¬ dp < 0) (h3 : ¬ n < 0) (h4 : sf_ix sp + sf_ix n ≤ n0) (h5 : sf_ix dp + sf_ix n ≤ n1) (hfit : ∀ i, i < sf_ix n → fits ty (.int (σ k0 (sf_ix sp + i))) = true) (hfr : 1 ≤ R.frames) (hlo : (st.map fun v => v.category).sum + (nativeFrameWords "java/lang/System" "arraycopy" 5 + 11) ≤ R.locals) (hdg : decode cc pc = .ok (.invokestatic index, 3)) (hp : pc + 3 = pc') (kk : ∀ τ : sf_St, τ = sf_upc σ k1 (va_cpy (σ k0) (σ k1) (sf_ix sp) (sf_ix dp) (sf_ix n)) → sf_G p l e R s m args below meth c Q nL D cl q dA K τ pc' lv st) : sf_G p l e R s m args below meth c Q nL D cl q dA K σ pc lv (.int n :: .int dp :: .ref (q k1) :: .int sp :: .ref (q k0) :: st) := by
  subst hp
  intro H locs ls hP hS hl
  have a0 := sf_w_at (q := q) (dA := dA) (σ := σ) hk0
  have a1 := sf_w_at (q := q) (dA := dA) (σ := σ) hk1
  rw [sf_ce_a ht] at a0 a1
  refine va_copyi X.1.1 X.1.2.1 (X.1.2.2.1.trans hl.1.symm) X.1.2.2.2.1 hlink hnat hstat hini X.2.1 hP (sf_w_D X.2.2.1) hS k0 k1 t t a0 a1 hty hty hprim h1 h2 h3 h4 h5 hfit hfr hlo hdg (fun H1 locs1 hP1 hD1 hS1 => ?_)
  have hs := sf_w_set (q := q) (dA := dA) (σ := σ) (va_cpy (σ k0) (σ k1) (sf_ix sp) (sf_ix dp) (sf_ix n)) hk1
  rw [sf_ce_a ht] at hs
  exact kk _ rfl H1 locs1 ls (by rw [← hs]; exact hP1) hS1 hl
theorem sf_mmax (X : sf_Cx p s m args meth c cc nL own ret Ts D cl q dA K E) {index : Nat} {x y : Int32} (hlink : (Cond.methodLink own index Lib.Math.max.name).before args s = true) (hstat : (Cond.static Lib.Math.max.name).before args s = true) (hini : (Cond.initialized "java/lang/Math").before args s = true) (hcode : (Cond.code Lib.Math.max.name Lib.Math.max.code 2 (some .int)).before args s = true) (hfr : 1 ≤ R.frames) (hlo : (st.map fun v => v.category).sum + 13 ≤ R.locals) (hdg : decode cc pc = .ok (.invokestatic index, 3)) (hp : pc + 3 = pc') (kk : sf_G p l e R s m args below meth c Q nL D cl q dA K σ pc' lv (.int (if x < y then y else x) :: st)) : sf_G p l e R s m args below meth c Q nL D cl q dA K σ pc lv (.int y :: .int x :: st) := by
  subst hp
  exact fun H locs ls hP hS hl => va_mmax X.1.1 X.1.2.1 (X.1.2.2.1.trans hl.1.symm) X.1.2.2.2.1 hlink hstat hini hcode hfr hlo (Nat.zero_le _) (Nat.zero_le _) hdg (kk H locs ls hP hS hl)
theorem sf_mmin (X : sf_Cx p s m args meth c cc nL own ret Ts D cl q dA K E) {index : Nat} {x y : Int32} (hlink : (Cond.methodLink own index Lib.Math.min.name).before args s = true) (hstat : (Cond.static Lib.Math.min.name).before args s = true) (hini : (Cond.initialized "java/lang/Math").before args s = true) (hcode : (Cond.code Lib.Math.min.name Lib.Math.min.code 2 (some .int)).before args s = true) (hfr : 1 ≤ R.frames) (hlo : (st.map fun v => v.category).sum + 13 ≤ R.locals) (hdg : decode cc pc = .ok (.invokestatic index, 3)) (hp : pc + 3 = pc') (kk : sf_G p l e R s m args below meth c Q nL D cl q dA K σ pc' lv (.int (if y < x then y else x) :: st)) : sf_G p l e R s m args below meth c Q nL D cl q dA K σ pc lv (.int y :: .int x :: st) := by
  subst hp
  exact fun H locs ls hP hS hl => va_mmin X.1.1 X.1.2.1 (X.1.2.2.1.trans hl.1.symm) X.1.2.2.2.1 hlink hstat hini hcode hfr hlo (Nat.zero_le _) (Nat.zero_le _) hdg (kk H locs ls hP hS hl)
theorem sf_gets (X : sf_Cx p s m args meth c cc nL own ret Ts D cl q dA K E) {C n d ref : String} {v : Value} {index : Nat} (hZ : va_Z C n d v (sf_A q K) s s.heap) (hlink : (Cond.fieldLink own index ref n d).before args s = true) (hsame : ∀ x, s.fieldFound? C n d = some x → s.fieldFound? ref n d = some x) (hdg : decode cc pc = .ok (.getstatic index, 3)) (hp : pc + 3 = pc') (kk : sf_G p l e R s m args below meth c Q nL D cl q dA K σ pc' lv (v :: st)) : sf_G p l e R s m args below meth c Q nL D cl q dA K σ pc lv st := by
  subst hp
  exact fun H locs ls hP hS hl => va_gets X.1.1 X.1.2.1 hZ hS X.1.2.2.2.1 hlink hsame hdg (kk H locs ls hP hS hl)
theorem sf_getsN (X : sf_Cx p s m args meth c cc nL own ret Ts D cl q dA K E) {host : String} {C n d ref : String} {v : Value} {index : Nat} (hZ : va_Z C n d v (sf_A q K) s s.heap) (hlink : (Cond.fieldLinkNest own index ref n d host).before args s = true) (hsame : ∀ x, s.fieldFound? C n d = some x → s.fieldFound? ref n d = some x) (hdg : decode cc pc = .ok (.getstatic index, 3)) (hp : pc + 3 = pc') (kk : sf_G p l e R s m args below meth c Q nL D cl q dA K σ pc' lv (v :: st)) : sf_G p l e R s m args below meth c Q nL D cl q dA K σ pc lv st := by
  subst hp
  exact fun H locs ls hP hS hl => va_getsN X.1.1 X.1.2.1 hZ hS X.1.2.2.2.1 hlink hsame hdg (kk H locs ls hP hS hl)
theorem sf_ti (X : sf_Cx p s m args meth c cc nL own ret Ts D cl q dA K E) {t N : Nat} {f : Nat → Value} {i v : Int32} (hT : va_T .int t N f (sf_A q K) s s.heap) (hin : vp_in i N) (hv : f (sf_ix i) = .int v) (hdg : decode cc pc = .ok (.iaload, 1)) (hp : pc + 1 = pc') (kk : sf_G p l e R s m args below meth c Q nL D cl q dA K σ pc' lv (.int v :: st)) : sf_G p l e R s m args below meth c Q nL D cl q dA K σ pc lv (.int i :: .ref t :: st) := by
  subst hp
  exact fun H locs ls hP hS hl => va_ti X.1.1 X.1.2.1 hT hS hin hv hdg (kk H locs ls hP hS hl)
theorem sf_tlen (X : sf_Cx p s m args meth c cc nL own ret Ts D cl q dA K E) {t N : Nat} {f : Nat → Value} {v : Int32} {ty : FieldType} (hT : va_T ty t N f (sf_A q K) s s.heap) (hv : Int32.ofNat N = v) (hdg : decode cc pc = .ok (.arraylength, 1)) (hp : pc + 1 = pc') (kk : sf_G p l e R s m args below meth c Q nL D cl q dA K σ pc' lv (.int v :: st)) : sf_G p l e R s m args below meth c Q nL D cl q dA K σ pc lv (.ref t :: st) := by
  subst hp
  exact fun H locs ls hP hS hl => va_tlen X.1.1 X.1.2.1 hT hS hv hdg (kk H locs ls hP hS hl)
end SFROWS
theorem sf_meti {l : Launch} {y : MethodName} {ws ws' : List Cond} {rm : Room} {cc : ByteArray} {maxL : Nat} {ret : Option FieldType} {D : va_G} {cl : List vw_C} {q : Nat → Nat} {dA : Nat → ClassId} {K : List sf_Kd} {E : State → Prop} {av : List Value} {σ : sf_St} {r : Int32} {τ : sf_St} {own : String} (hy : plainName y.cls = true) (ho : y.cls = own) (hw : ws = Cond.code y cc maxL ret :: ws') (hq : sf_inj q K) (hEk : sf_Ek q K E) (hav : (lg_sl av).length ≤ maxL)
    (body : ∀ (p : Program) (e : Env) (s : State) (m : MethodId) (args : Array Value) (below : List Frame) (meth : Method) (c : Code), sf_Cx p s m args meth c cc maxL own ret ws D cl q dA K E → sf_G p l e (headSpec ws rm).room s m args below meth c (sf_Qi D cl q dA K E below args s r τ) maxL D cl q dA K σ 0 (lv_args 0 av) []) : sf_Mi l y ws rm D cl q dA K E av σ r τ := by
  subst ho
  refine Met.ofW (cc := cc) (maxL := maxL) (ret := ret) hy hw ?_
  intro p e s m args below meth c s₁ B hml hv
  obtain ⟨rfl, hP, hK, hE⟩ := hv
  have hl := lv_entry av hav
  rw [lg_entry_eq]
  exact body p e s m _ below meth c ⟨⟨B.exec, B.bytes, hml, findClass_of_methodNamed B.named, atoms_spec (ws := ws) B.pre⟩, hK, hq, hE, hEk, B.returns, B.notSynchronized⟩ s.heap [] _ hP va_S.rf hl
theorem sf_metv {l : Launch} {y : MethodName} {ws ws' : List Cond} {rm : Room} {cc : ByteArray} {maxL : Nat} {ret : Option FieldType} {D : va_G} {cl : List vw_C} {q : Nat → Nat} {dA : Nat → ClassId} {K : List sf_Kd} {E : State → Prop} {av : List Value} {σ : sf_St} {τ : sf_St} {own : String} (hy : plainName y.cls = true) (ho : y.cls = own) (hw : ws = Cond.code y cc maxL ret :: ws') (hq : sf_inj q K) (hEk : sf_Ek q K E) (hav : (lg_sl av).length ≤ maxL)
    (body : ∀ (p : Program) (e : Env) (s : State) (m : MethodId) (args : Array Value) (below : List Frame) (meth : Method) (c : Code), sf_Cx p s m args meth c cc maxL own ret ws D cl q dA K E → sf_G p l e (headSpec ws rm).room s m args below meth c (sf_Qv D cl q dA K E below args s τ) maxL D cl q dA K σ 0 (lv_args 0 av) []) : sf_Mv l y ws rm D cl q dA K E av σ τ := by
  subst ho
  refine Met.ofW (cc := cc) (maxL := maxL) (ret := ret) hy hw ?_
  intro p e s m args below meth c s₁ B hml hv
  obtain ⟨rfl, hP, hK, hE⟩ := hv
  have hl := lv_entry av hav
  rw [lg_entry_eq]
  exact body p e s m _ below meth c ⟨⟨B.exec, B.bytes, hml, findClass_of_methodNamed B.named, atoms_spec (ws := ws) B.pre⟩, hK, hq, hE, hEk, B.returns, B.notSynchronized⟩ s.heap [] _ hP va_S.rf hl
theorem sf_ic_m1 : Int32.ofInt (-1) = (-1) := by decide
theorem sf_ic_0 : Int32.ofInt 0 = 0 := by decide
theorem sf_ic_1 : Int32.ofInt 1 = 1 := by decide
theorem sf_ic_2 : Int32.ofInt 2 = 2 := by decide
theorem sf_ic_3 : Int32.ofInt 3 = 3 := by decide
theorem sf_ic_4 : Int32.ofInt 4 = 4 := by decide
theorem sf_ic_5 : Int32.ofInt 5 = 5 := by decide
theorem sf_bc_6 : (Int8.ofInt 6).toInt32 = 6 := by decide
theorem sf_bc_7 : (Int8.ofInt 7).toInt32 = 7 := by decide
theorem sf_bc_8 : (Int8.ofInt 8).toInt32 = 8 := by decide
theorem sf_bc_9 : (Int8.ofInt 9).toInt32 = 9 := by decide
theorem sf_bc_10 : (Int8.ofInt 10).toInt32 = 10 := by decide
theorem sf_bc_11 : (Int8.ofInt 11).toInt32 = 11 := by decide
theorem sf_bc_12 : (Int8.ofInt 12).toInt32 = 12 := by decide
theorem sf_bc_13 : (Int8.ofInt 13).toInt32 = 13 := by decide
theorem sf_bc_14 : (Int8.ofInt 14).toInt32 = 14 := by decide
theorem sf_bc_15 : (Int8.ofInt 15).toInt32 = 15 := by decide
theorem sf_bc_16 : (Int8.ofInt 16).toInt32 = 16 := by decide
theorem sf_bc_m1 : (Int8.ofInt (-1)).toInt32 = (-1) := by decide
theorem sf_bc_m2 : (Int8.ofInt (-2)).toInt32 = (-2) := by decide
theorem sf_bc_m3 : (Int8.ofInt (-3)).toInt32 = (-3) := by decide
theorem sf_bc_31 : (Int8.ofInt 31).toInt32 = 31 := by decide
theorem sf_bc_35 : (Int8.ofInt 35).toInt32 = 35 := by decide
theorem sf_bc_40 : (Int8.ofInt 40).toInt32 = 40 := by decide
theorem sf_bc_41 : (Int8.ofInt 41).toInt32 = 41 := by decide
theorem sf_bc_48 : (Int8.ofInt 48).toInt32 = 48 := by decide
theorem sf_bc_59 : (Int8.ofInt 59).toInt32 = 59 := by decide
theorem sf_bc_61 : (Int8.ofInt 61).toInt32 = 61 := by decide
theorem sf_bc_64 : (Int8.ofInt 64).toInt32 = 64 := by decide
theorem sf_bc_67 : (Int8.ofInt 67).toInt32 = 67 := by decide
theorem sf_bc_70 : (Int8.ofInt 70).toInt32 = 70 := by decide
theorem sf_bc_78 : (Int8.ofInt 78).toInt32 = 78 := by decide
theorem sf_bc_79 : (Int8.ofInt 79).toInt32 = 79 := by decide
theorem sf_bc_83 : (Int8.ofInt 83).toInt32 = 83 := by decide
theorem sf_bc_99 : (Int8.ofInt 99).toInt32 = 99 := by decide
theorem sf_bc_108 : (Int8.ofInt 108).toInt32 = 108 := by decide
theorem sf_bc_116 : (Int8.ofInt 116).toInt32 = 116 := by decide
theorem sf_bc_127 : (Int8.ofInt 127).toInt32 = 127 := by decide
theorem sf_sc_1000 : (Int16.ofInt 1000).toInt32 = 1000 := by decide
theorem sf_sc_m1000 : (Int16.ofInt (-1000)).toInt32 = (-1000) := by decide
theorem sf_sc_128 : (Int16.ofInt 128).toInt32 = 128 := by decide
theorem sf_sc_255 : (Int16.ofInt 255).toInt32 = 255 := by decide
theorem sf_sc_5040 : (Int16.ofInt 5040).toInt32 = 5040 := by decide
theorem sf_inD {i : Int32} {n : Nat} (h : decide (¬ (i < 0 ∨ n ≤ i.toNatClampNeg)) = true) : vp_in i n := show ¬ (i < 0 ∨ n ≤ i.toNatClampNeg) from of_decide_eq_true h
end
section
def KX : List sf_Kd := [(4, 6, [some 1, some 17, some 22, some 27, some 36, some 38, some 40, some 43, some 45, none, none]), (4, 0, [some 2, some 3, some 4, none, some 5, some 6, some 7, some 8, none, some 9]), (0, 7, []), (0, 7, []), (0, 7, []), (0, 9, []), (0, 9, []), (0, 9, []), (0, 9, []), (3, 7, [some 10, some 11, some 12, some 13, some 14, some 15, some 16]), (0, 7, []), (0, 7, []), (0, 7, []), (0, 7, []), (0, 7, []), (0, 7, []), (0, 7, []), (4, 4, [some 18, some 19, some 20, some 21]), (0, 7, []), (0, 9, []), (1, 9, []), (0, 4, []), (4, 4, [some 23, some 24, some 25, some 26]), (0, 7, []), (0, 9, []), (1, 9, []), (0, 4, []), (4, 3, [some 28, some 29, some 32, some 35, none]), (0, 7, []), (4, 2, [some 30, some 31]), (0, 7, []), (0, 7, []), (4, 2, [some 33, some 34]), (0, 7, []), (0, 7, []), (0, 7, []), (4, 1, [none, some 37, none]), (0, 7, []), (4, 1, [none, some 39, none]), (0, 7, []), (4, 2, [some 41, some 42]), (0, 7, []), (0, 7, []), (4, 5, [some 44, none]), (2, 80, []), (0, 16, [])]
def KM : List sf_Kd := [(4, 7, [none, some 1, some 2, some 3, none, some 4, some 5, some 6, some 7, some 8, some 9, none, some 10, none, some 11, none, none, some 12, none, none, some 13, some 14, some 15]), (0, 7, []), (0, 7, []), (0, 7, []), (0, 9, []), (0, 9, []), (0, 9, []), (0, 9, []), (0, 7, []), (0, 7, []), (0, 7, []), (0, 5040, []), (0, 7, []), (0, 128, []), (0, 12, []), (0, 16, [])]
/-! what the methods of the class take as given beside its world: the static table of valences, the one text constant, links between nest mates -/
def sf_nest : List Cond := [.fieldLinkNest RX0 51 "StereoForms" "VALENCES" "[I" "StereoForms", .methodLinkNest RX4 62 yX6_sign "StereoForms", .methodLinkNest RX0 75 yX6_sign "StereoForms"]
def sf_vals : List Int32 := [4, 3, 2, 1, 1, 2]
def sf_val (i : Int32) : Int32 := sf_vals.getD (sf_ix i) 0
def sf_byts : List Int32 := [67, 78, 79, 70, 67, 83]
def sf_EX (q : Nat → Nat) (tv ta tb : Nat) (U : State) : Prop := va_Z "StereoForms" "VALENCES" "[I" (.ref tv) (sf_A q KX) U U.heap ∧ va_T .int tv 6 (fun j => .int (sf_vals.getD j 0)) (sf_A q KX) U U.heap ∧ (∀ w ∈ sf_nest, va_Nw w U) ∧
  vk_R "StereoForms$Text" 62 "CNOFCS" ta U ∧ vk_S 1 [6] [sf_byts] (fun _ => ta) (fun _ => tb) (sf_A q KX) U U.heap ∧ va_Z "java/lang/String" "COMPACT_STRINGS" "Z" (.int 1) (sf_A q KX) U U.heap ∧ va_Zq "jdk/internal/util/Preconditions" "SIOOBE_FORMATTER" "Ljava/util/function/BiFunction;" (sf_A q KX) U U.heap
def sf_EM (_ : State) : Prop := True
theorem sf_nestW {s U : State} (hW : s.WarmedH U.vm) (h : ∀ w ∈ sf_nest, va_Nw w s) : ∀ w ∈ sf_nest, va_Nw w U := by
  intro w hw
  have h1 := h w hw
  simp only [sf_nest, List.mem_cons, List.not_mem_nil, or_false] at hw
  rcases hw with e | e | e
  · subst e; exact va_Nw.warmF hW h1
  · subst e; exact va_Nw.warmM hW h1
  · subst e; exact va_Nw.warmM hW h1
theorem sf_EXk {q : Nat → Nat} {tv ta tb : Nat} : sf_Ek q KX (sf_EX q tv ta tb) := fun u U hW hq hsz h =>
  ⟨(h.1.moved hW.alike).kept hq, (h.2.1.moved hW.alike).kept hq, sf_nestW hW h.2.2.1, h.2.2.2.1.warm hW, (h.2.2.2.2.1.moved hW.alike).kept hq, (h.2.2.2.2.2.1.moved hW.alike).kept hq, (h.2.2.2.2.2.2.moved hW.alike).kept hq⟩
theorem sf_EMk {q : Nat → Nat} : sf_Ek q KM sf_EM := fun _ _ _ _ _ _ => trivial
theorem sf_lk7 {i : Int32} (h : vp_in i 7) : sf_ix i < 7 := Nat.not_le.mp fun z => h (Or.inr z)
theorem sf_lkA : ∀ j, j < 7 → KX[10 + j]? = some (0, 7, []) := by decide +kernel
theorem sf_lkB : ∀ j, j < 7 → ([some 10, some 11, some 12, some 13, some 14, some 15, some 16] : List (Option Nat))[j]? = some (some (10 + j)) := by decide +kernel
theorem sf_lkK {i : Int32} (h : vp_in i 7) : KX[10 + sf_ix i]? = some (0, 7, []) := sf_lkA _ (sf_lk7 h)
theorem sf_lkR {i : Int32} (h : vp_in i 7) : ([some 10, some 11, some 12, some 13, some 14, some 15, some 16] : List (Option Nat))[sf_ix i]? = some (some (10 + sf_ix i)) := sf_lkB _ (sf_lk7 h)
section SFSTR
variable {p : Program} {l : Launch} {e : Env} {R : Room} {s : State} {m : MethodId} {args : Array Value} {below : List Frame} {meth : Method} {c : Code} {Q : State → Prop} {cc : ByteArray} {nL : Nat} {own : String} {ret : Option FieldType} {Ts : List Cond} {D : va_G} {cl : List vw_C} {q : Nat → Nat} {dA : Nat → ClassId} {K : List sf_Kd} {E : State → Prop} {σ : sf_St} {pc pc' : Nat} {lv : List (Nat × Value)} {st : List Value}
theorem sf_ldcS (X : sf_Cx p s m args meth c cc nL own ret Ts D cl q dA K E) {tx : String} {index a : Nat} (hZ : vk_R own index tx a s) (hdg : decode cc pc = .ok (.ldc index, 2)) (hp : pc + 2 = pc') (k : sf_G p l e R s m args below meth c Q nL D cl q dA K σ pc' lv (.ref a :: st)) : sf_G p l e R s m args below meth c Q nL D cl q dA K σ pc lv st := by
  subst hp
  exact fun H locs ls hP hS hl => va_ldcS X.1.1 X.1.2.1 X.1.2.2.2.1 hZ hdg (k H locs ls hP hS hl)
theorem sf_getf (X : sf_Cx p s m args meth c cc nL own ret Ts D cl q dA K E) {o n d ref : String} {index a : Nat} {v : Value} (hE : va_OF o n d v a (sf_A q K) s s.heap) (hlink : (Cond.fieldLink own index ref n d).before args s = true) (hsame : ∀ x, s.fieldFound? o n d = some x → s.fieldFound? ref n d = some x) (hdg : decode cc pc = .ok (.getfield index, 3)) (hp : pc + 3 = pc') (k : sf_G p l e R s m args below meth c Q nL D cl q dA K σ pc' lv (v :: st)) : sf_G p l e R s m args below meth c Q nL D cl q dA K σ pc lv (.ref a :: st) := by
  subst hp
  exact fun H locs ls hP hS hl => vk_getf X.1.1 X.1.2.1 hE hS X.1.2.2.2.1 hlink hsame hdg (k H locs ls hP hS hl)
theorem sf_tb (X : sf_Cx p s m args meth c cc nL own ret Ts D cl q dA K E) {t N : Nat} {f : Nat → Value} {i v : Int32} (hT : va_T .byte t N f (sf_A q K) s s.heap) (hin : vp_in i N) (hv : f (sf_ix i) = .int v) (hdg : decode cc pc = .ok (.baload, 1)) (hp : pc + 1 = pc') (kk : sf_G p l e R s m args below meth c Q nL D cl q dA K σ pc' lv (.int v :: st)) : sf_G p l e R s m args below meth c Q nL D cl q dA K σ pc lv (.int i :: .ref t :: st) := by
  subst hp
  exact fun H locs ls hP hS hl => va_tb X.1.1 X.1.2.1 hT hS hin hv hdg (kk H locs ls hP hS hl)
theorem sf_callStr (X : sf_Cx p s m args meth c cc nL own ret Ts D cl q dA K E) {len : List Nat} {byt : List (List Int32)} {ta : Nat} {adV : Nat → Nat} {y : MethodName} {ws' : List Cond} {rm' : Room} {bytes : ByteArray} {maxL n index : Nat} {ret' : Option FieldType} {As rest : List Value} {r : Int32} {τ : sf_St} (hSt : vk_S 1 len byt (fun _ => ta) adV (sf_A q K) s s.heap) (hM : sf_Mi l y ws' rm' D cl q dA K E (.ref ta :: As) σ r τ) (cw : CallW R s args own "java/lang/String" index y bytes maxL ret' ws' rm' 0 0 n) (hn : As.length = n) (hst : st = As.reverse ++ .ref ta :: rest) (hW : (rest.map fun v => v.category).sum ≤ 8) (hdg : decode cc pc = .ok (.invokevirtual index, 3)) (hp : pc + 3 = pc') (kk : sf_G p l e R s m args below meth c Q nL D cl q dA K τ pc' lv (.int r :: rest)) : sf_G p l e R s m args below meth c Q nL D cl q dA K σ pc lv st := by
  subst hst; subst hp
  intro H locs ls hP hS hl
  refine va_calli (va_runV (As := As) (rest := rest) X.1 hM cw ⟨sf_blind X.2.2.2.2.1 _, vk_recv (i := 0) hSt (by decide) hS, fun U hU hW => ⟨rfl, sf_end X hP hS hU hW⟩⟩ rfl hn hl.1 rfl (lv_room hW) hdg ⟨Nat.zero_le _, Nat.zero_le _⟩) hS (fun _ _ h => h) (fun _ h => h) (fun r' u t H1 locs1 ht hvm hpo hB hz hk1 hS1 => ?_)
  obtain ⟨rfl, rfl⟩ := hpo
  exact kk H1 locs1 ls (by rw [← ht]; exact hB.1) hS1 hl
end SFSTR

theorem hd_X6_atom : yX6_atom.cls ≠ "java/lang/invoke/MethodHandle" ∧ yX6_atom.cls ≠ "java/lang/invoke/VarHandle" ∧ (parseMethodDescriptor yX6_atom.desc).map (fun d => d.parameters.length) = some 3 := by decide +kernel
theorem hd_X6_isPlace : yX6_isPlace.cls ≠ "java/lang/invoke/MethodHandle" ∧ yX6_isPlace.cls ≠ "java/lang/invoke/VarHandle" ∧ (parseMethodDescriptor yX6_isPlace.desc).map (fun d => d.parameters.length) = some 2 := by decide +kernel
theorem hd_X0_addAtom : yX0_addAtom.cls ≠ "java/lang/invoke/MethodHandle" ∧ yX0_addAtom.cls ≠ "java/lang/invoke/VarHandle" ∧ (parseMethodDescriptor yX0_addAtom.desc).map (fun d => d.parameters.length) = some 3 := by decide +kernel
theorem hd_X6_bond : yX6_bond.cls ≠ "java/lang/invoke/MethodHandle" ∧ yX6_bond.cls ≠ "java/lang/invoke/VarHandle" ∧ (parseMethodDescriptor yX6_bond.desc).map (fun d => d.parameters.length) = some 4 := by decide +kernel
theorem hd_X0_hasAtom : yX0_hasAtom.cls ≠ "java/lang/invoke/MethodHandle" ∧ yX0_hasAtom.cls ≠ "java/lang/invoke/VarHandle" ∧ (parseMethodDescriptor yX0_hasAtom.desc).map (fun d => d.parameters.length) = some 1 := by decide +kernel
theorem hd_X6_isMark : yX6_isMark.cls ≠ "java/lang/invoke/MethodHandle" ∧ yX6_isMark.cls ≠ "java/lang/invoke/VarHandle" ∧ (parseMethodDescriptor yX6_isMark.desc).map (fun d => d.parameters.length) = some 1 := by decide +kernel
theorem hd_X0_areBonded : yX0_areBonded.cls ≠ "java/lang/invoke/MethodHandle" ∧ yX0_areBonded.cls ≠ "java/lang/invoke/VarHandle" ∧ (parseMethodDescriptor yX0_areBonded.desc).map (fun d => d.parameters.length) = some 2 := by decide +kernel
theorem hd_X0_freeValence : yX0_freeValence.cls ≠ "java/lang/invoke/MethodHandle" ∧ yX0_freeValence.cls ≠ "java/lang/invoke/VarHandle" ∧ (parseMethodDescriptor yX0_freeValence.desc).map (fun d => d.parameters.length) = some 1 := by decide +kernel
theorem hd_X0_orderOf : yX0_orderOf.cls ≠ "java/lang/invoke/MethodHandle" ∧ yX0_orderOf.cls ≠ "java/lang/invoke/VarHandle" ∧ (parseMethodDescriptor yX0_orderOf.desc).map (fun d => d.parameters.length) = some 2 := by decide +kernel
theorem hd_X0_addBond : yX0_addBond.cls ≠ "java/lang/invoke/MethodHandle" ∧ yX0_addBond.cls ≠ "java/lang/invoke/VarHandle" ∧ (parseMethodDescriptor yX0_addBond.desc).map (fun d => d.parameters.length) = some 4 := by decide +kernel
theorem hd_X6_move : yX6_move.cls ≠ "java/lang/invoke/MethodHandle" ∧ yX6_move.cls ≠ "java/lang/invoke/VarHandle" ∧ (parseMethodDescriptor yX6_move.desc).map (fun d => d.parameters.length) = some 3 := by decide +kernel
theorem hd_X6_mark : yX6_mark.cls ≠ "java/lang/invoke/MethodHandle" ∧ yX6_mark.cls ≠ "java/lang/invoke/VarHandle" ∧ (parseMethodDescriptor yX6_mark.desc).map (fun d => d.parameters.length) = some 3 := by decide +kernel
theorem hd_X0_hasBond : yX0_hasBond.cls ≠ "java/lang/invoke/MethodHandle" ∧ yX0_hasBond.cls ≠ "java/lang/invoke/VarHandle" ∧ (parseMethodDescriptor yX0_hasBond.desc).map (fun d => d.parameters.length) = some 1 := by decide +kernel
theorem hd_X0_isEnd : yX0_isEnd.cls ≠ "java/lang/invoke/MethodHandle" ∧ yX0_isEnd.cls ≠ "java/lang/invoke/VarHandle" ∧ (parseMethodDescriptor yX0_isEnd.desc).map (fun d => d.parameters.length) = some 2 := by decide +kernel
theorem hd_X0_setMark : yX0_setMark.cls ≠ "java/lang/invoke/MethodHandle" ∧ yX0_setMark.cls ≠ "java/lang/invoke/VarHandle" ∧ (parseMethodDescriptor yX0_setMark.desc).map (fun d => d.parameters.length) = some 3 := by decide +kernel
theorem hd_X6_clear : yX6_clear.cls ≠ "java/lang/invoke/MethodHandle" ∧ yX6_clear.cls ≠ "java/lang/invoke/VarHandle" ∧ (parseMethodDescriptor yX6_clear.desc).map (fun d => d.parameters.length) = some 0 := by decide +kernel
theorem hd_X0_removeAll : yX0_removeAll.cls ≠ "java/lang/invoke/MethodHandle" ∧ yX0_removeAll.cls ≠ "java/lang/invoke/VarHandle" ∧ (parseMethodDescriptor yX0_removeAll.desc).map (fun d => d.parameters.length) = some 0 := by decide +kernel
theorem hd_J7_fill : yJ7_fill.cls ≠ "java/lang/invoke/MethodHandle" ∧ yJ7_fill.cls ≠ "java/lang/invoke/VarHandle" ∧ (parseMethodDescriptor yJ7_fill.desc).map (fun d => d.parameters.length) = some 2 := by decide +kernel
theorem hd_X6_flip : yX6_flip.cls ≠ "java/lang/invoke/MethodHandle" ∧ yX6_flip.cls ≠ "java/lang/invoke/VarHandle" ∧ (parseMethodDescriptor yX6_flip.desc).map (fun d => d.parameters.length) = some 0 := by decide +kernel
theorem hd_X0_swapMarks : yX0_swapMarks.cls ≠ "java/lang/invoke/MethodHandle" ∧ yX0_swapMarks.cls ≠ "java/lang/invoke/VarHandle" ∧ (parseMethodDescriptor yX0_swapMarks.desc).map (fun d => d.parameters.length) = some 0 := by decide +kernel
theorem hd_X6_hydrogens : yX6_hydrogens.cls ≠ "java/lang/invoke/MethodHandle" ∧ yX6_hydrogens.cls ≠ "java/lang/invoke/VarHandle" ∧ (parseMethodDescriptor yX6_hydrogens.desc).map (fun d => d.parameters.length) = some 1 := by decide +kernel
theorem hd_X6_sense : yX6_sense.cls ≠ "java/lang/invoke/MethodHandle" ∧ yX6_sense.cls ≠ "java/lang/invoke/VarHandle" ∧ (parseMethodDescriptor yX6_sense.desc).map (fun d => d.parameters.length) = some 1 := by decide +kernel
theorem hd_X4_senseOfAtom : yX4_senseOfAtom.cls ≠ "java/lang/invoke/MethodHandle" ∧ yX4_senseOfAtom.cls ≠ "java/lang/invoke/VarHandle" ∧ (parseMethodDescriptor yX4_senseOfAtom.desc).map (fun d => d.parameters.length) = some 2 := by decide +kernel
theorem hd_X0_isCentre : yX0_isCentre.cls ≠ "java/lang/invoke/MethodHandle" ∧ yX0_isCentre.cls ≠ "java/lang/invoke/VarHandle" ∧ (parseMethodDescriptor yX0_isCentre.desc).map (fun d => d.parameters.length) = some 1 := by decide +kernel
theorem hd_X0_singleBonds : yX0_singleBonds.cls ≠ "java/lang/invoke/MethodHandle" ∧ yX0_singleBonds.cls ≠ "java/lang/invoke/VarHandle" ∧ (parseMethodDescriptor yX0_singleBonds.desc).map (fun d => d.parameters.length) = some 2 := by decide +kernel
theorem hd_X4_determinant : yX4_determinant.cls ≠ "java/lang/invoke/MethodHandle" ∧ yX4_determinant.cls ≠ "java/lang/invoke/VarHandle" ∧ (parseMethodDescriptor yX4_determinant.desc).map (fun d => d.parameters.length) = some 3 := by decide +kernel
theorem hd_X0_height : yX0_height.cls ≠ "java/lang/invoke/MethodHandle" ∧ yX0_height.cls ≠ "java/lang/invoke/VarHandle" ∧ (parseMethodDescriptor yX0_height.desc).map (fun d => d.parameters.length) = some 2 := by decide +kernel
theorem hd_X0_bondOf : yX0_bondOf.cls ≠ "java/lang/invoke/MethodHandle" ∧ yX0_bondOf.cls ≠ "java/lang/invoke/VarHandle" ∧ (parseMethodDescriptor yX0_bondOf.desc).map (fun d => d.parameters.length) = some 2 := by decide +kernel
theorem hd_X6_sign : yX6_sign.cls ≠ "java/lang/invoke/MethodHandle" ∧ yX6_sign.cls ≠ "java/lang/invoke/VarHandle" ∧ (parseMethodDescriptor yX6_sign.desc).map (fun d => d.parameters.length) = some 1 := by decide +kernel
theorem hd_X6_turn : yX6_turn.cls ≠ "java/lang/invoke/MethodHandle" ∧ yX6_turn.cls ≠ "java/lang/invoke/VarHandle" ∧ (parseMethodDescriptor yX6_turn.desc).map (fun d => d.parameters.length) = some 1 := by decide +kernel
theorem hd_X4_senseOfBond : yX4_senseOfBond.cls ≠ "java/lang/invoke/MethodHandle" ∧ yX4_senseOfBond.cls ≠ "java/lang/invoke/VarHandle" ∧ (parseMethodDescriptor yX4_senseOfBond.desc).map (fun d => d.parameters.length) = some 2 := by decide +kernel
theorem hd_X0_isHinge : yX0_isHinge.cls ≠ "java/lang/invoke/MethodHandle" ∧ yX0_isHinge.cls ≠ "java/lang/invoke/VarHandle" ∧ (parseMethodDescriptor yX0_isHinge.desc).map (fun d => d.parameters.length) = some 1 := by decide +kernel
theorem hd_X0_isHingeEnd : yX0_isHingeEnd.cls ≠ "java/lang/invoke/MethodHandle" ∧ yX0_isHingeEnd.cls ≠ "java/lang/invoke/VarHandle" ∧ (parseMethodDescriptor yX0_isHingeEnd.desc).map (fun d => d.parameters.length) = some 2 := by decide +kernel
theorem hd_J9_min : yJ9_min.cls ≠ "java/lang/invoke/MethodHandle" ∧ yJ9_min.cls ≠ "java/lang/invoke/VarHandle" ∧ (parseMethodDescriptor yJ9_min.desc).map (fun d => d.parameters.length) = some 2 := by decide +kernel
theorem hd_J9_max : yJ9_max.cls ≠ "java/lang/invoke/MethodHandle" ∧ yJ9_max.cls ≠ "java/lang/invoke/VarHandle" ∧ (parseMethodDescriptor yJ9_max.desc).map (fun d => d.parameters.length) = some 2 := by decide +kernel
theorem hd_X4_sideOfEnd : yX4_sideOfEnd.cls ≠ "java/lang/invoke/MethodHandle" ∧ yX4_sideOfEnd.cls ≠ "java/lang/invoke/VarHandle" ∧ (parseMethodDescriptor yX4_sideOfEnd.desc).map (fun d => d.parameters.length) = some 4 := by decide +kernel
theorem hd_X0_side : yX0_side.cls ≠ "java/lang/invoke/MethodHandle" ∧ yX0_side.cls ≠ "java/lang/invoke/VarHandle" ∧ (parseMethodDescriptor yX0_side.desc).map (fun d => d.parameters.length) = some 3 := by decide +kernel
theorem hd_X6_row : yX6_row.cls ≠ "java/lang/invoke/MethodHandle" ∧ yX6_row.cls ≠ "java/lang/invoke/VarHandle" ∧ (parseMethodDescriptor yX6_row.desc).map (fun d => d.parameters.length) = some 1 := by decide +kernel
theorem hd_X6_settle : yX6_settle.cls ≠ "java/lang/invoke/MethodHandle" ∧ yX6_settle.cls ≠ "java/lang/invoke/VarHandle" ∧ (parseMethodDescriptor yX6_settle.desc).map (fun d => d.parameters.length) = some 0 := by decide +kernel
theorem hd_X4_readFrom : yX4_readFrom.cls ≠ "java/lang/invoke/MethodHandle" ∧ yX4_readFrom.cls ≠ "java/lang/invoke/VarHandle" ∧ (parseMethodDescriptor yX4_readFrom.desc).map (fun d => d.parameters.length) = some 1 := by decide +kernel
theorem hd_X3_begin : yX3_begin.cls ≠ "java/lang/invoke/MethodHandle" ∧ yX3_begin.cls ≠ "java/lang/invoke/VarHandle" ∧ (parseMethodDescriptor yX3_begin.desc).map (fun d => d.parameters.length) = some 1 := by decide +kernel
theorem hd_X3_leastSenses : yX3_leastSenses.cls ≠ "java/lang/invoke/MethodHandle" ∧ yX3_leastSenses.cls ≠ "java/lang/invoke/VarHandle" ∧ (parseMethodDescriptor yX3_leastSenses.desc).map (fun d => d.parameters.length) = some 2 := by decide +kernel
theorem hd_X2_removeAll : yX2_removeAll.cls ≠ "java/lang/invoke/MethodHandle" ∧ yX2_removeAll.cls ≠ "java/lang/invoke/VarHandle" ∧ (parseMethodDescriptor yX2_removeAll.desc).map (fun d => d.parameters.length) = some 0 := by decide +kernel
theorem hd_X3_place : yX3_place.cls ≠ "java/lang/invoke/MethodHandle" ∧ yX3_place.cls ≠ "java/lang/invoke/VarHandle" ∧ (parseMethodDescriptor yX3_place.desc).map (fun d => d.parameters.length) = some 3 := by decide +kernel
theorem hd_X3_weigh : yX3_weigh.cls ≠ "java/lang/invoke/MethodHandle" ∧ yX3_weigh.cls ≠ "java/lang/invoke/VarHandle" ∧ (parseMethodDescriptor yX3_weigh.desc).map (fun d => d.parameters.length) = some 2 := by decide +kernel
theorem hd_X2_code : yX2_code.cls ≠ "java/lang/invoke/MethodHandle" ∧ yX2_code.cls ≠ "java/lang/invoke/VarHandle" ∧ (parseMethodDescriptor yX2_code.desc).map (fun d => d.parameters.length) = some 2 := by decide +kernel
theorem hd_X2_senseOfAtom : yX2_senseOfAtom.cls ≠ "java/lang/invoke/MethodHandle" ∧ yX2_senseOfAtom.cls ≠ "java/lang/invoke/VarHandle" ∧ (parseMethodDescriptor yX2_senseOfAtom.desc).map (fun d => d.parameters.length) = some 3 := by decide +kernel
theorem hd_X2_orderSign : yX2_orderSign.cls ≠ "java/lang/invoke/MethodHandle" ∧ yX2_orderSign.cls ≠ "java/lang/invoke/VarHandle" ∧ (parseMethodDescriptor yX2_orderSign.desc).map (fun d => d.parameters.length) = some 3 := by decide +kernel
theorem hd_X2_senseOfBond : yX2_senseOfBond.cls ≠ "java/lang/invoke/MethodHandle" ∧ yX2_senseOfBond.cls ≠ "java/lang/invoke/VarHandle" ∧ (parseMethodDescriptor yX2_senseOfBond.desc).map (fun d => d.parameters.length) = some 3 := by decide +kernel
theorem hd_X2_copyFrom : yX2_copyFrom.cls ≠ "java/lang/invoke/MethodHandle" ∧ yX2_copyFrom.cls ≠ "java/lang/invoke/VarHandle" ∧ (parseMethodDescriptor yX2_copyFrom.desc).map (fun d => d.parameters.length) = some 1 := by decide +kernel
theorem hd_X3_lowestRow : yX3_lowestRow.cls ≠ "java/lang/invoke/MethodHandle" ∧ yX3_lowestRow.cls ≠ "java/lang/invoke/VarHandle" ∧ (parseMethodDescriptor yX3_lowestRow.desc).map (fun d => d.parameters.length) = some 2 := by decide +kernel
theorem hd_X3_rowOf : yX3_rowOf.cls ≠ "java/lang/invoke/MethodHandle" ∧ yX3_rowOf.cls ≠ "java/lang/invoke/VarHandle" ∧ (parseMethodDescriptor yX3_rowOf.desc).map (fun d => d.parameters.length) = some 3 := by decide +kernel
theorem hd_X3_lower : yX3_lower.cls ≠ "java/lang/invoke/MethodHandle" ∧ yX3_lower.cls ≠ "java/lang/invoke/VarHandle" ∧ (parseMethodDescriptor yX3_lower.desc).map (fun d => d.parameters.length) = some 2 := by decide +kernel
theorem hd_X2_give : yX2_give.cls ≠ "java/lang/invoke/MethodHandle" ∧ yX2_give.cls ≠ "java/lang/invoke/VarHandle" ∧ (parseMethodDescriptor yX2_give.desc).map (fun d => d.parameters.length) = some 2 := by decide +kernel
theorem hd_X2_takeBack : yX2_takeBack.cls ≠ "java/lang/invoke/MethodHandle" ∧ yX2_takeBack.cls ≠ "java/lang/invoke/VarHandle" ∧ (parseMethodDescriptor yX2_takeBack.desc).map (fun d => d.parameters.length) = some 2 := by decide +kernel
theorem hd_X0_isAlone : yX0_isAlone.cls ≠ "java/lang/invoke/MethodHandle" ∧ yX0_isAlone.cls ≠ "java/lang/invoke/VarHandle" ∧ (parseMethodDescriptor yX0_isAlone.desc).map (fun d => d.parameters.length) = some 1 := by decide +kernel
theorem hd_X1_take : yX1_take.cls ≠ "java/lang/invoke/MethodHandle" ∧ yX1_take.cls ≠ "java/lang/invoke/VarHandle" ∧ (parseMethodDescriptor yX1_take.desc).map (fun d => d.parameters.length) = some 3 := by decide +kernel
theorem hd_X4_copyFrom : yX4_copyFrom.cls ≠ "java/lang/invoke/MethodHandle" ∧ yX4_copyFrom.cls ≠ "java/lang/invoke/VarHandle" ∧ (parseMethodDescriptor yX4_copyFrom.desc).map (fun d => d.parameters.length) = some 1 := by decide +kernel
theorem hd_X4_mirror : yX4_mirror.cls ≠ "java/lang/invoke/MethodHandle" ∧ yX4_mirror.cls ≠ "java/lang/invoke/VarHandle" ∧ (parseMethodDescriptor yX4_mirror.desc).map (fun d => d.parameters.length) = some 0 := by decide +kernel
theorem hd_X6_senses : yX6_senses.cls ≠ "java/lang/invoke/MethodHandle" ∧ yX6_senses.cls ≠ "java/lang/invoke/VarHandle" ∧ (parseMethodDescriptor yX6_senses.desc).map (fun d => d.parameters.length) = some 0 := by decide +kernel
theorem hd_X6_chiral : yX6_chiral.cls ≠ "java/lang/invoke/MethodHandle" ∧ yX6_chiral.cls ≠ "java/lang/invoke/VarHandle" ∧ (parseMethodDescriptor yX6_chiral.desc).map (fun d => d.parameters.length) = some 0 := by decide +kernel
theorem hd_X6_isomers : yX6_isomers.cls ≠ "java/lang/invoke/MethodHandle" ∧ yX6_isomers.cls ≠ "java/lang/invoke/VarHandle" ∧ (parseMethodDescriptor yX6_isomers.desc).map (fun d => d.parameters.length) = some 0 := by decide +kernel
theorem hd_X4_countDrawn : yX4_countDrawn.cls ≠ "java/lang/invoke/MethodHandle" ∧ yX4_countDrawn.cls ≠ "java/lang/invoke/VarHandle" ∧ (parseMethodDescriptor yX4_countDrawn.desc).map (fun d => d.parameters.length) = some 1 := by decide +kernel
theorem hd_X4_turnSome : yX4_turnSome.cls ≠ "java/lang/invoke/MethodHandle" ∧ yX4_turnSome.cls ≠ "java/lang/invoke/VarHandle" ∧ (parseMethodDescriptor yX4_turnSome.desc).map (fun d => d.parameters.length) = some 2 := by decide +kernel
theorem hd_X6_isFound : yX6_isFound.cls ≠ "java/lang/invoke/MethodHandle" ∧ yX6_isFound.cls ≠ "java/lang/invoke/VarHandle" ∧ (parseMethodDescriptor yX6_isFound.desc).map (fun d => d.parameters.length) = some 2 := by decide +kernel
theorem hd_X6_keep : yX6_keep.cls ≠ "java/lang/invoke/MethodHandle" ∧ yX6_keep.cls ≠ "java/lang/invoke/VarHandle" ∧ (parseMethodDescriptor yX6_keep.desc).map (fun d => d.parameters.length) = some 0 := by decide +kernel
theorem hd_X1_copyFrom : yX1_copyFrom.cls ≠ "java/lang/invoke/MethodHandle" ∧ yX1_copyFrom.cls ≠ "java/lang/invoke/VarHandle" ∧ (parseMethodDescriptor yX1_copyFrom.desc).map (fun d => d.parameters.length) = some 1 := by decide +kernel
theorem hd_X6_compare : yX6_compare.cls ≠ "java/lang/invoke/MethodHandle" ∧ yX6_compare.cls ≠ "java/lang/invoke/VarHandle" ∧ (parseMethodDescriptor yX6_compare.desc).map (fun d => d.parameters.length) = some 0 := by decide +kernel
theorem hd_X1_hasRowsOf : yX1_hasRowsOf.cls ≠ "java/lang/invoke/MethodHandle" ∧ yX1_hasRowsOf.cls ≠ "java/lang/invoke/VarHandle" ∧ (parseMethodDescriptor yX1_hasRowsOf.desc).map (fun d => d.parameters.length) = some 1 := by decide +kernel
theorem hd_X6_write : yX6_write.cls ≠ "java/lang/invoke/MethodHandle" ∧ yX6_write.cls ≠ "java/lang/invoke/VarHandle" ∧ (parseMethodDescriptor yX6_write.desc).map (fun d => d.parameters.length) = some 0 := by decide +kernel
theorem hd_X5_describe : yX5_describe.cls ≠ "java/lang/invoke/MethodHandle" ∧ yX5_describe.cls ≠ "java/lang/invoke/VarHandle" ∧ (parseMethodDescriptor yX5_describe.desc).map (fun d => d.parameters.length) = some 3 := by decide +kernel
theorem hd_X5_addElement : yX5_addElement.cls ≠ "java/lang/invoke/MethodHandle" ∧ yX5_addElement.cls ≠ "java/lang/invoke/VarHandle" ∧ (parseMethodDescriptor yX5_addElement.desc).map (fun d => d.parameters.length) = some 1 := by decide +kernel
theorem hd_J0_charAt : yJ0_charAt.cls ≠ "java/lang/invoke/MethodHandle" ∧ yJ0_charAt.cls ≠ "java/lang/invoke/VarHandle" ∧ (parseMethodDescriptor yJ0_charAt.desc).map (fun d => d.parameters.length) = some 1 := by decide +kernel
theorem hd_J0_isLatin1 : yJ0_isLatin1.cls ≠ "java/lang/invoke/MethodHandle" ∧ yJ0_isLatin1.cls ≠ "java/lang/invoke/VarHandle" ∧ (parseMethodDescriptor yJ0_isLatin1.desc).map (fun d => d.parameters.length) = some 0 := by decide +kernel
theorem hd_J1_charAt : yJ1_charAt.cls ≠ "java/lang/invoke/MethodHandle" ∧ yJ1_charAt.cls ≠ "java/lang/invoke/VarHandle" ∧ (parseMethodDescriptor yJ1_charAt.desc).map (fun d => d.parameters.length) = some 2 := by decide +kernel
theorem hd_J0_checkIndex : yJ0_checkIndex.cls ≠ "java/lang/invoke/MethodHandle" ∧ yJ0_checkIndex.cls ≠ "java/lang/invoke/VarHandle" ∧ (parseMethodDescriptor yJ0_checkIndex.desc).map (fun d => d.parameters.length) = some 2 := by decide +kernel
theorem hd_J3_checkIndex : yJ3_checkIndex.cls ≠ "java/lang/invoke/MethodHandle" ∧ yJ3_checkIndex.cls ≠ "java/lang/invoke/VarHandle" ∧ (parseMethodDescriptor yJ3_checkIndex.desc).map (fun d => d.parameters.length) = some 3 := by decide +kernel
theorem hd_X5_add : yX5_add.cls ≠ "java/lang/invoke/MethodHandle" ∧ yX5_add.cls ≠ "java/lang/invoke/VarHandle" ∧ (parseMethodDescriptor yX5_add.desc).map (fun d => d.parameters.length) = some 1 := by decide +kernel
theorem hd_X5_addSense : yX5_addSense.cls ≠ "java/lang/invoke/MethodHandle" ∧ yX5_addSense.cls ≠ "java/lang/invoke/VarHandle" ∧ (parseMethodDescriptor yX5_addSense.desc).map (fun d => d.parameters.length) = some 1 := by decide +kernel
theorem hd_X5_addBond : yX5_addBond.cls ≠ "java/lang/invoke/MethodHandle" ∧ yX5_addBond.cls ≠ "java/lang/invoke/VarHandle" ∧ (parseMethodDescriptor yX5_addBond.desc).map (fun d => d.parameters.length) = some 3 := by decide +kernel
theorem hd_X6_at : yX6_at.cls ≠ "java/lang/invoke/MethodHandle" ∧ yX6_at.cls ≠ "java/lang/invoke/VarHandle" ∧ (parseMethodDescriptor yX6_at.desc).map (fun d => d.parameters.length) = some 1 := by decide +kernel
theorem hd_X7_atom : yX7_atom.cls ≠ "java/lang/invoke/MethodHandle" ∧ yX7_atom.cls ≠ "java/lang/invoke/VarHandle" ∧ (parseMethodDescriptor yX7_atom.desc).map (fun d => d.parameters.length) = some 3 := by decide +kernel
theorem hd_X7_isPlace : yX7_isPlace.cls ≠ "java/lang/invoke/MethodHandle" ∧ yX7_isPlace.cls ≠ "java/lang/invoke/VarHandle" ∧ (parseMethodDescriptor yX7_isPlace.desc).map (fun d => d.parameters.length) = some 1 := by decide +kernel
theorem hd_X7_bond : yX7_bond.cls ≠ "java/lang/invoke/MethodHandle" ∧ yX7_bond.cls ≠ "java/lang/invoke/VarHandle" ∧ (parseMethodDescriptor yX7_bond.desc).map (fun d => d.parameters.length) = some 4 := by decide +kernel
theorem hd_X7_isAtom : yX7_isAtom.cls ≠ "java/lang/invoke/MethodHandle" ∧ yX7_isAtom.cls ≠ "java/lang/invoke/VarHandle" ∧ (parseMethodDescriptor yX7_isAtom.desc).map (fun d => d.parameters.length) = some 1 := by decide +kernel
theorem hd_X7_bondOf : yX7_bondOf.cls ≠ "java/lang/invoke/MethodHandle" ∧ yX7_bondOf.cls ≠ "java/lang/invoke/VarHandle" ∧ (parseMethodDescriptor yX7_bondOf.desc).map (fun d => d.parameters.length) = some 2 := by decide +kernel
theorem hd_X7_left : yX7_left.cls ≠ "java/lang/invoke/MethodHandle" ∧ yX7_left.cls ≠ "java/lang/invoke/VarHandle" ∧ (parseMethodDescriptor yX7_left.desc).map (fun d => d.parameters.length) = some 1 := by decide +kernel
theorem hd_X7_valence : yX7_valence.cls ≠ "java/lang/invoke/MethodHandle" ∧ yX7_valence.cls ≠ "java/lang/invoke/VarHandle" ∧ (parseMethodDescriptor yX7_valence.desc).map (fun d => d.parameters.length) = some 1 := by decide +kernel
theorem hd_X7_move : yX7_move.cls ≠ "java/lang/invoke/MethodHandle" ∧ yX7_move.cls ≠ "java/lang/invoke/VarHandle" ∧ (parseMethodDescriptor yX7_move.desc).map (fun d => d.parameters.length) = some 3 := by decide +kernel
theorem hd_X7_mark : yX7_mark.cls ≠ "java/lang/invoke/MethodHandle" ∧ yX7_mark.cls ≠ "java/lang/invoke/VarHandle" ∧ (parseMethodDescriptor yX7_mark.desc).map (fun d => d.parameters.length) = some 3 := by decide +kernel
theorem hd_X7_isBond : yX7_isBond.cls ≠ "java/lang/invoke/MethodHandle" ∧ yX7_isBond.cls ≠ "java/lang/invoke/VarHandle" ∧ (parseMethodDescriptor yX7_isBond.desc).map (fun d => d.parameters.length) = some 1 := by decide +kernel
theorem hd_X7_clear : yX7_clear.cls ≠ "java/lang/invoke/MethodHandle" ∧ yX7_clear.cls ≠ "java/lang/invoke/VarHandle" ∧ (parseMethodDescriptor yX7_clear.desc).map (fun d => d.parameters.length) = some 0 := by decide +kernel
theorem hd_X7_flip : yX7_flip.cls ≠ "java/lang/invoke/MethodHandle" ∧ yX7_flip.cls ≠ "java/lang/invoke/VarHandle" ∧ (parseMethodDescriptor yX7_flip.desc).map (fun d => d.parameters.length) = some 0 := by decide +kernel
theorem hd_X7_hydrogens : yX7_hydrogens.cls ≠ "java/lang/invoke/MethodHandle" ∧ yX7_hydrogens.cls ≠ "java/lang/invoke/VarHandle" ∧ (parseMethodDescriptor yX7_hydrogens.desc).map (fun d => d.parameters.length) = some 1 := by decide +kernel
theorem hd_X7_sense : yX7_sense.cls ≠ "java/lang/invoke/MethodHandle" ∧ yX7_sense.cls ≠ "java/lang/invoke/VarHandle" ∧ (parseMethodDescriptor yX7_sense.desc).map (fun d => d.parameters.length) = some 1 := by decide +kernel
theorem hd_X7_ownNumbers : yX7_ownNumbers.cls ≠ "java/lang/invoke/MethodHandle" ∧ yX7_ownNumbers.cls ≠ "java/lang/invoke/VarHandle" ∧ (parseMethodDescriptor yX7_ownNumbers.desc).map (fun d => d.parameters.length) = some 0 := by decide +kernel
theorem hd_X7_centreSense : yX7_centreSense.cls ≠ "java/lang/invoke/MethodHandle" ∧ yX7_centreSense.cls ≠ "java/lang/invoke/VarHandle" ∧ (parseMethodDescriptor yX7_centreSense.desc).map (fun d => d.parameters.length) = some 1 := by decide +kernel
theorem hd_X7_isCentre : yX7_isCentre.cls ≠ "java/lang/invoke/MethodHandle" ∧ yX7_isCentre.cls ≠ "java/lang/invoke/VarHandle" ∧ (parseMethodDescriptor yX7_isCentre.desc).map (fun d => d.parameters.length) = some 1 := by decide +kernel
theorem hd_X7_singles : yX7_singles.cls ≠ "java/lang/invoke/MethodHandle" ∧ yX7_singles.cls ≠ "java/lang/invoke/VarHandle" ∧ (parseMethodDescriptor yX7_singles.desc).map (fun d => d.parameters.length) = some 2 := by decide +kernel
theorem hd_X7_points : yX7_points.cls ≠ "java/lang/invoke/MethodHandle" ∧ yX7_points.cls ≠ "java/lang/invoke/VarHandle" ∧ (parseMethodDescriptor yX7_points.desc).map (fun d => d.parameters.length) = some 1 := by decide +kernel
theorem hd_X7_sign : yX7_sign.cls ≠ "java/lang/invoke/MethodHandle" ∧ yX7_sign.cls ≠ "java/lang/invoke/VarHandle" ∧ (parseMethodDescriptor yX7_sign.desc).map (fun d => d.parameters.length) = some 1 := by decide +kernel
theorem hd_X7_turn : yX7_turn.cls ≠ "java/lang/invoke/MethodHandle" ∧ yX7_turn.cls ≠ "java/lang/invoke/VarHandle" ∧ (parseMethodDescriptor yX7_turn.desc).map (fun d => d.parameters.length) = some 1 := by decide +kernel
theorem hd_X7_hingeSense : yX7_hingeSense.cls ≠ "java/lang/invoke/MethodHandle" ∧ yX7_hingeSense.cls ≠ "java/lang/invoke/VarHandle" ∧ (parseMethodDescriptor yX7_hingeSense.desc).map (fun d => d.parameters.length) = some 1 := by decide +kernel
theorem hd_X7_isHinge : yX7_isHinge.cls ≠ "java/lang/invoke/MethodHandle" ∧ yX7_isHinge.cls ≠ "java/lang/invoke/VarHandle" ∧ (parseMethodDescriptor yX7_isHinge.desc).map (fun d => d.parameters.length) = some 1 := by decide +kernel
theorem hd_X7_isClear : yX7_isClear.cls ≠ "java/lang/invoke/MethodHandle" ∧ yX7_isClear.cls ≠ "java/lang/invoke/VarHandle" ∧ (parseMethodDescriptor yX7_isClear.desc).map (fun d => d.parameters.length) = some 4 := by decide +kernel
theorem hd_X7_side : yX7_side.cls ≠ "java/lang/invoke/MethodHandle" ∧ yX7_side.cls ≠ "java/lang/invoke/VarHandle" ∧ (parseMethodDescriptor yX7_side.desc).map (fun d => d.parameters.length) = some 3 := by decide +kernel
theorem hd_X7_leastBeside : yX7_leastBeside.cls ≠ "java/lang/invoke/MethodHandle" ∧ yX7_leastBeside.cls ≠ "java/lang/invoke/VarHandle" ∧ (parseMethodDescriptor yX7_leastBeside.desc).map (fun d => d.parameters.length) = some 2 := by decide +kernel
theorem hd_X7_row : yX7_row.cls ≠ "java/lang/invoke/MethodHandle" ∧ yX7_row.cls ≠ "java/lang/invoke/VarHandle" ∧ (parseMethodDescriptor yX7_row.desc).map (fun d => d.parameters.length) = some 1 := by decide +kernel
theorem hd_X7_search : yX7_search.cls ≠ "java/lang/invoke/MethodHandle" ∧ yX7_search.cls ≠ "java/lang/invoke/VarHandle" ∧ (parseMethodDescriptor yX7_search.desc).map (fun d => d.parameters.length) = some 0 := by decide +kernel
theorem hd_X7_rowOf : yX7_rowOf.cls ≠ "java/lang/invoke/MethodHandle" ∧ yX7_rowOf.cls ≠ "java/lang/invoke/VarHandle" ∧ (parseMethodDescriptor yX7_rowOf.desc).map (fun d => d.parameters.length) = some 1 := by decide +kernel
theorem hd_X7_packed : yX7_packed.cls ≠ "java/lang/invoke/MethodHandle" ∧ yX7_packed.cls ≠ "java/lang/invoke/VarHandle" ∧ (parseMethodDescriptor yX7_packed.desc).map (fun d => d.parameters.length) = some 0 := by decide +kernel
theorem hd_X7_nextOrder : yX7_nextOrder.cls ≠ "java/lang/invoke/MethodHandle" ∧ yX7_nextOrder.cls ≠ "java/lang/invoke/VarHandle" ∧ (parseMethodDescriptor yX7_nextOrder.desc).map (fun d => d.parameters.length) = some 0 := by decide +kernel
theorem hd_X7_swap : yX7_swap.cls ≠ "java/lang/invoke/MethodHandle" ∧ yX7_swap.cls ≠ "java/lang/invoke/VarHandle" ∧ (parseMethodDescriptor yX7_swap.desc).map (fun d => d.parameters.length) = some 2 := by decide +kernel
theorem hd_X7_senses : yX7_senses.cls ≠ "java/lang/invoke/MethodHandle" ∧ yX7_senses.cls ≠ "java/lang/invoke/VarHandle" ∧ (parseMethodDescriptor yX7_senses.desc).map (fun d => d.parameters.length) = some 0 := by decide +kernel
theorem hd_X7_leastSenses : yX7_leastSenses.cls ≠ "java/lang/invoke/MethodHandle" ∧ yX7_leastSenses.cls ≠ "java/lang/invoke/VarHandle" ∧ (parseMethodDescriptor yX7_leastSenses.desc).map (fun d => d.parameters.length) = some 1 := by decide +kernel
theorem hd_X7_unpack : yX7_unpack.cls ≠ "java/lang/invoke/MethodHandle" ∧ yX7_unpack.cls ≠ "java/lang/invoke/VarHandle" ∧ (parseMethodDescriptor yX7_unpack.desc).map (fun d => d.parameters.length) = some 1 := by decide +kernel
theorem hd_X7_sensesNow : yX7_sensesNow.cls ≠ "java/lang/invoke/MethodHandle" ∧ yX7_sensesNow.cls ≠ "java/lang/invoke/VarHandle" ∧ (parseMethodDescriptor yX7_sensesNow.desc).map (fun d => d.parameters.length) = some 1 := by decide +kernel
theorem hd_X7_chiral : yX7_chiral.cls ≠ "java/lang/invoke/MethodHandle" ∧ yX7_chiral.cls ≠ "java/lang/invoke/VarHandle" ∧ (parseMethodDescriptor yX7_chiral.desc).map (fun d => d.parameters.length) = some 0 := by decide +kernel
theorem hd_X7_isomers : yX7_isomers.cls ≠ "java/lang/invoke/MethodHandle" ∧ yX7_isomers.cls ≠ "java/lang/invoke/VarHandle" ∧ (parseMethodDescriptor yX7_isomers.desc).map (fun d => d.parameters.length) = some 0 := by decide +kernel
theorem hd_X7_keep : yX7_keep.cls ≠ "java/lang/invoke/MethodHandle" ∧ yX7_keep.cls ≠ "java/lang/invoke/VarHandle" ∧ (parseMethodDescriptor yX7_keep.desc).map (fun d => d.parameters.length) = some 0 := by decide +kernel
theorem hd_X7_compare : yX7_compare.cls ≠ "java/lang/invoke/MethodHandle" ∧ yX7_compare.cls ≠ "java/lang/invoke/VarHandle" ∧ (parseMethodDescriptor yX7_compare.desc).map (fun d => d.parameters.length) = some 0 := by decide +kernel
theorem hd_X7_write : yX7_write.cls ≠ "java/lang/invoke/MethodHandle" ∧ yX7_write.cls ≠ "java/lang/invoke/VarHandle" ∧ (parseMethodDescriptor yX7_write.desc).map (fun d => d.parameters.length) = some 0 := by decide +kernel
theorem hd_X7_putElement : yX7_putElement.cls ≠ "java/lang/invoke/MethodHandle" ∧ yX7_putElement.cls ≠ "java/lang/invoke/VarHandle" ∧ (parseMethodDescriptor yX7_putElement.desc).map (fun d => d.parameters.length) = some 1 := by decide +kernel
theorem hd_X7_put : yX7_put.cls ≠ "java/lang/invoke/MethodHandle" ∧ yX7_put.cls ≠ "java/lang/invoke/VarHandle" ∧ (parseMethodDescriptor yX7_put.desc).map (fun d => d.parameters.length) = some 1 := by decide +kernel
theorem hd_X7_putBond : yX7_putBond.cls ≠ "java/lang/invoke/MethodHandle" ∧ yX7_putBond.cls ≠ "java/lang/invoke/VarHandle" ∧ (parseMethodDescriptor yX7_putBond.desc).map (fun d => d.parameters.length) = some 2 := by decide +kernel
theorem hd_X7_at : yX7_at.cls ≠ "java/lang/invoke/MethodHandle" ∧ yX7_at.cls ≠ "java/lang/invoke/VarHandle" ∧ (parseMethodDescriptor yX7_at.desc).map (fun d => d.parameters.length) = some 1 := by decide +kernel
end
section
def tr_R_fill_0 (kf : Nat) (Pr : Nat → sf_St → Int32 → Int32 → Int32 → Prop) (τ : sf_St) (σ : sf_St) (u0 u1 u2 : Int32) : Prop :=
  Pr 1 σ u0 (0 : Int32) (7 : Int32)
def tr_R_fill_1 (kf : Nat) (Pr : Nat → sf_St → Int32 → Int32 → Int32 → Prop) (τ : sf_St) (σ : sf_St) (u0 u1 u2 : Int32) : Prop :=
  if u2 ≤ u1 then (τ = σ) else (vp_in u1 7 ∧ (∀ τ3 : sf_St, τ3 = sf_up σ kf (sf_ix u1) u0 → (∀ y4 : Int32, y4 = u1 + (1 : Int32) → (Pr 1 τ3 u0 y4 u2))))
def fn_R_fill (kf : Nat) (Pr : Nat → sf_St → Int32 → Int32 → Int32 → Prop) (τ : sf_St) (t : Nat) (σ : sf_St) (u0 u1 u2 : Int32) : Prop := match t with
  | 0 => tr_R_fill_0 kf Pr τ σ u0 u1 u2
  | 1 => tr_R_fill_1 kf Pr τ σ u0 u1 u2
  | _ => False
def Rn_R_fill (kf : Nat) (t : Nat) (σ : sf_St) (u0 u1 u2 : Int32) (τ : sf_St) : Prop := ∀ Pr : Nat → sf_St → Int32 → Int32 → Int32 → Prop, (∀ (t : Nat) (σ : sf_St) (u0 u1 u2 : Int32), fn_R_fill kf Pr τ t σ u0 u1 u2 → Pr t σ u0 u1 u2) → Pr t σ u0 u1 u2
def R_fill (kf : Nat) (σ : sf_St) (u0 : Int32) (τ : sf_St) : Prop := Rn_R_fill kf 0 σ u0 0 0 τ
theorem fe_R_fill_0 {kf : Nat} {Pr : Nat → sf_St → Int32 → Int32 → Int32 → Prop} {τ σ : sf_St} {u0 u1 u2 : Int32} (h : fn_R_fill kf Pr τ 0 σ u0 u1 u2) : tr_R_fill_0 kf Pr τ σ u0 u1 u2 := h
theorem mo_R_fill_0 {kf : Nat} {Pr Pr' : Nat → sf_St → Int32 → Int32 → Int32 → Prop} {τ σ : sf_St} {u0 u1 u2 : Int32} (hP : ∀ (t : Nat) (σ : sf_St) (u0 u1 u2 : Int32), Pr t σ u0 u1 u2 → Pr' t σ u0 u1 u2) (h : tr_R_fill_0 kf Pr τ σ u0 u1 u2) : tr_R_fill_0 kf Pr' τ σ u0 u1 u2 := by
  unfold tr_R_fill_0 at h ⊢
  exact hP _ _ _ _ _ h
theorem ru_R_fill_0 {kf : Nat} {τ σ : sf_St} {u0 u1 u2 : Int32} (h : tr_R_fill_0 kf (fun t σ u0 u1 u2 => Rn_R_fill kf t σ u0 u1 u2 τ) τ σ u0 u1 u2) : Rn_R_fill kf 0 σ u0 u1 u2 τ := fun Pr hP => hP 0 σ u0 u1 u2 (mo_R_fill_0 (fun _ _ _ _ _ h => h Pr hP) h)
theorem fe_R_fill_1 {kf : Nat} {Pr : Nat → sf_St → Int32 → Int32 → Int32 → Prop} {τ σ : sf_St} {u0 u1 u2 : Int32} (h : fn_R_fill kf Pr τ 1 σ u0 u1 u2) : tr_R_fill_1 kf Pr τ σ u0 u1 u2 := h
theorem mo_R_fill_1 {kf : Nat} {Pr Pr' : Nat → sf_St → Int32 → Int32 → Int32 → Prop} {τ σ : sf_St} {u0 u1 u2 : Int32} (hP : ∀ (t : Nat) (σ : sf_St) (u0 u1 u2 : Int32), Pr t σ u0 u1 u2 → Pr' t σ u0 u1 u2) (h : tr_R_fill_1 kf Pr τ σ u0 u1 u2) : tr_R_fill_1 kf Pr' τ σ u0 u1 u2 := by
  unfold tr_R_fill_1 at h ⊢
  refine sf_mif (fun h => ?_) (fun h => ?_) h
  · exact h
  · refine And.imp id (fun h => ?_) h
    intro τ3 hτ3
    have h := h τ3 hτ3
    intro y4 hy4
    have h := h y4 hy4
    exact hP _ _ _ _ _ h
theorem ru_R_fill_1 {kf : Nat} {τ σ : sf_St} {u0 u1 u2 : Int32} (h : tr_R_fill_1 kf (fun t σ u0 u1 u2 => Rn_R_fill kf t σ u0 u1 u2 τ) τ σ u0 u1 u2) : Rn_R_fill kf 1 σ u0 u1 u2 τ := fun Pr hP => hP 1 σ u0 u1 u2 (mo_R_fill_1 (fun _ _ _ _ _ h => h Pr hP) h)
set_option maxHeartbeats 4000000 in
set_option maxRecDepth 100000 in
theorem c_fill {l : Launch} {D : va_G} {q : Nat → Nat} {dA : Nat → ClassId} {tv ta tb : Nat} {kf : Nat} (hq : sf_inj q KX) (HK : KX[kf]? = some (0, 7, [])) {σ τ : sf_St} {u0 : Int32} (h : R_fill kf σ u0 τ) : sf_Mv l yJ7_fill wsJ7_fill ({ frames := 0, cells := 0, slots := 0, locals := 0 }) D vwCl q dA KX (sf_EX q tv ta tb) [.ref (q kf), .int u0] σ τ := by
  refine sf_metv (cc := cJ7_fill) (maxL := 4) (ret := none) (own := RJ7) (by decide +kernel) rfl rfl hq sf_EXk (Nat.le_of_ble_eq_true rfl) ?_
  intro p e s m args below meth c X
  have hT := X.2.2.2.1.2.1
  refine sf_loc (lv' := [(0, .ref (q kf)), (1, .int u0)]) [0, 1] rfl ?_
  refine h (fun t σ u0 u1 u2 => match t with
    | 0 => sf_G p l e (headSpec wsJ7_fill ({ frames := 0, cells := 0, slots := 0, locals := 0 })).room s m args below meth c (sf_Qv D vwCl q dA KX (sf_EX q tv ta tb) below args s τ) 4 D vwCl q dA KX σ 0 [(0, .ref (q kf)), (1, .int u0)] []
    | 1 => sf_G p l e (headSpec wsJ7_fill ({ frames := 0, cells := 0, slots := 0, locals := 0 })).room s m args below meth c (sf_Qv D vwCl q dA KX (sf_EX q tv ta tb) below args s τ) 4 D vwCl q dA KX σ 5 [(0, .ref (q kf)), (1, .int u0), (2, .int u1), (3, .int u2)] []
    | _ => True) ?_
  intro t σ u0 u1 u2 h
  match t, h with
  | 0, h =>
      replace h := fe_R_fill_0 h
      unfold tr_R_fill_0 at h
      show sf_G p l e (headSpec wsJ7_fill ({ frames := 0, cells := 0, slots := 0, locals := 0 })).room s m args below meth c (sf_Qv D vwCl q dA KX (sf_EX q tv ta tb) below args s τ) 4 D vwCl q dA KX σ 0 [(0, .ref (q kf)), (1, .int u0)] []
      refine sf_iconst (v := 0) X dJ7_fill_0 sf_ic_0 rfl ?_
      refine sf_istore_n (i := 2) (lv' := [(2, .int (0 : Int32)), (0, .ref (q kf)), (1, .int u0)]) X dJ7_fill_1 rfl (by decide) rfl rfl ?_
      refine sf_aload_n (i := 0) (j := 1) X dJ7_fill_2 rfl rfl rfl ?_
      refine sf_alen (t := 0) (ty := .int) (v := 7) X HK (by decide) rfl (by decide) dJ7_fill_3 rfl ?_
      refine sf_istore_n (i := 3) (lv' := [(3, .int (7 : Int32)), (2, .int (0 : Int32)), (0, .ref (q kf)), (1, .int u0)]) X dJ7_fill_4 rfl (by decide) rfl rfl ?_
      refine sf_loc (lv' := [(0, .ref (q kf)), (1, .int u0), (2, .int (0 : Int32)), (3, .int (7 : Int32))]) [2, 3, 1, 0] rfl ?_
      exact h
  | 1, h =>
      replace h := fe_R_fill_1 h
      unfold tr_R_fill_1 at h
      show sf_G p l e (headSpec wsJ7_fill ({ frames := 0, cells := 0, slots := 0, locals := 0 })).room s m args below meth c (sf_Qv D vwCl q dA KX (sf_EX q tv ta tb) below args s τ) 4 D vwCl q dA KX σ 5 [(0, .ref (q kf)), (1, .int u0), (2, .int u1), (3, .int u2)] []
      refine sf_iload_n (i := 2) (j := 2) X dJ7_fill_5 rfl rfl rfl ?_
      refine sf_iload_n (i := 3) (j := 3) X dJ7_fill_6 rfl rfl rfl ?_
      refine sf_icmp_ge (tgt := 20) X dJ7_fill_7 rfl rfl (fun c1 => ?_) (fun c1 => ?_)
      · have h := sf_ift c1 h
        exact sf_retv X h dJ7_fill_20
      · have h := sf_iff c1 h
        refine sf_aload_n (i := 0) (j := 0) X dJ7_fill_10 rfl rfl rfl ?_
        refine sf_iload_n (i := 2) (j := 2) X dJ7_fill_11 rfl rfl rfl ?_
        refine sf_iload_n (i := 1) (j := 1) X dJ7_fill_12 rfl rfl rfl ?_
        obtain ⟨b2, h⟩ := h
        refine sf_iast X HK b2 dJ7_fill_13 rfl (fun τ3 hτ3 => ?_)
        have h := h τ3 hτ3
        refine sf_iinc (i := 2) (j := 2) (d := 1) (lv' := fun y4 => [(2, .int y4), (0, .ref (q kf)), (1, .int u0), (3, .int u2)]) X dJ7_fill_14 rfl sf_ic_1 (by decide) (fun _ => rfl) rfl (fun y4 hy4 => ?_)
        have h := h y4 hy4
        refine sf_goto (tgt := 5) X dJ7_fill_17 rfl ?_
        refine sf_loc (lv' := [(0, .ref (q kf)), (1, .int u0), (2, .int y4), (3, .int u2)]) [1, 2, 0, 3] rfl ?_
        exact h
  | (_ + 2), _ => exact trivial
def sf_chr (i : Int32) : Int32 := ((sf_byts.getD (sf_ix i) 0 &&& 255).toUInt32 % 65536).toInt32
def R_charAt (σ : sf_St) (i r : Int32) (τ : sf_St) : Prop := vp_in i 6 ∧ r = sf_chr i ∧ τ = σ
theorem c_isLatin1 {l : Launch} {D : va_G} {q : Nat → Nat} {dA : Nat → ClassId} {tv ta tb : Nat} (hq : sf_inj q KX) {σ : sf_St} : sf_Mi l yJ0_isLatin1 wsJ0_isLatin1 ({ frames := 0, cells := 0, slots := 0, locals := 0 }) D vwCl q dA KX (sf_EX q tv ta tb) [.ref ta] σ 1 σ := by
  refine sf_meti (cc := cJ0_isLatin1) (maxL := 1) (ret := (some .boolean)) (own := RJ0) (by decide +kernel) rfl rfl hq sf_EXk (Nat.le_of_ble_eq_true rfl) ?_
  intro p e s m args below meth c X
  refine sf_loc (lv' := [(0, .ref ta)]) [0] rfl ?_
  refine sf_gets (v := .int 1) X X.2.2.2.1.2.2.2.2.2.1 (X.1.2.2.2.2 _ (sf_memc tw_573)) (fun _ h9 => h9) dJ0_isLatin1_0 rfl ?_
  refine sf_if_eq (tgt := 17) X dJ0_isLatin1_3 rfl rfl (fun h => absurd h (by decide)) (fun _ => ?_)
  refine sf_aload_n (i := 0) (j := 0) X dJ0_isLatin1_6 rfl rfl rfl ?_
  refine sf_getf (v := .int 0) X (X.2.2.2.1.2.2.2.2.1.1 0 (by decide)).2.1 (X.1.2.2.2.2 _ (sf_memc tw_880)) (fun _ h9 => h9) dJ0_isLatin1_7 rfl ?_
  refine sf_if_ne (tgt := 17) X dJ0_isLatin1_10 rfl rfl (fun h => absurd rfl h) (fun _ => ?_)
  refine sf_iconst (v := 1) X dJ0_isLatin1_13 sf_ic_1 rfl ?_
  refine sf_goto (tgt := 18) X dJ0_isLatin1_14 rfl ?_
  exact sf_retz X ⟨rfl, rfl⟩ rfl dJ0_isLatin1_18
theorem c_preIndex {l : Launch} {D : va_G} {q : Nat → Nat} {dA : Nat → ClassId} {tv ta tb : Nat} (hq : sf_inj q KX) {σ : sf_St} {i n : Int32} {v : Value} (hv : v = .null ∨ ∃ t : Nat, v = .ref t) (h0 : ¬ i < 0) (hn : i < n) : sf_Mi l yJ3_checkIndex wsJ3_checkIndex ({ frames := 0, cells := 0, slots := 0, locals := 0 }) D vwCl q dA KX (sf_EX q tv ta tb) [.int i, .int n, v] σ i σ := by
  rcases hv with rfl | ⟨t, rfl⟩
  all_goals
    refine sf_meti (cc := cJ3_checkIndex) (maxL := 3) (ret := (some .int)) (own := RJ3) (by decide +kernel) rfl rfl hq sf_EXk (Nat.le_of_ble_eq_true rfl) ?_
    intro p e s m args below meth c X
    refine sf_loc (lv' := [(0, .int i), (1, .int n)]) [0, 1] rfl ?_
    refine sf_iload_n (i := 0) (j := 0) X dJ3_checkIndex_0 rfl rfl rfl ?_
    refine sf_if_lt (tgt := 9) X dJ3_checkIndex_1 rfl rfl (fun h => absurd h h0) (fun _ => ?_)
    refine sf_iload_n (i := 0) (j := 0) X dJ3_checkIndex_4 rfl rfl rfl ?_
    refine sf_iload_n (i := 1) (j := 1) X dJ3_checkIndex_5 rfl rfl rfl ?_
    refine sf_icmp_lt (tgt := 16) X dJ3_checkIndex_6 rfl rfl (fun _ => ?_) (fun h => absurd hn h)
    refine sf_iload_n (i := 0) (j := 0) X dJ3_checkIndex_16 rfl rfl rfl ?_
    exact sf_reti X ⟨rfl, rfl⟩ dJ3_checkIndex_17
theorem c_strIndex {l : Launch} {D : va_G} {q : Nat → Nat} {dA : Nat → ClassId} {tv ta tb : Nat} (hq : sf_inj q KX) {σ : sf_St} {i n : Int32} (h0 : ¬ i < 0) (hn : i < n) : sf_Mv l yJ0_checkIndex wsJ0_checkIndex ({ frames := 1, cells := 0, slots := 0, locals := 22 }) D vwCl q dA KX (sf_EX q tv ta tb) [.int i, .int n] σ σ := by
  refine sf_metv (cc := cJ0_checkIndex) (maxL := 2) (ret := none) (own := RJ0) (by decide +kernel) rfl rfl hq sf_EXk (Nat.le_of_ble_eq_true rfl) ?_
  intro p e s m args below meth c X
  have key : ∀ v : Value, (v = .null ∨ ∃ t : Nat, v = .ref t) → va_Z "jdk/internal/util/Preconditions" "SIOOBE_FORMATTER" "Ljava/util/function/BiFunction;" v (sf_A q KX) s s.heap → sf_G p l e (headSpec wsJ0_checkIndex ({ frames := 1, cells := 0, slots := 0, locals := 22 })).room s m args below meth c (sf_Qv D vwCl q dA KX (sf_EX q tv ta tb) below args s σ) 2 D vwCl q dA KX σ 0 [(0, .int i), (1, .int n)] [] := by
    intro v hv hZ
    refine sf_iload_n (i := 0) (j := 0) X dJ0_checkIndex_0 rfl rfl rfl ?_
    refine sf_iload_n (i := 1) (j := 1) X dJ0_checkIndex_1 rfl rfl rfl ?_
    refine sf_gets (v := v) X hZ (X.1.2.2.2.2 _ (sf_memc tw_581)) (fun _ h9 => h9) dJ0_checkIndex_2 rfl ?_
    refine sf_callSi (As := [.int i, .int n, v]) (rest := []) X (c_preIndex hq hv h0 hn) (va_cwS 3 X.1.2.2.2.2 (sf_gS tw_583 tw_584 tw_54 tw_585) rfl rfl rfl hd_J3_checkIndex ⟨Nat.le_of_ble_eq_true rfl, Nat.le_of_ble_eq_true rfl⟩) rfl rfl (Nat.le_of_ble_eq_true rfl) dJ0_checkIndex_5 rfl ?_
    refine sf_pop X dJ0_checkIndex_8 rfl rfl ?_
    exact sf_retv X rfl dJ0_checkIndex_9
  refine sf_loc (lv' := [(0, .int i), (1, .int n)]) [0, 1] rfl ?_
  rcases X.2.2.2.1.2.2.2.2.2.2 with h | ⟨t, h⟩
  · exact key _ (Or.inl rfl) h
  · exact key _ (Or.inr ⟨t, rfl⟩) h
theorem c_latinCharAt {l : Launch} {D : va_G} {q : Nat → Nat} {dA : Nat → ClassId} {tv ta tb : Nat} (hq : sf_inj q KX) {σ : sf_St} {i : Int32} (hi : vp_in i 6) : sf_Mi l yJ1_charAt wsJ1_charAt ({ frames := 2, cells := 0, slots := 0, locals := 43 }) D vwCl q dA KX (sf_EX q tv ta tb) [.ref tb, .int i] σ (sf_chr i) σ := by
  refine sf_meti (cc := cJ1_charAt) (maxL := 2) (ret := (some .char)) (own := RJ1) (by decide +kernel) rfl rfl hq sf_EXk (Nat.le_of_ble_eq_true rfl) ?_
  intro p e s m args below meth c X
  have hT := (X.2.2.2.1.2.2.2.2.1.1 0 (by decide)).2.2.2
  have h6 : i < 6 := by
    have h := (vp_in_iff.mp hi).2
    rw [Int32.lt_iff_toInt_lt]
    exact h
  refine sf_loc (lv' := [(0, .ref tb), (1, .int i)]) [0, 1] rfl ?_
  refine sf_iload_n (i := 1) (j := 1) X dJ1_charAt_0 rfl rfl rfl ?_
  refine sf_aload_n (i := 0) (j := 0) X dJ1_charAt_1 rfl rfl rfl ?_
  refine sf_tlen (v := 6) X hT rfl dJ1_charAt_2 rfl ?_
  refine sf_callSv (As := [.int i, .int 6]) (rest := []) X (c_strIndex hq (fun h => hi (Or.inl h)) h6) (va_cwS 2 X.1.2.2.2.2 (sf_gS tw_578 tw_579 tw_52 tw_580) rfl rfl rfl hd_J0_checkIndex ⟨Nat.le_of_ble_eq_true rfl, Nat.le_of_ble_eq_true rfl⟩) rfl rfl (Nat.le_of_ble_eq_true rfl) dJ1_charAt_3 rfl ?_
  refine sf_aload_n (i := 0) (j := 0) X dJ1_charAt_6 rfl rfl rfl ?_
  refine sf_iload_n (i := 1) (j := 1) X dJ1_charAt_7 rfl rfl rfl ?_
  refine sf_tb (v := sf_byts.getD (sf_ix i) 0) X hT hi rfl dJ1_charAt_8 rfl ?_
  refine sf_sipush (v := 255) X dJ1_charAt_9 sf_sc_255 rfl ?_
  refine sf_iand X dJ1_charAt_12 rfl ?_
  refine sf_i2c X dJ1_charAt_13 rfl ?_
  exact sf_retz X ⟨rfl, rfl⟩ (pk_nc _) dJ1_charAt_14
theorem c_charAt {l : Launch} {D : va_G} {q : Nat → Nat} {dA : Nat → ClassId} {tv ta tb : Nat} (hq : sf_inj q KX) {σ τ : sf_St} {i r : Int32} (h : R_charAt σ i r τ) : sf_Mi l yJ0_charAt wsJ0_charAt ({ frames := 3, cells := 0, slots := 0, locals := 70 }) D vwCl q dA KX (sf_EX q tv ta tb) [.ref ta, .int i] σ r τ := by
  refine sf_meti (cc := cJ0_charAt) (maxL := 2) (ret := (some .char)) (own := RJ0) (by decide +kernel) rfl rfl hq sf_EXk (Nat.le_of_ble_eq_true rfl) ?_
  intro p e s m args below meth c X
  obtain ⟨hi, h⟩ := h
  refine sf_loc (lv' := [(0, .ref ta), (1, .int i)]) [0, 1] rfl ?_
  refine sf_aload_n (i := 0) (j := 0) X dJ0_charAt_0 rfl rfl rfl ?_
  refine sf_callStr (As := []) (rest := []) X X.2.2.2.1.2.2.2.2.1 (c_isLatin1 hq) (cwV 0 X.1.2.2.2.2 (sf_gV tw_569 tw_570 tw_571 tw_52 tw_572) rfl rfl rfl ⟨rfl, hd_J0_isLatin1⟩ ⟨Nat.le_of_ble_eq_true rfl, Nat.le_of_ble_eq_true rfl⟩) rfl rfl (Nat.le_of_ble_eq_true rfl) dJ0_charAt_1 rfl ?_
  refine sf_if_eq (tgt := 16) X dJ0_charAt_4 rfl rfl (fun h => absurd h (by decide)) (fun _ => ?_)
  refine sf_aload_n (i := 0) (j := 0) X dJ0_charAt_7 rfl rfl rfl ?_
  refine sf_getf (v := .ref tb) X (X.2.2.2.1.2.2.2.2.1.1 0 (by decide)).2.2.1 (X.1.2.2.2.2 _ (sf_memc tw_881)) (fun _ h9 => h9) dJ0_charAt_8 rfl ?_
  refine sf_iload_n (i := 1) (j := 1) X dJ0_charAt_11 rfl rfl rfl ?_
  refine sf_callSi (As := [.ref tb, .int i]) (rest := []) X (c_latinCharAt hq hi) (va_cwS 2 X.1.2.2.2.2 (sf_gS tw_575 tw_576 tw_53 tw_577) rfl rfl rfl hd_J1_charAt ⟨Nat.le_of_ble_eq_true rfl, Nat.le_of_ble_eq_true rfl⟩) rfl rfl (Nat.le_of_ble_eq_true rfl) dJ0_charAt_12 rfl ?_
  exact sf_retz X h (pk_nc _) dJ0_charAt_15
end
section
def R_X6_isPlace (σ : sf_St) (u0 u1 : Int32) (r : Int32) (τ : sf_St) : Prop :=
  if u0 < (-1000 : Int32) then (r = (0 : Int32) ∧ τ = σ) else (if (1000 : Int32) < u0 then (r = (0 : Int32) ∧ τ = σ) else (if u1 < (-1000 : Int32) then (r = (0 : Int32) ∧ τ = σ) else (if (1000 : Int32) < u1 then (r = (0 : Int32) ∧ τ = σ) else (r = (1 : Int32) ∧ τ = σ))))
set_option maxHeartbeats 4000000 in
set_option maxRecDepth 100000 in
theorem c_X6_isPlace {l : Launch} {D : va_G} {q : Nat → Nat} {dA : Nat → ClassId} {tv ta tb : Nat} (hq : sf_inj q KX) {σ τ : sf_St} {u0 u1 : Int32} {r : Int32} (h : R_X6_isPlace σ u0 u1 r τ) : sf_Mi l yX6_isPlace wsX6_isPlace ({ frames := 0, cells := 0, slots := 0, locals := 0 }) D vwCl q dA KX (sf_EX q tv ta tb) [.int u0, .int u1] σ r τ := by
  refine sf_meti (cc := cX6_isPlace) (maxL := 2) (ret := (some .boolean)) (own := RX6) (by decide +kernel) rfl rfl hq sf_EXk (Nat.le_of_ble_eq_true rfl) ?_
  intro p e s m args below meth c X
  have hT := X.2.2.2.1.2.1
  unfold R_X6_isPlace at h
  refine sf_loc (lv' := [(0, .int u0), (1, .int u1)]) [0, 1] rfl ?_
  refine sf_iload_n (i := 0) (j := 0) X dX6_isPlace_0 rfl rfl rfl ?_
  refine sf_sipush (v := (-1000)) X dX6_isPlace_1 sf_sc_m1000 rfl ?_
  refine sf_icmp_lt (tgt := 32) X dX6_isPlace_4 rfl rfl (fun c1 => ?_) (fun c1 => ?_)
  · have h := sf_ift c1 h
    refine sf_iconst (v := 0) X dX6_isPlace_32 sf_ic_0 rfl ?_
    exact sf_retz X h rfl dX6_isPlace_33
  · have h := sf_iff c1 h
    refine sf_iload_n (i := 0) (j := 0) X dX6_isPlace_7 rfl rfl rfl ?_
    refine sf_sipush (v := 1000) X dX6_isPlace_8 sf_sc_1000 rfl ?_
    refine sf_icmp_gt (tgt := 32) X dX6_isPlace_11 rfl rfl (fun c2 => ?_) (fun c2 => ?_)
    · have h := sf_ift c2 h
      refine sf_iconst (v := 0) X dX6_isPlace_32 sf_ic_0 rfl ?_
      exact sf_retz X h rfl dX6_isPlace_33
    · have h := sf_iff c2 h
      refine sf_iload_n (i := 1) (j := 1) X dX6_isPlace_14 rfl rfl rfl ?_
      refine sf_sipush (v := (-1000)) X dX6_isPlace_15 sf_sc_m1000 rfl ?_
      refine sf_icmp_lt (tgt := 32) X dX6_isPlace_18 rfl rfl (fun c3 => ?_) (fun c3 => ?_)
      · have h := sf_ift c3 h
        refine sf_iconst (v := 0) X dX6_isPlace_32 sf_ic_0 rfl ?_
        exact sf_retz X h rfl dX6_isPlace_33
      · have h := sf_iff c3 h
        refine sf_iload_n (i := 1) (j := 1) X dX6_isPlace_21 rfl rfl rfl ?_
        refine sf_sipush (v := 1000) X dX6_isPlace_22 sf_sc_1000 rfl ?_
        refine sf_icmp_gt (tgt := 32) X dX6_isPlace_25 rfl rfl (fun c4 => ?_) (fun c4 => ?_)
        · have h := sf_ift c4 h
          refine sf_iconst (v := 0) X dX6_isPlace_32 sf_ic_0 rfl ?_
          exact sf_retz X h rfl dX6_isPlace_33
        · have h := sf_iff c4 h
          refine sf_iconst (v := 1) X dX6_isPlace_28 sf_ic_1 rfl ?_
          refine sf_goto (tgt := 33) X dX6_isPlace_29 rfl ?_
          exact sf_retz X h rfl dX6_isPlace_33
def R_X0_addAtom (σ : sf_St) (u0 u1 u2 : Int32) (r : Int32) (τ : sf_St) : Prop :=
  ∀ y1 : Int32, y1 = (σ 1 3) → (vp_in y1 7 ∧ (∀ τ3 : sf_St, τ3 = sf_up σ 2 (sf_ix y1) u0 → (vp_in y1 7 ∧ (∀ τ5 : sf_St, τ5 = sf_up τ3 3 (sf_ix y1) u1 → (vp_in y1 7 ∧ (∀ τ7 : sf_St, τ7 = sf_up τ5 4 (sf_ix y1) u2 → (∀ τ8 : sf_St, τ8 = sf_up τ7 1 3 ((τ7 1 3) + (1 : Int32)) → (r = y1 ∧ τ = τ8))))))))
set_option maxHeartbeats 4000000 in
set_option maxRecDepth 100000 in
theorem c_X0_addAtom {l : Launch} {D : va_G} {q : Nat → Nat} {dA : Nat → ClassId} {tv ta tb : Nat} (hq : sf_inj q KX) {σ τ : sf_St} {u0 u1 u2 : Int32} {r : Int32} (h : R_X0_addAtom σ u0 u1 u2 r τ) : sf_Mi l yX0_addAtom wsX0_addAtom ({ frames := 0, cells := 0, slots := 0, locals := 0 }) D vwCl q dA KX (sf_EX q tv ta tb) [.ref (q 1), .int u0, .int u1, .int u2] σ r τ := by
  refine sf_meti (cc := cX0_addAtom) (maxL := 5) (ret := (some .int)) (own := RX0) (by decide +kernel) rfl rfl hq sf_EXk (Nat.le_of_ble_eq_true rfl) ?_
  intro p e s m args below meth c X
  have hT := X.2.2.2.1.2.1
  unfold R_X0_addAtom at h
  refine sf_loc (lv' := [(0, .ref (q 1)), (1, .int u0), (2, .int u1), (3, .int u2)]) [0, 1, 2, 3] rfl ?_
  refine sf_aload_n (i := 0) (j := 0) X dX0_addAtom_0 rfl rfl rfl ?_
  refine sf_getI (C := RX0) (T := TX0) (N := 10) (ci := 0) (j := 3) X (fun w h => sf_memc (inX0 w h)) rfl rfl (by decide) (X.1.2.2.2.2 _ (sf_memc tw_81)) (fun _ h9 => h9) rfl dX0_addAtom_1 rfl ?_
  refine sf_top (fun y1 hy1 => ?_)
  have h := h y1 hy1
  refine sf_istore (i := 4) (lv' := [(4, .int y1), (0, .ref (q 1)), (1, .int u0), (2, .int u1), (3, .int u2)]) X dX0_addAtom_4 (by decide) rfl rfl ?_
  refine sf_aload_n (i := 0) (j := 1) X dX0_addAtom_6 rfl rfl rfl ?_
  refine sf_getR (C := RX0) (T := TX0) (N := 10) (ci := 0) (j := 0) (k' := 2) X (fun w h => sf_memc (inX0 w h)) rfl rfl (by decide) (X.1.2.2.2.2 _ (sf_memc tw_72)) (fun _ h9 => h9) rfl dX0_addAtom_7 rfl ?_
  refine sf_iload (i := 4) (j := 0) X dX0_addAtom_10 rfl rfl ?_
  refine sf_iload_n (i := 1) (j := 2) X dX0_addAtom_12 rfl rfl rfl ?_
  obtain ⟨b2, h⟩ := h
  refine sf_iast X rfl b2 dX0_addAtom_13 rfl (fun τ3 hτ3 => ?_)
  have h := h τ3 hτ3
  refine sf_aload_n (i := 0) (j := 1) X dX0_addAtom_14 rfl rfl rfl ?_
  refine sf_getR (C := RX0) (T := TX0) (N := 10) (ci := 0) (j := 1) (k' := 3) X (fun w h => sf_memc (inX0 w h)) rfl rfl (by decide) (X.1.2.2.2.2 _ (sf_memc tw_75)) (fun _ h9 => h9) rfl dX0_addAtom_15 rfl ?_
  refine sf_iload (i := 4) (j := 0) X dX0_addAtom_18 rfl rfl ?_
  refine sf_iload_n (i := 2) (j := 3) X dX0_addAtom_20 rfl rfl rfl ?_
  obtain ⟨b4, h⟩ := h
  refine sf_iast X rfl b4 dX0_addAtom_21 rfl (fun τ5 hτ5 => ?_)
  have h := h τ5 hτ5
  refine sf_aload_n (i := 0) (j := 1) X dX0_addAtom_22 rfl rfl rfl ?_
  refine sf_getR (C := RX0) (T := TX0) (N := 10) (ci := 0) (j := 2) (k' := 4) X (fun w h => sf_memc (inX0 w h)) rfl rfl (by decide) (X.1.2.2.2.2 _ (sf_memc tw_78)) (fun _ h9 => h9) rfl dX0_addAtom_23 rfl ?_
  refine sf_iload (i := 4) (j := 0) X dX0_addAtom_26 rfl rfl ?_
  refine sf_iload_n (i := 3) (j := 4) X dX0_addAtom_28 rfl rfl rfl ?_
  obtain ⟨b6, h⟩ := h
  refine sf_iast X rfl b6 dX0_addAtom_29 rfl (fun τ7 hτ7 => ?_)
  have h := h τ7 hτ7
  refine sf_aload_n (i := 0) (j := 1) X dX0_addAtom_30 rfl rfl rfl ?_
  refine sf_dup X dX0_addAtom_31 rfl rfl ?_
  refine sf_getI (C := RX0) (T := TX0) (N := 10) (ci := 0) (j := 3) X (fun w h => sf_memc (inX0 w h)) rfl rfl (by decide) (X.1.2.2.2.2 _ (sf_memc tw_81)) (fun _ h9 => h9) rfl dX0_addAtom_32 rfl ?_
  refine sf_iconst (v := 1) X dX0_addAtom_35 sf_ic_1 rfl ?_
  refine sf_iadd X dX0_addAtom_36 rfl ?_
  refine sf_putI (C := RX0) (T := TX0) (N := 10) (ci := 0) (j := 3) (ty := .int) X (fun w h => sf_memc (inX0 w h)) rfl rfl (by decide) (X.1.2.2.2.2 _ (sf_memc tw_81)) (fun _ h9 => h9) tyX0 tyX0_ok nmX0 rfl (by decide +kernel) rfl rfl rfl dX0_addAtom_37 rfl (fun τ8 hτ8 => ?_)
  have h := h τ8 hτ8
  refine sf_iload (i := 4) (j := 0) X dX0_addAtom_40 rfl rfl ?_
  exact sf_reti X h dX0_addAtom_42
def R_X6_atom (σ : sf_St) (u0 u1 u2 : Int32) (r : Int32) (τ : sf_St) : Prop :=
  if u0 < (0 : Int32) then (r = (-1 : Int32) ∧ τ = σ) else (if (6 : Int32) ≤ u0 then (r = (-1 : Int32) ∧ τ = σ) else (∃ (r5 : Int32) (τ4 : sf_St), R_X6_isPlace σ u1 u2 r5 τ4 ∧ (if r5 = (0 : Int32) then (r = (-1 : Int32) ∧ τ = τ4) else (if (τ4 1 3) < (7 : Int32) then (∀ τ8 : sf_St, τ8 = sf_up τ4 0 10 (0 : Int32) → (∃ (r11 : Int32) (τ10 : sf_St), R_X0_addAtom τ8 u0 u1 u2 r11 τ10 ∧ (r = r11 ∧ τ = τ10))) else (r = (-2 : Int32) ∧ τ = τ4)))))
set_option maxHeartbeats 4000000 in
set_option maxRecDepth 100000 in
theorem c_X6_atom {l : Launch} {D : va_G} {q : Nat → Nat} {dA : Nat → ClassId} {tv ta tb : Nat} (hq : sf_inj q KX) {σ τ : sf_St} {u0 u1 u2 : Int32} {r : Int32} (h : R_X6_atom σ u0 u1 u2 r τ) : sf_Mi l yX6_atom wsX6_atom ({ frames := 1, cells := 0, slots := 0, locals := 24 }) D vwCl q dA KX (sf_EX q tv ta tb) [.ref (q 0), .int u0, .int u1, .int u2] σ r τ := by
  refine sf_meti (cc := cX6_atom) (maxL := 4) (ret := (some .int)) (own := RX6) (by decide +kernel) rfl rfl hq sf_EXk (Nat.le_of_ble_eq_true rfl) ?_
  intro p e s m args below meth c X
  have hT := X.2.2.2.1.2.1
  unfold R_X6_atom at h
  refine sf_loc (lv' := [(0, .ref (q 0)), (1, .int u0), (2, .int u1), (3, .int u2)]) [0, 1, 2, 3] rfl ?_
  refine sf_iload_n (i := 1) (j := 1) X dX6_atom_0 rfl rfl rfl ?_
  refine sf_if_lt (tgt := 20) X dX6_atom_1 rfl rfl (fun c1 => ?_) (fun c1 => ?_)
  · have h := sf_ift c1 h
    refine sf_iconst (v := (-1)) X dX6_atom_20 sf_ic_m1 rfl ?_
    exact sf_reti X h dX6_atom_21
  · have h := sf_iff c1 h
    refine sf_iload_n (i := 1) (j := 1) X dX6_atom_4 rfl rfl rfl ?_
    refine sf_gets (v := .ref tv) X X.2.2.2.1.1 (X.1.2.2.2.2 _ (sf_memc tw_262)) (fun _ h9 => h9) dX6_atom_5 rfl ?_
    refine sf_tlen (v := 6) X hT rfl dX6_atom_8 rfl ?_
    refine sf_icmp_ge (tgt := 20) X dX6_atom_9 rfl rfl (fun c2 => ?_) (fun c2 => ?_)
    · have h := sf_ift c2 h
      refine sf_iconst (v := (-1)) X dX6_atom_20 sf_ic_m1 rfl ?_
      exact sf_reti X h dX6_atom_21
    · have h := sf_iff c2 h
      refine sf_iload_n (i := 2) (j := 2) X dX6_atom_12 rfl rfl rfl ?_
      refine sf_iload_n (i := 3) (j := 3) X dX6_atom_13 rfl rfl rfl ?_
      obtain ⟨r5, τ4, hR3, h⟩ := h
      refine sf_callSi (As := [.int u1, .int u2]) (rest := []) X (c_X6_isPlace hq hR3) (va_cwS 2 X.1.2.2.2.2 (sf_gS tw_264 tw_265 tw_41 tw_266) rfl rfl rfl hd_X6_isPlace ⟨Nat.le_of_ble_eq_true rfl, Nat.le_of_ble_eq_true rfl⟩) rfl rfl (Nat.le_of_ble_eq_true rfl) dX6_atom_14 rfl ?_
      refine sf_if_ne (tgt := 22) X dX6_atom_17 rfl rfl (fun c6 => ?_) (fun c6 => ?_)
      · have h := sf_iff c6 h
        refine sf_aload_n (i := 0) (j := 0) X dX6_atom_22 rfl rfl rfl ?_
        refine sf_getR (C := RX6) (T := TX6) (N := 11) (ci := 6) (j := 0) (k' := 1) X (fun w h => sf_memc (inX6 w h)) rfl rfl (by decide) (X.1.2.2.2.2 _ (sf_memc tw_224)) (fun _ h9 => h9) rfl dX6_atom_23 rfl ?_
        refine sf_getI (C := RX0) (T := TX0) (N := 10) (ci := 0) (j := 3) X (fun w h => sf_memc (inX0 w h)) rfl rfl (by decide) (X.1.2.2.2.2 _ (sf_memc tw_85)) (fun _ h9 => h9) rfl dX6_atom_26 rfl ?_
        refine sf_bipush (v := 7) X dX6_atom_29 sf_bc_7 rfl ?_
        refine sf_icmp_lt (tgt := 37) X dX6_atom_31 rfl rfl (fun c7 => ?_) (fun c7 => ?_)
        · have h := sf_ift c7 h
          refine sf_aload_n (i := 0) (j := 0) X dX6_atom_37 rfl rfl rfl ?_
          refine sf_iconst (v := 0) X dX6_atom_38 sf_ic_0 rfl ?_
          refine sf_putI (C := RX6) (T := TX6) (N := 11) (ci := 6) (j := 10) (ty := .boolean) X (fun w h => sf_memc (inX6 w h)) rfl rfl (by decide) (X.1.2.2.2.2 _ (sf_memc tw_234)) (fun _ h9 => h9) tyX6 tyX6_ok nmX6 rfl (by decide +kernel) rfl rfl rfl dX6_atom_39 rfl (fun τ8 hτ8 => ?_)
          have h := h τ8 hτ8
          refine sf_aload_n (i := 0) (j := 0) X dX6_atom_42 rfl rfl rfl ?_
          refine sf_getR (C := RX6) (T := TX6) (N := 11) (ci := 6) (j := 0) (k' := 1) X (fun w h => sf_memc (inX6 w h)) rfl rfl (by decide) (X.1.2.2.2.2 _ (sf_memc tw_224)) (fun _ h9 => h9) rfl dX6_atom_43 rfl ?_
          refine sf_iload_n (i := 1) (j := 1) X dX6_atom_46 rfl rfl rfl ?_
          refine sf_iload_n (i := 2) (j := 2) X dX6_atom_47 rfl rfl rfl ?_
          refine sf_iload_n (i := 3) (j := 3) X dX6_atom_48 rfl rfl rfl ?_
          obtain ⟨r11, τ10, hR9, h⟩ := h
          refine sf_callVi (As := [.int u0, .int u1, .int u2]) (rest := []) (cv := (RX0, TX0, 10)) X rfl rfl (c_X0_addAtom hq hR9) (cwV 3 X.1.2.2.2.2 (sf_gV tw_267 tw_268 tw_269 tw_42 tw_270) rfl rfl rfl ⟨rfl, hd_X0_addAtom⟩ ⟨Nat.le_of_ble_eq_true rfl, Nat.le_of_ble_eq_true rfl⟩) rfl rfl (Nat.le_of_ble_eq_true rfl) dX6_atom_49 rfl ?_
          exact sf_reti X h dX6_atom_52
        · have h := sf_iff c7 h
          refine sf_bipush (v := (-2)) X dX6_atom_34 sf_bc_m2 rfl ?_
          exact sf_reti X h dX6_atom_36
      · have h := sf_ift c6 h
        refine sf_iconst (v := (-1)) X dX6_atom_20 sf_ic_m1 rfl ?_
        exact sf_reti X h dX6_atom_21
def R_X0_hasAtom (σ : sf_St) (u0 : Int32) (r : Int32) (τ : sf_St) : Prop :=
  if u0 < (0 : Int32) then (r = (0 : Int32) ∧ τ = σ) else (if (σ 1 3) ≤ u0 then (r = (0 : Int32) ∧ τ = σ) else (r = (1 : Int32) ∧ τ = σ))
set_option maxHeartbeats 4000000 in
set_option maxRecDepth 100000 in
theorem c_X0_hasAtom {l : Launch} {D : va_G} {q : Nat → Nat} {dA : Nat → ClassId} {tv ta tb : Nat} (hq : sf_inj q KX) {σ τ : sf_St} {u0 : Int32} {r : Int32} (h : R_X0_hasAtom σ u0 r τ) : sf_Mi l yX0_hasAtom wsX0_hasAtom ({ frames := 0, cells := 0, slots := 0, locals := 0 }) D vwCl q dA KX (sf_EX q tv ta tb) [.ref (q 1), .int u0] σ r τ := by
  refine sf_meti (cc := cX0_hasAtom) (maxL := 2) (ret := (some .boolean)) (own := RX0) (by decide +kernel) rfl rfl hq sf_EXk (Nat.le_of_ble_eq_true rfl) ?_
  intro p e s m args below meth c X
  have hT := X.2.2.2.1.2.1
  unfold R_X0_hasAtom at h
  refine sf_loc (lv' := [(0, .ref (q 1)), (1, .int u0)]) [0, 1] rfl ?_
  refine sf_iload_n (i := 1) (j := 1) X dX0_hasAtom_0 rfl rfl rfl ?_
  refine sf_if_lt (tgt := 16) X dX0_hasAtom_1 rfl rfl (fun c1 => ?_) (fun c1 => ?_)
  · have h := sf_ift c1 h
    refine sf_iconst (v := 0) X dX0_hasAtom_16 sf_ic_0 rfl ?_
    exact sf_retz X h rfl dX0_hasAtom_17
  · have h := sf_iff c1 h
    refine sf_iload_n (i := 1) (j := 1) X dX0_hasAtom_4 rfl rfl rfl ?_
    refine sf_aload_n (i := 0) (j := 0) X dX0_hasAtom_5 rfl rfl rfl ?_
    refine sf_getI (C := RX0) (T := TX0) (N := 10) (ci := 0) (j := 3) X (fun w h => sf_memc (inX0 w h)) rfl rfl (by decide) (X.1.2.2.2.2 _ (sf_memc tw_81)) (fun _ h9 => h9) rfl dX0_hasAtom_6 rfl ?_
    refine sf_icmp_ge (tgt := 16) X dX0_hasAtom_9 rfl rfl (fun c2 => ?_) (fun c2 => ?_)
    · have h := sf_ift c2 h
      refine sf_iconst (v := 0) X dX0_hasAtom_16 sf_ic_0 rfl ?_
      exact sf_retz X h rfl dX0_hasAtom_17
    · have h := sf_iff c2 h
      refine sf_iconst (v := 1) X dX0_hasAtom_12 sf_ic_1 rfl ?_
      refine sf_goto (tgt := 17) X dX0_hasAtom_13 rfl ?_
      exact sf_retz X h rfl dX0_hasAtom_17
def R_X6_isMark (σ : sf_St) (u0 : Int32) (r : Int32) (τ : sf_St) : Prop :=
  if u0 < (0 : Int32) then (r = (0 : Int32) ∧ τ = σ) else (if (2 : Int32) < u0 then (r = (0 : Int32) ∧ τ = σ) else (r = (1 : Int32) ∧ τ = σ))
set_option maxHeartbeats 4000000 in
set_option maxRecDepth 100000 in
theorem c_X6_isMark {l : Launch} {D : va_G} {q : Nat → Nat} {dA : Nat → ClassId} {tv ta tb : Nat} (hq : sf_inj q KX) {σ τ : sf_St} {u0 : Int32} {r : Int32} (h : R_X6_isMark σ u0 r τ) : sf_Mi l yX6_isMark wsX6_isMark ({ frames := 0, cells := 0, slots := 0, locals := 0 }) D vwCl q dA KX (sf_EX q tv ta tb) [.int u0] σ r τ := by
  refine sf_meti (cc := cX6_isMark) (maxL := 1) (ret := (some .boolean)) (own := RX6) (by decide +kernel) rfl rfl hq sf_EXk (Nat.le_of_ble_eq_true rfl) ?_
  intro p e s m args below meth c X
  have hT := X.2.2.2.1.2.1
  unfold R_X6_isMark at h
  refine sf_loc (lv' := [(0, .int u0)]) [0] rfl ?_
  refine sf_iload_n (i := 0) (j := 0) X dX6_isMark_0 rfl rfl rfl ?_
  refine sf_if_lt (tgt := 13) X dX6_isMark_1 rfl rfl (fun c1 => ?_) (fun c1 => ?_)
  · have h := sf_ift c1 h
    refine sf_iconst (v := 0) X dX6_isMark_13 sf_ic_0 rfl ?_
    exact sf_retz X h rfl dX6_isMark_14
  · have h := sf_iff c1 h
    refine sf_iload_n (i := 0) (j := 0) X dX6_isMark_4 rfl rfl rfl ?_
    refine sf_iconst (v := 2) X dX6_isMark_5 sf_ic_2 rfl ?_
    refine sf_icmp_gt (tgt := 13) X dX6_isMark_6 rfl rfl (fun c2 => ?_) (fun c2 => ?_)
    · have h := sf_ift c2 h
      refine sf_iconst (v := 0) X dX6_isMark_13 sf_ic_0 rfl ?_
      exact sf_retz X h rfl dX6_isMark_14
    · have h := sf_iff c2 h
      refine sf_iconst (v := 1) X dX6_isMark_9 sf_ic_1 rfl ?_
      refine sf_goto (tgt := 14) X dX6_isMark_10 rfl ?_
      exact sf_retz X h rfl dX6_isMark_14
def R_X0_areBonded (σ : sf_St) (u0 u1 : Int32) (r : Int32) (τ : sf_St) : Prop :=
  vp_in u0 7 ∧ (vp_in u1 7 ∧ (if (σ (10 + sf_ix u0) (sf_ix u1)) = (0 : Int32) then (r = (0 : Int32) ∧ τ = σ) else (r = (1 : Int32) ∧ τ = σ)))
set_option maxHeartbeats 4000000 in
set_option maxRecDepth 100000 in
theorem c_X0_areBonded {l : Launch} {D : va_G} {q : Nat → Nat} {dA : Nat → ClassId} {tv ta tb : Nat} (hq : sf_inj q KX) {σ τ : sf_St} {u0 u1 : Int32} {r : Int32} (h : R_X0_areBonded σ u0 u1 r τ) : sf_Mi l yX0_areBonded wsX0_areBonded ({ frames := 0, cells := 0, slots := 0, locals := 0 }) D vwCl q dA KX (sf_EX q tv ta tb) [.ref (q 1), .int u0, .int u1] σ r τ := by
  refine sf_meti (cc := cX0_areBonded) (maxL := 3) (ret := (some .boolean)) (own := RX0) (by decide +kernel) rfl rfl hq sf_EXk (Nat.le_of_ble_eq_true rfl) ?_
  intro p e s m args below meth c X
  have hT := X.2.2.2.1.2.1
  unfold R_X0_areBonded at h
  refine sf_loc (lv' := [(0, .ref (q 1)), (1, .int u0), (2, .int u1)]) [0, 1, 2] rfl ?_
  refine sf_aload_n (i := 0) (j := 0) X dX0_areBonded_0 rfl rfl rfl ?_
  refine sf_getR (C := RX0) (T := TX0) (N := 10) (ci := 0) (j := 9) (k' := 9) X (fun w h => sf_memc (inX0 w h)) rfl rfl (by decide) (X.1.2.2.2.2 _ (sf_memc tw_99)) (fun _ h9 => h9) rfl dX0_areBonded_1 rfl ?_
  refine sf_iload_n (i := 1) (j := 1) X dX0_areBonded_4 rfl rfl rfl ?_
  obtain ⟨b1, h⟩ := h
  refine sf_aald (k' := (10 + sf_ix u0)) X rfl b1 (sf_lkR b1) dX0_areBonded_5 rfl ?_
  refine sf_iload_n (i := 2) (j := 2) X dX0_areBonded_6 rfl rfl rfl ?_
  obtain ⟨b2, h⟩ := h
  refine sf_iald X (sf_lkK b1) b2 dX0_areBonded_7 rfl ?_
  refine sf_if_eq (tgt := 15) X dX0_areBonded_8 rfl rfl (fun c3 => ?_) (fun c3 => ?_)
  · have h := sf_ift c3 h
    refine sf_iconst (v := 0) X dX0_areBonded_15 sf_ic_0 rfl ?_
    exact sf_retz X h rfl dX0_areBonded_16
  · have h := sf_iff c3 h
    refine sf_iconst (v := 1) X dX0_areBonded_11 sf_ic_1 rfl ?_
    refine sf_goto (tgt := 16) X dX0_areBonded_12 rfl ?_
    exact sf_retz X h rfl dX0_areBonded_16
def R_X0_orderOf (σ : sf_St) (u0 u1 : Int32) (r : Int32) (τ : sf_St) : Prop :=
  vp_in u0 7 ∧ (vp_in u1 7 ∧ (∀ y3 : Int32, y3 = (σ (10 + sf_ix u0) (sf_ix u1)) → (if y3 = (0 : Int32) then (r = (0 : Int32) ∧ τ = σ) else (vp_in (y3 - (1 : Int32)) 9 ∧ (r = (σ 7 (sf_ix (y3 - (1 : Int32)))) ∧ τ = σ)))))
set_option maxHeartbeats 4000000 in
set_option maxRecDepth 100000 in
theorem c_X0_orderOf {l : Launch} {D : va_G} {q : Nat → Nat} {dA : Nat → ClassId} {tv ta tb : Nat} (hq : sf_inj q KX) {σ τ : sf_St} {u0 u1 : Int32} {r : Int32} (h : R_X0_orderOf σ u0 u1 r τ) : sf_Mi l yX0_orderOf wsX0_orderOf ({ frames := 0, cells := 0, slots := 0, locals := 0 }) D vwCl q dA KX (sf_EX q tv ta tb) [.ref (q 1), .int u0, .int u1] σ r τ := by
  refine sf_meti (cc := cX0_orderOf) (maxL := 4) (ret := (some .int)) (own := RX0) (by decide +kernel) rfl rfl hq sf_EXk (Nat.le_of_ble_eq_true rfl) ?_
  intro p e s m args below meth c X
  have hT := X.2.2.2.1.2.1
  unfold R_X0_orderOf at h
  refine sf_loc (lv' := [(0, .ref (q 1)), (1, .int u0), (2, .int u1)]) [0, 1, 2] rfl ?_
  refine sf_aload_n (i := 0) (j := 0) X dX0_orderOf_0 rfl rfl rfl ?_
  refine sf_getR (C := RX0) (T := TX0) (N := 10) (ci := 0) (j := 9) (k' := 9) X (fun w h => sf_memc (inX0 w h)) rfl rfl (by decide) (X.1.2.2.2.2 _ (sf_memc tw_99)) (fun _ h9 => h9) rfl dX0_orderOf_1 rfl ?_
  refine sf_iload_n (i := 1) (j := 1) X dX0_orderOf_4 rfl rfl rfl ?_
  obtain ⟨b1, h⟩ := h
  refine sf_aald (k' := (10 + sf_ix u0)) X rfl b1 (sf_lkR b1) dX0_orderOf_5 rfl ?_
  refine sf_iload_n (i := 2) (j := 2) X dX0_orderOf_6 rfl rfl rfl ?_
  obtain ⟨b2, h⟩ := h
  refine sf_iald X (sf_lkK b1) b2 dX0_orderOf_7 rfl ?_
  refine sf_top (fun y3 hy3 => ?_)
  have h := h y3 hy3
  refine sf_istore_n (i := 3) (lv' := [(3, .int y3), (0, .ref (q 1)), (1, .int u0), (2, .int u1)]) X dX0_orderOf_8 rfl (by decide) rfl rfl ?_
  refine sf_iload_n (i := 3) (j := 0) X dX0_orderOf_9 rfl rfl rfl ?_
  refine sf_if_eq (tgt := 24) X dX0_orderOf_10 rfl rfl (fun c4 => ?_) (fun c4 => ?_)
  · have h := sf_ift c4 h
    refine sf_iconst (v := 0) X dX0_orderOf_24 sf_ic_0 rfl ?_
    exact sf_reti X h dX0_orderOf_25
  · have h := sf_iff c4 h
    refine sf_aload_n (i := 0) (j := 1) X dX0_orderOf_13 rfl rfl rfl ?_
    refine sf_getR (C := RX0) (T := TX0) (N := 10) (ci := 0) (j := 6) (k' := 7) X (fun w h => sf_memc (inX0 w h)) rfl rfl (by decide) (X.1.2.2.2.2 _ (sf_memc tw_93)) (fun _ h9 => h9) rfl dX0_orderOf_14 rfl ?_
    refine sf_iload_n (i := 3) (j := 0) X dX0_orderOf_17 rfl rfl rfl ?_
    refine sf_iconst (v := 1) X dX0_orderOf_18 sf_ic_1 rfl ?_
    refine sf_isub X dX0_orderOf_19 rfl ?_
    obtain ⟨b5, h⟩ := h
    refine sf_iald X rfl b5 dX0_orderOf_20 rfl ?_
    refine sf_goto (tgt := 25) X dX0_orderOf_21 rfl ?_
    exact sf_reti X h dX0_orderOf_25
def tr_R_X0_freeValence_0 (Pr : Nat → sf_St → Int32 → Int32 → Int32 → Prop) (r : Int32) (τ : sf_St) (σ : sf_St) (u0 u1 u2 : Int32) : Prop :=
  vp_in u0 7 ∧ (vp_in (σ 2 (sf_ix u0)) 6 ∧ (∀ y3 : Int32, y3 = (sf_val (σ 2 (sf_ix u0))) → (Pr 1 σ u0 y3 (0 : Int32))))
def tr_R_X0_freeValence_1 (Pr : Nat → sf_St → Int32 → Int32 → Int32 → Prop) (r : Int32) (τ : sf_St) (σ : sf_St) (u0 u1 u2 : Int32) : Prop :=
  if (σ 1 3) ≤ u2 then (r = u1 ∧ τ = σ) else (∃ (r7 : Int32) (τ6 : sf_St), R_X0_orderOf σ u0 u2 r7 τ6 ∧ (∀ y8 : Int32, y8 = (u1 - r7) → (∀ y9 : Int32, y9 = u2 + (1 : Int32) → (Pr 1 τ6 u0 y8 y9))))
def fn_R_X0_freeValence (Pr : Nat → sf_St → Int32 → Int32 → Int32 → Prop) (r : Int32) (τ : sf_St) (t : Nat) (σ : sf_St) (u0 u1 u2 : Int32) : Prop := match t with
  | 0 => tr_R_X0_freeValence_0 Pr r τ σ u0 u1 u2
  | 1 => tr_R_X0_freeValence_1 Pr r τ σ u0 u1 u2
  | _ => False
def Rn_R_X0_freeValence (t : Nat) (σ : sf_St) (u0 u1 u2 : Int32) (r : Int32) (τ : sf_St) : Prop := ∀ Pr : Nat → sf_St → Int32 → Int32 → Int32 → Prop, (∀ (t : Nat) (σ : sf_St) (u0 u1 u2 : Int32), fn_R_X0_freeValence Pr r τ t σ u0 u1 u2 → Pr t σ u0 u1 u2) → Pr t σ u0 u1 u2
def R_X0_freeValence (σ : sf_St) (u0 : Int32) (r : Int32) (τ : sf_St) : Prop := Rn_R_X0_freeValence 0 σ u0 0 0 r τ
theorem fe_R_X0_freeValence_0 {Pr : Nat → sf_St → Int32 → Int32 → Int32 → Prop} {r : Int32} {τ σ : sf_St} {u0 u1 u2 : Int32} (h : fn_R_X0_freeValence Pr r τ 0 σ u0 u1 u2) : tr_R_X0_freeValence_0 Pr r τ σ u0 u1 u2 := h
theorem mo_R_X0_freeValence_0 {Pr Pr' : Nat → sf_St → Int32 → Int32 → Int32 → Prop} {r : Int32} {τ σ : sf_St} {u0 u1 u2 : Int32} (hP : ∀ (t : Nat) (σ : sf_St) (u0 u1 u2 : Int32), Pr t σ u0 u1 u2 → Pr' t σ u0 u1 u2) (h : tr_R_X0_freeValence_0 Pr r τ σ u0 u1 u2) : tr_R_X0_freeValence_0 Pr' r τ σ u0 u1 u2 := by
  unfold tr_R_X0_freeValence_0 at h ⊢
  refine And.imp id (fun h => ?_) h
  refine And.imp id (fun h => ?_) h
  intro y3 hy3
  have h := h y3 hy3
  exact hP _ _ _ _ _ h
theorem ru_R_X0_freeValence_0 {r : Int32} {τ σ : sf_St} {u0 u1 u2 : Int32} (h : tr_R_X0_freeValence_0 (fun t σ u0 u1 u2 => Rn_R_X0_freeValence t σ u0 u1 u2 r τ) r τ σ u0 u1 u2) : Rn_R_X0_freeValence 0 σ u0 u1 u2 r τ := fun Pr hP => hP 0 σ u0 u1 u2 (mo_R_X0_freeValence_0 (fun _ _ _ _ _ h => h Pr hP) h)
theorem fe_R_X0_freeValence_1 {Pr : Nat → sf_St → Int32 → Int32 → Int32 → Prop} {r : Int32} {τ σ : sf_St} {u0 u1 u2 : Int32} (h : fn_R_X0_freeValence Pr r τ 1 σ u0 u1 u2) : tr_R_X0_freeValence_1 Pr r τ σ u0 u1 u2 := h
theorem mo_R_X0_freeValence_1 {Pr Pr' : Nat → sf_St → Int32 → Int32 → Int32 → Prop} {r : Int32} {τ σ : sf_St} {u0 u1 u2 : Int32} (hP : ∀ (t : Nat) (σ : sf_St) (u0 u1 u2 : Int32), Pr t σ u0 u1 u2 → Pr' t σ u0 u1 u2) (h : tr_R_X0_freeValence_1 Pr r τ σ u0 u1 u2) : tr_R_X0_freeValence_1 Pr' r τ σ u0 u1 u2 := by
  unfold tr_R_X0_freeValence_1 at h ⊢
  refine sf_mif (fun h => ?_) (fun h => ?_) h
  · exact h
  · refine Exists.imp (fun _ h => Exists.imp (fun _ h => And.imp id (fun h => ?_) h) h) h
    intro y8 hy8
    have h := h y8 hy8
    intro y9 hy9
    have h := h y9 hy9
    exact hP _ _ _ _ _ h
theorem ru_R_X0_freeValence_1 {r : Int32} {τ σ : sf_St} {u0 u1 u2 : Int32} (h : tr_R_X0_freeValence_1 (fun t σ u0 u1 u2 => Rn_R_X0_freeValence t σ u0 u1 u2 r τ) r τ σ u0 u1 u2) : Rn_R_X0_freeValence 1 σ u0 u1 u2 r τ := fun Pr hP => hP 1 σ u0 u1 u2 (mo_R_X0_freeValence_1 (fun _ _ _ _ _ h => h Pr hP) h)
set_option maxHeartbeats 4000000 in
set_option maxRecDepth 100000 in
theorem c_X0_freeValence {l : Launch} {D : va_G} {q : Nat → Nat} {dA : Nat → ClassId} {tv ta tb : Nat} (hq : sf_inj q KX) {σ τ : sf_St} {u0 : Int32} {r : Int32} (h : R_X0_freeValence σ u0 r τ) : sf_Mi l yX0_freeValence wsX0_freeValence ({ frames := 1, cells := 0, slots := 0, locals := 23 }) D vwCl q dA KX (sf_EX q tv ta tb) [.ref (q 1), .int u0] σ r τ := by
  refine sf_meti (cc := cX0_freeValence) (maxL := 4) (ret := (some .int)) (own := RX0) (by decide +kernel) rfl rfl hq sf_EXk (Nat.le_of_ble_eq_true rfl) ?_
  intro p e s m args below meth c X
  have hT := X.2.2.2.1.2.1
  refine sf_loc (lv' := [(0, .ref (q 1)), (1, .int u0)]) [0, 1] rfl ?_
  refine h (fun t σ u0 u1 u2 => match t with
    | 0 => sf_G p l e (headSpec wsX0_freeValence ({ frames := 1, cells := 0, slots := 0, locals := 23 })).room s m args below meth c (sf_Qi D vwCl q dA KX (sf_EX q tv ta tb) below args s r τ) 4 D vwCl q dA KX σ 0 [(0, .ref (q 1)), (1, .int u0)] []
    | 1 => sf_G p l e (headSpec wsX0_freeValence ({ frames := 1, cells := 0, slots := 0, locals := 23 })).room s m args below meth c (sf_Qi D vwCl q dA KX (sf_EX q tv ta tb) below args s r τ) 4 D vwCl q dA KX σ 13 [(0, .ref (q 1)), (1, .int u0), (2, .int u1), (3, .int u2)] []
    | _ => True) ?_
  intro t σ u0 u1 u2 h
  match t, h with
  | 0, h =>
      replace h := fe_R_X0_freeValence_0 h
      unfold tr_R_X0_freeValence_0 at h
      show sf_G p l e (headSpec wsX0_freeValence ({ frames := 1, cells := 0, slots := 0, locals := 23 })).room s m args below meth c (sf_Qi D vwCl q dA KX (sf_EX q tv ta tb) below args s r τ) 4 D vwCl q dA KX σ 0 [(0, .ref (q 1)), (1, .int u0)] []
      refine sf_getsN (v := .ref tv) X X.2.2.2.1.1 (va_Nw.use rfl (X.2.2.2.1.2.2.1 _ (List.mem_of_getElem? (i := 0) rfl))) (fun _ h9 => h9) dX0_freeValence_0 rfl ?_
      refine sf_aload_n (i := 0) (j := 0) X dX0_freeValence_3 rfl rfl rfl ?_
      refine sf_getR (C := RX0) (T := TX0) (N := 10) (ci := 0) (j := 0) (k' := 2) X (fun w h => sf_memc (inX0 w h)) rfl rfl (by decide) (X.1.2.2.2.2 _ (sf_memc tw_72)) (fun _ h9 => h9) rfl dX0_freeValence_4 rfl ?_
      refine sf_iload_n (i := 1) (j := 1) X dX0_freeValence_7 rfl rfl rfl ?_
      obtain ⟨b1, h⟩ := h
      refine sf_iald X rfl b1 dX0_freeValence_8 rfl ?_
      obtain ⟨b2, h⟩ := h
      refine sf_ti (v := sf_val (σ 2 (sf_ix u0))) X hT b2 rfl dX0_freeValence_9 rfl ?_
      refine sf_top (fun y3 hy3 => ?_)
      have h := h y3 hy3
      refine sf_istore_n (i := 2) (lv' := [(2, .int y3), (0, .ref (q 1)), (1, .int u0)]) X dX0_freeValence_10 rfl (by decide) rfl rfl ?_
      refine sf_iconst (v := 0) X dX0_freeValence_11 sf_ic_0 rfl ?_
      refine sf_istore_n (i := 3) (lv' := [(3, .int (0 : Int32)), (2, .int y3), (0, .ref (q 1)), (1, .int u0)]) X dX0_freeValence_12 rfl (by decide) rfl rfl ?_
      refine sf_loc (lv' := [(0, .ref (q 1)), (1, .int u0), (2, .int y3), (3, .int (0 : Int32))]) [2, 3, 1, 0] rfl ?_
      exact h
  | 1, h =>
      replace h := fe_R_X0_freeValence_1 h
      unfold tr_R_X0_freeValence_1 at h
      show sf_G p l e (headSpec wsX0_freeValence ({ frames := 1, cells := 0, slots := 0, locals := 23 })).room s m args below meth c (sf_Qi D vwCl q dA KX (sf_EX q tv ta tb) below args s r τ) 4 D vwCl q dA KX σ 13 [(0, .ref (q 1)), (1, .int u0), (2, .int u1), (3, .int u2)] []
      refine sf_iload_n (i := 3) (j := 3) X dX0_freeValence_13 rfl rfl rfl ?_
      refine sf_aload_n (i := 0) (j := 0) X dX0_freeValence_14 rfl rfl rfl ?_
      refine sf_getI (C := RX0) (T := TX0) (N := 10) (ci := 0) (j := 3) X (fun w h => sf_memc (inX0 w h)) rfl rfl (by decide) (X.1.2.2.2.2 _ (sf_memc tw_81)) (fun _ h9 => h9) rfl dX0_freeValence_15 rfl ?_
      refine sf_icmp_ge (tgt := 36) X dX0_freeValence_18 rfl rfl (fun c4 => ?_) (fun c4 => ?_)
      · have h := sf_ift c4 h
        refine sf_iload_n (i := 2) (j := 2) X dX0_freeValence_36 rfl rfl rfl ?_
        exact sf_reti X h dX0_freeValence_37
      · have h := sf_iff c4 h
        refine sf_iload_n (i := 2) (j := 2) X dX0_freeValence_21 rfl rfl rfl ?_
        refine sf_aload_n (i := 0) (j := 0) X dX0_freeValence_22 rfl rfl rfl ?_
        refine sf_iload_n (i := 1) (j := 1) X dX0_freeValence_23 rfl rfl rfl ?_
        refine sf_iload_n (i := 3) (j := 3) X dX0_freeValence_24 rfl rfl rfl ?_
        obtain ⟨r7, τ6, hR5, h⟩ := h
        refine sf_callVi (As := [.int u0, .int u2]) (rest := [.int u1]) (cv := (RX0, TX0, 10)) X rfl rfl (c_X0_orderOf hq hR5) (cwV 2 X.1.2.2.2.2 (sf_gV tw_291 tw_292 tw_293 tw_42 tw_294) rfl rfl rfl ⟨rfl, hd_X0_orderOf⟩ ⟨Nat.le_of_ble_eq_true rfl, Nat.le_of_ble_eq_true rfl⟩) rfl rfl (Nat.le_of_ble_eq_true rfl) dX0_freeValence_25 rfl ?_
        refine sf_isub X dX0_freeValence_28 rfl ?_
        refine sf_top (fun y8 hy8 => ?_)
        have h := h y8 hy8
        refine sf_istore_n (i := 2) (lv' := [(2, .int y8), (0, .ref (q 1)), (1, .int u0), (3, .int u2)]) X dX0_freeValence_29 rfl (by decide) rfl rfl ?_
        refine sf_iinc (i := 3) (j := 3) (d := 1) (lv' := fun y9 => [(3, .int y9), (2, .int y8), (0, .ref (q 1)), (1, .int u0)]) X dX0_freeValence_30 rfl sf_ic_1 (by decide) (fun _ => rfl) rfl (fun y9 hy9 => ?_)
        have h := h y9 hy9
        refine sf_goto (tgt := 13) X dX0_freeValence_33 rfl ?_
        refine sf_loc (lv' := [(0, .ref (q 1)), (1, .int u0), (2, .int y8), (3, .int y9)]) [2, 3, 1, 0] rfl ?_
        exact h
  | (_ + 2), _ => exact trivial
def R_X0_addBond (σ : sf_St) (u0 u1 u2 u3 : Int32) (r : Int32) (τ : sf_St) : Prop :=
  ∀ y1 : Int32, y1 = (σ 1 8) → (vp_in y1 9 ∧ (∀ τ3 : sf_St, τ3 = sf_up σ 5 (sf_ix y1) u0 → (vp_in y1 9 ∧ (∀ τ5 : sf_St, τ5 = sf_up τ3 6 (sf_ix y1) u1 → (vp_in y1 9 ∧ (∀ τ7 : sf_St, τ7 = sf_up τ5 7 (sf_ix y1) u2 → (vp_in y1 9 ∧ (∀ τ9 : sf_St, τ9 = sf_up τ7 8 (sf_ix y1) u3 → (∀ τ10 : sf_St, τ10 = sf_up τ9 1 8 ((τ9 1 8) + (1 : Int32)) → (vp_in u0 7 ∧ (vp_in u1 7 ∧ (∀ τ13 : sf_St, τ13 = sf_up τ10 (10 + sf_ix u0) (sf_ix u1) (τ10 1 8) → (vp_in u1 7 ∧ (vp_in u0 7 ∧ (∀ τ16 : sf_St, τ16 = sf_up τ13 (10 + sf_ix u1) (sf_ix u0) (τ13 1 8) → (r = y1 ∧ τ = τ16))))))))))))))))
set_option maxHeartbeats 4000000 in
set_option maxRecDepth 100000 in
theorem c_X0_addBond {l : Launch} {D : va_G} {q : Nat → Nat} {dA : Nat → ClassId} {tv ta tb : Nat} (hq : sf_inj q KX) {σ τ : sf_St} {u0 u1 u2 u3 : Int32} {r : Int32} (h : R_X0_addBond σ u0 u1 u2 u3 r τ) : sf_Mi l yX0_addBond wsX0_addBond ({ frames := 0, cells := 0, slots := 0, locals := 0 }) D vwCl q dA KX (sf_EX q tv ta tb) [.ref (q 1), .int u0, .int u1, .int u2, .int u3] σ r τ := by
  refine sf_meti (cc := cX0_addBond) (maxL := 6) (ret := (some .int)) (own := RX0) (by decide +kernel) rfl rfl hq sf_EXk (Nat.le_of_ble_eq_true rfl) ?_
  intro p e s m args below meth c X
  have hT := X.2.2.2.1.2.1
  unfold R_X0_addBond at h
  refine sf_loc (lv' := [(0, .ref (q 1)), (1, .int u0), (2, .int u1), (3, .int u2), (4, .int u3)]) [0, 1, 2, 3, 4] rfl ?_
  refine sf_aload_n (i := 0) (j := 0) X dX0_addBond_0 rfl rfl rfl ?_
  refine sf_getI (C := RX0) (T := TX0) (N := 10) (ci := 0) (j := 8) X (fun w h => sf_memc (inX0 w h)) rfl rfl (by decide) (X.1.2.2.2.2 _ (sf_memc tw_96)) (fun _ h9 => h9) rfl dX0_addBond_1 rfl ?_
  refine sf_top (fun y1 hy1 => ?_)
  have h := h y1 hy1
  refine sf_istore (i := 5) (lv' := [(5, .int y1), (0, .ref (q 1)), (1, .int u0), (2, .int u1), (3, .int u2), (4, .int u3)]) X dX0_addBond_4 (by decide) rfl rfl ?_
  refine sf_aload_n (i := 0) (j := 1) X dX0_addBond_6 rfl rfl rfl ?_
  refine sf_getR (C := RX0) (T := TX0) (N := 10) (ci := 0) (j := 4) (k' := 5) X (fun w h => sf_memc (inX0 w h)) rfl rfl (by decide) (X.1.2.2.2.2 _ (sf_memc tw_87)) (fun _ h9 => h9) rfl dX0_addBond_7 rfl ?_
  refine sf_iload (i := 5) (j := 0) X dX0_addBond_10 rfl rfl ?_
  refine sf_iload_n (i := 1) (j := 2) X dX0_addBond_12 rfl rfl rfl ?_
  obtain ⟨b2, h⟩ := h
  refine sf_iast X rfl b2 dX0_addBond_13 rfl (fun τ3 hτ3 => ?_)
  have h := h τ3 hτ3
  refine sf_aload_n (i := 0) (j := 1) X dX0_addBond_14 rfl rfl rfl ?_
  refine sf_getR (C := RX0) (T := TX0) (N := 10) (ci := 0) (j := 5) (k' := 6) X (fun w h => sf_memc (inX0 w h)) rfl rfl (by decide) (X.1.2.2.2.2 _ (sf_memc tw_90)) (fun _ h9 => h9) rfl dX0_addBond_15 rfl ?_
  refine sf_iload (i := 5) (j := 0) X dX0_addBond_18 rfl rfl ?_
  refine sf_iload_n (i := 2) (j := 3) X dX0_addBond_20 rfl rfl rfl ?_
  obtain ⟨b4, h⟩ := h
  refine sf_iast X rfl b4 dX0_addBond_21 rfl (fun τ5 hτ5 => ?_)
  have h := h τ5 hτ5
  refine sf_aload_n (i := 0) (j := 1) X dX0_addBond_22 rfl rfl rfl ?_
  refine sf_getR (C := RX0) (T := TX0) (N := 10) (ci := 0) (j := 6) (k' := 7) X (fun w h => sf_memc (inX0 w h)) rfl rfl (by decide) (X.1.2.2.2.2 _ (sf_memc tw_93)) (fun _ h9 => h9) rfl dX0_addBond_23 rfl ?_
  refine sf_iload (i := 5) (j := 0) X dX0_addBond_26 rfl rfl ?_
  refine sf_iload_n (i := 3) (j := 4) X dX0_addBond_28 rfl rfl rfl ?_
  obtain ⟨b6, h⟩ := h
  refine sf_iast X rfl b6 dX0_addBond_29 rfl (fun τ7 hτ7 => ?_)
  have h := h τ7 hτ7
  refine sf_aload_n (i := 0) (j := 1) X dX0_addBond_30 rfl rfl rfl ?_
  refine sf_getR (C := RX0) (T := TX0) (N := 10) (ci := 0) (j := 7) (k' := 8) X (fun w h => sf_memc (inX0 w h)) rfl rfl (by decide) (X.1.2.2.2.2 _ (sf_memc tw_95)) (fun _ h9 => h9) rfl dX0_addBond_31 rfl ?_
  refine sf_iload (i := 5) (j := 0) X dX0_addBond_34 rfl rfl ?_
  refine sf_iload (i := 4) (j := 5) X dX0_addBond_36 rfl rfl ?_
  obtain ⟨b8, h⟩ := h
  refine sf_iast X rfl b8 dX0_addBond_38 rfl (fun τ9 hτ9 => ?_)
  have h := h τ9 hτ9
  refine sf_aload_n (i := 0) (j := 1) X dX0_addBond_39 rfl rfl rfl ?_
  refine sf_dup X dX0_addBond_40 rfl rfl ?_
  refine sf_getI (C := RX0) (T := TX0) (N := 10) (ci := 0) (j := 8) X (fun w h => sf_memc (inX0 w h)) rfl rfl (by decide) (X.1.2.2.2.2 _ (sf_memc tw_96)) (fun _ h9 => h9) rfl dX0_addBond_41 rfl ?_
  refine sf_iconst (v := 1) X dX0_addBond_44 sf_ic_1 rfl ?_
  refine sf_iadd X dX0_addBond_45 rfl ?_
  refine sf_putI (C := RX0) (T := TX0) (N := 10) (ci := 0) (j := 8) (ty := .int) X (fun w h => sf_memc (inX0 w h)) rfl rfl (by decide) (X.1.2.2.2.2 _ (sf_memc tw_96)) (fun _ h9 => h9) tyX0 tyX0_ok nmX0 rfl (by decide +kernel) rfl rfl rfl dX0_addBond_46 rfl (fun τ10 hτ10 => ?_)
  have h := h τ10 hτ10
  refine sf_aload_n (i := 0) (j := 1) X dX0_addBond_49 rfl rfl rfl ?_
  refine sf_getR (C := RX0) (T := TX0) (N := 10) (ci := 0) (j := 9) (k' := 9) X (fun w h => sf_memc (inX0 w h)) rfl rfl (by decide) (X.1.2.2.2.2 _ (sf_memc tw_99)) (fun _ h9 => h9) rfl dX0_addBond_50 rfl ?_
  refine sf_iload_n (i := 1) (j := 2) X dX0_addBond_53 rfl rfl rfl ?_
  obtain ⟨b11, h⟩ := h
  refine sf_aald (k' := (10 + sf_ix u0)) X rfl b11 (sf_lkR b11) dX0_addBond_54 rfl ?_
  refine sf_iload_n (i := 2) (j := 3) X dX0_addBond_55 rfl rfl rfl ?_
  refine sf_aload_n (i := 0) (j := 1) X dX0_addBond_56 rfl rfl rfl ?_
  refine sf_getI (C := RX0) (T := TX0) (N := 10) (ci := 0) (j := 8) X (fun w h => sf_memc (inX0 w h)) rfl rfl (by decide) (X.1.2.2.2.2 _ (sf_memc tw_96)) (fun _ h9 => h9) rfl dX0_addBond_57 rfl ?_
  obtain ⟨b12, h⟩ := h
  refine sf_iast X (sf_lkK b11) b12 dX0_addBond_60 rfl (fun τ13 hτ13 => ?_)
  have h := h τ13 hτ13
  refine sf_aload_n (i := 0) (j := 1) X dX0_addBond_61 rfl rfl rfl ?_
  refine sf_getR (C := RX0) (T := TX0) (N := 10) (ci := 0) (j := 9) (k' := 9) X (fun w h => sf_memc (inX0 w h)) rfl rfl (by decide) (X.1.2.2.2.2 _ (sf_memc tw_99)) (fun _ h9 => h9) rfl dX0_addBond_62 rfl ?_
  refine sf_iload_n (i := 2) (j := 3) X dX0_addBond_65 rfl rfl rfl ?_
  obtain ⟨b14, h⟩ := h
  refine sf_aald (k' := (10 + sf_ix u1)) X rfl b14 (sf_lkR b14) dX0_addBond_66 rfl ?_
  refine sf_iload_n (i := 1) (j := 2) X dX0_addBond_67 rfl rfl rfl ?_
  refine sf_aload_n (i := 0) (j := 1) X dX0_addBond_68 rfl rfl rfl ?_
  refine sf_getI (C := RX0) (T := TX0) (N := 10) (ci := 0) (j := 8) X (fun w h => sf_memc (inX0 w h)) rfl rfl (by decide) (X.1.2.2.2.2 _ (sf_memc tw_96)) (fun _ h9 => h9) rfl dX0_addBond_69 rfl ?_
  obtain ⟨b15, h⟩ := h
  refine sf_iast X (sf_lkK b14) b15 dX0_addBond_72 rfl (fun τ16 hτ16 => ?_)
  have h := h τ16 hτ16
  refine sf_iload (i := 5) (j := 0) X dX0_addBond_73 rfl rfl ?_
  exact sf_reti X h dX0_addBond_75
def R_X6_bond (σ : sf_St) (u0 u1 u2 u3 : Int32) (r : Int32) (τ : sf_St) : Prop :=
  ∃ (r3 : Int32) (τ2 : sf_St), R_X0_hasAtom σ u0 r3 τ2 ∧ (if r3 = (0 : Int32) then (r = (-1 : Int32) ∧ τ = τ2) else (∃ (r7 : Int32) (τ6 : sf_St), R_X0_hasAtom τ2 u1 r7 τ6 ∧ (if r7 = (0 : Int32) then (r = (-1 : Int32) ∧ τ = τ6) else (if u0 = u1 then (r = (-1 : Int32) ∧ τ = τ6) else (if u2 < (1 : Int32) then (r = (-1 : Int32) ∧ τ = τ6) else (if (3 : Int32) < u2 then (r = (-1 : Int32) ∧ τ = τ6) else (∃ (r14 : Int32) (τ13 : sf_St), R_X6_isMark τ6 u3 r14 τ13 ∧ (if r14 = (0 : Int32) then (r = (-1 : Int32) ∧ τ = τ13) else (∃ (r18 : Int32) (τ17 : sf_St), R_X0_areBonded τ13 u0 u1 r18 τ17 ∧ (if r18 = (0 : Int32) then (if (τ17 1 8) < (9 : Int32) then (∃ (r23 : Int32) (τ22 : sf_St), R_X0_freeValence τ17 u0 r23 τ22 ∧ (if r23 < u2 then (r = (-3 : Int32) ∧ τ = τ22) else (∃ (r27 : Int32) (τ26 : sf_St), R_X0_freeValence τ22 u1 r27 τ26 ∧ (if u2 ≤ r27 then (∀ τ29 : sf_St, τ29 = sf_up τ26 0 10 (0 : Int32) → (∃ (r32 : Int32) (τ31 : sf_St), R_X0_addBond τ29 u0 u1 u2 u3 r32 τ31 ∧ (r = r32 ∧ τ = τ31))) else (r = (-3 : Int32) ∧ τ = τ26))))) else (r = (-2 : Int32) ∧ τ = τ17)) else (r = (-1 : Int32) ∧ τ = τ17)))))))))))
set_option maxHeartbeats 4000000 in
set_option maxRecDepth 100000 in
theorem c_X6_bond {l : Launch} {D : va_G} {q : Nat → Nat} {dA : Nat → ClassId} {tv ta tb : Nat} (hq : sf_inj q KX) {σ τ : sf_St} {u0 u1 u2 u3 : Int32} {r : Int32} (h : R_X6_bond σ u0 u1 u2 u3 r τ) : sf_Mi l yX6_bond wsX6_bond ({ frames := 2, cells := 0, slots := 0, locals := 46 }) D vwCl q dA KX (sf_EX q tv ta tb) [.ref (q 0), .int u0, .int u1, .int u2, .int u3] σ r τ := by
  refine sf_meti (cc := cX6_bond) (maxL := 5) (ret := (some .int)) (own := RX6) (by decide +kernel) rfl rfl hq sf_EXk (Nat.le_of_ble_eq_true rfl) ?_
  intro p e s m args below meth c X
  have hT := X.2.2.2.1.2.1
  unfold R_X6_bond at h
  refine sf_loc (lv' := [(0, .ref (q 0)), (1, .int u0), (2, .int u1), (3, .int u2), (4, .int u3)]) [0, 1, 2, 3, 4] rfl ?_
  refine sf_aload_n (i := 0) (j := 0) X dX6_bond_0 rfl rfl rfl ?_
  refine sf_getR (C := RX6) (T := TX6) (N := 11) (ci := 6) (j := 0) (k' := 1) X (fun w h => sf_memc (inX6 w h)) rfl rfl (by decide) (X.1.2.2.2.2 _ (sf_memc tw_224)) (fun _ h9 => h9) rfl dX6_bond_1 rfl ?_
  refine sf_iload_n (i := 1) (j := 1) X dX6_bond_4 rfl rfl rfl ?_
  obtain ⟨r3, τ2, hR1, h⟩ := h
  refine sf_callVi (As := [.int u0]) (rest := []) (cv := (RX0, TX0, 10)) X rfl rfl (c_X0_hasAtom hq hR1) (cwV 1 X.1.2.2.2.2 (sf_gV tw_275 tw_276 tw_277 tw_42 tw_278) rfl rfl rfl ⟨rfl, hd_X0_hasAtom⟩ ⟨Nat.le_of_ble_eq_true rfl, Nat.le_of_ble_eq_true rfl⟩) rfl rfl (Nat.le_of_ble_eq_true rfl) dX6_bond_5 rfl ?_
  refine sf_if_eq (tgt := 27) X dX6_bond_8 rfl rfl (fun c4 => ?_) (fun c4 => ?_)
  · have h := sf_ift c4 h
    refine sf_iconst (v := (-1)) X dX6_bond_27 sf_ic_m1 rfl ?_
    exact sf_reti X h dX6_bond_28
  · have h := sf_iff c4 h
    refine sf_aload_n (i := 0) (j := 0) X dX6_bond_11 rfl rfl rfl ?_
    refine sf_getR (C := RX6) (T := TX6) (N := 11) (ci := 6) (j := 0) (k' := 1) X (fun w h => sf_memc (inX6 w h)) rfl rfl (by decide) (X.1.2.2.2.2 _ (sf_memc tw_224)) (fun _ h9 => h9) rfl dX6_bond_12 rfl ?_
    refine sf_iload_n (i := 2) (j := 2) X dX6_bond_15 rfl rfl rfl ?_
    obtain ⟨r7, τ6, hR5, h⟩ := h
    refine sf_callVi (As := [.int u1]) (rest := []) (cv := (RX0, TX0, 10)) X rfl rfl (c_X0_hasAtom hq hR5) (cwV 1 X.1.2.2.2.2 (sf_gV tw_275 tw_276 tw_277 tw_42 tw_278) rfl rfl rfl ⟨rfl, hd_X0_hasAtom⟩ ⟨Nat.le_of_ble_eq_true rfl, Nat.le_of_ble_eq_true rfl⟩) rfl rfl (Nat.le_of_ble_eq_true rfl) dX6_bond_16 rfl ?_
    refine sf_if_eq (tgt := 27) X dX6_bond_19 rfl rfl (fun c8 => ?_) (fun c8 => ?_)
    · have h := sf_ift c8 h
      refine sf_iconst (v := (-1)) X dX6_bond_27 sf_ic_m1 rfl ?_
      exact sf_reti X h dX6_bond_28
    · have h := sf_iff c8 h
      refine sf_iload_n (i := 1) (j := 1) X dX6_bond_22 rfl rfl rfl ?_
      refine sf_iload_n (i := 2) (j := 2) X dX6_bond_23 rfl rfl rfl ?_
      refine sf_icmp_ne (tgt := 29) X dX6_bond_24 rfl rfl (fun c9 => ?_) (fun c9 => ?_)
      · have h := sf_iff c9 h
        refine sf_iload_n (i := 3) (j := 3) X dX6_bond_29 rfl rfl rfl ?_
        refine sf_iconst (v := 1) X dX6_bond_30 sf_ic_1 rfl ?_
        refine sf_icmp_lt (tgt := 59) X dX6_bond_31 rfl rfl (fun c10 => ?_) (fun c10 => ?_)
        · have h := sf_ift c10 h
          refine sf_iconst (v := (-1)) X dX6_bond_59 sf_ic_m1 rfl ?_
          exact sf_reti X h dX6_bond_60
        · have h := sf_iff c10 h
          refine sf_iload_n (i := 3) (j := 3) X dX6_bond_34 rfl rfl rfl ?_
          refine sf_iconst (v := 3) X dX6_bond_35 sf_ic_3 rfl ?_
          refine sf_icmp_gt (tgt := 59) X dX6_bond_36 rfl rfl (fun c11 => ?_) (fun c11 => ?_)
          · have h := sf_ift c11 h
            refine sf_iconst (v := (-1)) X dX6_bond_59 sf_ic_m1 rfl ?_
            exact sf_reti X h dX6_bond_60
          · have h := sf_iff c11 h
            refine sf_iload (i := 4) (j := 4) X dX6_bond_39 rfl rfl ?_
            obtain ⟨r14, τ13, hR12, h⟩ := h
            refine sf_callSi (As := [.int u3]) (rest := []) X (c_X6_isMark hq hR12) (va_cwS 1 X.1.2.2.2.2 (sf_gS tw_279 tw_280 tw_41 tw_281) rfl rfl rfl hd_X6_isMark ⟨Nat.le_of_ble_eq_true rfl, Nat.le_of_ble_eq_true rfl⟩) rfl rfl (Nat.le_of_ble_eq_true rfl) dX6_bond_41 rfl ?_
            refine sf_if_eq (tgt := 59) X dX6_bond_44 rfl rfl (fun c15 => ?_) (fun c15 => ?_)
            · have h := sf_ift c15 h
              refine sf_iconst (v := (-1)) X dX6_bond_59 sf_ic_m1 rfl ?_
              exact sf_reti X h dX6_bond_60
            · have h := sf_iff c15 h
              refine sf_aload_n (i := 0) (j := 0) X dX6_bond_47 rfl rfl rfl ?_
              refine sf_getR (C := RX6) (T := TX6) (N := 11) (ci := 6) (j := 0) (k' := 1) X (fun w h => sf_memc (inX6 w h)) rfl rfl (by decide) (X.1.2.2.2.2 _ (sf_memc tw_224)) (fun _ h9 => h9) rfl dX6_bond_48 rfl ?_
              refine sf_iload_n (i := 1) (j := 1) X dX6_bond_51 rfl rfl rfl ?_
              refine sf_iload_n (i := 2) (j := 2) X dX6_bond_52 rfl rfl rfl ?_
              obtain ⟨r18, τ17, hR16, h⟩ := h
              refine sf_callVi (As := [.int u0, .int u1]) (rest := []) (cv := (RX0, TX0, 10)) X rfl rfl (c_X0_areBonded hq hR16) (cwV 2 X.1.2.2.2.2 (sf_gV tw_282 tw_283 tw_284 tw_42 tw_285) rfl rfl rfl ⟨rfl, hd_X0_areBonded⟩ ⟨Nat.le_of_ble_eq_true rfl, Nat.le_of_ble_eq_true rfl⟩) rfl rfl (Nat.le_of_ble_eq_true rfl) dX6_bond_53 rfl ?_
              refine sf_if_eq (tgt := 61) X dX6_bond_56 rfl rfl (fun c19 => ?_) (fun c19 => ?_)
              · have h := sf_ift c19 h
                refine sf_aload_n (i := 0) (j := 0) X dX6_bond_61 rfl rfl rfl ?_
                refine sf_getR (C := RX6) (T := TX6) (N := 11) (ci := 6) (j := 0) (k' := 1) X (fun w h => sf_memc (inX6 w h)) rfl rfl (by decide) (X.1.2.2.2.2 _ (sf_memc tw_224)) (fun _ h9 => h9) rfl dX6_bond_62 rfl ?_
                refine sf_getI (C := RX0) (T := TX0) (N := 10) (ci := 0) (j := 8) X (fun w h => sf_memc (inX0 w h)) rfl rfl (by decide) (X.1.2.2.2.2 _ (sf_memc tw_98)) (fun _ h9 => h9) rfl dX6_bond_65 rfl ?_
                refine sf_bipush (v := 9) X dX6_bond_68 sf_bc_9 rfl ?_
                refine sf_icmp_lt (tgt := 76) X dX6_bond_70 rfl rfl (fun c20 => ?_) (fun c20 => ?_)
                · have h := sf_ift c20 h
                  refine sf_iload_n (i := 3) (j := 3) X dX6_bond_76 rfl rfl rfl ?_
                  refine sf_aload_n (i := 0) (j := 0) X dX6_bond_77 rfl rfl rfl ?_
                  refine sf_getR (C := RX6) (T := TX6) (N := 11) (ci := 6) (j := 0) (k' := 1) X (fun w h => sf_memc (inX6 w h)) rfl rfl (by decide) (X.1.2.2.2.2 _ (sf_memc tw_224)) (fun _ h9 => h9) rfl dX6_bond_78 rfl ?_
                  refine sf_iload_n (i := 1) (j := 1) X dX6_bond_81 rfl rfl rfl ?_
                  obtain ⟨r23, τ22, hR21, h⟩ := h
                  refine sf_callVi (As := [.int u0]) (rest := [.int u2]) (cv := (RX0, TX0, 10)) X rfl rfl (c_X0_freeValence hq hR21) (cwV 1 X.1.2.2.2.2 (sf_gV tw_286 tw_287 tw_288 tw_42 tw_289) rfl rfl rfl ⟨rfl, hd_X0_freeValence⟩ ⟨Nat.le_of_ble_eq_true rfl, Nat.le_of_ble_eq_true rfl⟩) rfl rfl (Nat.le_of_ble_eq_true rfl) dX6_bond_82 rfl ?_
                  refine sf_icmp_gt (tgt := 100) X dX6_bond_85 rfl rfl (fun c24 => ?_) (fun c24 => ?_)
                  · have h := sf_ift c24 h
                    refine sf_bipush (v := (-3)) X dX6_bond_100 sf_bc_m3 rfl ?_
                    exact sf_reti X h dX6_bond_102
                  · have h := sf_iff c24 h
                    refine sf_iload_n (i := 3) (j := 3) X dX6_bond_88 rfl rfl rfl ?_
                    refine sf_aload_n (i := 0) (j := 0) X dX6_bond_89 rfl rfl rfl ?_
                    refine sf_getR (C := RX6) (T := TX6) (N := 11) (ci := 6) (j := 0) (k' := 1) X (fun w h => sf_memc (inX6 w h)) rfl rfl (by decide) (X.1.2.2.2.2 _ (sf_memc tw_224)) (fun _ h9 => h9) rfl dX6_bond_90 rfl ?_
                    refine sf_iload_n (i := 2) (j := 2) X dX6_bond_93 rfl rfl rfl ?_
                    obtain ⟨r27, τ26, hR25, h⟩ := h
                    refine sf_callVi (As := [.int u1]) (rest := [.int u2]) (cv := (RX0, TX0, 10)) X rfl rfl (c_X0_freeValence hq hR25) (cwV 1 X.1.2.2.2.2 (sf_gV tw_286 tw_287 tw_288 tw_42 tw_289) rfl rfl rfl ⟨rfl, hd_X0_freeValence⟩ ⟨Nat.le_of_ble_eq_true rfl, Nat.le_of_ble_eq_true rfl⟩) rfl rfl (Nat.le_of_ble_eq_true rfl) dX6_bond_94 rfl ?_
                    refine sf_icmp_le (tgt := 103) X dX6_bond_97 rfl rfl (fun c28 => ?_) (fun c28 => ?_)
                    · have h := sf_ift c28 h
                      refine sf_aload_n (i := 0) (j := 0) X dX6_bond_103 rfl rfl rfl ?_
                      refine sf_iconst (v := 0) X dX6_bond_104 sf_ic_0 rfl ?_
                      refine sf_putI (C := RX6) (T := TX6) (N := 11) (ci := 6) (j := 10) (ty := .boolean) X (fun w h => sf_memc (inX6 w h)) rfl rfl (by decide) (X.1.2.2.2.2 _ (sf_memc tw_234)) (fun _ h9 => h9) tyX6 tyX6_ok nmX6 rfl (by decide +kernel) rfl rfl rfl dX6_bond_105 rfl (fun τ29 hτ29 => ?_)
                      have h := h τ29 hτ29
                      refine sf_aload_n (i := 0) (j := 0) X dX6_bond_108 rfl rfl rfl ?_
                      refine sf_getR (C := RX6) (T := TX6) (N := 11) (ci := 6) (j := 0) (k' := 1) X (fun w h => sf_memc (inX6 w h)) rfl rfl (by decide) (X.1.2.2.2.2 _ (sf_memc tw_224)) (fun _ h9 => h9) rfl dX6_bond_109 rfl ?_
                      refine sf_iload_n (i := 1) (j := 1) X dX6_bond_112 rfl rfl rfl ?_
                      refine sf_iload_n (i := 2) (j := 2) X dX6_bond_113 rfl rfl rfl ?_
                      refine sf_iload_n (i := 3) (j := 3) X dX6_bond_114 rfl rfl rfl ?_
                      refine sf_iload (i := 4) (j := 4) X dX6_bond_115 rfl rfl ?_
                      obtain ⟨r32, τ31, hR30, h⟩ := h
                      refine sf_callVi (As := [.int u0, .int u1, .int u2, .int u3]) (rest := []) (cv := (RX0, TX0, 10)) X rfl rfl (c_X0_addBond hq hR30) (cwV 4 X.1.2.2.2.2 (sf_gV tw_295 tw_296 tw_297 tw_42 tw_298) rfl rfl rfl ⟨rfl, hd_X0_addBond⟩ ⟨Nat.le_of_ble_eq_true rfl, Nat.le_of_ble_eq_true rfl⟩) rfl rfl (Nat.le_of_ble_eq_true rfl) dX6_bond_117 rfl ?_
                      exact sf_reti X h dX6_bond_120
                    · have h := sf_iff c28 h
                      refine sf_bipush (v := (-3)) X dX6_bond_100 sf_bc_m3 rfl ?_
                      exact sf_reti X h dX6_bond_102
                · have h := sf_iff c20 h
                  refine sf_bipush (v := (-2)) X dX6_bond_73 sf_bc_m2 rfl ?_
                  exact sf_reti X h dX6_bond_75
              · have h := sf_iff c19 h
                refine sf_iconst (v := (-1)) X dX6_bond_59 sf_ic_m1 rfl ?_
                exact sf_reti X h dX6_bond_60
      · have h := sf_ift c9 h
        refine sf_iconst (v := (-1)) X dX6_bond_27 sf_ic_m1 rfl ?_
        exact sf_reti X h dX6_bond_28
def R_X6_move (σ : sf_St) (u0 u1 u2 : Int32) (r : Int32) (τ : sf_St) : Prop :=
  ∃ (r3 : Int32) (τ2 : sf_St), R_X0_hasAtom σ u0 r3 τ2 ∧ (if r3 = (0 : Int32) then (r = (0 : Int32) ∧ τ = τ2) else (∃ (r7 : Int32) (τ6 : sf_St), R_X6_isPlace τ2 u1 u2 r7 τ6 ∧ (if r7 = (0 : Int32) then (r = (0 : Int32) ∧ τ = τ6) else (∀ τ9 : sf_St, τ9 = sf_up τ6 0 10 (0 : Int32) → (vp_in u0 7 ∧ (∀ τ11 : sf_St, τ11 = sf_up τ9 3 (sf_ix u0) u1 → (vp_in u0 7 ∧ (∀ τ13 : sf_St, τ13 = sf_up τ11 4 (sf_ix u0) u2 → (r = (1 : Int32) ∧ τ = τ13)))))))))
set_option maxHeartbeats 4000000 in
set_option maxRecDepth 100000 in
theorem c_X6_move {l : Launch} {D : va_G} {q : Nat → Nat} {dA : Nat → ClassId} {tv ta tb : Nat} (hq : sf_inj q KX) {σ τ : sf_St} {u0 u1 u2 : Int32} {r : Int32} (h : R_X6_move σ u0 u1 u2 r τ) : sf_Mi l yX6_move wsX6_move ({ frames := 1, cells := 0, slots := 0, locals := 21 }) D vwCl q dA KX (sf_EX q tv ta tb) [.ref (q 0), .int u0, .int u1, .int u2] σ r τ := by
  refine sf_meti (cc := cX6_move) (maxL := 4) (ret := (some .boolean)) (own := RX6) (by decide +kernel) rfl rfl hq sf_EXk (Nat.le_of_ble_eq_true rfl) ?_
  intro p e s m args below meth c X
  have hT := X.2.2.2.1.2.1
  unfold R_X6_move at h
  refine sf_loc (lv' := [(0, .ref (q 0)), (1, .int u0), (2, .int u1), (3, .int u2)]) [0, 1, 2, 3] rfl ?_
  refine sf_aload_n (i := 0) (j := 0) X dX6_move_0 rfl rfl rfl ?_
  refine sf_getR (C := RX6) (T := TX6) (N := 11) (ci := 6) (j := 0) (k' := 1) X (fun w h => sf_memc (inX6 w h)) rfl rfl (by decide) (X.1.2.2.2.2 _ (sf_memc tw_224)) (fun _ h9 => h9) rfl dX6_move_1 rfl ?_
  refine sf_iload_n (i := 1) (j := 1) X dX6_move_4 rfl rfl rfl ?_
  obtain ⟨r3, τ2, hR1, h⟩ := h
  refine sf_callVi (As := [.int u0]) (rest := []) (cv := (RX0, TX0, 10)) X rfl rfl (c_X0_hasAtom hq hR1) (cwV 1 X.1.2.2.2.2 (sf_gV tw_275 tw_276 tw_277 tw_42 tw_278) rfl rfl rfl ⟨rfl, hd_X0_hasAtom⟩ ⟨Nat.le_of_ble_eq_true rfl, Nat.le_of_ble_eq_true rfl⟩) rfl rfl (Nat.le_of_ble_eq_true rfl) dX6_move_5 rfl ?_
  refine sf_if_eq (tgt := 19) X dX6_move_8 rfl rfl (fun c4 => ?_) (fun c4 => ?_)
  · have h := sf_ift c4 h
    refine sf_iconst (v := 0) X dX6_move_19 sf_ic_0 rfl ?_
    exact sf_retz X h rfl dX6_move_20
  · have h := sf_iff c4 h
    refine sf_iload_n (i := 2) (j := 2) X dX6_move_11 rfl rfl rfl ?_
    refine sf_iload_n (i := 3) (j := 3) X dX6_move_12 rfl rfl rfl ?_
    obtain ⟨r7, τ6, hR5, h⟩ := h
    refine sf_callSi (As := [.int u1, .int u2]) (rest := []) X (c_X6_isPlace hq hR5) (va_cwS 2 X.1.2.2.2.2 (sf_gS tw_264 tw_265 tw_41 tw_266) rfl rfl rfl hd_X6_isPlace ⟨Nat.le_of_ble_eq_true rfl, Nat.le_of_ble_eq_true rfl⟩) rfl rfl (Nat.le_of_ble_eq_true rfl) dX6_move_13 rfl ?_
    refine sf_if_ne (tgt := 21) X dX6_move_16 rfl rfl (fun c8 => ?_) (fun c8 => ?_)
    · have h := sf_iff c8 h
      refine sf_aload_n (i := 0) (j := 0) X dX6_move_21 rfl rfl rfl ?_
      refine sf_iconst (v := 0) X dX6_move_22 sf_ic_0 rfl ?_
      refine sf_putI (C := RX6) (T := TX6) (N := 11) (ci := 6) (j := 10) (ty := .boolean) X (fun w h => sf_memc (inX6 w h)) rfl rfl (by decide) (X.1.2.2.2.2 _ (sf_memc tw_234)) (fun _ h9 => h9) tyX6 tyX6_ok nmX6 rfl (by decide +kernel) rfl rfl rfl dX6_move_23 rfl (fun τ9 hτ9 => ?_)
      have h := h τ9 hτ9
      refine sf_aload_n (i := 0) (j := 0) X dX6_move_26 rfl rfl rfl ?_
      refine sf_getR (C := RX6) (T := TX6) (N := 11) (ci := 6) (j := 0) (k' := 1) X (fun w h => sf_memc (inX6 w h)) rfl rfl (by decide) (X.1.2.2.2.2 _ (sf_memc tw_224)) (fun _ h9 => h9) rfl dX6_move_27 rfl ?_
      refine sf_getR (C := RX0) (T := TX0) (N := 10) (ci := 0) (j := 1) (k' := 3) X (fun w h => sf_memc (inX0 w h)) rfl rfl (by decide) (X.1.2.2.2.2 _ (sf_memc tw_76)) (fun _ h9 => h9) rfl dX6_move_30 rfl ?_
      refine sf_iload_n (i := 1) (j := 1) X dX6_move_33 rfl rfl rfl ?_
      refine sf_iload_n (i := 2) (j := 2) X dX6_move_34 rfl rfl rfl ?_
      obtain ⟨b10, h⟩ := h
      refine sf_iast X rfl b10 dX6_move_35 rfl (fun τ11 hτ11 => ?_)
      have h := h τ11 hτ11
      refine sf_aload_n (i := 0) (j := 0) X dX6_move_36 rfl rfl rfl ?_
      refine sf_getR (C := RX6) (T := TX6) (N := 11) (ci := 6) (j := 0) (k' := 1) X (fun w h => sf_memc (inX6 w h)) rfl rfl (by decide) (X.1.2.2.2.2 _ (sf_memc tw_224)) (fun _ h9 => h9) rfl dX6_move_37 rfl ?_
      refine sf_getR (C := RX0) (T := TX0) (N := 10) (ci := 0) (j := 2) (k' := 4) X (fun w h => sf_memc (inX0 w h)) rfl rfl (by decide) (X.1.2.2.2.2 _ (sf_memc tw_79)) (fun _ h9 => h9) rfl dX6_move_40 rfl ?_
      refine sf_iload_n (i := 1) (j := 1) X dX6_move_43 rfl rfl rfl ?_
      refine sf_iload_n (i := 3) (j := 3) X dX6_move_44 rfl rfl rfl ?_
      obtain ⟨b12, h⟩ := h
      refine sf_iast X rfl b12 dX6_move_45 rfl (fun τ13 hτ13 => ?_)
      have h := h τ13 hτ13
      refine sf_iconst (v := 1) X dX6_move_46 sf_ic_1 rfl ?_
      exact sf_retz X h rfl dX6_move_47
    · have h := sf_ift c8 h
      refine sf_iconst (v := 0) X dX6_move_19 sf_ic_0 rfl ?_
      exact sf_retz X h rfl dX6_move_20
def R_X0_hasBond (σ : sf_St) (u0 : Int32) (r : Int32) (τ : sf_St) : Prop :=
  if u0 < (0 : Int32) then (r = (0 : Int32) ∧ τ = σ) else (if (σ 1 8) ≤ u0 then (r = (0 : Int32) ∧ τ = σ) else (r = (1 : Int32) ∧ τ = σ))
set_option maxHeartbeats 4000000 in
set_option maxRecDepth 100000 in
theorem c_X0_hasBond {l : Launch} {D : va_G} {q : Nat → Nat} {dA : Nat → ClassId} {tv ta tb : Nat} (hq : sf_inj q KX) {σ τ : sf_St} {u0 : Int32} {r : Int32} (h : R_X0_hasBond σ u0 r τ) : sf_Mi l yX0_hasBond wsX0_hasBond ({ frames := 0, cells := 0, slots := 0, locals := 0 }) D vwCl q dA KX (sf_EX q tv ta tb) [.ref (q 1), .int u0] σ r τ := by
  refine sf_meti (cc := cX0_hasBond) (maxL := 2) (ret := (some .boolean)) (own := RX0) (by decide +kernel) rfl rfl hq sf_EXk (Nat.le_of_ble_eq_true rfl) ?_
  intro p e s m args below meth c X
  have hT := X.2.2.2.1.2.1
  unfold R_X0_hasBond at h
  refine sf_loc (lv' := [(0, .ref (q 1)), (1, .int u0)]) [0, 1] rfl ?_
  refine sf_iload_n (i := 1) (j := 1) X dX0_hasBond_0 rfl rfl rfl ?_
  refine sf_if_lt (tgt := 16) X dX0_hasBond_1 rfl rfl (fun c1 => ?_) (fun c1 => ?_)
  · have h := sf_ift c1 h
    refine sf_iconst (v := 0) X dX0_hasBond_16 sf_ic_0 rfl ?_
    exact sf_retz X h rfl dX0_hasBond_17
  · have h := sf_iff c1 h
    refine sf_iload_n (i := 1) (j := 1) X dX0_hasBond_4 rfl rfl rfl ?_
    refine sf_aload_n (i := 0) (j := 0) X dX0_hasBond_5 rfl rfl rfl ?_
    refine sf_getI (C := RX0) (T := TX0) (N := 10) (ci := 0) (j := 8) X (fun w h => sf_memc (inX0 w h)) rfl rfl (by decide) (X.1.2.2.2.2 _ (sf_memc tw_96)) (fun _ h9 => h9) rfl dX0_hasBond_6 rfl ?_
    refine sf_icmp_ge (tgt := 16) X dX0_hasBond_9 rfl rfl (fun c2 => ?_) (fun c2 => ?_)
    · have h := sf_ift c2 h
      refine sf_iconst (v := 0) X dX0_hasBond_16 sf_ic_0 rfl ?_
      exact sf_retz X h rfl dX0_hasBond_17
    · have h := sf_iff c2 h
      refine sf_iconst (v := 1) X dX0_hasBond_12 sf_ic_1 rfl ?_
      refine sf_goto (tgt := 17) X dX0_hasBond_13 rfl ?_
      exact sf_retz X h rfl dX0_hasBond_17
def R_X0_isEnd (σ : sf_St) (u0 u1 : Int32) (r : Int32) (τ : sf_St) : Prop :=
  vp_in u0 9 ∧ (if (σ 5 (sf_ix u0)) = u1 then (r = (1 : Int32) ∧ τ = σ) else (vp_in u0 9 ∧ (if (σ 6 (sf_ix u0)) = u1 then (r = (1 : Int32) ∧ τ = σ) else (r = (0 : Int32) ∧ τ = σ))))
set_option maxHeartbeats 4000000 in
set_option maxRecDepth 100000 in
theorem c_X0_isEnd {l : Launch} {D : va_G} {q : Nat → Nat} {dA : Nat → ClassId} {tv ta tb : Nat} (hq : sf_inj q KX) {σ τ : sf_St} {u0 u1 : Int32} {r : Int32} (h : R_X0_isEnd σ u0 u1 r τ) : sf_Mi l yX0_isEnd wsX0_isEnd ({ frames := 0, cells := 0, slots := 0, locals := 0 }) D vwCl q dA KX (sf_EX q tv ta tb) [.ref (q 1), .int u0, .int u1] σ r τ := by
  refine sf_meti (cc := cX0_isEnd) (maxL := 3) (ret := (some .boolean)) (own := RX0) (by decide +kernel) rfl rfl hq sf_EXk (Nat.le_of_ble_eq_true rfl) ?_
  intro p e s m args below meth c X
  have hT := X.2.2.2.1.2.1
  unfold R_X0_isEnd at h
  refine sf_loc (lv' := [(0, .ref (q 1)), (1, .int u0), (2, .int u1)]) [0, 1, 2] rfl ?_
  refine sf_aload_n (i := 0) (j := 0) X dX0_isEnd_0 rfl rfl rfl ?_
  refine sf_getR (C := RX0) (T := TX0) (N := 10) (ci := 0) (j := 4) (k' := 5) X (fun w h => sf_memc (inX0 w h)) rfl rfl (by decide) (X.1.2.2.2.2 _ (sf_memc tw_87)) (fun _ h9 => h9) rfl dX0_isEnd_1 rfl ?_
  refine sf_iload_n (i := 1) (j := 1) X dX0_isEnd_4 rfl rfl rfl ?_
  obtain ⟨b1, h⟩ := h
  refine sf_iald X rfl b1 dX0_isEnd_5 rfl ?_
  refine sf_iload_n (i := 2) (j := 2) X dX0_isEnd_6 rfl rfl rfl ?_
  refine sf_icmp_eq (tgt := 20) X dX0_isEnd_7 rfl rfl (fun c2 => ?_) (fun c2 => ?_)
  · have h := sf_ift c2 h
    refine sf_iconst (v := 1) X dX0_isEnd_20 sf_ic_1 rfl ?_
    refine sf_goto (tgt := 25) X dX0_isEnd_21 rfl ?_
    exact sf_retz X h rfl dX0_isEnd_25
  · have h := sf_iff c2 h
    refine sf_aload_n (i := 0) (j := 0) X dX0_isEnd_10 rfl rfl rfl ?_
    refine sf_getR (C := RX0) (T := TX0) (N := 10) (ci := 0) (j := 5) (k' := 6) X (fun w h => sf_memc (inX0 w h)) rfl rfl (by decide) (X.1.2.2.2.2 _ (sf_memc tw_90)) (fun _ h9 => h9) rfl dX0_isEnd_11 rfl ?_
    refine sf_iload_n (i := 1) (j := 1) X dX0_isEnd_14 rfl rfl rfl ?_
    obtain ⟨b3, h⟩ := h
    refine sf_iald X rfl b3 dX0_isEnd_15 rfl ?_
    refine sf_iload_n (i := 2) (j := 2) X dX0_isEnd_16 rfl rfl rfl ?_
    refine sf_icmp_ne (tgt := 24) X dX0_isEnd_17 rfl rfl (fun c4 => ?_) (fun c4 => ?_)
    · have h := sf_iff c4 h
      refine sf_iconst (v := 0) X dX0_isEnd_24 sf_ic_0 rfl ?_
      exact sf_retz X h rfl dX0_isEnd_25
    · have h := sf_ift c4 h
      refine sf_iconst (v := 1) X dX0_isEnd_20 sf_ic_1 rfl ?_
      refine sf_goto (tgt := 25) X dX0_isEnd_21 rfl ?_
      exact sf_retz X h rfl dX0_isEnd_25
def R_X0_setMark (σ : sf_St) (u0 u1 u2 : Int32) (τ : sf_St) : Prop :=
  vp_in u0 9 ∧ (if (σ 5 (sf_ix u0)) = u2 then (vp_in u0 9 ∧ (∀ y12 : Int32, y12 = (σ 6 (sf_ix u0)) → (vp_in u0 9 ∧ (∀ τ14 : sf_St, τ14 = sf_up σ 5 (sf_ix u0) u2 → (vp_in u0 9 ∧ (∀ τ16 : sf_St, τ16 = sf_up τ14 6 (sf_ix u0) y12 → (vp_in u0 9 ∧ (∀ τ18 : sf_St, τ18 = sf_up τ16 8 (sf_ix u0) u1 → (τ = τ18))))))))) else (vp_in u0 9 ∧ (∀ y4 : Int32, y4 = (σ 5 (sf_ix u0)) → (vp_in u0 9 ∧ (∀ τ6 : sf_St, τ6 = sf_up σ 5 (sf_ix u0) u2 → (vp_in u0 9 ∧ (∀ τ8 : sf_St, τ8 = sf_up τ6 6 (sf_ix u0) y4 → (vp_in u0 9 ∧ (∀ τ10 : sf_St, τ10 = sf_up τ8 8 (sf_ix u0) u1 → (τ = τ10))))))))))
set_option maxHeartbeats 4000000 in
set_option maxRecDepth 100000 in
theorem c_X0_setMark {l : Launch} {D : va_G} {q : Nat → Nat} {dA : Nat → ClassId} {tv ta tb : Nat} (hq : sf_inj q KX) {σ τ : sf_St} {u0 u1 u2 : Int32} (h : R_X0_setMark σ u0 u1 u2 τ) : sf_Mv l yX0_setMark wsX0_setMark ({ frames := 0, cells := 0, slots := 0, locals := 0 }) D vwCl q dA KX (sf_EX q tv ta tb) [.ref (q 1), .int u0, .int u1, .int u2] σ τ := by
  refine sf_metv (cc := cX0_setMark) (maxL := 5) (ret := none) (own := RX0) (by decide +kernel) rfl rfl hq sf_EXk (Nat.le_of_ble_eq_true rfl) ?_
  intro p e s m args below meth c X
  have hT := X.2.2.2.1.2.1
  unfold R_X0_setMark at h
  refine sf_loc (lv' := [(0, .ref (q 1)), (1, .int u0), (2, .int u1), (3, .int u2)]) [0, 1, 2, 3] rfl ?_
  refine sf_aload_n (i := 0) (j := 0) X dX0_setMark_0 rfl rfl rfl ?_
  refine sf_getR (C := RX0) (T := TX0) (N := 10) (ci := 0) (j := 4) (k' := 5) X (fun w h => sf_memc (inX0 w h)) rfl rfl (by decide) (X.1.2.2.2.2 _ (sf_memc tw_87)) (fun _ h9 => h9) rfl dX0_setMark_1 rfl ?_
  refine sf_iload_n (i := 1) (j := 1) X dX0_setMark_4 rfl rfl rfl ?_
  obtain ⟨b1, h⟩ := h
  refine sf_iald X rfl b1 dX0_setMark_5 rfl ?_
  refine sf_iload_n (i := 3) (j := 3) X dX0_setMark_6 rfl rfl rfl ?_
  refine sf_icmp_ne (tgt := 19) X dX0_setMark_7 rfl rfl (fun c2 => ?_) (fun c2 => ?_)
  · have h := sf_iff c2 h
    refine sf_aload_n (i := 0) (j := 0) X dX0_setMark_19 rfl rfl rfl ?_
    refine sf_getR (C := RX0) (T := TX0) (N := 10) (ci := 0) (j := 4) (k' := 5) X (fun w h => sf_memc (inX0 w h)) rfl rfl (by decide) (X.1.2.2.2.2 _ (sf_memc tw_87)) (fun _ h9 => h9) rfl dX0_setMark_20 rfl ?_
    refine sf_iload_n (i := 1) (j := 1) X dX0_setMark_23 rfl rfl rfl ?_
    obtain ⟨b3, h⟩ := h
    refine sf_iald X rfl b3 dX0_setMark_24 rfl ?_
    refine sf_top (fun y4 hy4 => ?_)
    have h := h y4 hy4
    refine sf_istore (i := 4) (lv' := [(4, .int y4), (0, .ref (q 1)), (1, .int u0), (2, .int u1), (3, .int u2)]) X dX0_setMark_25 (by decide) rfl rfl ?_
    refine sf_aload_n (i := 0) (j := 1) X dX0_setMark_27 rfl rfl rfl ?_
    refine sf_getR (C := RX0) (T := TX0) (N := 10) (ci := 0) (j := 4) (k' := 5) X (fun w h => sf_memc (inX0 w h)) rfl rfl (by decide) (X.1.2.2.2.2 _ (sf_memc tw_87)) (fun _ h9 => h9) rfl dX0_setMark_28 rfl ?_
    refine sf_iload_n (i := 1) (j := 2) X dX0_setMark_31 rfl rfl rfl ?_
    refine sf_iload_n (i := 3) (j := 4) X dX0_setMark_32 rfl rfl rfl ?_
    obtain ⟨b5, h⟩ := h
    refine sf_iast X rfl b5 dX0_setMark_33 rfl (fun τ6 hτ6 => ?_)
    have h := h τ6 hτ6
    refine sf_aload_n (i := 0) (j := 1) X dX0_setMark_34 rfl rfl rfl ?_
    refine sf_getR (C := RX0) (T := TX0) (N := 10) (ci := 0) (j := 5) (k' := 6) X (fun w h => sf_memc (inX0 w h)) rfl rfl (by decide) (X.1.2.2.2.2 _ (sf_memc tw_90)) (fun _ h9 => h9) rfl dX0_setMark_35 rfl ?_
    refine sf_iload_n (i := 1) (j := 2) X dX0_setMark_38 rfl rfl rfl ?_
    refine sf_iload (i := 4) (j := 0) X dX0_setMark_39 rfl rfl ?_
    obtain ⟨b7, h⟩ := h
    refine sf_iast X rfl b7 dX0_setMark_41 rfl (fun τ8 hτ8 => ?_)
    have h := h τ8 hτ8
    refine sf_aload_n (i := 0) (j := 1) X dX0_setMark_42 rfl rfl rfl ?_
    refine sf_getR (C := RX0) (T := TX0) (N := 10) (ci := 0) (j := 7) (k' := 8) X (fun w h => sf_memc (inX0 w h)) rfl rfl (by decide) (X.1.2.2.2.2 _ (sf_memc tw_95)) (fun _ h9 => h9) rfl dX0_setMark_43 rfl ?_
    refine sf_iload_n (i := 1) (j := 2) X dX0_setMark_46 rfl rfl rfl ?_
    refine sf_iload_n (i := 2) (j := 3) X dX0_setMark_47 rfl rfl rfl ?_
    obtain ⟨b9, h⟩ := h
    refine sf_iast X rfl b9 dX0_setMark_48 rfl (fun τ10 hτ10 => ?_)
    have h := h τ10 hτ10
    exact sf_retv X h dX0_setMark_49
  · have h := sf_ift c2 h
    refine sf_aload_n (i := 0) (j := 0) X dX0_setMark_10 rfl rfl rfl ?_
    refine sf_getR (C := RX0) (T := TX0) (N := 10) (ci := 0) (j := 5) (k' := 6) X (fun w h => sf_memc (inX0 w h)) rfl rfl (by decide) (X.1.2.2.2.2 _ (sf_memc tw_90)) (fun _ h9 => h9) rfl dX0_setMark_11 rfl ?_
    refine sf_iload_n (i := 1) (j := 1) X dX0_setMark_14 rfl rfl rfl ?_
    obtain ⟨b11, h⟩ := h
    refine sf_iald X rfl b11 dX0_setMark_15 rfl ?_
    refine sf_goto (tgt := 25) X dX0_setMark_16 rfl ?_
    refine sf_top (fun y12 hy12 => ?_)
    have h := h y12 hy12
    refine sf_istore (i := 4) (lv' := [(4, .int y12), (0, .ref (q 1)), (1, .int u0), (2, .int u1), (3, .int u2)]) X dX0_setMark_25 (by decide) rfl rfl ?_
    refine sf_aload_n (i := 0) (j := 1) X dX0_setMark_27 rfl rfl rfl ?_
    refine sf_getR (C := RX0) (T := TX0) (N := 10) (ci := 0) (j := 4) (k' := 5) X (fun w h => sf_memc (inX0 w h)) rfl rfl (by decide) (X.1.2.2.2.2 _ (sf_memc tw_87)) (fun _ h9 => h9) rfl dX0_setMark_28 rfl ?_
    refine sf_iload_n (i := 1) (j := 2) X dX0_setMark_31 rfl rfl rfl ?_
    refine sf_iload_n (i := 3) (j := 4) X dX0_setMark_32 rfl rfl rfl ?_
    obtain ⟨b13, h⟩ := h
    refine sf_iast X rfl b13 dX0_setMark_33 rfl (fun τ14 hτ14 => ?_)
    have h := h τ14 hτ14
    refine sf_aload_n (i := 0) (j := 1) X dX0_setMark_34 rfl rfl rfl ?_
    refine sf_getR (C := RX0) (T := TX0) (N := 10) (ci := 0) (j := 5) (k' := 6) X (fun w h => sf_memc (inX0 w h)) rfl rfl (by decide) (X.1.2.2.2.2 _ (sf_memc tw_90)) (fun _ h9 => h9) rfl dX0_setMark_35 rfl ?_
    refine sf_iload_n (i := 1) (j := 2) X dX0_setMark_38 rfl rfl rfl ?_
    refine sf_iload (i := 4) (j := 0) X dX0_setMark_39 rfl rfl ?_
    obtain ⟨b15, h⟩ := h
    refine sf_iast X rfl b15 dX0_setMark_41 rfl (fun τ16 hτ16 => ?_)
    have h := h τ16 hτ16
    refine sf_aload_n (i := 0) (j := 1) X dX0_setMark_42 rfl rfl rfl ?_
    refine sf_getR (C := RX0) (T := TX0) (N := 10) (ci := 0) (j := 7) (k' := 8) X (fun w h => sf_memc (inX0 w h)) rfl rfl (by decide) (X.1.2.2.2.2 _ (sf_memc tw_95)) (fun _ h9 => h9) rfl dX0_setMark_43 rfl ?_
    refine sf_iload_n (i := 1) (j := 2) X dX0_setMark_46 rfl rfl rfl ?_
    refine sf_iload_n (i := 2) (j := 3) X dX0_setMark_47 rfl rfl rfl ?_
    obtain ⟨b17, h⟩ := h
    refine sf_iast X rfl b17 dX0_setMark_48 rfl (fun τ18 hτ18 => ?_)
    have h := h τ18 hτ18
    exact sf_retv X h dX0_setMark_49
def R_X6_mark (σ : sf_St) (u0 u1 u2 : Int32) (r : Int32) (τ : sf_St) : Prop :=
  ∃ (r3 : Int32) (τ2 : sf_St), R_X0_hasBond σ u0 r3 τ2 ∧ (if r3 = (0 : Int32) then (r = (0 : Int32) ∧ τ = τ2) else (∃ (r7 : Int32) (τ6 : sf_St), R_X6_isMark τ2 u1 r7 τ6 ∧ (if r7 = (0 : Int32) then (r = (0 : Int32) ∧ τ = τ6) else (∃ (r11 : Int32) (τ10 : sf_St), R_X0_isEnd τ6 u0 u2 r11 τ10 ∧ (if r11 = (0 : Int32) then (r = (0 : Int32) ∧ τ = τ10) else (∀ τ13 : sf_St, τ13 = sf_up τ10 0 10 (0 : Int32) → (∃ τ15 : sf_St, R_X0_setMark τ13 u0 u1 u2 τ15 ∧ (r = (1 : Int32) ∧ τ = τ15))))))))
set_option maxHeartbeats 4000000 in
set_option maxRecDepth 100000 in
theorem c_X6_mark {l : Launch} {D : va_G} {q : Nat → Nat} {dA : Nat → ClassId} {tv ta tb : Nat} (hq : sf_inj q KX) {σ τ : sf_St} {u0 u1 u2 : Int32} {r : Int32} (h : R_X6_mark σ u0 u1 u2 r τ) : sf_Mi l yX6_mark wsX6_mark ({ frames := 1, cells := 0, slots := 0, locals := 24 }) D vwCl q dA KX (sf_EX q tv ta tb) [.ref (q 0), .int u0, .int u1, .int u2] σ r τ := by
  refine sf_meti (cc := cX6_mark) (maxL := 4) (ret := (some .boolean)) (own := RX6) (by decide +kernel) rfl rfl hq sf_EXk (Nat.le_of_ble_eq_true rfl) ?_
  intro p e s m args below meth c X
  have hT := X.2.2.2.1.2.1
  unfold R_X6_mark at h
  refine sf_loc (lv' := [(0, .ref (q 0)), (1, .int u0), (2, .int u1), (3, .int u2)]) [0, 1, 2, 3] rfl ?_
  refine sf_aload_n (i := 0) (j := 0) X dX6_mark_0 rfl rfl rfl ?_
  refine sf_getR (C := RX6) (T := TX6) (N := 11) (ci := 6) (j := 0) (k' := 1) X (fun w h => sf_memc (inX6 w h)) rfl rfl (by decide) (X.1.2.2.2.2 _ (sf_memc tw_224)) (fun _ h9 => h9) rfl dX6_mark_1 rfl ?_
  refine sf_iload_n (i := 1) (j := 1) X dX6_mark_4 rfl rfl rfl ?_
  obtain ⟨r3, τ2, hR1, h⟩ := h
  refine sf_callVi (As := [.int u0]) (rest := []) (cv := (RX0, TX0, 10)) X rfl rfl (c_X0_hasBond hq hR1) (cwV 1 X.1.2.2.2.2 (sf_gV tw_307 tw_308 tw_309 tw_42 tw_310) rfl rfl rfl ⟨rfl, hd_X0_hasBond⟩ ⟨Nat.le_of_ble_eq_true rfl, Nat.le_of_ble_eq_true rfl⟩) rfl rfl (Nat.le_of_ble_eq_true rfl) dX6_mark_5 rfl ?_
  refine sf_if_eq (tgt := 30) X dX6_mark_8 rfl rfl (fun c4 => ?_) (fun c4 => ?_)
  · have h := sf_ift c4 h
    refine sf_iconst (v := 0) X dX6_mark_30 sf_ic_0 rfl ?_
    exact sf_retz X h rfl dX6_mark_31
  · have h := sf_iff c4 h
    refine sf_iload_n (i := 2) (j := 2) X dX6_mark_11 rfl rfl rfl ?_
    obtain ⟨r7, τ6, hR5, h⟩ := h
    refine sf_callSi (As := [.int u1]) (rest := []) X (c_X6_isMark hq hR5) (va_cwS 1 X.1.2.2.2.2 (sf_gS tw_279 tw_280 tw_41 tw_281) rfl rfl rfl hd_X6_isMark ⟨Nat.le_of_ble_eq_true rfl, Nat.le_of_ble_eq_true rfl⟩) rfl rfl (Nat.le_of_ble_eq_true rfl) dX6_mark_12 rfl ?_
    refine sf_if_eq (tgt := 30) X dX6_mark_15 rfl rfl (fun c8 => ?_) (fun c8 => ?_)
    · have h := sf_ift c8 h
      refine sf_iconst (v := 0) X dX6_mark_30 sf_ic_0 rfl ?_
      exact sf_retz X h rfl dX6_mark_31
    · have h := sf_iff c8 h
      refine sf_aload_n (i := 0) (j := 0) X dX6_mark_18 rfl rfl rfl ?_
      refine sf_getR (C := RX6) (T := TX6) (N := 11) (ci := 6) (j := 0) (k' := 1) X (fun w h => sf_memc (inX6 w h)) rfl rfl (by decide) (X.1.2.2.2.2 _ (sf_memc tw_224)) (fun _ h9 => h9) rfl dX6_mark_19 rfl ?_
      refine sf_iload_n (i := 1) (j := 1) X dX6_mark_22 rfl rfl rfl ?_
      refine sf_iload_n (i := 3) (j := 3) X dX6_mark_23 rfl rfl rfl ?_
      obtain ⟨r11, τ10, hR9, h⟩ := h
      refine sf_callVi (As := [.int u0, .int u2]) (rest := []) (cv := (RX0, TX0, 10)) X rfl rfl (c_X0_isEnd hq hR9) (cwV 2 X.1.2.2.2.2 (sf_gV tw_311 tw_312 tw_313 tw_42 tw_314) rfl rfl rfl ⟨rfl, hd_X0_isEnd⟩ ⟨Nat.le_of_ble_eq_true rfl, Nat.le_of_ble_eq_true rfl⟩) rfl rfl (Nat.le_of_ble_eq_true rfl) dX6_mark_24 rfl ?_
      refine sf_if_ne (tgt := 32) X dX6_mark_27 rfl rfl (fun c12 => ?_) (fun c12 => ?_)
      · have h := sf_iff c12 h
        refine sf_aload_n (i := 0) (j := 0) X dX6_mark_32 rfl rfl rfl ?_
        refine sf_iconst (v := 0) X dX6_mark_33 sf_ic_0 rfl ?_
        refine sf_putI (C := RX6) (T := TX6) (N := 11) (ci := 6) (j := 10) (ty := .boolean) X (fun w h => sf_memc (inX6 w h)) rfl rfl (by decide) (X.1.2.2.2.2 _ (sf_memc tw_234)) (fun _ h9 => h9) tyX6 tyX6_ok nmX6 rfl (by decide +kernel) rfl rfl rfl dX6_mark_34 rfl (fun τ13 hτ13 => ?_)
        have h := h τ13 hτ13
        refine sf_aload_n (i := 0) (j := 0) X dX6_mark_37 rfl rfl rfl ?_
        refine sf_getR (C := RX6) (T := TX6) (N := 11) (ci := 6) (j := 0) (k' := 1) X (fun w h => sf_memc (inX6 w h)) rfl rfl (by decide) (X.1.2.2.2.2 _ (sf_memc tw_224)) (fun _ h9 => h9) rfl dX6_mark_38 rfl ?_
        refine sf_iload_n (i := 1) (j := 1) X dX6_mark_41 rfl rfl rfl ?_
        refine sf_iload_n (i := 2) (j := 2) X dX6_mark_42 rfl rfl rfl ?_
        refine sf_iload_n (i := 3) (j := 3) X dX6_mark_43 rfl rfl rfl ?_
        obtain ⟨τ15, hR14, h⟩ := h
        refine sf_callVv (As := [.int u0, .int u1, .int u2]) (rest := []) (cv := (RX0, TX0, 10)) X rfl rfl (c_X0_setMark hq hR14) (cwV 3 X.1.2.2.2.2 (sf_gV tw_315 tw_316 tw_317 tw_42 tw_318) rfl rfl rfl ⟨rfl, hd_X0_setMark⟩ ⟨Nat.le_of_ble_eq_true rfl, Nat.le_of_ble_eq_true rfl⟩) rfl rfl (Nat.le_of_ble_eq_true rfl) dX6_mark_44 rfl ?_
        refine sf_iconst (v := 1) X dX6_mark_47 sf_ic_1 rfl ?_
        exact sf_retz X h rfl dX6_mark_48
      · have h := sf_ift c12 h
        refine sf_iconst (v := 0) X dX6_mark_30 sf_ic_0 rfl ?_
        exact sf_retz X h rfl dX6_mark_31
def tr_R_X0_removeAll_0 (Pr : Nat → sf_St → Int32 → Prop) (τ : sf_St) (σ : sf_St) (u0 : Int32) : Prop :=
  Pr 1 σ (0 : Int32)
def tr_R_X0_removeAll_1 (Pr : Nat → sf_St → Int32 → Prop) (τ : sf_St) (σ : sf_St) (u0 : Int32) : Prop :=
  if (σ 1 3) ≤ u0 then (∀ τ2 : sf_St, τ2 = sf_up σ 1 3 (0 : Int32) → (∀ τ3 : sf_St, τ3 = sf_up τ2 1 8 (0 : Int32) → (τ = τ3))) else (vp_in u0 7 ∧ (∃ τ6 : sf_St, R_fill (10 + sf_ix u0) σ (0 : Int32) τ6 ∧ (∀ y7 : Int32, y7 = u0 + (1 : Int32) → (Pr 1 τ6 y7))))
def fn_R_X0_removeAll (Pr : Nat → sf_St → Int32 → Prop) (τ : sf_St) (t : Nat) (σ : sf_St) (u0 : Int32) : Prop := match t with
  | 0 => tr_R_X0_removeAll_0 Pr τ σ u0
  | 1 => tr_R_X0_removeAll_1 Pr τ σ u0
  | _ => False
def Rn_R_X0_removeAll (t : Nat) (σ : sf_St) (u0 : Int32) (τ : sf_St) : Prop := ∀ Pr : Nat → sf_St → Int32 → Prop, (∀ (t : Nat) (σ : sf_St) (u0 : Int32), fn_R_X0_removeAll Pr τ t σ u0 → Pr t σ u0) → Pr t σ u0
def R_X0_removeAll (σ : sf_St) (τ : sf_St) : Prop := Rn_R_X0_removeAll 0 σ  0 τ
theorem fe_R_X0_removeAll_0 {Pr : Nat → sf_St → Int32 → Prop} {τ σ : sf_St} {u0 : Int32} (h : fn_R_X0_removeAll Pr τ 0 σ u0) : tr_R_X0_removeAll_0 Pr τ σ u0 := h
theorem mo_R_X0_removeAll_0 {Pr Pr' : Nat → sf_St → Int32 → Prop} {τ σ : sf_St} {u0 : Int32} (hP : ∀ (t : Nat) (σ : sf_St) (u0 : Int32), Pr t σ u0 → Pr' t σ u0) (h : tr_R_X0_removeAll_0 Pr τ σ u0) : tr_R_X0_removeAll_0 Pr' τ σ u0 := by
  unfold tr_R_X0_removeAll_0 at h ⊢
  exact hP _ _ _ h
theorem ru_R_X0_removeAll_0 {τ σ : sf_St} {u0 : Int32} (h : tr_R_X0_removeAll_0 (fun t σ u0 => Rn_R_X0_removeAll t σ u0 τ) τ σ u0) : Rn_R_X0_removeAll 0 σ u0 τ := fun Pr hP => hP 0 σ u0 (mo_R_X0_removeAll_0 (fun _ _ _ h => h Pr hP) h)
theorem fe_R_X0_removeAll_1 {Pr : Nat → sf_St → Int32 → Prop} {τ σ : sf_St} {u0 : Int32} (h : fn_R_X0_removeAll Pr τ 1 σ u0) : tr_R_X0_removeAll_1 Pr τ σ u0 := h
theorem mo_R_X0_removeAll_1 {Pr Pr' : Nat → sf_St → Int32 → Prop} {τ σ : sf_St} {u0 : Int32} (hP : ∀ (t : Nat) (σ : sf_St) (u0 : Int32), Pr t σ u0 → Pr' t σ u0) (h : tr_R_X0_removeAll_1 Pr τ σ u0) : tr_R_X0_removeAll_1 Pr' τ σ u0 := by
  unfold tr_R_X0_removeAll_1 at h ⊢
  refine sf_mif (fun h => ?_) (fun h => ?_) h
  · intro τ2 hτ2
    have h := h τ2 hτ2
    intro τ3 hτ3
    have h := h τ3 hτ3
    exact h
  · refine And.imp id (fun h => ?_) h
    refine Exists.imp (fun _ h => And.imp id (fun h => ?_) h) h
    intro y7 hy7
    have h := h y7 hy7
    exact hP _ _ _ h
theorem ru_R_X0_removeAll_1 {τ σ : sf_St} {u0 : Int32} (h : tr_R_X0_removeAll_1 (fun t σ u0 => Rn_R_X0_removeAll t σ u0 τ) τ σ u0) : Rn_R_X0_removeAll 1 σ u0 τ := fun Pr hP => hP 1 σ u0 (mo_R_X0_removeAll_1 (fun _ _ _ h => h Pr hP) h)
set_option maxHeartbeats 4000000 in
set_option maxRecDepth 100000 in
theorem c_X0_removeAll {l : Launch} {D : va_G} {q : Nat → Nat} {dA : Nat → ClassId} {tv ta tb : Nat} (hq : sf_inj q KX) {σ τ : sf_St} (h : R_X0_removeAll σ  τ) : sf_Mv l yX0_removeAll wsX0_removeAll ({ frames := 1, cells := 0, slots := 0, locals := 23 }) D vwCl q dA KX (sf_EX q tv ta tb) [.ref (q 1)] σ τ := by
  refine sf_metv (cc := cX0_removeAll) (maxL := 2) (ret := none) (own := RX0) (by decide +kernel) rfl rfl hq sf_EXk (Nat.le_of_ble_eq_true rfl) ?_
  intro p e s m args below meth c X
  have hT := X.2.2.2.1.2.1
  refine sf_loc (lv' := [(0, .ref (q 1))]) [0] rfl ?_
  refine h (fun t σ u0 => match t with
    | 0 => sf_G p l e (headSpec wsX0_removeAll ({ frames := 1, cells := 0, slots := 0, locals := 23 })).room s m args below meth c (sf_Qv D vwCl q dA KX (sf_EX q tv ta tb) below args s τ) 2 D vwCl q dA KX σ 0 [(0, .ref (q 1))] []
    | 1 => sf_G p l e (headSpec wsX0_removeAll ({ frames := 1, cells := 0, slots := 0, locals := 23 })).room s m args below meth c (sf_Qv D vwCl q dA KX (sf_EX q tv ta tb) below args s τ) 2 D vwCl q dA KX σ 2 [(0, .ref (q 1)), (1, .int u0)] []
    | _ => True) ?_
  intro t σ u0 h
  match t, h with
  | 0, h =>
      replace h := fe_R_X0_removeAll_0 h
      unfold tr_R_X0_removeAll_0 at h
      show sf_G p l e (headSpec wsX0_removeAll ({ frames := 1, cells := 0, slots := 0, locals := 23 })).room s m args below meth c (sf_Qv D vwCl q dA KX (sf_EX q tv ta tb) below args s τ) 2 D vwCl q dA KX σ 0 [(0, .ref (q 1))] []
      refine sf_iconst (v := 0) X dX0_removeAll_0 sf_ic_0 rfl ?_
      refine sf_istore_n (i := 1) (lv' := [(1, .int (0 : Int32)), (0, .ref (q 1))]) X dX0_removeAll_1 rfl (by decide) rfl rfl ?_
      refine sf_loc (lv' := [(0, .ref (q 1)), (1, .int (0 : Int32))]) [1, 0] rfl ?_
      exact h
  | 1, h =>
      replace h := fe_R_X0_removeAll_1 h
      unfold tr_R_X0_removeAll_1 at h
      show sf_G p l e (headSpec wsX0_removeAll ({ frames := 1, cells := 0, slots := 0, locals := 23 })).room s m args below meth c (sf_Qv D vwCl q dA KX (sf_EX q tv ta tb) below args s τ) 2 D vwCl q dA KX σ 2 [(0, .ref (q 1)), (1, .int u0)] []
      refine sf_iload_n (i := 1) (j := 1) X dX0_removeAll_2 rfl rfl rfl ?_
      refine sf_aload_n (i := 0) (j := 0) X dX0_removeAll_3 rfl rfl rfl ?_
      refine sf_getI (C := RX0) (T := TX0) (N := 10) (ci := 0) (j := 3) X (fun w h => sf_memc (inX0 w h)) rfl rfl (by decide) (X.1.2.2.2.2 _ (sf_memc tw_81)) (fun _ h9 => h9) rfl dX0_removeAll_4 rfl ?_
      refine sf_icmp_ge (tgt := 26) X dX0_removeAll_7 rfl rfl (fun c1 => ?_) (fun c1 => ?_)
      · have h := sf_ift c1 h
        refine sf_aload_n (i := 0) (j := 0) X dX0_removeAll_26 rfl rfl rfl ?_
        refine sf_iconst (v := 0) X dX0_removeAll_27 sf_ic_0 rfl ?_
        refine sf_putI (C := RX0) (T := TX0) (N := 10) (ci := 0) (j := 3) (ty := .int) X (fun w h => sf_memc (inX0 w h)) rfl rfl (by decide) (X.1.2.2.2.2 _ (sf_memc tw_81)) (fun _ h9 => h9) tyX0 tyX0_ok nmX0 rfl (by decide +kernel) rfl rfl rfl dX0_removeAll_28 rfl (fun τ2 hτ2 => ?_)
        have h := h τ2 hτ2
        refine sf_aload_n (i := 0) (j := 0) X dX0_removeAll_31 rfl rfl rfl ?_
        refine sf_iconst (v := 0) X dX0_removeAll_32 sf_ic_0 rfl ?_
        refine sf_putI (C := RX0) (T := TX0) (N := 10) (ci := 0) (j := 8) (ty := .int) X (fun w h => sf_memc (inX0 w h)) rfl rfl (by decide) (X.1.2.2.2.2 _ (sf_memc tw_96)) (fun _ h9 => h9) tyX0 tyX0_ok nmX0 rfl (by decide +kernel) rfl rfl rfl dX0_removeAll_33 rfl (fun τ3 hτ3 => ?_)
        have h := h τ3 hτ3
        exact sf_retv X h dX0_removeAll_36
      · have h := sf_iff c1 h
        refine sf_aload_n (i := 0) (j := 0) X dX0_removeAll_10 rfl rfl rfl ?_
        refine sf_getR (C := RX0) (T := TX0) (N := 10) (ci := 0) (j := 9) (k' := 9) X (fun w h => sf_memc (inX0 w h)) rfl rfl (by decide) (X.1.2.2.2.2 _ (sf_memc tw_99)) (fun _ h9 => h9) rfl dX0_removeAll_11 rfl ?_
        refine sf_iload_n (i := 1) (j := 1) X dX0_removeAll_14 rfl rfl rfl ?_
        obtain ⟨b4, h⟩ := h
        refine sf_aald (k' := (10 + sf_ix u0)) X rfl b4 (sf_lkR b4) dX0_removeAll_15 rfl ?_
        refine sf_iconst (v := 0) X dX0_removeAll_16 sf_ic_0 rfl ?_
        obtain ⟨τ6, hR5, h⟩ := h
        refine sf_callSv (As := [.ref (q (10 + sf_ix u0)), .int (0 : Int32)]) (rest := []) X (c_fill hq (sf_lkK b4) hR5) (va_cwS 2 X.1.2.2.2.2 (sf_gS tw_327 tw_328 tw_49 tw_329) rfl rfl rfl hd_J7_fill ⟨Nat.le_of_ble_eq_true rfl, Nat.le_of_ble_eq_true rfl⟩) rfl rfl (Nat.le_of_ble_eq_true rfl) dX0_removeAll_17 rfl ?_
        refine sf_iinc (i := 1) (j := 1) (d := 1) (lv' := fun y7 => [(1, .int y7), (0, .ref (q 1))]) X dX0_removeAll_20 rfl sf_ic_1 (by decide) (fun _ => rfl) rfl (fun y7 hy7 => ?_)
        have h := h y7 hy7
        refine sf_goto (tgt := 2) X dX0_removeAll_23 rfl ?_
        refine sf_loc (lv' := [(0, .ref (q 1)), (1, .int y7)]) [1, 0] rfl ?_
        exact h
  | (_ + 2), _ => exact trivial
def R_X6_clear (σ : sf_St) (r : Int32) (τ : sf_St) : Prop :=
  ∀ τ1 : sf_St, τ1 = sf_up σ 0 10 (0 : Int32) → (∀ y2 : Int32, y2 = (τ1 1 3) → (∃ τ4 : sf_St, R_X0_removeAll τ1 τ4 ∧ (r = y2 ∧ τ = τ4)))
set_option maxHeartbeats 4000000 in
set_option maxRecDepth 100000 in
theorem c_X6_clear {l : Launch} {D : va_G} {q : Nat → Nat} {dA : Nat → ClassId} {tv ta tb : Nat} (hq : sf_inj q KX) {σ τ : sf_St} {r : Int32} (h : R_X6_clear σ  r τ) : sf_Mi l yX6_clear wsX6_clear ({ frames := 2, cells := 0, slots := 0, locals := 44 }) D vwCl q dA KX (sf_EX q tv ta tb) [.ref (q 0)] σ r τ := by
  refine sf_meti (cc := cX6_clear) (maxL := 2) (ret := (some .int)) (own := RX6) (by decide +kernel) rfl rfl hq sf_EXk (Nat.le_of_ble_eq_true rfl) ?_
  intro p e s m args below meth c X
  have hT := X.2.2.2.1.2.1
  unfold R_X6_clear at h
  refine sf_loc (lv' := [(0, .ref (q 0))]) [0] rfl ?_
  refine sf_aload_n (i := 0) (j := 0) X dX6_clear_0 rfl rfl rfl ?_
  refine sf_iconst (v := 0) X dX6_clear_1 sf_ic_0 rfl ?_
  refine sf_putI (C := RX6) (T := TX6) (N := 11) (ci := 6) (j := 10) (ty := .boolean) X (fun w h => sf_memc (inX6 w h)) rfl rfl (by decide) (X.1.2.2.2.2 _ (sf_memc tw_234)) (fun _ h9 => h9) tyX6 tyX6_ok nmX6 rfl (by decide +kernel) rfl rfl rfl dX6_clear_2 rfl (fun τ1 hτ1 => ?_)
  have h := h τ1 hτ1
  refine sf_aload_n (i := 0) (j := 0) X dX6_clear_5 rfl rfl rfl ?_
  refine sf_getR (C := RX6) (T := TX6) (N := 11) (ci := 6) (j := 0) (k' := 1) X (fun w h => sf_memc (inX6 w h)) rfl rfl (by decide) (X.1.2.2.2.2 _ (sf_memc tw_224)) (fun _ h9 => h9) rfl dX6_clear_6 rfl ?_
  refine sf_getI (C := RX0) (T := TX0) (N := 10) (ci := 0) (j := 3) X (fun w h => sf_memc (inX0 w h)) rfl rfl (by decide) (X.1.2.2.2.2 _ (sf_memc tw_85)) (fun _ h9 => h9) rfl dX6_clear_9 rfl ?_
  refine sf_top (fun y2 hy2 => ?_)
  have h := h y2 hy2
  refine sf_istore_n (i := 1) (lv' := [(1, .int y2), (0, .ref (q 0))]) X dX6_clear_12 rfl (by decide) rfl rfl ?_
  refine sf_aload_n (i := 0) (j := 1) X dX6_clear_13 rfl rfl rfl ?_
  refine sf_getR (C := RX6) (T := TX6) (N := 11) (ci := 6) (j := 0) (k' := 1) X (fun w h => sf_memc (inX6 w h)) rfl rfl (by decide) (X.1.2.2.2.2 _ (sf_memc tw_224)) (fun _ h9 => h9) rfl dX6_clear_14 rfl ?_
  obtain ⟨τ4, hR3, h⟩ := h
  refine sf_callVv (As := []) (rest := []) (cv := (RX0, TX0, 10)) X rfl rfl (c_X0_removeAll hq hR3) (cwV 0 X.1.2.2.2.2 (sf_gV tw_323 tw_324 tw_325 tw_42 tw_326) rfl rfl rfl ⟨rfl, hd_X0_removeAll⟩ ⟨Nat.le_of_ble_eq_true rfl, Nat.le_of_ble_eq_true rfl⟩) rfl rfl (Nat.le_of_ble_eq_true rfl) dX6_clear_17 rfl ?_
  refine sf_iload_n (i := 1) (j := 0) X dX6_clear_20 rfl rfl rfl ?_
  exact sf_reti X h dX6_clear_21
def tr_R_X0_swapMarks_0 (Pr : Nat → sf_St → Int32 → Int32 → Prop) (r : Int32) (τ : sf_St) (σ : sf_St) (u0 u1 : Int32) : Prop :=
  Pr 1 σ (0 : Int32) (0 : Int32)
def tr_R_X0_swapMarks_1 (Pr : Nat → sf_St → Int32 → Int32 → Prop) (r : Int32) (τ : sf_St) (σ : sf_St) (u0 u1 : Int32) : Prop :=
  if (σ 1 8) ≤ u1 then (r = u0 ∧ τ = σ) else (vp_in u1 9 ∧ (if (σ 8 (sf_ix u1)) = (0 : Int32) then (∀ y4 : Int32, y4 = u1 + (1 : Int32) → (Pr 1 σ u0 y4)) else (vp_in u1 9 ∧ (if (σ 8 (sf_ix u1)) = (1 : Int32) then (vp_in u1 9 ∧ (∀ τ12 : sf_St, τ12 = sf_up σ 8 (sf_ix u1) (2 : Int32) → (∀ y13 : Int32, y13 = u0 + (1 : Int32) → (∀ y14 : Int32, y14 = u1 + (1 : Int32) → (Pr 1 τ12 y13 y14))))) else (vp_in u1 9 ∧ (∀ τ8 : sf_St, τ8 = sf_up σ 8 (sf_ix u1) (1 : Int32) → (∀ y9 : Int32, y9 = u0 + (1 : Int32) → (∀ y10 : Int32, y10 = u1 + (1 : Int32) → (Pr 1 τ8 y9 y10)))))))))
def fn_R_X0_swapMarks (Pr : Nat → sf_St → Int32 → Int32 → Prop) (r : Int32) (τ : sf_St) (t : Nat) (σ : sf_St) (u0 u1 : Int32) : Prop := match t with
  | 0 => tr_R_X0_swapMarks_0 Pr r τ σ u0 u1
  | 1 => tr_R_X0_swapMarks_1 Pr r τ σ u0 u1
  | _ => False
def Rn_R_X0_swapMarks (t : Nat) (σ : sf_St) (u0 u1 : Int32) (r : Int32) (τ : sf_St) : Prop := ∀ Pr : Nat → sf_St → Int32 → Int32 → Prop, (∀ (t : Nat) (σ : sf_St) (u0 u1 : Int32), fn_R_X0_swapMarks Pr r τ t σ u0 u1 → Pr t σ u0 u1) → Pr t σ u0 u1
def R_X0_swapMarks (σ : sf_St) (r : Int32) (τ : sf_St) : Prop := Rn_R_X0_swapMarks 0 σ  0 0 r τ
theorem fe_R_X0_swapMarks_0 {Pr : Nat → sf_St → Int32 → Int32 → Prop} {r : Int32} {τ σ : sf_St} {u0 u1 : Int32} (h : fn_R_X0_swapMarks Pr r τ 0 σ u0 u1) : tr_R_X0_swapMarks_0 Pr r τ σ u0 u1 := h
theorem mo_R_X0_swapMarks_0 {Pr Pr' : Nat → sf_St → Int32 → Int32 → Prop} {r : Int32} {τ σ : sf_St} {u0 u1 : Int32} (hP : ∀ (t : Nat) (σ : sf_St) (u0 u1 : Int32), Pr t σ u0 u1 → Pr' t σ u0 u1) (h : tr_R_X0_swapMarks_0 Pr r τ σ u0 u1) : tr_R_X0_swapMarks_0 Pr' r τ σ u0 u1 := by
  unfold tr_R_X0_swapMarks_0 at h ⊢
  exact hP _ _ _ _ h
theorem ru_R_X0_swapMarks_0 {r : Int32} {τ σ : sf_St} {u0 u1 : Int32} (h : tr_R_X0_swapMarks_0 (fun t σ u0 u1 => Rn_R_X0_swapMarks t σ u0 u1 r τ) r τ σ u0 u1) : Rn_R_X0_swapMarks 0 σ u0 u1 r τ := fun Pr hP => hP 0 σ u0 u1 (mo_R_X0_swapMarks_0 (fun _ _ _ _ h => h Pr hP) h)
theorem fe_R_X0_swapMarks_1 {Pr : Nat → sf_St → Int32 → Int32 → Prop} {r : Int32} {τ σ : sf_St} {u0 u1 : Int32} (h : fn_R_X0_swapMarks Pr r τ 1 σ u0 u1) : tr_R_X0_swapMarks_1 Pr r τ σ u0 u1 := h
theorem mo_R_X0_swapMarks_1 {Pr Pr' : Nat → sf_St → Int32 → Int32 → Prop} {r : Int32} {τ σ : sf_St} {u0 u1 : Int32} (hP : ∀ (t : Nat) (σ : sf_St) (u0 u1 : Int32), Pr t σ u0 u1 → Pr' t σ u0 u1) (h : tr_R_X0_swapMarks_1 Pr r τ σ u0 u1) : tr_R_X0_swapMarks_1 Pr' r τ σ u0 u1 := by
  unfold tr_R_X0_swapMarks_1 at h ⊢
  refine sf_mif (fun h => ?_) (fun h => ?_) h
  · exact h
  · refine And.imp id (fun h => ?_) h
    refine sf_mif (fun h => ?_) (fun h => ?_) h
    · intro y4 hy4
      have h := h y4 hy4
      exact hP _ _ _ _ h
    · refine And.imp id (fun h => ?_) h
      refine sf_mif (fun h => ?_) (fun h => ?_) h
      · refine And.imp id (fun h => ?_) h
        intro τ12 hτ12
        have h := h τ12 hτ12
        intro y13 hy13
        have h := h y13 hy13
        intro y14 hy14
        have h := h y14 hy14
        exact hP _ _ _ _ h
      · refine And.imp id (fun h => ?_) h
        intro τ8 hτ8
        have h := h τ8 hτ8
        intro y9 hy9
        have h := h y9 hy9
        intro y10 hy10
        have h := h y10 hy10
        exact hP _ _ _ _ h
theorem ru_R_X0_swapMarks_1 {r : Int32} {τ σ : sf_St} {u0 u1 : Int32} (h : tr_R_X0_swapMarks_1 (fun t σ u0 u1 => Rn_R_X0_swapMarks t σ u0 u1 r τ) r τ σ u0 u1) : Rn_R_X0_swapMarks 1 σ u0 u1 r τ := fun Pr hP => hP 1 σ u0 u1 (mo_R_X0_swapMarks_1 (fun _ _ _ _ h => h Pr hP) h)
set_option maxHeartbeats 4000000 in
set_option maxRecDepth 100000 in
theorem c_X0_swapMarks {l : Launch} {D : va_G} {q : Nat → Nat} {dA : Nat → ClassId} {tv ta tb : Nat} (hq : sf_inj q KX) {σ τ : sf_St} {r : Int32} (h : R_X0_swapMarks σ  r τ) : sf_Mi l yX0_swapMarks wsX0_swapMarks ({ frames := 0, cells := 0, slots := 0, locals := 0 }) D vwCl q dA KX (sf_EX q tv ta tb) [.ref (q 1)] σ r τ := by
  refine sf_meti (cc := cX0_swapMarks) (maxL := 3) (ret := (some .int)) (own := RX0) (by decide +kernel) rfl rfl hq sf_EXk (Nat.le_of_ble_eq_true rfl) ?_
  intro p e s m args below meth c X
  have hT := X.2.2.2.1.2.1
  refine sf_loc (lv' := [(0, .ref (q 1))]) [0] rfl ?_
  refine h (fun t σ u0 u1 => match t with
    | 0 => sf_G p l e (headSpec wsX0_swapMarks ({ frames := 0, cells := 0, slots := 0, locals := 0 })).room s m args below meth c (sf_Qi D vwCl q dA KX (sf_EX q tv ta tb) below args s r τ) 3 D vwCl q dA KX σ 0 [(0, .ref (q 1))] []
    | 1 => sf_G p l e (headSpec wsX0_swapMarks ({ frames := 0, cells := 0, slots := 0, locals := 0 })).room s m args below meth c (sf_Qi D vwCl q dA KX (sf_EX q tv ta tb) below args s r τ) 3 D vwCl q dA KX σ 4 [(0, .ref (q 1)), (1, .int u0), (2, .int u1)] []
    | _ => True) ?_
  intro t σ u0 u1 h
  match t, h with
  | 0, h =>
      replace h := fe_R_X0_swapMarks_0 h
      unfold tr_R_X0_swapMarks_0 at h
      show sf_G p l e (headSpec wsX0_swapMarks ({ frames := 0, cells := 0, slots := 0, locals := 0 })).room s m args below meth c (sf_Qi D vwCl q dA KX (sf_EX q tv ta tb) below args s r τ) 3 D vwCl q dA KX σ 0 [(0, .ref (q 1))] []
      refine sf_iconst (v := 0) X dX0_swapMarks_0 sf_ic_0 rfl ?_
      refine sf_istore_n (i := 1) (lv' := [(1, .int (0 : Int32)), (0, .ref (q 1))]) X dX0_swapMarks_1 rfl (by decide) rfl rfl ?_
      refine sf_iconst (v := 0) X dX0_swapMarks_2 sf_ic_0 rfl ?_
      refine sf_istore_n (i := 2) (lv' := [(2, .int (0 : Int32)), (1, .int (0 : Int32)), (0, .ref (q 1))]) X dX0_swapMarks_3 rfl (by decide) rfl rfl ?_
      refine sf_loc (lv' := [(0, .ref (q 1)), (1, .int (0 : Int32)), (2, .int (0 : Int32))]) [2, 1, 0] rfl ?_
      exact h
  | 1, h =>
      replace h := fe_R_X0_swapMarks_1 h
      unfold tr_R_X0_swapMarks_1 at h
      show sf_G p l e (headSpec wsX0_swapMarks ({ frames := 0, cells := 0, slots := 0, locals := 0 })).room s m args below meth c (sf_Qi D vwCl q dA KX (sf_EX q tv ta tb) below args s r τ) 3 D vwCl q dA KX σ 4 [(0, .ref (q 1)), (1, .int u0), (2, .int u1)] []
      refine sf_iload_n (i := 2) (j := 2) X dX0_swapMarks_4 rfl rfl rfl ?_
      refine sf_aload_n (i := 0) (j := 0) X dX0_swapMarks_5 rfl rfl rfl ?_
      refine sf_getI (C := RX0) (T := TX0) (N := 10) (ci := 0) (j := 8) X (fun w h => sf_memc (inX0 w h)) rfl rfl (by decide) (X.1.2.2.2.2 _ (sf_memc tw_96)) (fun _ h9 => h9) rfl dX0_swapMarks_6 rfl ?_
      refine sf_icmp_ge (tgt := 51) X dX0_swapMarks_9 rfl rfl (fun c1 => ?_) (fun c1 => ?_)
      · have h := sf_ift c1 h
        refine sf_iload_n (i := 1) (j := 1) X dX0_swapMarks_51 rfl rfl rfl ?_
        exact sf_reti X h dX0_swapMarks_52
      · have h := sf_iff c1 h
        refine sf_aload_n (i := 0) (j := 0) X dX0_swapMarks_12 rfl rfl rfl ?_
        refine sf_getR (C := RX0) (T := TX0) (N := 10) (ci := 0) (j := 7) (k' := 8) X (fun w h => sf_memc (inX0 w h)) rfl rfl (by decide) (X.1.2.2.2.2 _ (sf_memc tw_95)) (fun _ h9 => h9) rfl dX0_swapMarks_13 rfl ?_
        refine sf_iload_n (i := 2) (j := 2) X dX0_swapMarks_16 rfl rfl rfl ?_
        obtain ⟨b2, h⟩ := h
        refine sf_iald X rfl b2 dX0_swapMarks_17 rfl ?_
        refine sf_if_eq (tgt := 45) X dX0_swapMarks_18 rfl rfl (fun c3 => ?_) (fun c3 => ?_)
        · have h := sf_ift c3 h
          refine sf_iinc (i := 2) (j := 2) (d := 1) (lv' := fun y4 => [(2, .int y4), (0, .ref (q 1)), (1, .int u0)]) X dX0_swapMarks_45 rfl sf_ic_1 (by decide) (fun _ => rfl) rfl (fun y4 hy4 => ?_)
          have h := h y4 hy4
          refine sf_goto (tgt := 4) X dX0_swapMarks_48 rfl ?_
          refine sf_loc (lv' := [(0, .ref (q 1)), (1, .int u0), (2, .int y4)]) [1, 2, 0] rfl ?_
          exact h
        · have h := sf_iff c3 h
          refine sf_aload_n (i := 0) (j := 0) X dX0_swapMarks_21 rfl rfl rfl ?_
          refine sf_getR (C := RX0) (T := TX0) (N := 10) (ci := 0) (j := 7) (k' := 8) X (fun w h => sf_memc (inX0 w h)) rfl rfl (by decide) (X.1.2.2.2.2 _ (sf_memc tw_95)) (fun _ h9 => h9) rfl dX0_swapMarks_22 rfl ?_
          refine sf_iload_n (i := 2) (j := 2) X dX0_swapMarks_25 rfl rfl rfl ?_
          refine sf_aload_n (i := 0) (j := 0) X dX0_swapMarks_26 rfl rfl rfl ?_
          refine sf_getR (C := RX0) (T := TX0) (N := 10) (ci := 0) (j := 7) (k' := 8) X (fun w h => sf_memc (inX0 w h)) rfl rfl (by decide) (X.1.2.2.2.2 _ (sf_memc tw_95)) (fun _ h9 => h9) rfl dX0_swapMarks_27 rfl ?_
          refine sf_iload_n (i := 2) (j := 2) X dX0_swapMarks_30 rfl rfl rfl ?_
          obtain ⟨b5, h⟩ := h
          refine sf_iald X rfl b5 dX0_swapMarks_31 rfl ?_
          refine sf_iconst (v := 1) X dX0_swapMarks_32 sf_ic_1 rfl ?_
          refine sf_icmp_ne (tgt := 40) X dX0_swapMarks_33 rfl rfl (fun c6 => ?_) (fun c6 => ?_)
          · have h := sf_iff c6 h
            refine sf_iconst (v := 1) X dX0_swapMarks_40 sf_ic_1 rfl ?_
            obtain ⟨b7, h⟩ := h
            refine sf_iast X rfl b7 dX0_swapMarks_41 rfl (fun τ8 hτ8 => ?_)
            have h := h τ8 hτ8
            refine sf_iinc (i := 1) (j := 1) (d := 1) (lv' := fun y9 => [(1, .int y9), (0, .ref (q 1)), (2, .int u1)]) X dX0_swapMarks_42 rfl sf_ic_1 (by decide) (fun _ => rfl) rfl (fun y9 hy9 => ?_)
            have h := h y9 hy9
            refine sf_iinc (i := 2) (j := 2) (d := 1) (lv' := fun y10 => [(2, .int y10), (1, .int y9), (0, .ref (q 1))]) X dX0_swapMarks_45 rfl sf_ic_1 (by decide) (fun _ => rfl) rfl (fun y10 hy10 => ?_)
            have h := h y10 hy10
            refine sf_goto (tgt := 4) X dX0_swapMarks_48 rfl ?_
            refine sf_loc (lv' := [(0, .ref (q 1)), (1, .int y9), (2, .int y10)]) [2, 1, 0] rfl ?_
            exact h
          · have h := sf_ift c6 h
            refine sf_iconst (v := 2) X dX0_swapMarks_36 sf_ic_2 rfl ?_
            refine sf_goto (tgt := 41) X dX0_swapMarks_37 rfl ?_
            obtain ⟨b11, h⟩ := h
            refine sf_iast X rfl b11 dX0_swapMarks_41 rfl (fun τ12 hτ12 => ?_)
            have h := h τ12 hτ12
            refine sf_iinc (i := 1) (j := 1) (d := 1) (lv' := fun y13 => [(1, .int y13), (0, .ref (q 1)), (2, .int u1)]) X dX0_swapMarks_42 rfl sf_ic_1 (by decide) (fun _ => rfl) rfl (fun y13 hy13 => ?_)
            have h := h y13 hy13
            refine sf_iinc (i := 2) (j := 2) (d := 1) (lv' := fun y14 => [(2, .int y14), (1, .int y13), (0, .ref (q 1))]) X dX0_swapMarks_45 rfl sf_ic_1 (by decide) (fun _ => rfl) rfl (fun y14 hy14 => ?_)
            have h := h y14 hy14
            refine sf_goto (tgt := 4) X dX0_swapMarks_48 rfl ?_
            refine sf_loc (lv' := [(0, .ref (q 1)), (1, .int y13), (2, .int y14)]) [2, 1, 0] rfl ?_
            exact h
  | (_ + 2), _ => exact trivial
def R_X6_flip (σ : sf_St) (r : Int32) (τ : sf_St) : Prop :=
  ∀ τ1 : sf_St, τ1 = sf_up σ 0 10 (0 : Int32) → (∃ (r4 : Int32) (τ3 : sf_St), R_X0_swapMarks τ1 r4 τ3 ∧ (r = r4 ∧ τ = τ3))
set_option maxHeartbeats 4000000 in
set_option maxRecDepth 100000 in
theorem c_X6_flip {l : Launch} {D : va_G} {q : Nat → Nat} {dA : Nat → ClassId} {tv ta tb : Nat} (hq : sf_inj q KX) {σ τ : sf_St} {r : Int32} (h : R_X6_flip σ  r τ) : sf_Mi l yX6_flip wsX6_flip ({ frames := 1, cells := 0, slots := 0, locals := 22 }) D vwCl q dA KX (sf_EX q tv ta tb) [.ref (q 0)] σ r τ := by
  refine sf_meti (cc := cX6_flip) (maxL := 1) (ret := (some .int)) (own := RX6) (by decide +kernel) rfl rfl hq sf_EXk (Nat.le_of_ble_eq_true rfl) ?_
  intro p e s m args below meth c X
  have hT := X.2.2.2.1.2.1
  unfold R_X6_flip at h
  refine sf_loc (lv' := [(0, .ref (q 0))]) [0] rfl ?_
  refine sf_aload_n (i := 0) (j := 0) X dX6_flip_0 rfl rfl rfl ?_
  refine sf_iconst (v := 0) X dX6_flip_1 sf_ic_0 rfl ?_
  refine sf_putI (C := RX6) (T := TX6) (N := 11) (ci := 6) (j := 10) (ty := .boolean) X (fun w h => sf_memc (inX6 w h)) rfl rfl (by decide) (X.1.2.2.2.2 _ (sf_memc tw_234)) (fun _ h9 => h9) tyX6 tyX6_ok nmX6 rfl (by decide +kernel) rfl rfl rfl dX6_flip_2 rfl (fun τ1 hτ1 => ?_)
  have h := h τ1 hτ1
  refine sf_aload_n (i := 0) (j := 0) X dX6_flip_5 rfl rfl rfl ?_
  refine sf_getR (C := RX6) (T := TX6) (N := 11) (ci := 6) (j := 0) (k' := 1) X (fun w h => sf_memc (inX6 w h)) rfl rfl (by decide) (X.1.2.2.2.2 _ (sf_memc tw_224)) (fun _ h9 => h9) rfl dX6_flip_6 rfl ?_
  obtain ⟨r4, τ3, hR2, h⟩ := h
  refine sf_callVi (As := []) (rest := []) (cv := (RX0, TX0, 10)) X rfl rfl (c_X0_swapMarks hq hR2) (cwV 0 X.1.2.2.2.2 (sf_gV tw_334 tw_335 tw_336 tw_42 tw_337) rfl rfl rfl ⟨rfl, hd_X0_swapMarks⟩ ⟨Nat.le_of_ble_eq_true rfl, Nat.le_of_ble_eq_true rfl⟩) rfl rfl (Nat.le_of_ble_eq_true rfl) dX6_flip_9 rfl ?_
  exact sf_reti X h dX6_flip_12
end
